theorem dX4_numberOf_0 : decode cX4_numberOf 0 = .ok (.iload_n 1, 1) := by decide +kernel
theorem dX4_numberOf_1 : decode cX4_numberOf 1 = .ok (.ifCond .lt 23, 3) := by decide +kernel
theorem dX4_numberOf_4 : decode cX4_numberOf 4 = .ok (.iload_n 1, 1) := by decide +kernel
theorem dX4_numberOf_5 : decode cX4_numberOf 5 = .ok (.bipush 16, 2) := by decide +kernel
theorem dX4_numberOf_7 : decode cX4_numberOf 7 = .ok (.if_icmp .ge 17, 3) := by decide +kernel
theorem dX4_numberOf_10 : decode cX4_numberOf 10 = .ok (.iload_n 2, 1) := by decide +kernel
theorem dX4_numberOf_11 : decode cX4_numberOf 11 = .ok (.ifCond .lt 13, 3) := by decide +kernel
theorem dX4_numberOf_14 : decode cX4_numberOf 14 = .ok (.iload_n 2, 1) := by decide +kernel
theorem dX4_numberOf_15 : decode cX4_numberOf 15 = .ok (.bipush 7, 2) := by decide +kernel
theorem dX4_numberOf_17 : decode cX4_numberOf 17 = .ok (.if_icmp .ge 7, 3) := by decide +kernel
theorem dX4_numberOf_20 : decode cX4_numberOf 20 = .ok (.iconst 1, 1) := by decide +kernel
theorem dX4_numberOf_21 : decode cX4_numberOf 21 = .ok (.goto 4, 3) := by decide +kernel
theorem dX4_numberOf_24 : decode cX4_numberOf 24 = .ok (.iconst 0, 1) := by decide +kernel
theorem dX4_numberOf_25 : decode cX4_numberOf 25 = .ok (.istore_n 3, 1) := by decide +kernel
theorem dX4_numberOf_26 : decode cX4_numberOf 26 = .ok (.iload_n 3, 1) := by decide +kernel
theorem dX4_numberOf_27 : decode cX4_numberOf 27 = .ok (.ifCond .eq 17, 3) := by decide +kernel
theorem dX4_numberOf_30 : decode cX4_numberOf 30 = .ok (.aload_n 0, 1) := by decide +kernel
theorem dX4_numberOf_31 : decode cX4_numberOf 31 = .ok (.getfield 15, 3) := by decide +kernel
theorem dX4_numberOf_34 : decode cX4_numberOf 34 = .ok (.iload_n 1, 1) := by decide +kernel
theorem dX4_numberOf_35 : decode cX4_numberOf 35 = .ok (.bipush 7, 2) := by decide +kernel
theorem dX4_numberOf_37 : decode cX4_numberOf 37 = .ok (.imul, 1) := by decide +kernel
theorem dX4_numberOf_38 : decode cX4_numberOf 38 = .ok (.iload_n 2, 1) := by decide +kernel
theorem dX4_numberOf_39 : decode cX4_numberOf 39 = .ok (.iadd, 1) := by decide +kernel
theorem dX4_numberOf_40 : decode cX4_numberOf 40 = .ok (.iaload, 1) := by decide +kernel
theorem dX4_numberOf_41 : decode cX4_numberOf 41 = .ok (.goto 4, 3) := by decide +kernel
theorem dX4_numberOf_44 : decode cX4_numberOf 44 = .ok (.iconst 0, 1) := by decide +kernel
theorem dX4_numberOf_45 : decode cX4_numberOf 45 = .ok (.ireturn, 1) := by decide +kernel
theorem dX4_addCode_0 : decode cX4_addCode 0 = .ok (.aload_n 0, 1) := by decide +kernel
theorem dX4_addCode_1 : decode cX4_addCode 1 = .ok (.getfield 25, 3) := by decide +kernel
theorem dX4_addCode_4 : decode cX4_addCode 4 = .ok (.iconst 0, 1) := by decide +kernel
theorem dX4_addCode_5 : decode cX4_addCode 5 = .ok (.sipush 299, 3) := by decide +kernel
theorem dX4_addCode_8 : decode cX4_addCode 8 = .ok (.invokestatic 28, 3) := by decide +kernel
theorem dX4_addCode_11 : decode cX4_addCode 11 = .ok (.ifCond .eq 23, 3) := by decide +kernel
theorem dX4_addCode_14 : decode cX4_addCode 14 = .ok (.aload_n 0, 1) := by decide +kernel
theorem dX4_addCode_15 : decode cX4_addCode 15 = .ok (.getfield 18, 3) := by decide +kernel
theorem dX4_addCode_18 : decode cX4_addCode 18 = .ok (.aload_n 0, 1) := by decide +kernel
theorem dX4_addCode_19 : decode cX4_addCode 19 = .ok (.getfield 25, 3) := by decide +kernel
theorem dX4_addCode_22 : decode cX4_addCode 22 = .ok (.iload_n 1, 1) := by decide +kernel
theorem dX4_addCode_23 : decode cX4_addCode 23 = .ok (.iastore, 1) := by decide +kernel
theorem dX4_addCode_24 : decode cX4_addCode 24 = .ok (.aload_n 0, 1) := by decide +kernel
theorem dX4_addCode_25 : decode cX4_addCode 25 = .ok (.dup, 1) := by decide +kernel
theorem dX4_addCode_26 : decode cX4_addCode 26 = .ok (.getfield 25, 3) := by decide +kernel
theorem dX4_addCode_29 : decode cX4_addCode 29 = .ok (.iconst 1, 1) := by decide +kernel
theorem dX4_addCode_30 : decode cX4_addCode 30 = .ok (.iadd, 1) := by decide +kernel
theorem dX4_addCode_31 : decode cX4_addCode 31 = .ok (.putfield 25, 3) := by decide +kernel
theorem dX4_addCode_34 : decode cX4_addCode 34 = .ok (.return_, 1) := by decide +kernel
theorem dX4_codeAt_0 : decode cX4_codeAt 0 = .ok (.iload_n 1, 1) := by decide +kernel
theorem dX4_codeAt_1 : decode cX4_codeAt 1 = .ok (.ifCond .lt 19, 3) := by decide +kernel
theorem dX4_codeAt_4 : decode cX4_codeAt 4 = .ok (.iload_n 1, 1) := by decide +kernel
theorem dX4_codeAt_5 : decode cX4_codeAt 5 = .ok (.sipush 300, 3) := by decide +kernel
theorem dX4_codeAt_8 : decode cX4_codeAt 8 = .ok (.if_icmp .ge 12, 3) := by decide +kernel
theorem dX4_codeAt_11 : decode cX4_codeAt 11 = .ok (.aload_n 0, 1) := by decide +kernel
theorem dX4_codeAt_12 : decode cX4_codeAt 12 = .ok (.getfield 18, 3) := by decide +kernel
theorem dX4_codeAt_15 : decode cX4_codeAt 15 = .ok (.iload_n 1, 1) := by decide +kernel
theorem dX4_codeAt_16 : decode cX4_codeAt 16 = .ok (.iaload, 1) := by decide +kernel
theorem dX4_codeAt_17 : decode cX4_codeAt 17 = .ok (.goto 4, 3) := by decide +kernel
theorem dX4_codeAt_20 : decode cX4_codeAt 20 = .ok (.iconst 0, 1) := by decide +kernel
theorem dX4_codeAt_21 : decode cX4_codeAt 21 = .ok (.ireturn, 1) := by decide +kernel
theorem dX5_init_0 : decode cX5_init 0 = .ok (.aload_n 0, 1) := by decide +kernel
theorem dX5_init_1 : decode cX5_init 1 = .ok (.invokespecial 3, 3) := by decide +kernel
theorem dX5_init_4 : decode cX5_init 4 = .ok (.aload_n 0, 1) := by decide +kernel
theorem dX5_init_5 : decode cX5_init 5 = .ok (.sipush 300, 3) := by decide +kernel
theorem dX5_init_8 : decode cX5_init 8 = .ok (.newarray .int, 2) := by decide +kernel
theorem dX5_init_10 : decode cX5_init 10 = .ok (.putfield 9, 3) := by decide +kernel
theorem dX5_init_13 : decode cX5_init 13 = .ok (.aload_n 0, 1) := by decide +kernel
theorem dX5_init_14 : decode cX5_init 14 = .ok (.iconst (-1), 1) := by decide +kernel
theorem dX5_init_15 : decode cX5_init 15 = .ok (.putfield 15, 3) := by decide +kernel
theorem dX5_init_18 : decode cX5_init 18 = .ok (.return_, 1) := by decide +kernel
theorem dX5_append_0 : decode cX5_append 0 = .ok (.bipush 24, 2) := by decide +kernel
theorem dX5_append_2 : decode cX5_append 2 = .ok (.istore_n 2, 1) := by decide +kernel
theorem dX5_append_3 : decode cX5_append 3 = .ok (.iload_n 2, 1) := by decide +kernel
theorem dX5_append_4 : decode cX5_append 4 = .ok (.ifCond .lt 53, 3) := by decide +kernel
theorem dX5_append_7 : decode cX5_append 7 = .ok (.aload_n 0, 1) := by decide +kernel
theorem dX5_append_8 : decode cX5_append 8 = .ok (.getfield 19, 3) := by decide +kernel
theorem dX5_append_11 : decode cX5_append 11 = .ok (.iconst 0, 1) := by decide +kernel
theorem dX5_append_12 : decode cX5_append 12 = .ok (.aload_n 0, 1) := by decide +kernel
theorem dX5_append_13 : decode cX5_append 13 = .ok (.getfield 9, 3) := by decide +kernel
theorem dX5_append_16 : decode cX5_append 16 = .ok (.arraylength, 1) := by decide +kernel
theorem dX5_append_17 : decode cX5_append 17 = .ok (.iconst 1, 1) := by decide +kernel
theorem dX5_append_18 : decode cX5_append 18 = .ok (.isub, 1) := by decide +kernel
theorem dX5_append_19 : decode cX5_append 19 = .ok (.invokestatic 22, 3) := by decide +kernel
theorem dX5_append_22 : decode cX5_append 22 = .ok (.ifCond .eq 29, 3) := by decide +kernel
theorem dX5_append_25 : decode cX5_append 25 = .ok (.aload_n 0, 1) := by decide +kernel
theorem dX5_append_26 : decode cX5_append 26 = .ok (.getfield 9, 3) := by decide +kernel
theorem dX5_append_29 : decode cX5_append 29 = .ok (.aload_n 0, 1) := by decide +kernel
theorem dX5_append_30 : decode cX5_append 30 = .ok (.getfield 19, 3) := by decide +kernel
theorem dX5_append_33 : decode cX5_append 33 = .ok (.iload_n 1, 1) := by decide +kernel
theorem dX5_append_34 : decode cX5_append 34 = .ok (.iload_n 2, 1) := by decide +kernel
theorem dX5_append_35 : decode cX5_append 35 = .ok (.iushr, 1) := by decide +kernel
theorem dX5_append_36 : decode cX5_append 36 = .ok (.sipush 255, 3) := by decide +kernel
theorem dX5_append_39 : decode cX5_append 39 = .ok (.iand, 1) := by decide +kernel
theorem dX5_append_40 : decode cX5_append 40 = .ok (.iastore, 1) := by decide +kernel
theorem dX5_append_41 : decode cX5_append 41 = .ok (.aload_n 0, 1) := by decide +kernel
theorem dX5_append_42 : decode cX5_append 42 = .ok (.dup, 1) := by decide +kernel
theorem dX5_append_43 : decode cX5_append 43 = .ok (.getfield 19, 3) := by decide +kernel
theorem dX5_append_46 : decode cX5_append 46 = .ok (.iconst 1, 1) := by decide +kernel
theorem dX5_append_47 : decode cX5_append 47 = .ok (.iadd, 1) := by decide +kernel
theorem dX5_append_48 : decode cX5_append 48 = .ok (.putfield 19, 3) := by decide +kernel
theorem dX5_append_51 : decode cX5_append 51 = .ok (.iinc 2 (-8), 3) := by decide +kernel
theorem dX5_append_54 : decode cX5_append 54 = .ok (.goto (-51), 3) := by decide +kernel
theorem dX5_append_57 : decode cX5_append 57 = .ok (.return_, 1) := by decide +kernel
theorem dX5_read_0 : decode cX5_read 0 = .ok (.aload_n 0, 1) := by decide +kernel
theorem dX5_read_1 : decode cX5_read 1 = .ok (.iconst 1, 1) := by decide +kernel
theorem dX5_read_2 : decode cX5_read 2 = .ok (.putfield 26, 3) := by decide +kernel
theorem dX5_read_5 : decode cX5_read 5 = .ok (.aload_n 0, 1) := by decide +kernel
theorem dX5_read_6 : decode cX5_read 6 = .ok (.iconst 0, 1) := by decide +kernel
theorem dX5_read_7 : decode cX5_read 7 = .ok (.putfield 30, 3) := by decide +kernel
theorem dX5_read_10 : decode cX5_read 10 = .ok (.aload_n 0, 1) := by decide +kernel
theorem dX5_read_11 : decode cX5_read 11 = .ok (.iconst 0, 1) := by decide +kernel
theorem dX5_read_12 : decode cX5_read 12 = .ok (.putfield 33, 3) := by decide +kernel
theorem dX5_read_15 : decode cX5_read 15 = .ok (.aload_n 0, 1) := by decide +kernel
theorem dX5_read_16 : decode cX5_read 16 = .ok (.iconst (-1), 1) := by decide +kernel
theorem dX5_read_17 : decode cX5_read 17 = .ok (.putfield 15, 3) := by decide +kernel
theorem dX5_read_20 : decode cX5_read 20 = .ok (.aload_n 0, 1) := by decide +kernel
theorem dX5_read_21 : decode cX5_read 21 = .ok (.aload_n 1, 1) := by decide +kernel
theorem dX5_read_22 : decode cX5_read 22 = .ok (.putfield 36, 3) := by decide +kernel
theorem dX5_read_25 : decode cX5_read 25 = .ok (.aload_n 0, 1) := by decide +kernel
theorem dX5_read_26 : decode cX5_read 26 = .ok (.getfield 36, 3) := by decide +kernel
theorem dX5_read_29 : decode cX5_read 29 = .ok (.invokevirtual 40, 3) := by decide +kernel
theorem dX5_read_32 : decode cX5_read 32 = .ok (.aload_n 0, 1) := by decide +kernel
theorem dX5_read_33 : decode cX5_read 33 = .ok (.invokevirtual 45, 3) := by decide +kernel
theorem dX5_read_36 : decode cX5_read 36 = .ok (.aload_n 0, 1) := by decide +kernel
theorem dX5_read_37 : decode cX5_read 37 = .ok (.iconst 0, 1) := by decide +kernel
theorem dX5_read_38 : decode cX5_read 38 = .ok (.iconst 0, 1) := by decide +kernel
theorem dX5_read_39 : decode cX5_read 39 = .ok (.invokevirtual 48, 3) := by decide +kernel
theorem dX5_read_42 : decode cX5_read 42 = .ok (.pop, 1) := by decide +kernel
theorem dX5_read_43 : decode cX5_read 43 = .ok (.return_, 1) := by decide +kernel
theorem dX5_refuse_0 : decode cX5_refuse 0 = .ok (.aload_n 0, 1) := by decide +kernel
theorem dX5_refuse_1 : decode cX5_refuse 1 = .ok (.iload_n 1, 1) := by decide +kernel
theorem dX5_refuse_2 : decode cX5_refuse 2 = .ok (.putfield 33, 3) := by decide +kernel
theorem dX5_refuse_5 : decode cX5_refuse 5 = .ok (.aload_n 0, 1) := by decide +kernel
theorem dX5_refuse_6 : decode cX5_refuse 6 = .ok (.aload_n 0, 1) := by decide +kernel
theorem dX5_refuse_7 : decode cX5_refuse 7 = .ok (.getfield 52, 3) := by decide +kernel
theorem dX5_refuse_10 : decode cX5_refuse 10 = .ok (.putfield 15, 3) := by decide +kernel
theorem dX5_refuse_13 : decode cX5_refuse 13 = .ok (.iconst 0, 1) := by decide +kernel
theorem dX5_refuse_14 : decode cX5_refuse 14 = .ok (.ireturn, 1) := by decide +kernel
theorem dX5_byteAt_0 : decode cX5_byteAt 0 = .ok (.iload_n 1, 1) := by decide +kernel
theorem dX5_byteAt_1 : decode cX5_byteAt 1 = .ok (.ifCond .lt 29, 3) := by decide +kernel
theorem dX5_byteAt_4 : decode cX5_byteAt 4 = .ok (.iload_n 1, 1) := by decide +kernel
theorem dX5_byteAt_5 : decode cX5_byteAt 5 = .ok (.aload_n 0, 1) := by decide +kernel
theorem dX5_byteAt_6 : decode cX5_byteAt 6 = .ok (.getfield 19, 3) := by decide +kernel
theorem dX5_byteAt_9 : decode cX5_byteAt 9 = .ok (.if_icmp .ge 21, 3) := by decide +kernel
theorem dX5_byteAt_12 : decode cX5_byteAt 12 = .ok (.iload_n 1, 1) := by decide +kernel
theorem dX5_byteAt_13 : decode cX5_byteAt 13 = .ok (.aload_n 0, 1) := by decide +kernel
theorem dX5_byteAt_14 : decode cX5_byteAt 14 = .ok (.getfield 9, 3) := by decide +kernel
theorem dX5_byteAt_17 : decode cX5_byteAt 17 = .ok (.arraylength, 1) := by decide +kernel
theorem dX5_byteAt_18 : decode cX5_byteAt 18 = .ok (.if_icmp .ge 12, 3) := by decide +kernel
theorem dX5_byteAt_21 : decode cX5_byteAt 21 = .ok (.aload_n 0, 1) := by decide +kernel
theorem dX5_byteAt_22 : decode cX5_byteAt 22 = .ok (.getfield 9, 3) := by decide +kernel
theorem dX5_byteAt_25 : decode cX5_byteAt 25 = .ok (.iload_n 1, 1) := by decide +kernel
theorem dX5_byteAt_26 : decode cX5_byteAt 26 = .ok (.iaload, 1) := by decide +kernel
theorem dX5_byteAt_27 : decode cX5_byteAt 27 = .ok (.goto 4, 3) := by decide +kernel
theorem dX5_byteAt_30 : decode cX5_byteAt 30 = .ok (.iconst (-1), 1) := by decide +kernel
theorem dX5_byteAt_31 : decode cX5_byteAt 31 = .ok (.ireturn, 1) := by decide +kernel
theorem dX5_advance_0 : decode cX5_advance 0 = .ok (.aload_n 0, 1) := by decide +kernel
theorem dX5_advance_1 : decode cX5_advance 1 = .ok (.getfield 30, 3) := by decide +kernel
theorem dX5_advance_4 : decode cX5_advance 4 = .ok (.aload_n 0, 1) := by decide +kernel
theorem dX5_advance_5 : decode cX5_advance 5 = .ok (.getfield 19, 3) := by decide +kernel
theorem dX5_advance_8 : decode cX5_advance 8 = .ok (.if_icmp .ge 30, 3) := by decide +kernel
theorem dX5_advance_11 : decode cX5_advance 11 = .ok (.aload_n 0, 1) := by decide +kernel
theorem dX5_advance_12 : decode cX5_advance 12 = .ok (.aload_n 0, 1) := by decide +kernel
theorem dX5_advance_13 : decode cX5_advance 13 = .ok (.getfield 30, 3) := by decide +kernel
theorem dX5_advance_16 : decode cX5_advance 16 = .ok (.invokevirtual 55, 3) := by decide +kernel
theorem dX5_advance_19 : decode cX5_advance 19 = .ok (.invokestatic 59, 3) := by decide +kernel
theorem dX5_advance_22 : decode cX5_advance 22 = .ok (.ifCond .eq 16, 3) := by decide +kernel
theorem dX5_advance_25 : decode cX5_advance 25 = .ok (.aload_n 0, 1) := by decide +kernel
theorem dX5_advance_26 : decode cX5_advance 26 = .ok (.dup, 1) := by decide +kernel
theorem dX5_advance_27 : decode cX5_advance 27 = .ok (.getfield 30, 3) := by decide +kernel
theorem dX5_advance_30 : decode cX5_advance 30 = .ok (.iconst 1, 1) := by decide +kernel
theorem dX5_advance_31 : decode cX5_advance 31 = .ok (.iadd, 1) := by decide +kernel
theorem dX5_advance_32 : decode cX5_advance 32 = .ok (.putfield 30, 3) := by decide +kernel
theorem dX5_advance_35 : decode cX5_advance 35 = .ok (.goto (-35), 3) := by decide +kernel
theorem dX5_advance_38 : decode cX5_advance 38 = .ok (.aload_n 0, 1) := by decide +kernel
theorem dX5_advance_39 : decode cX5_advance 39 = .ok (.aload_n 0, 1) := by decide +kernel
theorem dX5_advance_40 : decode cX5_advance 40 = .ok (.getfield 30, 3) := by decide +kernel
theorem dX5_advance_43 : decode cX5_advance 43 = .ok (.putfield 52, 3) := by decide +kernel
theorem dX5_advance_46 : decode cX5_advance 46 = .ok (.aload_n 0, 1) := by decide +kernel
theorem dX5_advance_47 : decode cX5_advance 47 = .ok (.aload_n 0, 1) := by decide +kernel
theorem dX5_advance_48 : decode cX5_advance 48 = .ok (.getfield 30, 3) := by decide +kernel
theorem dX5_advance_51 : decode cX5_advance 51 = .ok (.invokevirtual 55, 3) := by decide +kernel
theorem dX5_advance_54 : decode cX5_advance 54 = .ok (.istore_n 1, 1) := by decide +kernel
theorem dX5_advance_55 : decode cX5_advance 55 = .ok (.aload_n 0, 1) := by decide +kernel
theorem dX5_advance_56 : decode cX5_advance 56 = .ok (.getfield 30, 3) := by decide +kernel
theorem dX5_advance_59 : decode cX5_advance 59 = .ok (.aload_n 0, 1) := by decide +kernel
theorem dX5_advance_60 : decode cX5_advance 60 = .ok (.getfield 19, 3) := by decide +kernel
theorem dX5_advance_63 : decode cX5_advance 63 = .ok (.if_icmp .lt 11, 3) := by decide +kernel
theorem dX5_advance_66 : decode cX5_advance 66 = .ok (.aload_n 0, 1) := by decide +kernel
theorem dX5_advance_67 : decode cX5_advance 67 = .ok (.iconst 0, 1) := by decide +kernel
theorem dX5_advance_68 : decode cX5_advance 68 = .ok (.putfield 63, 3) := by decide +kernel
theorem dX5_advance_71 : decode cX5_advance 71 = .ok (.goto 163, 3) := by decide +kernel
theorem dX5_advance_74 : decode cX5_advance 74 = .ok (.iload_n 1, 1) := by decide +kernel
theorem dX5_advance_75 : decode cX5_advance 75 = .ok (.invokestatic 66, 3) := by decide +kernel
theorem dX5_advance_78 : decode cX5_advance 78 = .ok (.ifCond .eq 46, 3) := by decide +kernel
theorem dX5_advance_81 : decode cX5_advance 81 = .ok (.aload_n 0, 1) := by decide +kernel
theorem dX5_advance_82 : decode cX5_advance 82 = .ok (.iconst 1, 1) := by decide +kernel
theorem dX5_advance_83 : decode cX5_advance 83 = .ok (.putfield 63, 3) := by decide +kernel
theorem dX5_advance_86 : decode cX5_advance 86 = .ok (.aload_n 0, 1) := by decide +kernel
theorem dX5_advance_87 : decode cX5_advance 87 = .ok (.getfield 30, 3) := by decide +kernel
theorem dX5_advance_90 : decode cX5_advance 90 = .ok (.aload_n 0, 1) := by decide +kernel
theorem dX5_advance_91 : decode cX5_advance 91 = .ok (.getfield 19, 3) := by decide +kernel
theorem dX5_advance_94 : decode cX5_advance 94 = .ok (.if_icmp .ge 140, 3) := by decide +kernel
theorem dX5_advance_97 : decode cX5_advance 97 = .ok (.aload_n 0, 1) := by decide +kernel
theorem dX5_advance_98 : decode cX5_advance 98 = .ok (.aload_n 0, 1) := by decide +kernel
theorem dX5_advance_99 : decode cX5_advance 99 = .ok (.getfield 30, 3) := by decide +kernel
theorem dX5_advance_102 : decode cX5_advance 102 = .ok (.invokevirtual 55, 3) := by decide +kernel
theorem dX5_advance_105 : decode cX5_advance 105 = .ok (.invokestatic 66, 3) := by decide +kernel
theorem dX5_advance_108 : decode cX5_advance 108 = .ok (.ifCond .eq 126, 3) := by decide +kernel
theorem dX5_advance_111 : decode cX5_advance 111 = .ok (.aload_n 0, 1) := by decide +kernel
theorem dX5_advance_112 : decode cX5_advance 112 = .ok (.dup, 1) := by decide +kernel
theorem dX5_advance_113 : decode cX5_advance 113 = .ok (.getfield 30, 3) := by decide +kernel
theorem dX5_advance_116 : decode cX5_advance 116 = .ok (.iconst 1, 1) := by decide +kernel
theorem dX5_advance_117 : decode cX5_advance 117 = .ok (.iadd, 1) := by decide +kernel
theorem dX5_advance_118 : decode cX5_advance 118 = .ok (.putfield 30, 3) := by decide +kernel
theorem dX5_advance_121 : decode cX5_advance 121 = .ok (.goto (-35), 3) := by decide +kernel
theorem dX5_advance_124 : decode cX5_advance 124 = .ok (.iload_n 1, 1) := by decide +kernel
theorem dX5_advance_125 : decode cX5_advance 125 = .ok (.invokestatic 69, 3) := by decide +kernel
theorem dX5_advance_128 : decode cX5_advance 128 = .ok (.ifCond .eq 80, 3) := by decide +kernel
theorem dX5_advance_131 : decode cX5_advance 131 = .ok (.aload_n 0, 1) := by decide +kernel
theorem dX5_advance_132 : decode cX5_advance 132 = .ok (.iconst 2, 1) := by decide +kernel
theorem dX5_advance_133 : decode cX5_advance 133 = .ok (.putfield 63, 3) := by decide +kernel
theorem dX5_advance_136 : decode cX5_advance 136 = .ok (.aload_n 0, 1) := by decide +kernel
theorem dX5_advance_137 : decode cX5_advance 137 = .ok (.iconst 0, 1) := by decide +kernel
theorem dX5_advance_138 : decode cX5_advance 138 = .ok (.putfield 72, 3) := by decide +kernel
theorem dX5_advance_141 : decode cX5_advance 141 = .ok (.aload_n 0, 1) := by decide +kernel
theorem dX5_advance_142 : decode cX5_advance 142 = .ok (.getfield 30, 3) := by decide +kernel
theorem dX5_advance_145 : decode cX5_advance 145 = .ok (.aload_n 0, 1) := by decide +kernel
theorem dX5_advance_146 : decode cX5_advance 146 = .ok (.getfield 19, 3) := by decide +kernel
theorem dX5_advance_149 : decode cX5_advance 149 = .ok (.if_icmp .ge 85, 3) := by decide +kernel
theorem dX5_advance_152 : decode cX5_advance 152 = .ok (.aload_n 0, 1) := by decide +kernel
theorem dX5_advance_153 : decode cX5_advance 153 = .ok (.aload_n 0, 1) := by decide +kernel
theorem dX5_advance_154 : decode cX5_advance 154 = .ok (.getfield 30, 3) := by decide +kernel
theorem dX5_advance_157 : decode cX5_advance 157 = .ok (.invokevirtual 55, 3) := by decide +kernel
theorem dX5_advance_160 : decode cX5_advance 160 = .ok (.invokestatic 69, 3) := by decide +kernel
theorem dX5_advance_163 : decode cX5_advance 163 = .ok (.ifCond .eq 71, 3) := by decide +kernel
theorem dX5_advance_166 : decode cX5_advance 166 = .ok (.aload_n 0, 1) := by decide +kernel
theorem dX5_advance_167 : decode cX5_advance 167 = .ok (.sipush 1000, 3) := by decide +kernel
theorem dX5_advance_170 : decode cX5_advance 170 = .ok (.aload_n 0, 1) := by decide +kernel
theorem dX5_advance_171 : decode cX5_advance 171 = .ok (.getfield 72, 3) := by decide +kernel
theorem dX5_advance_174 : decode cX5_advance 174 = .ok (.bipush 10, 2) := by decide +kernel
theorem dX5_advance_176 : decode cX5_advance 176 = .ok (.imul, 1) := by decide +kernel
theorem dX5_advance_177 : decode cX5_advance 177 = .ok (.aload_n 0, 1) := by decide +kernel
theorem dX5_advance_178 : decode cX5_advance 178 = .ok (.aload_n 0, 1) := by decide +kernel
theorem dX5_advance_179 : decode cX5_advance 179 = .ok (.getfield 30, 3) := by decide +kernel
theorem dX5_advance_182 : decode cX5_advance 182 = .ok (.invokevirtual 55, 3) := by decide +kernel
theorem dX5_advance_185 : decode cX5_advance 185 = .ok (.iadd, 1) := by decide +kernel
theorem dX5_advance_186 : decode cX5_advance 186 = .ok (.bipush 48, 2) := by decide +kernel
theorem dX5_advance_188 : decode cX5_advance 188 = .ok (.isub, 1) := by decide +kernel
theorem dX5_advance_189 : decode cX5_advance 189 = .ok (.invokestatic 75, 3) := by decide +kernel
theorem dX5_advance_192 : decode cX5_advance 192 = .ok (.putfield 72, 3) := by decide +kernel
theorem dX5_advance_195 : decode cX5_advance 195 = .ok (.aload_n 0, 1) := by decide +kernel
theorem dX5_advance_196 : decode cX5_advance 196 = .ok (.dup, 1) := by decide +kernel
theorem dX5_advance_197 : decode cX5_advance 197 = .ok (.getfield 30, 3) := by decide +kernel
theorem dX5_advance_200 : decode cX5_advance 200 = .ok (.iconst 1, 1) := by decide +kernel
theorem dX5_advance_201 : decode cX5_advance 201 = .ok (.iadd, 1) := by decide +kernel
theorem dX5_advance_202 : decode cX5_advance 202 = .ok (.putfield 30, 3) := by decide +kernel
theorem dX5_advance_205 : decode cX5_advance 205 = .ok (.goto (-64), 3) := by decide +kernel
theorem dX5_advance_208 : decode cX5_advance 208 = .ok (.aload_n 0, 1) := by decide +kernel
theorem dX5_advance_209 : decode cX5_advance 209 = .ok (.iload_n 1, 1) := by decide +kernel
theorem dX5_advance_210 : decode cX5_advance 210 = .ok (.invokestatic 81, 3) := by decide +kernel
theorem dX5_advance_213 : decode cX5_advance 213 = .ok (.ifCond .eq 7, 3) := by decide +kernel
theorem dX5_advance_216 : decode cX5_advance 216 = .ok (.iload_n 1, 1) := by decide +kernel
theorem dX5_advance_217 : decode cX5_advance 217 = .ok (.goto 4, 3) := by decide +kernel
theorem dX5_advance_220 : decode cX5_advance 220 = .ok (.iconst 3, 1) := by decide +kernel
theorem dX5_advance_221 : decode cX5_advance 221 = .ok (.putfield 63, 3) := by decide +kernel
theorem dX5_advance_224 : decode cX5_advance 224 = .ok (.aload_n 0, 1) := by decide +kernel
theorem dX5_advance_225 : decode cX5_advance 225 = .ok (.dup, 1) := by decide +kernel
theorem dX5_advance_226 : decode cX5_advance 226 = .ok (.getfield 30, 3) := by decide +kernel
theorem dX5_advance_229 : decode cX5_advance 229 = .ok (.iconst 1, 1) := by decide +kernel
theorem dX5_advance_230 : decode cX5_advance 230 = .ok (.iadd, 1) := by decide +kernel
theorem dX5_advance_231 : decode cX5_advance 231 = .ok (.putfield 30, 3) := by decide +kernel
theorem dX5_advance_234 : decode cX5_advance 234 = .ok (.return_, 1) := by decide +kernel
theorem dX5_isBlank_0 : decode cX5_isBlank 0 = .ok (.iload_n 0, 1) := by decide +kernel
theorem dX5_isBlank_1 : decode cX5_isBlank 1 = .ok (.bipush 32, 2) := by decide +kernel
theorem dX5_isBlank_3 : decode cX5_isBlank 3 = .ok (.if_icmp .eq 9, 3) := by decide +kernel
theorem dX5_isBlank_6 : decode cX5_isBlank 6 = .ok (.iload_n 0, 1) := by decide +kernel
theorem dX5_isBlank_7 : decode cX5_isBlank 7 = .ok (.bipush 10, 2) := by decide +kernel
theorem dX5_isBlank_9 : decode cX5_isBlank 9 = .ok (.if_icmp .ne 7, 3) := by decide +kernel
theorem dX5_isBlank_12 : decode cX5_isBlank 12 = .ok (.iconst 1, 1) := by decide +kernel
theorem dX5_isBlank_13 : decode cX5_isBlank 13 = .ok (.goto 4, 3) := by decide +kernel
theorem dX5_isBlank_16 : decode cX5_isBlank 16 = .ok (.iconst 0, 1) := by decide +kernel
theorem dX5_isBlank_17 : decode cX5_isBlank 17 = .ok (.ireturn, 1) := by decide +kernel
theorem dX5_isLetter_0 : decode cX5_isLetter 0 = .ok (.iload_n 0, 1) := by decide +kernel
theorem dX5_isLetter_1 : decode cX5_isLetter 1 = .ok (.bipush 97, 2) := by decide +kernel
theorem dX5_isLetter_3 : decode cX5_isLetter 3 = .ok (.if_icmp .lt 9, 3) := by decide +kernel
theorem dX5_isLetter_6 : decode cX5_isLetter 6 = .ok (.iload_n 0, 1) := by decide +kernel
theorem dX5_isLetter_7 : decode cX5_isLetter 7 = .ok (.bipush 122, 2) := by decide +kernel
theorem dX5_isLetter_9 : decode cX5_isLetter 9 = .ok (.if_icmp .le 15, 3) := by decide +kernel
theorem dX5_isLetter_12 : decode cX5_isLetter 12 = .ok (.iload_n 0, 1) := by decide +kernel
theorem dX5_isLetter_13 : decode cX5_isLetter 13 = .ok (.bipush 65, 2) := by decide +kernel
theorem dX5_isLetter_15 : decode cX5_isLetter 15 = .ok (.if_icmp .lt 13, 3) := by decide +kernel
theorem dX5_isLetter_18 : decode cX5_isLetter 18 = .ok (.iload_n 0, 1) := by decide +kernel
theorem dX5_isLetter_19 : decode cX5_isLetter 19 = .ok (.bipush 90, 2) := by decide +kernel
theorem dX5_isLetter_21 : decode cX5_isLetter 21 = .ok (.if_icmp .gt 7, 3) := by decide +kernel
theorem dX5_isLetter_24 : decode cX5_isLetter 24 = .ok (.iconst 1, 1) := by decide +kernel
theorem dX5_isLetter_25 : decode cX5_isLetter 25 = .ok (.goto 4, 3) := by decide +kernel
theorem dX5_isLetter_28 : decode cX5_isLetter 28 = .ok (.iconst 0, 1) := by decide +kernel
theorem dX5_isLetter_29 : decode cX5_isLetter 29 = .ok (.ireturn, 1) := by decide +kernel
theorem dX5_isDigit_0 : decode cX5_isDigit 0 = .ok (.iload_n 0, 1) := by decide +kernel
theorem dX5_isDigit_1 : decode cX5_isDigit 1 = .ok (.bipush 48, 2) := by decide +kernel
theorem dX5_isDigit_3 : decode cX5_isDigit 3 = .ok (.if_icmp .lt 13, 3) := by decide +kernel
theorem dX5_isDigit_6 : decode cX5_isDigit 6 = .ok (.iload_n 0, 1) := by decide +kernel
theorem dX5_isDigit_7 : decode cX5_isDigit 7 = .ok (.bipush 57, 2) := by decide +kernel
theorem dX5_isDigit_9 : decode cX5_isDigit 9 = .ok (.if_icmp .gt 7, 3) := by decide +kernel
theorem dX5_isDigit_12 : decode cX5_isDigit 12 = .ok (.iconst 1, 1) := by decide +kernel
theorem dX5_isDigit_13 : decode cX5_isDigit 13 = .ok (.goto 4, 3) := by decide +kernel
theorem dX5_isDigit_16 : decode cX5_isDigit 16 = .ok (.iconst 0, 1) := by decide +kernel
theorem dX5_isDigit_17 : decode cX5_isDigit 17 = .ok (.ireturn, 1) := by decide +kernel
theorem dX5_isSign_0 : decode cX5_isSign 0 = .ok (.iload_n 0, 1) := by decide +kernel
theorem dX5_isSign_1 : decode cX5_isSign 1 = .ok (.bipush 43, 2) := by decide +kernel
theorem dX5_isSign_3 : decode cX5_isSign 3 = .ok (.if_icmp .eq 21, 3) := by decide +kernel
theorem dX5_isSign_6 : decode cX5_isSign 6 = .ok (.iload_n 0, 1) := by decide +kernel
theorem dX5_isSign_7 : decode cX5_isSign 7 = .ok (.bipush 45, 2) := by decide +kernel
theorem dX5_isSign_9 : decode cX5_isSign 9 = .ok (.if_icmp .eq 15, 3) := by decide +kernel
theorem dX5_isSign_12 : decode cX5_isSign 12 = .ok (.iload_n 0, 1) := by decide +kernel
theorem dX5_isSign_13 : decode cX5_isSign 13 = .ok (.bipush 42, 2) := by decide +kernel
theorem dX5_isSign_15 : decode cX5_isSign 15 = .ok (.if_icmp .eq 9, 3) := by decide +kernel
theorem dX5_isSign_18 : decode cX5_isSign 18 = .ok (.iload_n 0, 1) := by decide +kernel
theorem dX5_isSign_19 : decode cX5_isSign 19 = .ok (.bipush 47, 2) := by decide +kernel
theorem dX5_isSign_21 : decode cX5_isSign 21 = .ok (.if_icmp .ne 7, 3) := by decide +kernel
theorem dX5_isSign_24 : decode cX5_isSign 24 = .ok (.iconst 1, 1) := by decide +kernel
theorem dX5_isSign_25 : decode cX5_isSign 25 = .ok (.goto 4, 3) := by decide +kernel
theorem dX5_isSign_28 : decode cX5_isSign 28 = .ok (.iconst 0, 1) := by decide +kernel
theorem dX5_isSign_29 : decode cX5_isSign 29 = .ok (.istore_n 1, 1) := by decide +kernel
theorem dX5_isSign_30 : decode cX5_isSign 30 = .ok (.iload_n 1, 1) := by decide +kernel
theorem dX5_isSign_31 : decode cX5_isSign 31 = .ok (.ifCond .ne 33, 3) := by decide +kernel
theorem dX5_isSign_34 : decode cX5_isSign 34 = .ok (.iload_n 0, 1) := by decide +kernel
theorem dX5_isSign_35 : decode cX5_isSign 35 = .ok (.bipush 40, 2) := by decide +kernel
theorem dX5_isSign_37 : decode cX5_isSign 37 = .ok (.if_icmp .eq 27, 3) := by decide +kernel
theorem dX5_isSign_40 : decode cX5_isSign 40 = .ok (.iload_n 0, 1) := by decide +kernel
theorem dX5_isSign_41 : decode cX5_isSign 41 = .ok (.bipush 41, 2) := by decide +kernel
theorem dX5_isSign_43 : decode cX5_isSign 43 = .ok (.if_icmp .eq 21, 3) := by decide +kernel
theorem dX5_isSign_46 : decode cX5_isSign 46 = .ok (.iload_n 0, 1) := by decide +kernel
theorem dX5_isSign_47 : decode cX5_isSign 47 = .ok (.bipush 123, 2) := by decide +kernel
theorem dX5_isSign_49 : decode cX5_isSign 49 = .ok (.if_icmp .eq 15, 3) := by decide +kernel
theorem dX5_isSign_52 : decode cX5_isSign 52 = .ok (.iload_n 0, 1) := by decide +kernel
theorem dX5_isSign_53 : decode cX5_isSign 53 = .ok (.bipush 125, 2) := by decide +kernel
theorem dX5_isSign_55 : decode cX5_isSign 55 = .ok (.if_icmp .eq 9, 3) := by decide +kernel
theorem dX5_isSign_58 : decode cX5_isSign 58 = .ok (.iload_n 0, 1) := by decide +kernel
theorem dX5_isSign_59 : decode cX5_isSign 59 = .ok (.bipush 59, 2) := by decide +kernel
theorem dX5_isSign_61 : decode cX5_isSign 61 = .ok (.if_icmp .ne 7, 3) := by decide +kernel
theorem dX5_isSign_64 : decode cX5_isSign 64 = .ok (.iconst 1, 1) := by decide +kernel
theorem dX5_isSign_65 : decode cX5_isSign 65 = .ok (.goto 4, 3) := by decide +kernel
theorem dX5_isSign_68 : decode cX5_isSign 68 = .ok (.iconst 0, 1) := by decide +kernel
theorem dX5_isSign_69 : decode cX5_isSign 69 = .ok (.ireturn, 1) := by decide +kernel
theorem dX5_isWord_0 : decode cX5_isWord 0 = .ok (.aload_n 0, 1) := by decide +kernel
theorem dX5_isWord_1 : decode cX5_isWord 1 = .ok (.getfield 63, 3) := by decide +kernel
theorem dX5_isWord_4 : decode cX5_isWord 4 = .ok (.iconst 1, 1) := by decide +kernel
theorem dX5_isWord_5 : decode cX5_isWord 5 = .ok (.if_icmp .ne 19, 3) := by decide +kernel
theorem dX5_isWord_8 : decode cX5_isWord 8 = .ok (.aload_n 0, 1) := by decide +kernel
theorem dX5_isWord_9 : decode cX5_isWord 9 = .ok (.getfield 30, 3) := by decide +kernel
theorem dX5_isWord_12 : decode cX5_isWord 12 = .ok (.aload_n 0, 1) := by decide +kernel
theorem dX5_isWord_13 : decode cX5_isWord 13 = .ok (.getfield 52, 3) := by decide +kernel
theorem dX5_isWord_16 : decode cX5_isWord 16 = .ok (.isub, 1) := by decide +kernel
theorem dX5_isWord_17 : decode cX5_isWord 17 = .ok (.aload_n 1, 1) := by decide +kernel
theorem dX5_isWord_18 : decode cX5_isWord 18 = .ok (.invokevirtual 84, 3) := by decide +kernel
theorem dX5_isWord_21 : decode cX5_isWord 21 = .ok (.if_icmp .eq 5, 3) := by decide +kernel
theorem dX5_isWord_24 : decode cX5_isWord 24 = .ok (.iconst 0, 1) := by decide +kernel
theorem dX5_isWord_25 : decode cX5_isWord 25 = .ok (.ireturn, 1) := by decide +kernel
theorem dX5_isWord_26 : decode cX5_isWord 26 = .ok (.iconst 0, 1) := by decide +kernel
theorem dX5_isWord_27 : decode cX5_isWord 27 = .ok (.istore_n 2, 1) := by decide +kernel
theorem dX5_isWord_28 : decode cX5_isWord 28 = .ok (.iload_n 2, 1) := by decide +kernel
theorem dX5_isWord_29 : decode cX5_isWord 29 = .ok (.aload_n 1, 1) := by decide +kernel
theorem dX5_isWord_30 : decode cX5_isWord 30 = .ok (.invokevirtual 84, 3) := by decide +kernel
theorem dX5_isWord_33 : decode cX5_isWord 33 = .ok (.if_icmp .ge 29, 3) := by decide +kernel
theorem dX5_isWord_36 : decode cX5_isWord 36 = .ok (.aload_n 0, 1) := by decide +kernel
theorem dX5_isWord_37 : decode cX5_isWord 37 = .ok (.aload_n 0, 1) := by decide +kernel
theorem dX5_isWord_38 : decode cX5_isWord 38 = .ok (.getfield 52, 3) := by decide +kernel
theorem dX5_isWord_41 : decode cX5_isWord 41 = .ok (.iload_n 2, 1) := by decide +kernel
theorem dX5_isWord_42 : decode cX5_isWord 42 = .ok (.iadd, 1) := by decide +kernel
theorem dX5_isWord_43 : decode cX5_isWord 43 = .ok (.invokevirtual 55, 3) := by decide +kernel
theorem dX5_isWord_46 : decode cX5_isWord 46 = .ok (.aload_n 1, 1) := by decide +kernel
theorem dX5_isWord_47 : decode cX5_isWord 47 = .ok (.iload_n 2, 1) := by decide +kernel
theorem dX5_isWord_48 : decode cX5_isWord 48 = .ok (.invokevirtual 89, 3) := by decide +kernel
theorem dX5_isWord_51 : decode cX5_isWord 51 = .ok (.if_icmp .eq 5, 3) := by decide +kernel
theorem dX5_isWord_54 : decode cX5_isWord 54 = .ok (.iconst 0, 1) := by decide +kernel
theorem dX5_isWord_55 : decode cX5_isWord 55 = .ok (.ireturn, 1) := by decide +kernel
theorem dX5_isWord_56 : decode cX5_isWord 56 = .ok (.iinc 2 1, 3) := by decide +kernel
theorem dX5_isWord_59 : decode cX5_isWord 59 = .ok (.goto (-31), 3) := by decide +kernel
theorem dX5_isWord_62 : decode cX5_isWord 62 = .ok (.iconst 1, 1) := by decide +kernel
theorem dX5_isWord_63 : decode cX5_isWord 63 = .ok (.ireturn, 1) := by decide +kernel
theorem dX5_readActs_0 : decode cX5_readActs 0 = .ok (.iconst 0, 1) := by decide +kernel
theorem dX5_readActs_1 : decode cX5_readActs 1 = .ok (.istore_n 3, 1) := by decide +kernel
theorem dX5_readActs_2 : decode cX5_readActs 2 = .ok (.iload_n 3, 1) := by decide +kernel
theorem dX5_readActs_3 : decode cX5_readActs 3 = .ok (.bipush 16, 2) := by decide +kernel
theorem dX5_readActs_5 : decode cX5_readActs 5 = .ok (.if_icmp .gt 38, 3) := by decide +kernel
theorem dX5_readActs_8 : decode cX5_readActs 8 = .ok (.aload_n 0, 1) := by decide +kernel
theorem dX5_readActs_9 : decode cX5_readActs 9 = .ok (.getfield 63, 3) := by decide +kernel
theorem dX5_readActs_12 : decode cX5_readActs 12 = .ok (.iload_n 2, 1) := by decide +kernel
theorem dX5_readActs_13 : decode cX5_readActs 13 = .ok (.ifCond .eq 8, 3) := by decide +kernel
theorem dX5_readActs_16 : decode cX5_readActs 16 = .ok (.bipush 125, 2) := by decide +kernel
theorem dX5_readActs_18 : decode cX5_readActs 18 = .ok (.goto 4, 3) := by decide +kernel
theorem dX5_readActs_21 : decode cX5_readActs 21 = .ok (.iconst 0, 1) := by decide +kernel
theorem dX5_readActs_22 : decode cX5_readActs 22 = .ok (.if_icmp .ne 5, 3) := by decide +kernel
theorem dX5_readActs_25 : decode cX5_readActs 25 = .ok (.iconst 1, 1) := by decide +kernel
theorem dX5_readActs_26 : decode cX5_readActs 26 = .ok (.ireturn, 1) := by decide +kernel
theorem dX5_readActs_27 : decode cX5_readActs 27 = .ok (.aload_n 0, 1) := by decide +kernel
theorem dX5_readActs_28 : decode cX5_readActs 28 = .ok (.iload_n 1, 1) := by decide +kernel
theorem dX5_readActs_29 : decode cX5_readActs 29 = .ok (.invokevirtual 93, 3) := by decide +kernel
theorem dX5_readActs_32 : decode cX5_readActs 32 = .ok (.ifCond .ne 5, 3) := by decide +kernel
theorem dX5_readActs_35 : decode cX5_readActs 35 = .ok (.iconst 0, 1) := by decide +kernel
theorem dX5_readActs_36 : decode cX5_readActs 36 = .ok (.ireturn, 1) := by decide +kernel
theorem dX5_readActs_37 : decode cX5_readActs 37 = .ok (.iinc 3 1, 3) := by decide +kernel
theorem dX5_readActs_40 : decode cX5_readActs 40 = .ok (.goto (-38), 3) := by decide +kernel
theorem dX5_readActs_43 : decode cX5_readActs 43 = .ok (.aload_n 0, 1) := by decide +kernel
theorem dX5_readActs_44 : decode cX5_readActs 44 = .ok (.iconst 4, 1) := by decide +kernel
theorem dX5_readActs_45 : decode cX5_readActs 45 = .ok (.invokevirtual 96, 3) := by decide +kernel
theorem dX5_readActs_48 : decode cX5_readActs 48 = .ok (.ireturn, 1) := by decide +kernel
theorem dX5_readAct_0 : decode cX5_readAct 0 = .ok (.aload_n 0, 1) := by decide +kernel
theorem dX5_readAct_1 : decode cX5_readAct 1 = .ok (.invokevirtual 99, 3) := by decide +kernel
theorem dX5_readAct_4 : decode cX5_readAct 4 = .ok (.istore_n 2, 1) := by decide +kernel
theorem dX5_readAct_5 : decode cX5_readAct 5 = .ok (.iload_n 2, 1) := by decide +kernel
theorem dX5_readAct_6 : decode cX5_readAct 6 = .ok (.iconst (-1), 1) := by decide +kernel
theorem dX5_readAct_7 : decode cX5_readAct 7 = .ok (.if_icmp .ne 9, 3) := by decide +kernel
theorem dX5_readAct_10 : decode cX5_readAct 10 = .ok (.aload_n 0, 1) := by decide +kernel
theorem dX5_readAct_11 : decode cX5_readAct 11 = .ok (.iconst 1, 1) := by decide +kernel
theorem dX5_readAct_12 : decode cX5_readAct 12 = .ok (.invokevirtual 96, 3) := by decide +kernel
theorem dX5_readAct_15 : decode cX5_readAct 15 = .ok (.ireturn, 1) := by decide +kernel
theorem dX5_readAct_16 : decode cX5_readAct 16 = .ok (.aload_n 0, 1) := by decide +kernel
theorem dX5_readAct_17 : decode cX5_readAct 17 = .ok (.getfield 36, 3) := by decide +kernel
theorem dX5_readAct_20 : decode cX5_readAct 20 = .ok (.iload_n 2, 1) := by decide +kernel
theorem dX5_readAct_21 : decode cX5_readAct 21 = .ok (.invokevirtual 102, 3) := by decide +kernel
theorem dX5_readAct_24 : decode cX5_readAct 24 = .ok (.istore_n 3, 1) := by decide +kernel
theorem dX5_readAct_25 : decode cX5_readAct 25 = .ok (.iload_n 3, 1) := by decide +kernel
theorem dX5_readAct_26 : decode cX5_readAct 26 = .ok (.iconst (-1), 1) := by decide +kernel
theorem dX5_readAct_27 : decode cX5_readAct 27 = .ok (.if_icmp .ne 9, 3) := by decide +kernel
theorem dX5_readAct_30 : decode cX5_readAct 30 = .ok (.aload_n 0, 1) := by decide +kernel
theorem dX5_readAct_31 : decode cX5_readAct 31 = .ok (.iconst 4, 1) := by decide +kernel
theorem dX5_readAct_32 : decode cX5_readAct 32 = .ok (.invokevirtual 96, 3) := by decide +kernel
theorem dX5_readAct_35 : decode cX5_readAct 35 = .ok (.ireturn, 1) := by decide +kernel
theorem dX5_readAct_36 : decode cX5_readAct 36 = .ok (.aload_n 0, 1) := by decide +kernel
theorem dX5_readAct_37 : decode cX5_readAct 37 = .ok (.invokevirtual 45, 3) := by decide +kernel
theorem dX5_readAct_40 : decode cX5_readAct 40 = .ok (.iload_n 2, 1) := by decide +kernel
theorem dX5_readAct_41 : decode cX5_readAct 41 = .ok (.tableswitch 74 1 4 #[31, 37, 44, 50], 31) := by decide +kernel
theorem dX5_readAct_72 : decode cX5_readAct 72 = .ok (.aload_n 0, 1) := by decide +kernel
theorem dX5_readAct_73 : decode cX5_readAct 73 = .ok (.iload_n 3, 1) := by decide +kernel
theorem dX5_readAct_74 : decode cX5_readAct 74 = .ok (.invokevirtual 105, 3) := by decide +kernel
theorem dX5_readAct_77 : decode cX5_readAct 77 = .ok (.ireturn, 1) := by decide +kernel
theorem dX5_readAct_78 : decode cX5_readAct 78 = .ok (.aload_n 0, 1) := by decide +kernel
theorem dX5_readAct_79 : decode cX5_readAct 79 = .ok (.iload_n 3, 1) := by decide +kernel
theorem dX5_readAct_80 : decode cX5_readAct 80 = .ok (.iload_n 1, 1) := by decide +kernel
theorem dX5_readAct_81 : decode cX5_readAct 81 = .ok (.invokevirtual 108, 3) := by decide +kernel
theorem dX5_readAct_84 : decode cX5_readAct 84 = .ok (.ireturn, 1) := by decide +kernel
theorem dX5_readAct_85 : decode cX5_readAct 85 = .ok (.aload_n 0, 1) := by decide +kernel
theorem dX5_readAct_86 : decode cX5_readAct 86 = .ok (.iload_n 3, 1) := by decide +kernel
theorem dX5_readAct_87 : decode cX5_readAct 87 = .ok (.invokevirtual 112, 3) := by decide +kernel
theorem dX5_readAct_90 : decode cX5_readAct 90 = .ok (.ireturn, 1) := by decide +kernel
theorem dX5_readAct_91 : decode cX5_readAct 91 = .ok (.aload_n 0, 1) := by decide +kernel
theorem dX5_readAct_92 : decode cX5_readAct 92 = .ok (.iload_n 3, 1) := by decide +kernel
theorem dX5_readAct_93 : decode cX5_readAct 93 = .ok (.iconst 0, 1) := by decide +kernel
theorem dX5_readAct_94 : decode cX5_readAct 94 = .ok (.invokevirtual 115, 3) := by decide +kernel
theorem dX5_readAct_97 : decode cX5_readAct 97 = .ok (.ifCond .eq 16, 3) := by decide +kernel
theorem dX5_readAct_100 : decode cX5_readAct 100 = .ok (.aload_n 0, 1) := by decide +kernel
theorem dX5_readAct_101 : decode cX5_readAct 101 = .ok (.bipush 59, 2) := by decide +kernel
theorem dX5_readAct_103 : decode cX5_readAct 103 = .ok (.invokevirtual 118, 3) := by decide +kernel
theorem dX5_readAct_106 : decode cX5_readAct 106 = .ok (.ifCond .eq 7, 3) := by decide +kernel
theorem dX5_readAct_109 : decode cX5_readAct 109 = .ok (.iconst 1, 1) := by decide +kernel
theorem dX5_readAct_110 : decode cX5_readAct 110 = .ok (.goto 4, 3) := by decide +kernel
theorem dX5_readAct_113 : decode cX5_readAct 113 = .ok (.iconst 0, 1) := by decide +kernel
theorem dX5_readAct_114 : decode cX5_readAct 114 = .ok (.ireturn, 1) := by decide +kernel
theorem dX5_readAct_115 : decode cX5_readAct 115 = .ok (.aload_n 0, 1) := by decide +kernel
theorem dX5_readAct_116 : decode cX5_readAct 116 = .ok (.iload_n 3, 1) := by decide +kernel
theorem dX5_readAct_117 : decode cX5_readAct 117 = .ok (.iload_n 1, 1) := by decide +kernel
theorem dX5_readAct_118 : decode cX5_readAct 118 = .ok (.invokevirtual 122, 3) := by decide +kernel
theorem dX5_readAct_121 : decode cX5_readAct 121 = .ok (.ireturn, 1) := by decide +kernel
theorem dX5_actKind_0 : decode cX5_actKind 0 = .ok (.aload_n 0, 1) := by decide +kernel
theorem dX5_actKind_1 : decode cX5_actKind 1 = .ok (.ldc 125, 2) := by decide +kernel
theorem dX5_actKind_3 : decode cX5_actKind 3 = .ok (.invokevirtual 127, 3) := by decide +kernel
theorem dX5_actKind_6 : decode cX5_actKind 6 = .ok (.ifCond .eq 5, 3) := by decide +kernel
theorem dX5_actKind_9 : decode cX5_actKind 9 = .ok (.iconst 1, 1) := by decide +kernel
theorem dX5_actKind_10 : decode cX5_actKind 10 = .ok (.ireturn, 1) := by decide +kernel
theorem dX5_actKind_11 : decode cX5_actKind 11 = .ok (.aload_n 0, 1) := by decide +kernel
theorem dX5_actKind_12 : decode cX5_actKind 12 = .ok (.ldc 131, 2) := by decide +kernel
theorem dX5_actKind_14 : decode cX5_actKind 14 = .ok (.invokevirtual 127, 3) := by decide +kernel
theorem dX5_actKind_17 : decode cX5_actKind 17 = .ok (.ifCond .eq 5, 3) := by decide +kernel
theorem dX5_actKind_20 : decode cX5_actKind 20 = .ok (.iconst 2, 1) := by decide +kernel
theorem dX5_actKind_21 : decode cX5_actKind 21 = .ok (.ireturn, 1) := by decide +kernel
theorem dX5_actKind_22 : decode cX5_actKind 22 = .ok (.aload_n 0, 1) := by decide +kernel
theorem dX5_actKind_23 : decode cX5_actKind 23 = .ok (.ldc 133, 2) := by decide +kernel
theorem dX5_actKind_25 : decode cX5_actKind 25 = .ok (.invokevirtual 127, 3) := by decide +kernel
theorem dX5_actKind_28 : decode cX5_actKind 28 = .ok (.ifCond .eq 5, 3) := by decide +kernel
theorem dX5_actKind_31 : decode cX5_actKind 31 = .ok (.iconst 3, 1) := by decide +kernel
theorem dX5_actKind_32 : decode cX5_actKind 32 = .ok (.ireturn, 1) := by decide +kernel
theorem dX5_actKind_33 : decode cX5_actKind 33 = .ok (.aload_n 0, 1) := by decide +kernel
theorem dX5_actKind_34 : decode cX5_actKind 34 = .ok (.ldc 135, 2) := by decide +kernel
theorem dX5_actKind_36 : decode cX5_actKind 36 = .ok (.invokevirtual 127, 3) := by decide +kernel
theorem dX5_actKind_39 : decode cX5_actKind 39 = .ok (.ifCond .eq 5, 3) := by decide +kernel
theorem dX5_actKind_42 : decode cX5_actKind 42 = .ok (.iconst 4, 1) := by decide +kernel
theorem dX5_actKind_43 : decode cX5_actKind 43 = .ok (.ireturn, 1) := by decide +kernel
theorem dX5_actKind_44 : decode cX5_actKind 44 = .ok (.aload_n 0, 1) := by decide +kernel
theorem dX5_actKind_45 : decode cX5_actKind 45 = .ok (.ldc 137, 2) := by decide +kernel
theorem dX5_actKind_47 : decode cX5_actKind 47 = .ok (.invokevirtual 127, 3) := by decide +kernel
theorem dX5_actKind_50 : decode cX5_actKind 50 = .ok (.ifCond .eq 7, 3) := by decide +kernel
theorem dX5_actKind_53 : decode cX5_actKind 53 = .ok (.iconst 5, 1) := by decide +kernel
theorem dX5_actKind_54 : decode cX5_actKind 54 = .ok (.goto 4, 3) := by decide +kernel
theorem dX5_actKind_57 : decode cX5_actKind 57 = .ok (.iconst (-1), 1) := by decide +kernel
theorem dX5_actKind_58 : decode cX5_actKind 58 = .ok (.ireturn, 1) := by decide +kernel
theorem dX5_readPaste_0 : decode cX5_readPaste 0 = .ok (.aload_n 0, 1) := by decide +kernel
theorem dX5_readPaste_1 : decode cX5_readPaste 1 = .ok (.iload_n 1, 1) := by decide +kernel
theorem dX5_readPaste_2 : decode cX5_readPaste 2 = .ok (.iconst 0, 1) := by decide +kernel
theorem dX5_readPaste_3 : decode cX5_readPaste 3 = .ok (.iconst 0, 1) := by decide +kernel
theorem dX5_readPaste_4 : decode cX5_readPaste 4 = .ok (.iconst 4, 1) := by decide +kernel
theorem dX5_readPaste_5 : decode cX5_readPaste 5 = .ok (.invokevirtual 139, 3) := by decide +kernel
theorem dX5_readPaste_8 : decode cX5_readPaste 8 = .ok (.ifCond .eq 12, 3) := by decide +kernel
theorem dX5_readPaste_11 : decode cX5_readPaste 11 = .ok (.aload_n 0, 1) := by decide +kernel
theorem dX5_readPaste_12 : decode cX5_readPaste 12 = .ok (.iload_n 1, 1) := by decide +kernel
theorem dX5_readPaste_13 : decode cX5_readPaste 13 = .ok (.iconst 1, 1) := by decide +kernel
theorem dX5_readPaste_14 : decode cX5_readPaste 14 = .ok (.invokevirtual 115, 3) := by decide +kernel
theorem dX5_readPaste_17 : decode cX5_readPaste 17 = .ok (.ifCond .ne 5, 3) := by decide +kernel
theorem dX5_readPaste_20 : decode cX5_readPaste 20 = .ok (.iconst 0, 1) := by decide +kernel
theorem dX5_readPaste_21 : decode cX5_readPaste 21 = .ok (.ireturn, 1) := by decide +kernel
theorem dX5_readPaste_22 : decode cX5_readPaste 22 = .ok (.aload_n 0, 1) := by decide +kernel
theorem dX5_readPaste_23 : decode cX5_readPaste 23 = .ok (.ldc 143, 2) := by decide +kernel
theorem dX5_readPaste_25 : decode cX5_readPaste 25 = .ok (.invokevirtual 127, 3) := by decide +kernel
theorem dX5_readPaste_28 : decode cX5_readPaste 28 = .ok (.ifCond .ne 9, 3) := by decide +kernel
theorem dX5_readPaste_31 : decode cX5_readPaste 31 = .ok (.aload_n 0, 1) := by decide +kernel
theorem dX5_readPaste_32 : decode cX5_readPaste 32 = .ok (.iconst 1, 1) := by decide +kernel
theorem dX5_readPaste_33 : decode cX5_readPaste 33 = .ok (.invokevirtual 96, 3) := by decide +kernel
theorem dX5_readPaste_36 : decode cX5_readPaste 36 = .ok (.ireturn, 1) := by decide +kernel
theorem dX5_readPaste_37 : decode cX5_readPaste 37 = .ok (.aload_n 0, 1) := by decide +kernel
theorem dX5_readPaste_38 : decode cX5_readPaste 38 = .ok (.invokevirtual 45, 3) := by decide +kernel
theorem dX5_readPaste_41 : decode cX5_readPaste 41 = .ok (.aload_n 0, 1) := by decide +kernel
theorem dX5_readPaste_42 : decode cX5_readPaste 42 = .ok (.iload_n 1, 1) := by decide +kernel
theorem dX5_readPaste_43 : decode cX5_readPaste 43 = .ok (.iconst 5, 1) := by decide +kernel
theorem dX5_readPaste_44 : decode cX5_readPaste 44 = .ok (.iconst 0, 1) := by decide +kernel
theorem dX5_readPaste_45 : decode cX5_readPaste 45 = .ok (.bipush 99, 2) := by decide +kernel
theorem dX5_readPaste_47 : decode cX5_readPaste 47 = .ok (.invokevirtual 139, 3) := by decide +kernel
theorem dX5_readPaste_50 : decode cX5_readPaste 50 = .ok (.ifCond .eq 29, 3) := by decide +kernel
theorem dX5_readPaste_53 : decode cX5_readPaste 53 = .ok (.aload_n 0, 1) := by decide +kernel
theorem dX5_readPaste_54 : decode cX5_readPaste 54 = .ok (.iload_n 1, 1) := by decide +kernel
theorem dX5_readPaste_55 : decode cX5_readPaste 55 = .ok (.bipush 6, 2) := by decide +kernel
theorem dX5_readPaste_57 : decode cX5_readPaste 57 = .ok (.iconst 0, 1) := by decide +kernel
theorem dX5_readPaste_58 : decode cX5_readPaste 58 = .ok (.bipush 99, 2) := by decide +kernel
theorem dX5_readPaste_60 : decode cX5_readPaste 60 = .ok (.invokevirtual 139, 3) := by decide +kernel
theorem dX5_readPaste_63 : decode cX5_readPaste 63 = .ok (.ifCond .eq 16, 3) := by decide +kernel
theorem dX5_readPaste_66 : decode cX5_readPaste 66 = .ok (.aload_n 0, 1) := by decide +kernel
theorem dX5_readPaste_67 : decode cX5_readPaste 67 = .ok (.bipush 59, 2) := by decide +kernel
theorem dX5_readPaste_69 : decode cX5_readPaste 69 = .ok (.invokevirtual 118, 3) := by decide +kernel
theorem dX5_readPaste_72 : decode cX5_readPaste 72 = .ok (.ifCond .eq 7, 3) := by decide +kernel
theorem dX5_readPaste_75 : decode cX5_readPaste 75 = .ok (.iconst 1, 1) := by decide +kernel
theorem dX5_readPaste_76 : decode cX5_readPaste 76 = .ok (.goto 4, 3) := by decide +kernel
theorem dX5_readPaste_79 : decode cX5_readPaste 79 = .ok (.iconst 0, 1) := by decide +kernel
theorem dX5_readPaste_80 : decode cX5_readPaste 80 = .ok (.ireturn, 1) := by decide +kernel
theorem dX5_readPaint_0 : decode cX5_readPaint 0 = .ok (.aload_n 0, 1) := by decide +kernel
theorem dX5_readPaint_1 : decode cX5_readPaint 1 = .ok (.iload_n 1, 1) := by decide +kernel
theorem dX5_readPaint_2 : decode cX5_readPaint 2 = .ok (.iconst 0, 1) := by decide +kernel
theorem dX5_readPaint_3 : decode cX5_readPaint 3 = .ok (.invokevirtual 115, 3) := by decide +kernel
theorem dX5_readPaint_6 : decode cX5_readPaint 6 = .ok (.ifCond .ne 5, 3) := by decide +kernel
theorem dX5_readPaint_9 : decode cX5_readPaint 9 = .ok (.iconst 0, 1) := by decide +kernel
theorem dX5_readPaint_10 : decode cX5_readPaint 10 = .ok (.ireturn, 1) := by decide +kernel
theorem dX5_readPaint_11 : decode cX5_readPaint 11 = .ok (.aload_n 0, 1) := by decide +kernel
theorem dX5_readPaint_12 : decode cX5_readPaint 12 = .ok (.getfield 36, 3) := by decide +kernel
theorem dX5_readPaint_15 : decode cX5_readPaint 15 = .ok (.iload_n 1, 1) := by decide +kernel
theorem dX5_readPaint_16 : decode cX5_readPaint 16 = .ok (.iconst 4, 1) := by decide +kernel
theorem dX5_readPaint_17 : decode cX5_readPaint 17 = .ok (.aload_n 0, 1) := by decide +kernel
theorem dX5_readPaint_18 : decode cX5_readPaint 18 = .ok (.getfield 36, 3) := by decide +kernel
theorem dX5_readPaint_21 : decode cX5_readPaint 21 = .ok (.getfield 145, 3) := by decide +kernel
theorem dX5_readPaint_24 : decode cX5_readPaint 24 = .ok (.invokevirtual 148, 3) := by decide +kernel
theorem dX5_readPaint_27 : decode cX5_readPaint 27 = .ok (.aload_n 0, 1) := by decide +kernel
theorem dX5_readPaint_28 : decode cX5_readPaint 28 = .ok (.iload_n 2, 1) := by decide +kernel
theorem dX5_readPaint_29 : decode cX5_readPaint 29 = .ok (.invokevirtual 152, 3) := by decide +kernel
theorem dX5_readPaint_32 : decode cX5_readPaint 32 = .ok (.ifCond .ne 5, 3) := by decide +kernel
theorem dX5_readPaint_35 : decode cX5_readPaint 35 = .ok (.iconst 0, 1) := by decide +kernel
theorem dX5_readPaint_36 : decode cX5_readPaint 36 = .ok (.ireturn, 1) := by decide +kernel
theorem dX5_readPaint_37 : decode cX5_readPaint 37 = .ok (.aload_n 0, 1) := by decide +kernel
theorem dX5_readPaint_38 : decode cX5_readPaint 38 = .ok (.getfield 36, 3) := by decide +kernel
theorem dX5_readPaint_41 : decode cX5_readPaint 41 = .ok (.iload_n 1, 1) := by decide +kernel
theorem dX5_readPaint_42 : decode cX5_readPaint 42 = .ok (.iconst 5, 1) := by decide +kernel
theorem dX5_readPaint_43 : decode cX5_readPaint 43 = .ok (.aload_n 0, 1) := by decide +kernel
theorem dX5_readPaint_44 : decode cX5_readPaint 44 = .ok (.getfield 36, 3) := by decide +kernel
theorem dX5_readPaint_47 : decode cX5_readPaint 47 = .ok (.getfield 145, 3) := by decide +kernel
theorem dX5_readPaint_50 : decode cX5_readPaint 50 = .ok (.invokevirtual 148, 3) := by decide +kernel
theorem dX5_readPaint_53 : decode cX5_readPaint 53 = .ok (.aload_n 0, 1) := by decide +kernel
theorem dX5_readPaint_54 : decode cX5_readPaint 54 = .ok (.bipush 59, 2) := by decide +kernel
theorem dX5_readPaint_56 : decode cX5_readPaint 56 = .ok (.invokevirtual 118, 3) := by decide +kernel
theorem dX5_readPaint_59 : decode cX5_readPaint 59 = .ok (.ireturn, 1) := by decide +kernel
theorem dX5_readKeep_0 : decode cX5_readKeep 0 = .ok (.aload_n 0, 1) := by decide +kernel
theorem dX5_readKeep_1 : decode cX5_readKeep 1 = .ok (.iload_n 1, 1) := by decide +kernel
theorem dX5_readKeep_2 : decode cX5_readKeep 2 = .ok (.iconst 0, 1) := by decide +kernel
theorem dX5_readKeep_3 : decode cX5_readKeep 3 = .ok (.iconst 2, 1) := by decide +kernel
theorem dX5_readKeep_4 : decode cX5_readKeep 4 = .ok (.bipush 50, 2) := by decide +kernel
theorem dX5_readKeep_6 : decode cX5_readKeep 6 = .ok (.invokevirtual 139, 3) := by decide +kernel
theorem dX5_readKeep_9 : decode cX5_readKeep 9 = .ok (.ifCond .eq 31, 3) := by decide +kernel
theorem dX5_readKeep_12 : decode cX5_readKeep 12 = .ok (.aload_n 0, 1) := by decide +kernel
theorem dX5_readKeep_13 : decode cX5_readKeep 13 = .ok (.iload_n 1, 1) := by decide +kernel
theorem dX5_readKeep_14 : decode cX5_readKeep 14 = .ok (.iconst 1, 1) := by decide +kernel
theorem dX5_readKeep_15 : decode cX5_readKeep 15 = .ok (.iconst 0, 1) := by decide +kernel
theorem dX5_readKeep_16 : decode cX5_readKeep 16 = .ok (.bipush 99, 2) := by decide +kernel
theorem dX5_readKeep_18 : decode cX5_readKeep 18 = .ok (.invokevirtual 139, 3) := by decide +kernel
theorem dX5_readKeep_21 : decode cX5_readKeep 21 = .ok (.ifCond .eq 19, 3) := by decide +kernel
theorem dX5_readKeep_24 : decode cX5_readKeep 24 = .ok (.aload_n 0, 1) := by decide +kernel
theorem dX5_readKeep_25 : decode cX5_readKeep 25 = .ok (.iload_n 1, 1) := by decide +kernel
theorem dX5_readKeep_26 : decode cX5_readKeep 26 = .ok (.iconst 2, 1) := by decide +kernel
theorem dX5_readKeep_27 : decode cX5_readKeep 27 = .ok (.iconst 0, 1) := by decide +kernel
theorem dX5_readKeep_28 : decode cX5_readKeep 28 = .ok (.bipush 99, 2) := by decide +kernel
theorem dX5_readKeep_30 : decode cX5_readKeep 30 = .ok (.invokevirtual 139, 3) := by decide +kernel
theorem dX5_readKeep_33 : decode cX5_readKeep 33 = .ok (.ifCond .eq 7, 3) := by decide +kernel
theorem dX5_readKeep_36 : decode cX5_readKeep 36 = .ok (.iconst 1, 1) := by decide +kernel
theorem dX5_readKeep_37 : decode cX5_readKeep 37 = .ok (.goto 4, 3) := by decide +kernel
theorem dX5_readKeep_40 : decode cX5_readKeep 40 = .ok (.iconst 0, 1) := by decide +kernel
theorem dX5_readKeep_41 : decode cX5_readKeep 41 = .ok (.istore_n 2, 1) := by decide +kernel
theorem dX5_readKeep_42 : decode cX5_readKeep 42 = .ok (.iload_n 2, 1) := by decide +kernel
theorem dX5_readKeep_43 : decode cX5_readKeep 43 = .ok (.ifCond .eq 16, 3) := by decide +kernel
theorem dX5_readKeep_46 : decode cX5_readKeep 46 = .ok (.aload_n 0, 1) := by decide +kernel
theorem dX5_readKeep_47 : decode cX5_readKeep 47 = .ok (.bipush 59, 2) := by decide +kernel
theorem dX5_readKeep_49 : decode cX5_readKeep 49 = .ok (.invokevirtual 118, 3) := by decide +kernel
theorem dX5_readKeep_52 : decode cX5_readKeep 52 = .ok (.ifCond .eq 7, 3) := by decide +kernel
theorem dX5_readKeep_55 : decode cX5_readKeep 55 = .ok (.iconst 1, 1) := by decide +kernel
theorem dX5_readKeep_56 : decode cX5_readKeep 56 = .ok (.goto 4, 3) := by decide +kernel
theorem dX5_readKeep_59 : decode cX5_readKeep 59 = .ok (.iconst 0, 1) := by decide +kernel
theorem dX5_readKeep_60 : decode cX5_readKeep 60 = .ok (.ireturn, 1) := by decide +kernel
theorem dX5_readRepeat_0 : decode cX5_readRepeat 0 = .ok (.aload_n 0, 1) := by decide +kernel
theorem dX5_readRepeat_1 : decode cX5_readRepeat 1 = .ok (.iload_n 1, 1) := by decide +kernel
theorem dX5_readRepeat_2 : decode cX5_readRepeat 2 = .ok (.iconst 0, 1) := by decide +kernel
theorem dX5_readRepeat_3 : decode cX5_readRepeat 3 = .ok (.iconst 1, 1) := by decide +kernel
theorem dX5_readRepeat_4 : decode cX5_readRepeat 4 = .ok (.bipush 9, 2) := by decide +kernel
theorem dX5_readRepeat_6 : decode cX5_readRepeat 6 = .ok (.invokevirtual 139, 3) := by decide +kernel
theorem dX5_readRepeat_9 : decode cX5_readRepeat 9 = .ok (.ifCond .eq 13, 3) := by decide +kernel
theorem dX5_readRepeat_12 : decode cX5_readRepeat 12 = .ok (.aload_n 0, 1) := by decide +kernel
theorem dX5_readRepeat_13 : decode cX5_readRepeat 13 = .ok (.bipush 123, 2) := by decide +kernel
theorem dX5_readRepeat_15 : decode cX5_readRepeat 15 = .ok (.iload_n 2, 1) := by decide +kernel
theorem dX5_readRepeat_16 : decode cX5_readRepeat 16 = .ok (.invokevirtual 155, 3) := by decide +kernel
theorem dX5_readRepeat_19 : decode cX5_readRepeat 19 = .ok (.ifCond .ne 5, 3) := by decide +kernel
theorem dX5_readRepeat_22 : decode cX5_readRepeat 22 = .ok (.iconst 0, 1) := by decide +kernel
theorem dX5_readRepeat_23 : decode cX5_readRepeat 23 = .ok (.ireturn, 1) := by decide +kernel
theorem dX5_readRepeat_24 : decode cX5_readRepeat 24 = .ok (.aload_n 0, 1) := by decide +kernel
theorem dX5_readRepeat_25 : decode cX5_readRepeat 25 = .ok (.iload_n 2, 1) := by decide +kernel
theorem dX5_readRepeat_26 : decode cX5_readRepeat 26 = .ok (.iconst 1, 1) := by decide +kernel
theorem dX5_readRepeat_27 : decode cX5_readRepeat 27 = .ok (.iadd, 1) := by decide +kernel
theorem dX5_readRepeat_28 : decode cX5_readRepeat 28 = .ok (.iconst 1, 1) := by decide +kernel
theorem dX5_readRepeat_29 : decode cX5_readRepeat 29 = .ok (.invokevirtual 48, 3) := by decide +kernel
theorem dX5_readRepeat_32 : decode cX5_readRepeat 32 = .ok (.ifCond .ne 5, 3) := by decide +kernel
theorem dX5_readRepeat_35 : decode cX5_readRepeat 35 = .ok (.iconst 0, 1) := by decide +kernel
theorem dX5_readRepeat_36 : decode cX5_readRepeat 36 = .ok (.ireturn, 1) := by decide +kernel
theorem dX5_readRepeat_37 : decode cX5_readRepeat 37 = .ok (.aload_n 0, 1) := by decide +kernel
theorem dX5_readRepeat_38 : decode cX5_readRepeat 38 = .ok (.getfield 36, 3) := by decide +kernel
theorem dX5_readRepeat_41 : decode cX5_readRepeat 41 = .ok (.iload_n 1, 1) := by decide +kernel
theorem dX5_readRepeat_42 : decode cX5_readRepeat 42 = .ok (.iconst 1, 1) := by decide +kernel
theorem dX5_readRepeat_43 : decode cX5_readRepeat 43 = .ok (.aload_n 0, 1) := by decide +kernel
theorem dX5_readRepeat_44 : decode cX5_readRepeat 44 = .ok (.getfield 36, 3) := by decide +kernel
theorem dX5_readRepeat_47 : decode cX5_readRepeat 47 = .ok (.getfield 159, 3) := by decide +kernel
theorem dX5_readRepeat_50 : decode cX5_readRepeat 50 = .ok (.invokevirtual 148, 3) := by decide +kernel
theorem dX5_readRepeat_53 : decode cX5_readRepeat 53 = .ok (.aload_n 0, 1) := by decide +kernel
theorem dX5_readRepeat_54 : decode cX5_readRepeat 54 = .ok (.bipush 125, 2) := by decide +kernel
theorem dX5_readRepeat_56 : decode cX5_readRepeat 56 = .ok (.invokevirtual 118, 3) := by decide +kernel
theorem dX5_readRepeat_59 : decode cX5_readRepeat 59 = .ok (.ireturn, 1) := by decide +kernel
theorem dX5_readField_0 : decode cX5_readField 0 = .ok (.aload_n 0, 1) := by decide +kernel
theorem dX5_readField_1 : decode cX5_readField 1 = .ok (.iload_n 1, 1) := by decide +kernel
theorem dX5_readField_2 : decode cX5_readField 2 = .ok (.iload_n 2, 1) := by decide +kernel
theorem dX5_readField_3 : decode cX5_readField 3 = .ok (.iconst 0, 1) := by decide +kernel
theorem dX5_readField_4 : decode cX5_readField 4 = .ok (.bipush 99, 2) := by decide +kernel
theorem dX5_readField_6 : decode cX5_readField 6 = .ok (.invokevirtual 139, 3) := by decide +kernel
theorem dX5_readField_9 : decode cX5_readField 9 = .ok (.ifCond .eq 21, 3) := by decide +kernel
theorem dX5_readField_12 : decode cX5_readField 12 = .ok (.aload_n 0, 1) := by decide +kernel
theorem dX5_readField_13 : decode cX5_readField 13 = .ok (.iload_n 1, 1) := by decide +kernel
theorem dX5_readField_14 : decode cX5_readField 14 = .ok (.iload_n 2, 1) := by decide +kernel
theorem dX5_readField_15 : decode cX5_readField 15 = .ok (.iconst 1, 1) := by decide +kernel
theorem dX5_readField_16 : decode cX5_readField 16 = .ok (.iadd, 1) := by decide +kernel
theorem dX5_readField_17 : decode cX5_readField 17 = .ok (.iconst 0, 1) := by decide +kernel
theorem dX5_readField_18 : decode cX5_readField 18 = .ok (.bipush 99, 2) := by decide +kernel
theorem dX5_readField_20 : decode cX5_readField 20 = .ok (.invokevirtual 139, 3) := by decide +kernel
theorem dX5_readField_23 : decode cX5_readField 23 = .ok (.ifCond .eq 7, 3) := by decide +kernel
theorem dX5_readField_26 : decode cX5_readField 26 = .ok (.iconst 1, 1) := by decide +kernel
theorem dX5_readField_27 : decode cX5_readField 27 = .ok (.goto 4, 3) := by decide +kernel
theorem dX5_readField_30 : decode cX5_readField 30 = .ok (.iconst 0, 1) := by decide +kernel
theorem dX5_readField_31 : decode cX5_readField 31 = .ok (.istore_n 3, 1) := by decide +kernel
theorem dX5_readField_32 : decode cX5_readField 32 = .ok (.iload_n 3, 1) := by decide +kernel
theorem dX5_readField_33 : decode cX5_readField 33 = .ok (.ifCond .eq 35, 3) := by decide +kernel
theorem dX5_readField_36 : decode cX5_readField 36 = .ok (.aload_n 0, 1) := by decide +kernel
theorem dX5_readField_37 : decode cX5_readField 37 = .ok (.iload_n 1, 1) := by decide +kernel
theorem dX5_readField_38 : decode cX5_readField 38 = .ok (.iload_n 2, 1) := by decide +kernel
theorem dX5_readField_39 : decode cX5_readField 39 = .ok (.iconst 2, 1) := by decide +kernel
theorem dX5_readField_40 : decode cX5_readField 40 = .ok (.iadd, 1) := by decide +kernel
theorem dX5_readField_41 : decode cX5_readField 41 = .ok (.iconst 1, 1) := by decide +kernel
theorem dX5_readField_42 : decode cX5_readField 42 = .ok (.bipush 99, 2) := by decide +kernel
theorem dX5_readField_44 : decode cX5_readField 44 = .ok (.invokevirtual 139, 3) := by decide +kernel
theorem dX5_readField_47 : decode cX5_readField 47 = .ok (.ifCond .eq 21, 3) := by decide +kernel
theorem dX5_readField_50 : decode cX5_readField 50 = .ok (.aload_n 0, 1) := by decide +kernel
theorem dX5_readField_51 : decode cX5_readField 51 = .ok (.iload_n 1, 1) := by decide +kernel
theorem dX5_readField_52 : decode cX5_readField 52 = .ok (.iload_n 2, 1) := by decide +kernel
theorem dX5_readField_53 : decode cX5_readField 53 = .ok (.iconst 3, 1) := by decide +kernel
theorem dX5_readField_54 : decode cX5_readField 54 = .ok (.iadd, 1) := by decide +kernel
theorem dX5_readField_55 : decode cX5_readField 55 = .ok (.iconst 1, 1) := by decide +kernel
theorem dX5_readField_56 : decode cX5_readField 56 = .ok (.bipush 99, 2) := by decide +kernel
theorem dX5_readField_58 : decode cX5_readField 58 = .ok (.invokevirtual 139, 3) := by decide +kernel
theorem dX5_readField_61 : decode cX5_readField 61 = .ok (.ifCond .eq 7, 3) := by decide +kernel
theorem dX5_readField_64 : decode cX5_readField 64 = .ok (.iconst 1, 1) := by decide +kernel
theorem dX5_readField_65 : decode cX5_readField 65 = .ok (.goto 4, 3) := by decide +kernel
theorem dX5_readField_68 : decode cX5_readField 68 = .ok (.iconst 0, 1) := by decide +kernel
theorem dX5_readField_69 : decode cX5_readField 69 = .ok (.ireturn, 1) := by decide +kernel
theorem dX5_readNumber_0 : decode cX5_readNumber 0 = .ok (.aload_n 0, 1) := by decide +kernel
theorem dX5_readNumber_1 : decode cX5_readNumber 1 = .ok (.getfield 63, 3) := by decide +kernel
theorem dX5_readNumber_4 : decode cX5_readNumber 4 = .ok (.iconst 2, 1) := by decide +kernel
theorem dX5_readNumber_5 : decode cX5_readNumber 5 = .ok (.if_icmp .eq 9, 3) := by decide +kernel
theorem dX5_readNumber_8 : decode cX5_readNumber 8 = .ok (.aload_n 0, 1) := by decide +kernel
theorem dX5_readNumber_9 : decode cX5_readNumber 9 = .ok (.iconst 1, 1) := by decide +kernel
theorem dX5_readNumber_10 : decode cX5_readNumber 10 = .ok (.invokevirtual 96, 3) := by decide +kernel
theorem dX5_readNumber_13 : decode cX5_readNumber 13 = .ok (.ireturn, 1) := by decide +kernel
theorem dX5_readNumber_14 : decode cX5_readNumber 14 = .ok (.aload_n 0, 1) := by decide +kernel
theorem dX5_readNumber_15 : decode cX5_readNumber 15 = .ok (.getfield 72, 3) := by decide +kernel
theorem dX5_readNumber_18 : decode cX5_readNumber 18 = .ok (.iload_n 3, 1) := by decide +kernel
theorem dX5_readNumber_19 : decode cX5_readNumber 19 = .ok (.iload 4, 2) := by decide +kernel
theorem dX5_readNumber_21 : decode cX5_readNumber 21 = .ok (.invokestatic 22, 3) := by decide +kernel
theorem dX5_readNumber_24 : decode cX5_readNumber 24 = .ok (.ifCond .ne 9, 3) := by decide +kernel
theorem dX5_readNumber_27 : decode cX5_readNumber 27 = .ok (.aload_n 0, 1) := by decide +kernel
theorem dX5_readNumber_28 : decode cX5_readNumber 28 = .ok (.iconst 2, 1) := by decide +kernel
theorem dX5_readNumber_29 : decode cX5_readNumber 29 = .ok (.invokevirtual 96, 3) := by decide +kernel
theorem dX5_readNumber_32 : decode cX5_readNumber 32 = .ok (.ireturn, 1) := by decide +kernel
theorem dX5_readNumber_33 : decode cX5_readNumber 33 = .ok (.aload_n 0, 1) := by decide +kernel
theorem dX5_readNumber_34 : decode cX5_readNumber 34 = .ok (.getfield 36, 3) := by decide +kernel
theorem dX5_readNumber_37 : decode cX5_readNumber 37 = .ok (.iload_n 1, 1) := by decide +kernel
theorem dX5_readNumber_38 : decode cX5_readNumber 38 = .ok (.iload_n 2, 1) := by decide +kernel
theorem dX5_readNumber_39 : decode cX5_readNumber 39 = .ok (.aload_n 0, 1) := by decide +kernel
theorem dX5_readNumber_40 : decode cX5_readNumber 40 = .ok (.getfield 72, 3) := by decide +kernel
theorem dX5_readNumber_43 : decode cX5_readNumber 43 = .ok (.invokevirtual 148, 3) := by decide +kernel
theorem dX5_readNumber_46 : decode cX5_readNumber 46 = .ok (.aload_n 0, 1) := by decide +kernel
theorem dX5_readNumber_47 : decode cX5_readNumber 47 = .ok (.invokevirtual 45, 3) := by decide +kernel
theorem dX5_readNumber_50 : decode cX5_readNumber 50 = .ok (.iconst 1, 1) := by decide +kernel
theorem dX5_readNumber_51 : decode cX5_readNumber 51 = .ok (.ireturn, 1) := by decide +kernel
theorem dX5_pass_0 : decode cX5_pass 0 = .ok (.aload_n 0, 1) := by decide +kernel
theorem dX5_pass_1 : decode cX5_pass 1 = .ok (.getfield 63, 3) := by decide +kernel
theorem dX5_pass_4 : decode cX5_pass 4 = .ok (.iload_n 1, 1) := by decide +kernel
theorem dX5_pass_5 : decode cX5_pass 5 = .ok (.if_icmp .eq 9, 3) := by decide +kernel
theorem dX5_pass_8 : decode cX5_pass 8 = .ok (.aload_n 0, 1) := by decide +kernel
theorem dX5_pass_9 : decode cX5_pass 9 = .ok (.iconst 1, 1) := by decide +kernel
theorem dX5_pass_10 : decode cX5_pass 10 = .ok (.invokevirtual 96, 3) := by decide +kernel
theorem dX5_pass_13 : decode cX5_pass 13 = .ok (.ireturn, 1) := by decide +kernel
theorem dX5_pass_14 : decode cX5_pass 14 = .ok (.aload_n 0, 1) := by decide +kernel
theorem dX5_pass_15 : decode cX5_pass 15 = .ok (.invokevirtual 45, 3) := by decide +kernel
theorem dX5_pass_18 : decode cX5_pass 18 = .ok (.iconst 1, 1) := by decide +kernel
theorem dX5_pass_19 : decode cX5_pass 19 = .ok (.ireturn, 1) := by decide +kernel
theorem dX5_passOpening_0 : decode cX5_passOpening 0 = .ok (.aload_n 0, 1) := by decide +kernel
theorem dX5_passOpening_1 : decode cX5_passOpening 1 = .ok (.getfield 63, 3) := by decide +kernel
theorem dX5_passOpening_4 : decode cX5_passOpening 4 = .ok (.iload_n 1, 1) := by decide +kernel
theorem dX5_passOpening_5 : decode cX5_passOpening 5 = .ok (.if_icmp .eq 9, 3) := by decide +kernel
theorem dX5_passOpening_8 : decode cX5_passOpening 8 = .ok (.aload_n 0, 1) := by decide +kernel
theorem dX5_passOpening_9 : decode cX5_passOpening 9 = .ok (.iconst 1, 1) := by decide +kernel
theorem dX5_passOpening_10 : decode cX5_passOpening 10 = .ok (.invokevirtual 96, 3) := by decide +kernel
theorem dX5_passOpening_13 : decode cX5_passOpening 13 = .ok (.ireturn, 1) := by decide +kernel
theorem dX5_passOpening_14 : decode cX5_passOpening 14 = .ok (.iload_n 2, 1) := by decide +kernel
theorem dX5_passOpening_15 : decode cX5_passOpening 15 = .ok (.bipush 8, 2) := by decide +kernel
theorem dX5_passOpening_17 : decode cX5_passOpening 17 = .ok (.if_icmp .lt 9, 3) := by decide +kernel
theorem dX5_passOpening_20 : decode cX5_passOpening 20 = .ok (.aload_n 0, 1) := by decide +kernel
theorem dX5_passOpening_21 : decode cX5_passOpening 21 = .ok (.iconst 3, 1) := by decide +kernel
theorem dX5_passOpening_22 : decode cX5_passOpening 22 = .ok (.invokevirtual 96, 3) := by decide +kernel
theorem dX5_passOpening_25 : decode cX5_passOpening 25 = .ok (.ireturn, 1) := by decide +kernel
theorem dX5_passOpening_26 : decode cX5_passOpening 26 = .ok (.aload_n 0, 1) := by decide +kernel
theorem dX5_passOpening_27 : decode cX5_passOpening 27 = .ok (.invokevirtual 45, 3) := by decide +kernel
theorem dX5_passOpening_30 : decode cX5_passOpening 30 = .ok (.iconst 1, 1) := by decide +kernel
theorem dX5_passOpening_31 : decode cX5_passOpening 31 = .ok (.ireturn, 1) := by decide +kernel
theorem dX5_readSum_0 : decode cX5_readSum 0 = .ok (.aload_n 0, 1) := by decide +kernel
theorem dX5_readSum_1 : decode cX5_readSum 1 = .ok (.iload_n 1, 1) := by decide +kernel
theorem dX5_readSum_2 : decode cX5_readSum 2 = .ok (.invokevirtual 162, 3) := by decide +kernel
theorem dX5_readSum_5 : decode cX5_readSum 5 = .ok (.ifCond .ne 5, 3) := by decide +kernel
theorem dX5_readSum_8 : decode cX5_readSum 8 = .ok (.iconst 0, 1) := by decide +kernel
theorem dX5_readSum_9 : decode cX5_readSum 9 = .ok (.ireturn, 1) := by decide +kernel
theorem dX5_readSum_10 : decode cX5_readSum 10 = .ok (.iconst 0, 1) := by decide +kernel
theorem dX5_readSum_11 : decode cX5_readSum 11 = .ok (.istore_n 2, 1) := by decide +kernel
theorem dX5_readSum_12 : decode cX5_readSum 12 = .ok (.iload_n 2, 1) := by decide +kernel
theorem dX5_readSum_13 : decode cX5_readSum 13 = .ok (.sipush 300, 3) := by decide +kernel
theorem dX5_readSum_16 : decode cX5_readSum 16 = .ok (.if_icmp .ge 68, 3) := by decide +kernel
theorem dX5_readSum_19 : decode cX5_readSum 19 = .ok (.aload_n 0, 1) := by decide +kernel
theorem dX5_readSum_20 : decode cX5_readSum 20 = .ok (.getfield 63, 3) := by decide +kernel
theorem dX5_readSum_23 : decode cX5_readSum 23 = .ok (.bipush 43, 2) := by decide +kernel
theorem dX5_readSum_25 : decode cX5_readSum 25 = .ok (.if_icmp .eq 12, 3) := by decide +kernel
theorem dX5_readSum_28 : decode cX5_readSum 28 = .ok (.aload_n 0, 1) := by decide +kernel
theorem dX5_readSum_29 : decode cX5_readSum 29 = .ok (.getfield 63, 3) := by decide +kernel
theorem dX5_readSum_32 : decode cX5_readSum 32 = .ok (.bipush 45, 2) := by decide +kernel
theorem dX5_readSum_34 : decode cX5_readSum 34 = .ok (.if_icmp .ne 50, 3) := by decide +kernel
theorem dX5_readSum_37 : decode cX5_readSum 37 = .ok (.aload_n 0, 1) := by decide +kernel
theorem dX5_readSum_38 : decode cX5_readSum 38 = .ok (.getfield 63, 3) := by decide +kernel
theorem dX5_readSum_41 : decode cX5_readSum 41 = .ok (.bipush 43, 2) := by decide +kernel
theorem dX5_readSum_43 : decode cX5_readSum 43 = .ok (.if_icmp .ne 9, 3) := by decide +kernel
theorem dX5_readSum_46 : decode cX5_readSum 46 = .ok (.sipush 1006, 3) := by decide +kernel
theorem dX5_readSum_49 : decode cX5_readSum 49 = .ok (.goto 6, 3) := by decide +kernel
theorem dX5_readSum_52 : decode cX5_readSum 52 = .ok (.sipush 1007, 3) := by decide +kernel
theorem dX5_readSum_55 : decode cX5_readSum 55 = .ok (.istore_n 3, 1) := by decide +kernel
theorem dX5_readSum_56 : decode cX5_readSum 56 = .ok (.aload_n 0, 1) := by decide +kernel
theorem dX5_readSum_57 : decode cX5_readSum 57 = .ok (.invokevirtual 45, 3) := by decide +kernel
theorem dX5_readSum_60 : decode cX5_readSum 60 = .ok (.aload_n 0, 1) := by decide +kernel
theorem dX5_readSum_61 : decode cX5_readSum 61 = .ok (.iload_n 1, 1) := by decide +kernel
theorem dX5_readSum_62 : decode cX5_readSum 62 = .ok (.invokevirtual 162, 3) := by decide +kernel
theorem dX5_readSum_65 : decode cX5_readSum 65 = .ok (.ifCond .ne 5, 3) := by decide +kernel
theorem dX5_readSum_68 : decode cX5_readSum 68 = .ok (.iconst 0, 1) := by decide +kernel
theorem dX5_readSum_69 : decode cX5_readSum 69 = .ok (.ireturn, 1) := by decide +kernel
theorem dX5_readSum_70 : decode cX5_readSum 70 = .ok (.aload_n 0, 1) := by decide +kernel
theorem dX5_readSum_71 : decode cX5_readSum 71 = .ok (.getfield 36, 3) := by decide +kernel
theorem dX5_readSum_74 : decode cX5_readSum 74 = .ok (.iload_n 3, 1) := by decide +kernel
theorem dX5_readSum_75 : decode cX5_readSum 75 = .ok (.invokevirtual 165, 3) := by decide +kernel
theorem dX5_readSum_78 : decode cX5_readSum 78 = .ok (.iinc 2 1, 3) := by decide +kernel
theorem dX5_readSum_81 : decode cX5_readSum 81 = .ok (.goto (-69), 3) := by decide +kernel
theorem dX5_readSum_84 : decode cX5_readSum 84 = .ok (.iconst 1, 1) := by decide +kernel
theorem dX5_readSum_85 : decode cX5_readSum 85 = .ok (.ireturn, 1) := by decide +kernel
theorem dX5_readProduct_0 : decode cX5_readProduct 0 = .ok (.aload_n 0, 1) := by decide +kernel
theorem dX5_readProduct_1 : decode cX5_readProduct 1 = .ok (.iload_n 1, 1) := by decide +kernel
theorem dX5_readProduct_2 : decode cX5_readProduct 2 = .ok (.invokevirtual 169, 3) := by decide +kernel
theorem dX5_readProduct_5 : decode cX5_readProduct 5 = .ok (.ifCond .ne 5, 3) := by decide +kernel
theorem dX5_readProduct_8 : decode cX5_readProduct 8 = .ok (.iconst 0, 1) := by decide +kernel
theorem dX5_readProduct_9 : decode cX5_readProduct 9 = .ok (.ireturn, 1) := by decide +kernel
theorem dX5_readProduct_10 : decode cX5_readProduct 10 = .ok (.iconst 0, 1) := by decide +kernel
theorem dX5_readProduct_11 : decode cX5_readProduct 11 = .ok (.istore_n 2, 1) := by decide +kernel
theorem dX5_readProduct_12 : decode cX5_readProduct 12 = .ok (.iload_n 2, 1) := by decide +kernel
theorem dX5_readProduct_13 : decode cX5_readProduct 13 = .ok (.sipush 300, 3) := by decide +kernel
theorem dX5_readProduct_16 : decode cX5_readProduct 16 = .ok (.if_icmp .ge 68, 3) := by decide +kernel
theorem dX5_readProduct_19 : decode cX5_readProduct 19 = .ok (.aload_n 0, 1) := by decide +kernel
theorem dX5_readProduct_20 : decode cX5_readProduct 20 = .ok (.getfield 63, 3) := by decide +kernel
theorem dX5_readProduct_23 : decode cX5_readProduct 23 = .ok (.bipush 42, 2) := by decide +kernel
theorem dX5_readProduct_25 : decode cX5_readProduct 25 = .ok (.if_icmp .eq 12, 3) := by decide +kernel
theorem dX5_readProduct_28 : decode cX5_readProduct 28 = .ok (.aload_n 0, 1) := by decide +kernel
theorem dX5_readProduct_29 : decode cX5_readProduct 29 = .ok (.getfield 63, 3) := by decide +kernel
theorem dX5_readProduct_32 : decode cX5_readProduct 32 = .ok (.bipush 47, 2) := by decide +kernel
theorem dX5_readProduct_34 : decode cX5_readProduct 34 = .ok (.if_icmp .ne 50, 3) := by decide +kernel
theorem dX5_readProduct_37 : decode cX5_readProduct 37 = .ok (.aload_n 0, 1) := by decide +kernel
theorem dX5_readProduct_38 : decode cX5_readProduct 38 = .ok (.getfield 63, 3) := by decide +kernel
theorem dX5_readProduct_41 : decode cX5_readProduct 41 = .ok (.bipush 42, 2) := by decide +kernel
theorem dX5_readProduct_43 : decode cX5_readProduct 43 = .ok (.if_icmp .ne 9, 3) := by decide +kernel
theorem dX5_readProduct_46 : decode cX5_readProduct 46 = .ok (.sipush 1008, 3) := by decide +kernel
theorem dX5_readProduct_49 : decode cX5_readProduct 49 = .ok (.goto 6, 3) := by decide +kernel
theorem dX5_readProduct_52 : decode cX5_readProduct 52 = .ok (.sipush 1009, 3) := by decide +kernel
theorem dX5_readProduct_55 : decode cX5_readProduct 55 = .ok (.istore_n 3, 1) := by decide +kernel
theorem dX5_readProduct_56 : decode cX5_readProduct 56 = .ok (.aload_n 0, 1) := by decide +kernel
theorem dX5_readProduct_57 : decode cX5_readProduct 57 = .ok (.invokevirtual 45, 3) := by decide +kernel
theorem dX5_readProduct_60 : decode cX5_readProduct 60 = .ok (.aload_n 0, 1) := by decide +kernel
theorem dX5_readProduct_61 : decode cX5_readProduct 61 = .ok (.iload_n 1, 1) := by decide +kernel
theorem dX5_readProduct_62 : decode cX5_readProduct 62 = .ok (.invokevirtual 169, 3) := by decide +kernel
theorem dX5_readProduct_65 : decode cX5_readProduct 65 = .ok (.ifCond .ne 5, 3) := by decide +kernel
theorem dX5_readProduct_68 : decode cX5_readProduct 68 = .ok (.iconst 0, 1) := by decide +kernel
theorem dX5_readProduct_69 : decode cX5_readProduct 69 = .ok (.ireturn, 1) := by decide +kernel
theorem dX5_readProduct_70 : decode cX5_readProduct 70 = .ok (.aload_n 0, 1) := by decide +kernel
theorem dX5_readProduct_71 : decode cX5_readProduct 71 = .ok (.getfield 36, 3) := by decide +kernel
theorem dX5_readProduct_74 : decode cX5_readProduct 74 = .ok (.iload_n 3, 1) := by decide +kernel
theorem dX5_readProduct_75 : decode cX5_readProduct 75 = .ok (.invokevirtual 165, 3) := by decide +kernel
theorem dX5_readProduct_78 : decode cX5_readProduct 78 = .ok (.iinc 2 1, 3) := by decide +kernel
theorem dX5_readProduct_81 : decode cX5_readProduct 81 = .ok (.goto (-69), 3) := by decide +kernel
theorem dX5_readProduct_84 : decode cX5_readProduct 84 = .ok (.iconst 1, 1) := by decide +kernel
theorem dX5_readProduct_85 : decode cX5_readProduct 85 = .ok (.ireturn, 1) := by decide +kernel
theorem dX5_readOne_0 : decode cX5_readOne 0 = .ok (.aload_n 0, 1) := by decide +kernel
theorem dX5_readOne_1 : decode cX5_readOne 1 = .ok (.getfield 63, 3) := by decide +kernel
theorem dX5_readOne_4 : decode cX5_readOne 4 = .ok (.lookupswitch 99 #[(1, 49), (2, 44), (40, 58), (45, 93)], 44) := by decide +kernel
theorem dX5_readOne_48 : decode cX5_readOne 48 = .ok (.aload_n 0, 1) := by decide +kernel
theorem dX5_readOne_49 : decode cX5_readOne 49 = .ok (.invokevirtual 172, 3) := by decide +kernel
theorem dX5_readOne_52 : decode cX5_readOne 52 = .ok (.ireturn, 1) := by decide +kernel
theorem dX5_readOne_53 : decode cX5_readOne 53 = .ok (.aload_n 0, 1) := by decide +kernel
theorem dX5_readOne_54 : decode cX5_readOne 54 = .ok (.aload_n 0, 1) := by decide +kernel
theorem dX5_readOne_55 : decode cX5_readOne 55 = .ok (.invokevirtual 176, 3) := by decide +kernel
theorem dX5_readOne_58 : decode cX5_readOne 58 = .ok (.invokevirtual 179, 3) := by decide +kernel
theorem dX5_readOne_61 : decode cX5_readOne 61 = .ok (.ireturn, 1) := by decide +kernel
theorem dX5_readOne_62 : decode cX5_readOne 62 = .ok (.aload_n 0, 1) := by decide +kernel
theorem dX5_readOne_63 : decode cX5_readOne 63 = .ok (.bipush 40, 2) := by decide +kernel
theorem dX5_readOne_65 : decode cX5_readOne 65 = .ok (.iload_n 1, 1) := by decide +kernel
theorem dX5_readOne_66 : decode cX5_readOne 66 = .ok (.invokevirtual 155, 3) := by decide +kernel
theorem dX5_readOne_69 : decode cX5_readOne 69 = .ok (.ifCond .eq 26, 3) := by decide +kernel
theorem dX5_readOne_72 : decode cX5_readOne 72 = .ok (.aload_n 0, 1) := by decide +kernel
theorem dX5_readOne_73 : decode cX5_readOne 73 = .ok (.iload_n 1, 1) := by decide +kernel
theorem dX5_readOne_74 : decode cX5_readOne 74 = .ok (.iconst 1, 1) := by decide +kernel
theorem dX5_readOne_75 : decode cX5_readOne 75 = .ok (.iadd, 1) := by decide +kernel
theorem dX5_readOne_76 : decode cX5_readOne 76 = .ok (.invokevirtual 152, 3) := by decide +kernel
theorem dX5_readOne_79 : decode cX5_readOne 79 = .ok (.ifCond .eq 16, 3) := by decide +kernel
theorem dX5_readOne_82 : decode cX5_readOne 82 = .ok (.aload_n 0, 1) := by decide +kernel
theorem dX5_readOne_83 : decode cX5_readOne 83 = .ok (.bipush 41, 2) := by decide +kernel
theorem dX5_readOne_85 : decode cX5_readOne 85 = .ok (.invokevirtual 118, 3) := by decide +kernel
theorem dX5_readOne_88 : decode cX5_readOne 88 = .ok (.ifCond .eq 7, 3) := by decide +kernel
theorem dX5_readOne_91 : decode cX5_readOne 91 = .ok (.iconst 1, 1) := by decide +kernel
theorem dX5_readOne_92 : decode cX5_readOne 92 = .ok (.goto 4, 3) := by decide +kernel
theorem dX5_readOne_95 : decode cX5_readOne 95 = .ok (.iconst 0, 1) := by decide +kernel
theorem dX5_readOne_96 : decode cX5_readOne 96 = .ok (.ireturn, 1) := by decide +kernel
theorem dX5_readOne_97 : decode cX5_readOne 97 = .ok (.aload_n 0, 1) := by decide +kernel
theorem dX5_readOne_98 : decode cX5_readOne 98 = .ok (.iload_n 1, 1) := by decide +kernel
theorem dX5_readOne_99 : decode cX5_readOne 99 = .ok (.invokevirtual 182, 3) := by decide +kernel
theorem dX5_readOne_102 : decode cX5_readOne 102 = .ok (.ireturn, 1) := by decide +kernel
theorem dX5_readOne_103 : decode cX5_readOne 103 = .ok (.aload_n 0, 1) := by decide +kernel
theorem dX5_readOne_104 : decode cX5_readOne 104 = .ok (.iconst 1, 1) := by decide +kernel
theorem dX5_readOne_105 : decode cX5_readOne 105 = .ok (.invokevirtual 96, 3) := by decide +kernel
theorem dX5_readOne_108 : decode cX5_readOne 108 = .ok (.ireturn, 1) := by decide +kernel
theorem dX5_readTurned_0 : decode cX5_readTurned 0 = .ok (.aload_n 0, 1) := by decide +kernel
theorem dX5_readTurned_1 : decode cX5_readTurned 1 = .ok (.bipush 45, 2) := by decide +kernel
theorem dX5_readTurned_3 : decode cX5_readTurned 3 = .ok (.iload_n 1, 1) := by decide +kernel
theorem dX5_readTurned_4 : decode cX5_readTurned 4 = .ok (.invokevirtual 155, 3) := by decide +kernel
theorem dX5_readTurned_7 : decode cX5_readTurned 7 = .ok (.ifCond .eq 13, 3) := by decide +kernel
theorem dX5_readTurned_10 : decode cX5_readTurned 10 = .ok (.aload_n 0, 1) := by decide +kernel
theorem dX5_readTurned_11 : decode cX5_readTurned 11 = .ok (.iload_n 1, 1) := by decide +kernel
theorem dX5_readTurned_12 : decode cX5_readTurned 12 = .ok (.iconst 1, 1) := by decide +kernel
theorem dX5_readTurned_13 : decode cX5_readTurned 13 = .ok (.iadd, 1) := by decide +kernel
theorem dX5_readTurned_14 : decode cX5_readTurned 14 = .ok (.invokevirtual 169, 3) := by decide +kernel
theorem dX5_readTurned_17 : decode cX5_readTurned 17 = .ok (.ifCond .ne 5, 3) := by decide +kernel
theorem dX5_readTurned_20 : decode cX5_readTurned 20 = .ok (.iconst 0, 1) := by decide +kernel
theorem dX5_readTurned_21 : decode cX5_readTurned 21 = .ok (.ireturn, 1) := by decide +kernel
theorem dX5_readTurned_22 : decode cX5_readTurned 22 = .ok (.aload_n 0, 1) := by decide +kernel
theorem dX5_readTurned_23 : decode cX5_readTurned 23 = .ok (.getfield 36, 3) := by decide +kernel
theorem dX5_readTurned_26 : decode cX5_readTurned 26 = .ok (.sipush 1010, 3) := by decide +kernel
theorem dX5_readTurned_29 : decode cX5_readTurned 29 = .ok (.invokevirtual 165, 3) := by decide +kernel
theorem dX5_readTurned_32 : decode cX5_readTurned 32 = .ok (.iconst 1, 1) := by decide +kernel
theorem dX5_readTurned_33 : decode cX5_readTurned 33 = .ok (.ireturn, 1) := by decide +kernel
theorem dX5_passPlainNumber_0 : decode cX5_passPlainNumber 0 = .ok (.aload_n 0, 1) := by decide +kernel
theorem dX5_passPlainNumber_1 : decode cX5_passPlainNumber 1 = .ok (.getfield 72, 3) := by decide +kernel
theorem dX5_passPlainNumber_4 : decode cX5_passPlainNumber 4 = .ok (.sipush 999, 3) := by decide +kernel
theorem dX5_passPlainNumber_7 : decode cX5_passPlainNumber 7 = .ok (.if_icmp .le 9, 3) := by decide +kernel
theorem dX5_passPlainNumber_10 : decode cX5_passPlainNumber 10 = .ok (.aload_n 0, 1) := by decide +kernel
theorem dX5_passPlainNumber_11 : decode cX5_passPlainNumber 11 = .ok (.iconst 2, 1) := by decide +kernel
theorem dX5_passPlainNumber_12 : decode cX5_passPlainNumber 12 = .ok (.invokevirtual 96, 3) := by decide +kernel
theorem dX5_passPlainNumber_15 : decode cX5_passPlainNumber 15 = .ok (.ireturn, 1) := by decide +kernel
theorem dX5_passPlainNumber_16 : decode cX5_passPlainNumber 16 = .ok (.aload_n 0, 1) := by decide +kernel
theorem dX5_passPlainNumber_17 : decode cX5_passPlainNumber 17 = .ok (.getfield 36, 3) := by decide +kernel
theorem dX5_passPlainNumber_20 : decode cX5_passPlainNumber 20 = .ok (.aload_n 0, 1) := by decide +kernel
theorem dX5_passPlainNumber_21 : decode cX5_passPlainNumber 21 = .ok (.getfield 72, 3) := by decide +kernel
theorem dX5_passPlainNumber_24 : decode cX5_passPlainNumber 24 = .ok (.invokevirtual 165, 3) := by decide +kernel
theorem dX5_passPlainNumber_27 : decode cX5_passPlainNumber 27 = .ok (.aload_n 0, 1) := by decide +kernel
theorem dX5_passPlainNumber_28 : decode cX5_passPlainNumber 28 = .ok (.invokevirtual 45, 3) := by decide +kernel
theorem dX5_passPlainNumber_31 : decode cX5_passPlainNumber 31 = .ok (.iconst 1, 1) := by decide +kernel
theorem dX5_passPlainNumber_32 : decode cX5_passPlainNumber 32 = .ok (.ireturn, 1) := by decide +kernel
theorem dX5_passName_0 : decode cX5_passName 0 = .ok (.iload_n 1, 1) := by decide +kernel
theorem dX5_passName_1 : decode cX5_passName 1 = .ok (.iconst (-1), 1) := by decide +kernel
theorem dX5_passName_2 : decode cX5_passName 2 = .ok (.if_icmp .ne 9, 3) := by decide +kernel
theorem dX5_passName_5 : decode cX5_passName 5 = .ok (.aload_n 0, 1) := by decide +kernel
theorem dX5_passName_6 : decode cX5_passName 6 = .ok (.iconst 1, 1) := by decide +kernel
theorem dX5_passName_7 : decode cX5_passName 7 = .ok (.invokevirtual 96, 3) := by decide +kernel
theorem dX5_passName_10 : decode cX5_passName 10 = .ok (.ireturn, 1) := by decide +kernel
theorem dX5_passName_11 : decode cX5_passName 11 = .ok (.aload_n 0, 1) := by decide +kernel
theorem dX5_passName_12 : decode cX5_passName 12 = .ok (.getfield 36, 3) := by decide +kernel
theorem dX5_passName_15 : decode cX5_passName 15 = .ok (.sipush 1000, 3) := by decide +kernel
theorem dX5_passName_18 : decode cX5_passName 18 = .ok (.iload_n 1, 1) := by decide +kernel
theorem dX5_passName_19 : decode cX5_passName 19 = .ok (.iadd, 1) := by decide +kernel
theorem dX5_passName_20 : decode cX5_passName 20 = .ok (.invokevirtual 165, 3) := by decide +kernel
theorem dX5_passName_23 : decode cX5_passName 23 = .ok (.aload_n 0, 1) := by decide +kernel
theorem dX5_passName_24 : decode cX5_passName 24 = .ok (.invokevirtual 45, 3) := by decide +kernel
theorem dX5_passName_27 : decode cX5_passName 27 = .ok (.iconst 1, 1) := by decide +kernel
theorem dX5_passName_28 : decode cX5_passName 28 = .ok (.ireturn, 1) := by decide +kernel
theorem dX5_nameOfWord_0 : decode cX5_nameOfWord 0 = .ok (.aload_n 0, 1) := by decide +kernel
theorem dX5_nameOfWord_1 : decode cX5_nameOfWord 1 = .ok (.ldc 185, 2) := by decide +kernel
theorem dX5_nameOfWord_3 : decode cX5_nameOfWord 3 = .ok (.invokevirtual 127, 3) := by decide +kernel
theorem dX5_nameOfWord_6 : decode cX5_nameOfWord 6 = .ok (.ifCond .eq 5, 3) := by decide +kernel
theorem dX5_nameOfWord_9 : decode cX5_nameOfWord 9 = .ok (.iconst 0, 1) := by decide +kernel
theorem dX5_nameOfWord_10 : decode cX5_nameOfWord 10 = .ok (.ireturn, 1) := by decide +kernel
theorem dX5_nameOfWord_11 : decode cX5_nameOfWord 11 = .ok (.aload_n 0, 1) := by decide +kernel
theorem dX5_nameOfWord_12 : decode cX5_nameOfWord 12 = .ok (.ldc 187, 2) := by decide +kernel
theorem dX5_nameOfWord_14 : decode cX5_nameOfWord 14 = .ok (.invokevirtual 127, 3) := by decide +kernel
theorem dX5_nameOfWord_17 : decode cX5_nameOfWord 17 = .ok (.ifCond .eq 5, 3) := by decide +kernel
theorem dX5_nameOfWord_20 : decode cX5_nameOfWord 20 = .ok (.iconst 1, 1) := by decide +kernel
theorem dX5_nameOfWord_21 : decode cX5_nameOfWord 21 = .ok (.ireturn, 1) := by decide +kernel
theorem dX5_nameOfWord_22 : decode cX5_nameOfWord 22 = .ok (.aload_n 0, 1) := by decide +kernel
theorem dX5_nameOfWord_23 : decode cX5_nameOfWord 23 = .ok (.ldc 189, 2) := by decide +kernel
theorem dX5_nameOfWord_25 : decode cX5_nameOfWord 25 = .ok (.invokevirtual 127, 3) := by decide +kernel
theorem dX5_nameOfWord_28 : decode cX5_nameOfWord 28 = .ok (.ifCond .eq 5, 3) := by decide +kernel
theorem dX5_nameOfWord_31 : decode cX5_nameOfWord 31 = .ok (.iconst 2, 1) := by decide +kernel
theorem dX5_nameOfWord_32 : decode cX5_nameOfWord 32 = .ok (.ireturn, 1) := by decide +kernel
theorem dX5_nameOfWord_33 : decode cX5_nameOfWord 33 = .ok (.aload_n 0, 1) := by decide +kernel
theorem dX5_nameOfWord_34 : decode cX5_nameOfWord 34 = .ok (.ldc 191, 2) := by decide +kernel
theorem dX5_nameOfWord_36 : decode cX5_nameOfWord 36 = .ok (.invokevirtual 127, 3) := by decide +kernel
theorem dX5_nameOfWord_39 : decode cX5_nameOfWord 39 = .ok (.ifCond .eq 5, 3) := by decide +kernel
theorem dX5_nameOfWord_42 : decode cX5_nameOfWord 42 = .ok (.iconst 3, 1) := by decide +kernel
theorem dX5_nameOfWord_43 : decode cX5_nameOfWord 43 = .ok (.ireturn, 1) := by decide +kernel
theorem dX5_nameOfWord_44 : decode cX5_nameOfWord 44 = .ok (.aload_n 0, 1) := by decide +kernel
theorem dX5_nameOfWord_45 : decode cX5_nameOfWord 45 = .ok (.ldc 193, 2) := by decide +kernel
theorem dX5_nameOfWord_47 : decode cX5_nameOfWord 47 = .ok (.invokevirtual 127, 3) := by decide +kernel
theorem dX5_nameOfWord_50 : decode cX5_nameOfWord 50 = .ok (.ifCond .eq 5, 3) := by decide +kernel
theorem dX5_nameOfWord_53 : decode cX5_nameOfWord 53 = .ok (.iconst 4, 1) := by decide +kernel
theorem dX5_nameOfWord_54 : decode cX5_nameOfWord 54 = .ok (.ireturn, 1) := by decide +kernel
theorem dX5_nameOfWord_55 : decode cX5_nameOfWord 55 = .ok (.aload_n 0, 1) := by decide +kernel
theorem dX5_nameOfWord_56 : decode cX5_nameOfWord 56 = .ok (.ldc 195, 2) := by decide +kernel
theorem dX5_nameOfWord_58 : decode cX5_nameOfWord 58 = .ok (.invokevirtual 127, 3) := by decide +kernel
theorem dX5_nameOfWord_61 : decode cX5_nameOfWord 61 = .ok (.ifCond .eq 7, 3) := by decide +kernel
theorem dX5_nameOfWord_64 : decode cX5_nameOfWord 64 = .ok (.iconst 5, 1) := by decide +kernel
theorem dX5_nameOfWord_65 : decode cX5_nameOfWord 65 = .ok (.goto 4, 3) := by decide +kernel
theorem dX5_nameOfWord_68 : decode cX5_nameOfWord 68 = .ok (.iconst (-1), 1) := by decide +kernel
theorem dX5_nameOfWord_69 : decode cX5_nameOfWord 69 = .ok (.ireturn, 1) := by decide +kernel
theorem dX6_init_0 : decode cX6_init 0 = .ok (.aload_n 0, 1) := by decide +kernel
theorem dX6_init_1 : decode cX6_init 1 = .ok (.invokespecial 1, 3) := by decide +kernel
theorem dX6_init_4 : decode cX6_init 4 = .ok (.return_, 1) := by decide +kernel
theorem dX6_findNearest_0 : decode cX6_findNearest 0 = .ok (.aload_n 0, 1) := by decide +kernel
theorem dX6_findNearest_1 : decode cX6_findNearest 1 = .ok (.iconst 0, 1) := by decide +kernel
theorem dX6_findNearest_2 : decode cX6_findNearest 2 = .ok (.putfield 7, 3) := by decide +kernel
theorem dX6_findNearest_5 : decode cX6_findNearest 5 = .ok (.bipush (-3), 2) := by decide +kernel
theorem dX6_findNearest_7 : decode cX6_findNearest 7 = .ok (.istore_n 3, 1) := by decide +kernel
theorem dX6_findNearest_8 : decode cX6_findNearest 8 = .ok (.iload_n 3, 1) := by decide +kernel
theorem dX6_findNearest_9 : decode cX6_findNearest 9 = .ok (.iconst 3, 1) := by decide +kernel
theorem dX6_findNearest_10 : decode cX6_findNearest 10 = .ok (.if_icmp .gt 34, 3) := by decide +kernel
theorem dX6_findNearest_13 : decode cX6_findNearest 13 = .ok (.bipush (-3), 2) := by decide +kernel
theorem dX6_findNearest_15 : decode cX6_findNearest 15 = .ok (.istore 4, 2) := by decide +kernel
theorem dX6_findNearest_17 : decode cX6_findNearest 17 = .ok (.iload 4, 2) := by decide +kernel
theorem dX6_findNearest_19 : decode cX6_findNearest 19 = .ok (.iconst 3, 1) := by decide +kernel
theorem dX6_findNearest_20 : decode cX6_findNearest 20 = .ok (.if_icmp .gt 18, 3) := by decide +kernel
theorem dX6_findNearest_23 : decode cX6_findNearest 23 = .ok (.aload_n 0, 1) := by decide +kernel
theorem dX6_findNearest_24 : decode cX6_findNearest 24 = .ok (.aload_n 1, 1) := by decide +kernel
theorem dX6_findNearest_25 : decode cX6_findNearest 25 = .ok (.aload_n 2, 1) := by decide +kernel
theorem dX6_findNearest_26 : decode cX6_findNearest 26 = .ok (.iload 4, 2) := by decide +kernel
theorem dX6_findNearest_28 : decode cX6_findNearest 28 = .ok (.iload_n 3, 1) := by decide +kernel
theorem dX6_findNearest_29 : decode cX6_findNearest 29 = .ok (.invokevirtual 13, 3) := by decide +kernel
theorem dX6_findNearest_32 : decode cX6_findNearest 32 = .ok (.iinc 4 1, 3) := by decide +kernel
theorem dX6_findNearest_35 : decode cX6_findNearest 35 = .ok (.goto (-18), 3) := by decide +kernel
theorem dX6_findNearest_38 : decode cX6_findNearest 38 = .ok (.iinc 3 1, 3) := by decide +kernel
theorem dX6_findNearest_41 : decode cX6_findNearest 41 = .ok (.goto (-33), 3) := by decide +kernel
theorem dX6_findNearest_44 : decode cX6_findNearest 44 = .ok (.return_, 1) := by decide +kernel
theorem dX6_tryShift_0 : decode cX6_tryShift 0 = .ok (.iconst 0, 1) := by decide +kernel
theorem dX6_tryShift_1 : decode cX6_tryShift 1 = .ok (.aload_n 1, 1) := by decide +kernel
theorem dX6_tryShift_2 : decode cX6_tryShift 2 = .ok (.getfield 17, 3) := by decide +kernel
theorem dX6_tryShift_5 : decode cX6_tryShift 5 = .ok (.iload_n 3, 1) := by decide +kernel
theorem dX6_tryShift_6 : decode cX6_tryShift 6 = .ok (.invokestatic 22, 3) := by decide +kernel
theorem dX6_tryShift_9 : decode cX6_tryShift 9 = .ok (.isub, 1) := by decide +kernel
theorem dX6_tryShift_10 : decode cX6_tryShift 10 = .ok (.invokestatic 28, 3) := by decide +kernel
theorem dX6_tryShift_13 : decode cX6_tryShift 13 = .ok (.iconst 0, 1) := by decide +kernel
theorem dX6_tryShift_14 : decode cX6_tryShift 14 = .ok (.aload_n 1, 1) := by decide +kernel
theorem dX6_tryShift_15 : decode cX6_tryShift 15 = .ok (.getfield 32, 3) := by decide +kernel
theorem dX6_tryShift_18 : decode cX6_tryShift 18 = .ok (.iload 4, 2) := by decide +kernel
theorem dX6_tryShift_20 : decode cX6_tryShift 20 = .ok (.invokestatic 22, 3) := by decide +kernel
theorem dX6_tryShift_23 : decode cX6_tryShift 23 = .ok (.isub, 1) := by decide +kernel
theorem dX6_tryShift_24 : decode cX6_tryShift 24 = .ok (.invokestatic 28, 3) := by decide +kernel
theorem dX6_tryShift_27 : decode cX6_tryShift 27 = .ok (.imul, 1) := by decide +kernel
theorem dX6_tryShift_28 : decode cX6_tryShift 28 = .ok (.istore 5, 2) := by decide +kernel
theorem dX6_tryShift_30 : decode cX6_tryShift 30 = .ok (.aload_n 1, 1) := by decide +kernel
theorem dX6_tryShift_31 : decode cX6_tryShift 31 = .ok (.aload_n 2, 1) := by decide +kernel
theorem dX6_tryShift_32 : decode cX6_tryShift 32 = .ok (.iload_n 3, 1) := by decide +kernel
theorem dX6_tryShift_33 : decode cX6_tryShift 33 = .ok (.iload 4, 2) := by decide +kernel
theorem dX6_tryShift_35 : decode cX6_tryShift 35 = .ok (.invokestatic 35, 3) := by decide +kernel
theorem dX6_tryShift_38 : decode cX6_tryShift 38 = .ok (.istore 6, 2) := by decide +kernel
theorem dX6_tryShift_40 : decode cX6_tryShift 40 = .ok (.aload_n 0, 1) := by decide +kernel
theorem dX6_tryShift_41 : decode cX6_tryShift 41 = .ok (.getfield 7, 3) := by decide +kernel
theorem dX6_tryShift_44 : decode cX6_tryShift 44 = .ok (.ifCond .eq 20, 3) := by decide +kernel
theorem dX6_tryShift_47 : decode cX6_tryShift 47 = .ok (.iload 6, 2) := by decide +kernel
theorem dX6_tryShift_49 : decode cX6_tryShift 49 = .ok (.aload_n 0, 1) := by decide +kernel
theorem dX6_tryShift_50 : decode cX6_tryShift 50 = .ok (.getfield 7, 3) := by decide +kernel
theorem dX6_tryShift_53 : decode cX6_tryShift 53 = .ok (.imul, 1) := by decide +kernel
theorem dX6_tryShift_54 : decode cX6_tryShift 54 = .ok (.aload_n 0, 1) := by decide +kernel
theorem dX6_tryShift_55 : decode cX6_tryShift 55 = .ok (.getfield 39, 3) := by decide +kernel
theorem dX6_tryShift_58 : decode cX6_tryShift 58 = .ok (.iload 5, 2) := by decide +kernel
theorem dX6_tryShift_60 : decode cX6_tryShift 60 = .ok (.imul, 1) := by decide +kernel
theorem dX6_tryShift_61 : decode cX6_tryShift 61 = .ok (.if_icmp .ge 7, 3) := by decide +kernel
theorem dX6_tryShift_64 : decode cX6_tryShift 64 = .ok (.iconst 1, 1) := by decide +kernel
theorem dX6_tryShift_65 : decode cX6_tryShift 65 = .ok (.goto 4, 3) := by decide +kernel
theorem dX6_tryShift_68 : decode cX6_tryShift 68 = .ok (.iconst 0, 1) := by decide +kernel
theorem dX6_tryShift_69 : decode cX6_tryShift 69 = .ok (.istore 7, 2) := by decide +kernel
theorem dX6_tryShift_71 : decode cX6_tryShift 71 = .ok (.iload 5, 2) := by decide +kernel
theorem dX6_tryShift_73 : decode cX6_tryShift 73 = .ok (.ifCond .le 31, 3) := by decide +kernel
theorem dX6_tryShift_76 : decode cX6_tryShift 76 = .ok (.iload 7, 2) := by decide +kernel
theorem dX6_tryShift_78 : decode cX6_tryShift 78 = .ok (.ifCond .eq 26, 3) := by decide +kernel
theorem dX6_tryShift_81 : decode cX6_tryShift 81 = .ok (.aload_n 0, 1) := by decide +kernel
theorem dX6_tryShift_82 : decode cX6_tryShift 82 = .ok (.iload_n 3, 1) := by decide +kernel
theorem dX6_tryShift_83 : decode cX6_tryShift 83 = .ok (.putfield 42, 3) := by decide +kernel
theorem dX6_tryShift_86 : decode cX6_tryShift 86 = .ok (.aload_n 0, 1) := by decide +kernel
theorem dX6_tryShift_87 : decode cX6_tryShift 87 = .ok (.iload 4, 2) := by decide +kernel
theorem dX6_tryShift_89 : decode cX6_tryShift 89 = .ok (.putfield 45, 3) := by decide +kernel
theorem dX6_tryShift_92 : decode cX6_tryShift 92 = .ok (.aload_n 0, 1) := by decide +kernel
theorem dX6_tryShift_93 : decode cX6_tryShift 93 = .ok (.iload 6, 2) := by decide +kernel
theorem dX6_tryShift_95 : decode cX6_tryShift 95 = .ok (.putfield 39, 3) := by decide +kernel
theorem dX6_tryShift_98 : decode cX6_tryShift 98 = .ok (.aload_n 0, 1) := by decide +kernel
theorem dX6_tryShift_99 : decode cX6_tryShift 99 = .ok (.iload 5, 2) := by decide +kernel
theorem dX6_tryShift_101 : decode cX6_tryShift 101 = .ok (.putfield 7, 3) := by decide +kernel
theorem dX6_tryShift_104 : decode cX6_tryShift 104 = .ok (.return_, 1) := by decide +kernel
theorem dX6_sumApart_0 : decode cX6_sumApart 0 = .ok (.iconst 0, 1) := by decide +kernel
theorem dX6_sumApart_1 : decode cX6_sumApart 1 = .ok (.istore 4, 2) := by decide +kernel
theorem dX6_sumApart_3 : decode cX6_sumApart 3 = .ok (.iconst 0, 1) := by decide +kernel
theorem dX6_sumApart_4 : decode cX6_sumApart 4 = .ok (.iload_n 3, 1) := by decide +kernel
theorem dX6_sumApart_5 : decode cX6_sumApart 5 = .ok (.ineg, 1) := by decide +kernel
theorem dX6_sumApart_6 : decode cX6_sumApart 6 = .ok (.invokestatic 28, 3) := by decide +kernel
theorem dX6_sumApart_9 : decode cX6_sumApart 9 = .ok (.istore 5, 2) := by decide +kernel
theorem dX6_sumApart_11 : decode cX6_sumApart 11 = .ok (.iload 5, 2) := by decide +kernel
theorem dX6_sumApart_13 : decode cX6_sumApart 13 = .ok (.aload_n 0, 1) := by decide +kernel
theorem dX6_sumApart_14 : decode cX6_sumApart 14 = .ok (.getfield 32, 3) := by decide +kernel
theorem dX6_sumApart_17 : decode cX6_sumApart 17 = .ok (.aload_n 0, 1) := by decide +kernel
theorem dX6_sumApart_18 : decode cX6_sumApart 18 = .ok (.getfield 32, 3) := by decide +kernel
theorem dX6_sumApart_21 : decode cX6_sumApart 21 = .ok (.iload_n 3, 1) := by decide +kernel
theorem dX6_sumApart_22 : decode cX6_sumApart 22 = .ok (.isub, 1) := by decide +kernel
theorem dX6_sumApart_23 : decode cX6_sumApart 23 = .ok (.invokestatic 48, 3) := by decide +kernel
theorem dX6_sumApart_26 : decode cX6_sumApart 26 = .ok (.if_icmp .ge 70, 3) := by decide +kernel
theorem dX6_sumApart_29 : decode cX6_sumApart 29 = .ok (.iconst 0, 1) := by decide +kernel
theorem dX6_sumApart_30 : decode cX6_sumApart 30 = .ok (.iload_n 2, 1) := by decide +kernel
theorem dX6_sumApart_31 : decode cX6_sumApart 31 = .ok (.ineg, 1) := by decide +kernel
theorem dX6_sumApart_32 : decode cX6_sumApart 32 = .ok (.invokestatic 28, 3) := by decide +kernel
theorem dX6_sumApart_35 : decode cX6_sumApart 35 = .ok (.istore 6, 2) := by decide +kernel
theorem dX6_sumApart_37 : decode cX6_sumApart 37 = .ok (.iload 6, 2) := by decide +kernel
theorem dX6_sumApart_39 : decode cX6_sumApart 39 = .ok (.aload_n 0, 1) := by decide +kernel
theorem dX6_sumApart_40 : decode cX6_sumApart 40 = .ok (.getfield 17, 3) := by decide +kernel
theorem dX6_sumApart_43 : decode cX6_sumApart 43 = .ok (.aload_n 0, 1) := by decide +kernel
theorem dX6_sumApart_44 : decode cX6_sumApart 44 = .ok (.getfield 17, 3) := by decide +kernel
theorem dX6_sumApart_47 : decode cX6_sumApart 47 = .ok (.iload_n 2, 1) := by decide +kernel
theorem dX6_sumApart_48 : decode cX6_sumApart 48 = .ok (.isub, 1) := by decide +kernel
theorem dX6_sumApart_49 : decode cX6_sumApart 49 = .ok (.invokestatic 48, 3) := by decide +kernel
theorem dX6_sumApart_52 : decode cX6_sumApart 52 = .ok (.if_icmp .ge 38, 3) := by decide +kernel
theorem dX6_sumApart_55 : decode cX6_sumApart 55 = .ok (.iload 4, 2) := by decide +kernel
theorem dX6_sumApart_57 : decode cX6_sumApart 57 = .ok (.aload_n 0, 1) := by decide +kernel
theorem dX6_sumApart_58 : decode cX6_sumApart 58 = .ok (.iload 6, 2) := by decide +kernel
theorem dX6_sumApart_60 : decode cX6_sumApart 60 = .ok (.iload 5, 2) := by decide +kernel
theorem dX6_sumApart_62 : decode cX6_sumApart 62 = .ok (.invokevirtual 51, 3) := by decide +kernel
theorem dX6_sumApart_65 : decode cX6_sumApart 65 = .ok (.aload_n 1, 1) := by decide +kernel
theorem dX6_sumApart_66 : decode cX6_sumApart 66 = .ok (.iload 6, 2) := by decide +kernel
theorem dX6_sumApart_68 : decode cX6_sumApart 68 = .ok (.iload_n 2, 1) := by decide +kernel
theorem dX6_sumApart_69 : decode cX6_sumApart 69 = .ok (.iadd, 1) := by decide +kernel
theorem dX6_sumApart_70 : decode cX6_sumApart 70 = .ok (.iload 5, 2) := by decide +kernel
theorem dX6_sumApart_72 : decode cX6_sumApart 72 = .ok (.iload_n 3, 1) := by decide +kernel
theorem dX6_sumApart_73 : decode cX6_sumApart 73 = .ok (.iadd, 1) := by decide +kernel
theorem dX6_sumApart_74 : decode cX6_sumApart 74 = .ok (.invokevirtual 51, 3) := by decide +kernel
theorem dX6_sumApart_77 : decode cX6_sumApart 77 = .ok (.isub, 1) := by decide +kernel
theorem dX6_sumApart_78 : decode cX6_sumApart 78 = .ok (.invokestatic 22, 3) := by decide +kernel
theorem dX6_sumApart_81 : decode cX6_sumApart 81 = .ok (.iadd, 1) := by decide +kernel
theorem dX6_sumApart_82 : decode cX6_sumApart 82 = .ok (.istore 4, 2) := by decide +kernel
theorem dX6_sumApart_84 : decode cX6_sumApart 84 = .ok (.iinc 6 1, 3) := by decide +kernel
theorem dX6_sumApart_87 : decode cX6_sumApart 87 = .ok (.goto (-50), 3) := by decide +kernel
theorem dX6_sumApart_90 : decode cX6_sumApart 90 = .ok (.iinc 5 1, 3) := by decide +kernel
theorem dX6_sumApart_93 : decode cX6_sumApart 93 = .ok (.goto (-82), 3) := by decide +kernel
theorem dX6_sumApart_96 : decode cX6_sumApart 96 = .ok (.iload 4, 2) := by decide +kernel
theorem dX6_sumApart_98 : decode cX6_sumApart 98 = .ok (.ireturn, 1) := by decide +kernel
theorem dX6_countBeyond_0 : decode cX6_countBeyond 0 = .ok (.iconst 0, 1) := by decide +kernel
theorem dX6_countBeyond_1 : decode cX6_countBeyond 1 = .ok (.istore 4, 2) := by decide +kernel
theorem dX6_countBeyond_3 : decode cX6_countBeyond 3 = .ok (.iconst 0, 1) := by decide +kernel
theorem dX6_countBeyond_4 : decode cX6_countBeyond 4 = .ok (.istore 5, 2) := by decide +kernel
theorem dX6_countBeyond_6 : decode cX6_countBeyond 6 = .ok (.iload 5, 2) := by decide +kernel
theorem dX6_countBeyond_8 : decode cX6_countBeyond 8 = .ok (.aload_n 1, 1) := by decide +kernel
theorem dX6_countBeyond_9 : decode cX6_countBeyond 9 = .ok (.getfield 32, 3) := by decide +kernel
theorem dX6_countBeyond_12 : decode cX6_countBeyond 12 = .ok (.if_icmp .ge 89, 3) := by decide +kernel
theorem dX6_countBeyond_15 : decode cX6_countBeyond 15 = .ok (.iconst 0, 1) := by decide +kernel
theorem dX6_countBeyond_16 : decode cX6_countBeyond 16 = .ok (.istore 6, 2) := by decide +kernel
theorem dX6_countBeyond_18 : decode cX6_countBeyond 18 = .ok (.iload 6, 2) := by decide +kernel
theorem dX6_countBeyond_20 : decode cX6_countBeyond 20 = .ok (.aload_n 1, 1) := by decide +kernel
theorem dX6_countBeyond_21 : decode cX6_countBeyond 21 = .ok (.getfield 17, 3) := by decide +kernel
theorem dX6_countBeyond_24 : decode cX6_countBeyond 24 = .ok (.if_icmp .ge 71, 3) := by decide +kernel
theorem dX6_countBeyond_27 : decode cX6_countBeyond 27 = .ok (.aload_n 2, 1) := by decide +kernel
theorem dX6_countBeyond_28 : decode cX6_countBeyond 28 = .ok (.iload 6, 2) := by decide +kernel
theorem dX6_countBeyond_30 : decode cX6_countBeyond 30 = .ok (.aload_n 0, 1) := by decide +kernel
theorem dX6_countBeyond_31 : decode cX6_countBeyond 31 = .ok (.getfield 42, 3) := by decide +kernel
theorem dX6_countBeyond_34 : decode cX6_countBeyond 34 = .ok (.iadd, 1) := by decide +kernel
theorem dX6_countBeyond_35 : decode cX6_countBeyond 35 = .ok (.iload 5, 2) := by decide +kernel
theorem dX6_countBeyond_37 : decode cX6_countBeyond 37 = .ok (.aload_n 0, 1) := by decide +kernel
theorem dX6_countBeyond_38 : decode cX6_countBeyond 38 = .ok (.getfield 45, 3) := by decide +kernel
theorem dX6_countBeyond_41 : decode cX6_countBeyond 41 = .ok (.iadd, 1) := by decide +kernel
theorem dX6_countBeyond_42 : decode cX6_countBeyond 42 = .ok (.invokevirtual 54, 3) := by decide +kernel
theorem dX6_countBeyond_45 : decode cX6_countBeyond 45 = .ok (.istore 7, 2) := by decide +kernel
theorem dX6_countBeyond_47 : decode cX6_countBeyond 47 = .ok (.iload 7, 2) := by decide +kernel
theorem dX6_countBeyond_49 : decode cX6_countBeyond 49 = .ok (.ifCond .eq 40, 3) := by decide +kernel
theorem dX6_countBeyond_52 : decode cX6_countBeyond 52 = .ok (.aload_n 1, 1) := by decide +kernel
theorem dX6_countBeyond_53 : decode cX6_countBeyond 53 = .ok (.iload 6, 2) := by decide +kernel
theorem dX6_countBeyond_55 : decode cX6_countBeyond 55 = .ok (.iload 5, 2) := by decide +kernel
theorem dX6_countBeyond_57 : decode cX6_countBeyond 57 = .ok (.invokevirtual 51, 3) := by decide +kernel
theorem dX6_countBeyond_60 : decode cX6_countBeyond 60 = .ok (.aload_n 2, 1) := by decide +kernel
theorem dX6_countBeyond_61 : decode cX6_countBeyond 61 = .ok (.iload 6, 2) := by decide +kernel
theorem dX6_countBeyond_63 : decode cX6_countBeyond 63 = .ok (.aload_n 0, 1) := by decide +kernel
theorem dX6_countBeyond_64 : decode cX6_countBeyond 64 = .ok (.getfield 42, 3) := by decide +kernel
theorem dX6_countBeyond_67 : decode cX6_countBeyond 67 = .ok (.iadd, 1) := by decide +kernel
theorem dX6_countBeyond_68 : decode cX6_countBeyond 68 = .ok (.iload 5, 2) := by decide +kernel
theorem dX6_countBeyond_70 : decode cX6_countBeyond 70 = .ok (.aload_n 0, 1) := by decide +kernel
theorem dX6_countBeyond_71 : decode cX6_countBeyond 71 = .ok (.getfield 45, 3) := by decide +kernel
theorem dX6_countBeyond_74 : decode cX6_countBeyond 74 = .ok (.iadd, 1) := by decide +kernel
theorem dX6_countBeyond_75 : decode cX6_countBeyond 75 = .ok (.invokevirtual 51, 3) := by decide +kernel
theorem dX6_countBeyond_78 : decode cX6_countBeyond 78 = .ok (.isub, 1) := by decide +kernel
theorem dX6_countBeyond_79 : decode cX6_countBeyond 79 = .ok (.invokestatic 22, 3) := by decide +kernel
theorem dX6_countBeyond_82 : decode cX6_countBeyond 82 = .ok (.iload_n 3, 1) := by decide +kernel
theorem dX6_countBeyond_83 : decode cX6_countBeyond 83 = .ok (.if_icmp .le 6, 3) := by decide +kernel
theorem dX6_countBeyond_86 : decode cX6_countBeyond 86 = .ok (.iinc 4 1, 3) := by decide +kernel
theorem dX6_countBeyond_89 : decode cX6_countBeyond 89 = .ok (.iinc 6 1, 3) := by decide +kernel
theorem dX6_countBeyond_92 : decode cX6_countBeyond 92 = .ok (.goto (-74), 3) := by decide +kernel
theorem dX6_countBeyond_95 : decode cX6_countBeyond 95 = .ok (.iinc 5 1, 3) := by decide +kernel
theorem dX6_countBeyond_98 : decode cX6_countBeyond 98 = .ok (.goto (-92), 3) := by decide +kernel
theorem dX6_countBeyond_101 : decode cX6_countBeyond 101 = .ok (.iload 4, 2) := by decide +kernel
theorem dX6_countBeyond_103 : decode cX6_countBeyond 103 = .ok (.ireturn, 1) := by decide +kernel
theorem dX7_init_0 : decode cX7_init 0 = .ok (.aload_n 0, 1) := by decide +kernel
theorem dX7_init_1 : decode cX7_init 1 = .ok (.invokespecial 5, 3) := by decide +kernel
theorem dX7_init_4 : decode cX7_init 4 = .ok (.aload_n 0, 1) := by decide +kernel
theorem dX7_init_5 : decode cX7_init 5 = .ok (.sipush 726, 3) := by decide +kernel
theorem dX7_init_8 : decode cX7_init 8 = .ok (.newarray .int, 2) := by decide +kernel
theorem dX7_init_10 : decode cX7_init 10 = .ok (.putfield 11, 3) := by decide +kernel
theorem dX7_init_13 : decode cX7_init 13 = .ok (.aload_n 0, 1) := by decide +kernel
theorem dX7_init_14 : decode cX7_init 14 = .ok (.sipush 726, 3) := by decide +kernel
theorem dX7_init_17 : decode cX7_init 17 = .ok (.newarray .int, 2) := by decide +kernel
theorem dX7_init_19 : decode cX7_init 19 = .ok (.putfield 15, 3) := by decide +kernel
theorem dX7_init_22 : decode cX7_init 22 = .ok (.aload_n 0, 1) := by decide +kernel
theorem dX7_init_23 : decode cX7_init 23 = .ok (.sipush 726, 3) := by decide +kernel
theorem dX7_init_26 : decode cX7_init 26 = .ok (.newarray .int, 2) := by decide +kernel
theorem dX7_init_28 : decode cX7_init 28 = .ok (.putfield 18, 3) := by decide +kernel
theorem dX7_init_31 : decode cX7_init 31 = .ok (.aload_n 0, 1) := by decide +kernel
theorem dX7_init_32 : decode cX7_init 32 = .ok (.iconst 3, 1) := by decide +kernel
theorem dX7_init_33 : decode cX7_init 33 = .ok (.newarray .int, 2) := by decide +kernel
theorem dX7_init_35 : decode cX7_init 35 = .ok (.putfield 21, 3) := by decide +kernel
theorem dX7_init_38 : decode cX7_init 38 = .ok (.return_, 1) := by decide +kernel
theorem dX7_dxOf_0 : decode cX7_dxOf 0 = .ok (.iload_n 0, 1) := by decide +kernel
theorem dX7_dxOf_1 : decode cX7_dxOf 1 = .ok (.bipush 11, 2) := by decide +kernel
theorem dX7_dxOf_3 : decode cX7_dxOf 3 = .ok (.irem, 1) := by decide +kernel
theorem dX7_dxOf_4 : decode cX7_dxOf 4 = .ok (.iconst 5, 1) := by decide +kernel
theorem dX7_dxOf_5 : decode cX7_dxOf 5 = .ok (.isub, 1) := by decide +kernel
theorem dX7_dxOf_6 : decode cX7_dxOf 6 = .ok (.ireturn, 1) := by decide +kernel
theorem dX7_dyOf_0 : decode cX7_dyOf 0 = .ok (.iload_n 0, 1) := by decide +kernel
theorem dX7_dyOf_1 : decode cX7_dyOf 1 = .ok (.bipush 11, 2) := by decide +kernel
theorem dX7_dyOf_3 : decode cX7_dyOf 3 = .ok (.idiv, 1) := by decide +kernel
theorem dX7_dyOf_4 : decode cX7_dyOf 4 = .ok (.bipush 11, 2) := by decide +kernel
theorem dX7_dyOf_6 : decode cX7_dyOf 6 = .ok (.irem, 1) := by decide +kernel
theorem dX7_dyOf_7 : decode cX7_dyOf 7 = .ok (.iconst 5, 1) := by decide +kernel
theorem dX7_dyOf_8 : decode cX7_dyOf 8 = .ok (.isub, 1) := by decide +kernel
theorem dX7_dyOf_9 : decode cX7_dyOf 9 = .ok (.ireturn, 1) := by decide +kernel
theorem dX7_heightOf_0 : decode cX7_heightOf 0 = .ok (.iload_n 0, 1) := by decide +kernel
theorem dX7_heightOf_1 : decode cX7_heightOf 1 = .ok (.bipush 121, 2) := by decide +kernel
theorem dX7_heightOf_3 : decode cX7_heightOf 3 = .ok (.idiv, 1) := by decide +kernel
theorem dX7_heightOf_4 : decode cX7_heightOf 4 = .ok (.iconst 1, 1) := by decide +kernel
theorem dX7_heightOf_5 : decode cX7_heightOf 5 = .ok (.iadd, 1) := by decide +kernel
theorem dX7_heightOf_6 : decode cX7_heightOf 6 = .ok (.ireturn, 1) := by decide +kernel
theorem dX7_nameOf_0 : decode cX7_nameOf 0 = .ok (.iload_n 1, 1) := by decide +kernel
theorem dX7_nameOf_1 : decode cX7_nameOf 1 = .ok (.iconst 0, 1) := by decide +kernel
theorem dX7_nameOf_2 : decode cX7_nameOf 2 = .ok (.sipush 725, 3) := by decide +kernel
theorem dX7_nameOf_5 : decode cX7_nameOf 5 = .ok (.invokestatic 24, 3) := by decide +kernel
theorem dX7_nameOf_8 : decode cX7_nameOf 8 = .ok (.ifCond .ne 5, 3) := by decide +kernel
theorem dX7_nameOf_11 : decode cX7_nameOf 11 = .ok (.iconst (-1), 1) := by decide +kernel
theorem dX7_nameOf_12 : decode cX7_nameOf 12 = .ok (.ireturn, 1) := by decide +kernel
theorem dX7_nameOf_13 : decode cX7_nameOf 13 = .ok (.sipush 10000, 3) := by decide +kernel
theorem dX7_nameOf_16 : decode cX7_nameOf 16 = .ok (.iload_n 1, 1) := by decide +kernel
theorem dX7_nameOf_17 : decode cX7_nameOf 17 = .ok (.invokestatic 28, 3) := by decide +kernel
theorem dX7_nameOf_20 : decode cX7_nameOf 20 = .ok (.imul, 1) := by decide +kernel
theorem dX7_nameOf_21 : decode cX7_nameOf 21 = .ok (.bipush 100, 2) := by decide +kernel
theorem dX7_nameOf_23 : decode cX7_nameOf 23 = .ok (.iload_n 1, 1) := by decide +kernel
theorem dX7_nameOf_24 : decode cX7_nameOf 24 = .ok (.invokestatic 32, 3) := by decide +kernel
theorem dX7_nameOf_27 : decode cX7_nameOf 27 = .ok (.iconst 5, 1) := by decide +kernel
theorem dX7_nameOf_28 : decode cX7_nameOf 28 = .ok (.iadd, 1) := by decide +kernel
theorem dX7_nameOf_29 : decode cX7_nameOf 29 = .ok (.imul, 1) := by decide +kernel
theorem dX7_nameOf_30 : decode cX7_nameOf 30 = .ok (.iadd, 1) := by decide +kernel
theorem dX7_nameOf_31 : decode cX7_nameOf 31 = .ok (.iload_n 1, 1) := by decide +kernel
theorem dX7_nameOf_32 : decode cX7_nameOf 32 = .ok (.invokestatic 35, 3) := by decide +kernel
theorem dX7_nameOf_35 : decode cX7_nameOf 35 = .ok (.iadd, 1) := by decide +kernel
theorem dX7_nameOf_36 : decode cX7_nameOf 36 = .ok (.iconst 5, 1) := by decide +kernel
theorem dX7_nameOf_37 : decode cX7_nameOf 37 = .ok (.iadd, 1) := by decide +kernel
theorem dX7_nameOf_38 : decode cX7_nameOf 38 = .ok (.ireturn, 1) := by decide +kernel
theorem dX7_signsLetting_0 : decode cX7_signsLetting 0 = .ok (.iload_n 1, 1) := by decide +kernel
theorem dX7_signsLetting_1 : decode cX7_signsLetting 1 = .ok (.iconst 0, 1) := by decide +kernel
theorem dX7_signsLetting_2 : decode cX7_signsLetting 2 = .ok (.sipush 725, 3) := by decide +kernel
theorem dX7_signsLetting_5 : decode cX7_signsLetting 5 = .ok (.invokestatic 24, 3) := by decide +kernel
theorem dX7_signsLetting_8 : decode cX7_signsLetting 8 = .ok (.ifCond .eq 12, 3) := by decide +kernel
theorem dX7_signsLetting_11 : decode cX7_signsLetting 11 = .ok (.aload_n 0, 1) := by decide +kernel
theorem dX7_signsLetting_12 : decode cX7_signsLetting 12 = .ok (.getfield 11, 3) := by decide +kernel
theorem dX7_signsLetting_15 : decode cX7_signsLetting 15 = .ok (.iload_n 1, 1) := by decide +kernel
theorem dX7_signsLetting_16 : decode cX7_signsLetting 16 = .ok (.iaload, 1) := by decide +kernel
theorem dX7_signsLetting_17 : decode cX7_signsLetting 17 = .ok (.goto 4, 3) := by decide +kernel
theorem dX7_signsLetting_20 : decode cX7_signsLetting 20 = .ok (.iconst 0, 1) := by decide +kernel
theorem dX7_signsLetting_21 : decode cX7_signsLetting 21 = .ok (.ireturn, 1) := by decide +kernel
theorem dX7_addShadow_0 : decode cX7_addShadow 0 = .ok (.iconst 0, 1) := by decide +kernel
theorem dX7_addShadow_1 : decode cX7_addShadow 1 = .ok (.istore 8, 2) := by decide +kernel
theorem dX7_addShadow_3 : decode cX7_addShadow 3 = .ok (.iload 8, 2) := by decide +kernel
theorem dX7_addShadow_5 : decode cX7_addShadow 5 = .ok (.sipush 726, 3) := by decide +kernel
theorem dX7_addShadow_8 : decode cX7_addShadow 8 = .ok (.if_icmp .ge 135, 3) := by decide +kernel
theorem dX7_addShadow_11 : decode cX7_addShadow 11 = .ok (.bipush 100, 2) := by decide +kernel
theorem dX7_addShadow_13 : decode cX7_addShadow 13 = .ok (.iload 8, 2) := by decide +kernel
theorem dX7_addShadow_15 : decode cX7_addShadow 15 = .ok (.invokestatic 28, 3) := by decide +kernel
theorem dX7_addShadow_18 : decode cX7_addShadow 18 = .ok (.imul, 1) := by decide +kernel
theorem dX7_addShadow_19 : decode cX7_addShadow 19 = .ok (.istore 9, 2) := by decide +kernel
theorem dX7_addShadow_21 : decode cX7_addShadow 21 = .ok (.iload 9, 2) := by decide +kernel
theorem dX7_addShadow_23 : decode cX7_addShadow 23 = .ok (.iload 7, 2) := by decide +kernel
theorem dX7_addShadow_25 : decode cX7_addShadow 25 = .ok (.imul, 1) := by decide +kernel
theorem dX7_addShadow_26 : decode cX7_addShadow 26 = .ok (.istore 10, 2) := by decide +kernel
theorem dX7_addShadow_28 : decode cX7_addShadow 28 = .ok (.iload 8, 2) := by decide +kernel
theorem dX7_addShadow_30 : decode cX7_addShadow 30 = .ok (.invokestatic 35, 3) := by decide +kernel
theorem dX7_addShadow_33 : decode cX7_addShadow 33 = .ok (.iload_n 2, 1) := by decide +kernel
theorem dX7_addShadow_34 : decode cX7_addShadow 34 = .ok (.imul, 1) := by decide +kernel
theorem dX7_addShadow_35 : decode cX7_addShadow 35 = .ok (.istore 11, 2) := by decide +kernel
theorem dX7_addShadow_37 : decode cX7_addShadow 37 = .ok (.iload 8, 2) := by decide +kernel
theorem dX7_addShadow_39 : decode cX7_addShadow 39 = .ok (.invokestatic 32, 3) := by decide +kernel
theorem dX7_addShadow_42 : decode cX7_addShadow 42 = .ok (.iload_n 2, 1) := by decide +kernel
theorem dX7_addShadow_43 : decode cX7_addShadow 43 = .ok (.imul, 1) := by decide +kernel
theorem dX7_addShadow_44 : decode cX7_addShadow 44 = .ok (.istore 12, 2) := by decide +kernel
theorem dX7_addShadow_46 : decode cX7_addShadow 46 = .ok (.iload 9, 2) := by decide +kernel
theorem dX7_addShadow_48 : decode cX7_addShadow 48 = .ok (.iload_n 3, 1) := by decide +kernel
theorem dX7_addShadow_49 : decode cX7_addShadow 49 = .ok (.imul, 1) := by decide +kernel
theorem dX7_addShadow_50 : decode cX7_addShadow 50 = .ok (.iload 11, 2) := by decide +kernel
theorem dX7_addShadow_52 : decode cX7_addShadow 52 = .ok (.iload 10, 2) := by decide +kernel
theorem dX7_addShadow_54 : decode cX7_addShadow 54 = .ok (.iload 5, 2) := by decide +kernel
theorem dX7_addShadow_56 : decode cX7_addShadow 56 = .ok (.invokestatic 38, 3) := by decide +kernel
theorem dX7_addShadow_59 : decode cX7_addShadow 59 = .ok (.istore 13, 2) := by decide +kernel
theorem dX7_addShadow_61 : decode cX7_addShadow 61 = .ok (.iload 9, 2) := by decide +kernel
theorem dX7_addShadow_63 : decode cX7_addShadow 63 = .ok (.iload_n 3, 1) := by decide +kernel
theorem dX7_addShadow_64 : decode cX7_addShadow 64 = .ok (.imul, 1) := by decide +kernel
theorem dX7_addShadow_65 : decode cX7_addShadow 65 = .ok (.iload 11, 2) := by decide +kernel
theorem dX7_addShadow_67 : decode cX7_addShadow 67 = .ok (.iload 10, 2) := by decide +kernel
theorem dX7_addShadow_69 : decode cX7_addShadow 69 = .ok (.iload 6, 2) := by decide +kernel
theorem dX7_addShadow_71 : decode cX7_addShadow 71 = .ok (.invokestatic 42, 3) := by decide +kernel
theorem dX7_addShadow_74 : decode cX7_addShadow 74 = .ok (.istore 14, 2) := by decide +kernel
theorem dX7_addShadow_76 : decode cX7_addShadow 76 = .ok (.iload 13, 2) := by decide +kernel
theorem dX7_addShadow_78 : decode cX7_addShadow 78 = .ok (.iload 9, 2) := by decide +kernel
theorem dX7_addShadow_80 : decode cX7_addShadow 80 = .ok (.iload 4, 2) := by decide +kernel
theorem dX7_addShadow_82 : decode cX7_addShadow 82 = .ok (.imul, 1) := by decide +kernel
theorem dX7_addShadow_83 : decode cX7_addShadow 83 = .ok (.iload 12, 2) := by decide +kernel
theorem dX7_addShadow_85 : decode cX7_addShadow 85 = .ok (.iload 10, 2) := by decide +kernel
theorem dX7_addShadow_87 : decode cX7_addShadow 87 = .ok (.iload 5, 2) := by decide +kernel
theorem dX7_addShadow_89 : decode cX7_addShadow 89 = .ok (.invokestatic 38, 3) := by decide +kernel
theorem dX7_addShadow_92 : decode cX7_addShadow 92 = .ok (.invokestatic 45, 3) := by decide +kernel
theorem dX7_addShadow_95 : decode cX7_addShadow 95 = .ok (.istore 13, 2) := by decide +kernel
theorem dX7_addShadow_97 : decode cX7_addShadow 97 = .ok (.iload 14, 2) := by decide +kernel
theorem dX7_addShadow_99 : decode cX7_addShadow 99 = .ok (.iload 9, 2) := by decide +kernel
theorem dX7_addShadow_101 : decode cX7_addShadow 101 = .ok (.iload 4, 2) := by decide +kernel
theorem dX7_addShadow_103 : decode cX7_addShadow 103 = .ok (.imul, 1) := by decide +kernel
theorem dX7_addShadow_104 : decode cX7_addShadow 104 = .ok (.iload 12, 2) := by decide +kernel
theorem dX7_addShadow_106 : decode cX7_addShadow 106 = .ok (.iload 10, 2) := by decide +kernel
theorem dX7_addShadow_108 : decode cX7_addShadow 108 = .ok (.iload 6, 2) := by decide +kernel
theorem dX7_addShadow_110 : decode cX7_addShadow 110 = .ok (.invokestatic 42, 3) := by decide +kernel
theorem dX7_addShadow_113 : decode cX7_addShadow 113 = .ok (.invokestatic 51, 3) := by decide +kernel
theorem dX7_addShadow_116 : decode cX7_addShadow 116 = .ok (.istore 14, 2) := by decide +kernel
theorem dX7_addShadow_118 : decode cX7_addShadow 118 = .ok (.aload_n 0, 1) := by decide +kernel
theorem dX7_addShadow_119 : decode cX7_addShadow 119 = .ok (.iload 8, 2) := by decide +kernel
theorem dX7_addShadow_121 : decode cX7_addShadow 121 = .ok (.iload_n 1, 1) := by decide +kernel
theorem dX7_addShadow_122 : decode cX7_addShadow 122 = .ok (.iload 13, 2) := by decide +kernel
theorem dX7_addShadow_124 : decode cX7_addShadow 124 = .ok (.iload 14, 2) := by decide +kernel
theorem dX7_addShadow_126 : decode cX7_addShadow 126 = .ok (.if_icmp .gt 7, 3) := by decide +kernel
theorem dX7_addShadow_129 : decode cX7_addShadow 129 = .ok (.iconst 1, 1) := by decide +kernel
theorem dX7_addShadow_130 : decode cX7_addShadow 130 = .ok (.goto 4, 3) := by decide +kernel
theorem dX7_addShadow_133 : decode cX7_addShadow 133 = .ok (.iconst 0, 1) := by decide +kernel
theorem dX7_addShadow_134 : decode cX7_addShadow 134 = .ok (.invokevirtual 54, 3) := by decide +kernel
theorem dX7_addShadow_137 : decode cX7_addShadow 137 = .ok (.iinc 8 1, 3) := by decide +kernel
theorem dX7_addShadow_140 : decode cX7_addShadow 140 = .ok (.goto (-137), 3) := by decide +kernel
theorem dX7_addShadow_143 : decode cX7_addShadow 143 = .ok (.return_, 1) := by decide +kernel
theorem dX7_addShine_0 : decode cX7_addShine 0 = .ok (.iconst 0, 1) := by decide +kernel
theorem dX7_addShine_1 : decode cX7_addShine 1 = .ok (.istore_n 3, 1) := by decide +kernel
theorem dX7_addShine_2 : decode cX7_addShine 2 = .ok (.iload_n 3, 1) := by decide +kernel
theorem dX7_addShine_3 : decode cX7_addShine 3 = .ok (.sipush 726, 3) := by decide +kernel
theorem dX7_addShine_6 : decode cX7_addShine 6 = .ok (.if_icmp .ge 63, 3) := by decide +kernel
theorem dX7_addShine_9 : decode cX7_addShine 9 = .ok (.iload_n 3, 1) := by decide +kernel
theorem dX7_addShine_10 : decode cX7_addShine 10 = .ok (.invokestatic 35, 3) := by decide +kernel
theorem dX7_addShine_13 : decode cX7_addShine 13 = .ok (.iload_n 3, 1) := by decide +kernel
theorem dX7_addShine_14 : decode cX7_addShine 14 = .ok (.invokestatic 32, 3) := by decide +kernel
theorem dX7_addShine_17 : decode cX7_addShine 17 = .ok (.invokestatic 58, 3) := by decide +kernel
theorem dX7_addShine_20 : decode cX7_addShine 20 = .ok (.istore 4, 2) := by decide +kernel
theorem dX7_addShine_22 : decode cX7_addShine 22 = .ok (.iload 4, 2) := by decide +kernel
theorem dX7_addShine_24 : decode cX7_addShine 24 = .ok (.iload_n 2, 1) := by decide +kernel
theorem dX7_addShine_25 : decode cX7_addShine 25 = .ok (.isub, 1) := by decide +kernel
theorem dX7_addShine_26 : decode cX7_addShine 26 = .ok (.bipush 8, 2) := by decide +kernel
theorem dX7_addShine_28 : decode cX7_addShine 28 = .ok (.invokestatic 61, 3) := by decide +kernel
theorem dX7_addShine_31 : decode cX7_addShine 31 = .ok (.istore 5, 2) := by decide +kernel
theorem dX7_addShine_33 : decode cX7_addShine 33 = .ok (.aload_n 0, 1) := by decide +kernel
theorem dX7_addShine_34 : decode cX7_addShine 34 = .ok (.iload_n 3, 1) := by decide +kernel
theorem dX7_addShine_35 : decode cX7_addShine 35 = .ok (.iload_n 1, 1) := by decide +kernel
theorem dX7_addShine_36 : decode cX7_addShine 36 = .ok (.iload 4, 2) := by decide +kernel
theorem dX7_addShine_38 : decode cX7_addShine 38 = .ok (.iconst (-1), 1) := by decide +kernel
theorem dX7_addShine_39 : decode cX7_addShine 39 = .ok (.if_icmp .eq 16, 3) := by decide +kernel
theorem dX7_addShine_42 : decode cX7_addShine 42 = .ok (.iload 5, 2) := by decide +kernel
theorem dX7_addShine_44 : decode cX7_addShine 44 = .ok (.iconst 1, 1) := by decide +kernel
theorem dX7_addShine_45 : decode cX7_addShine 45 = .ok (.if_icmp .le 10, 3) := by decide +kernel
theorem dX7_addShine_48 : decode cX7_addShine 48 = .ok (.iload 5, 2) := by decide +kernel
theorem dX7_addShine_50 : decode cX7_addShine 50 = .ok (.bipush 7, 2) := by decide +kernel
theorem dX7_addShine_52 : decode cX7_addShine 52 = .ok (.if_icmp .ne 7, 3) := by decide +kernel
theorem dX7_addShine_55 : decode cX7_addShine 55 = .ok (.iconst 1, 1) := by decide +kernel
theorem dX7_addShine_56 : decode cX7_addShine 56 = .ok (.goto 4, 3) := by decide +kernel
theorem dX7_addShine_59 : decode cX7_addShine 59 = .ok (.iconst 0, 1) := by decide +kernel
theorem dX7_addShine_60 : decode cX7_addShine 60 = .ok (.invokevirtual 54, 3) := by decide +kernel
theorem dX7_addShine_63 : decode cX7_addShine 63 = .ok (.iinc 3 1, 3) := by decide +kernel
theorem dX7_addShine_66 : decode cX7_addShine 66 = .ok (.goto (-64), 3) := by decide +kernel
theorem dX7_addShine_69 : decode cX7_addShine 69 = .ok (.return_, 1) := by decide +kernel
theorem dX7_azimuthOf_0 : decode cX7_azimuthOf 0 = .ok (.iload_n 0, 1) := by decide +kernel
theorem dX7_azimuthOf_1 : decode cX7_azimuthOf 1 = .ok (.invokestatic 64, 3) := by decide +kernel
theorem dX7_azimuthOf_4 : decode cX7_azimuthOf 4 = .ok (.istore_n 2, 1) := by decide +kernel
theorem dX7_azimuthOf_5 : decode cX7_azimuthOf 5 = .ok (.iload_n 1, 1) := by decide +kernel
theorem dX7_azimuthOf_6 : decode cX7_azimuthOf 6 = .ok (.invokestatic 64, 3) := by decide +kernel
theorem dX7_azimuthOf_9 : decode cX7_azimuthOf 9 = .ok (.istore_n 3, 1) := by decide +kernel
theorem dX7_azimuthOf_10 : decode cX7_azimuthOf 10 = .ok (.iload_n 2, 1) := by decide +kernel
theorem dX7_azimuthOf_11 : decode cX7_azimuthOf 11 = .ok (.ifCond .ne 9, 3) := by decide +kernel
theorem dX7_azimuthOf_14 : decode cX7_azimuthOf 14 = .ok (.iload_n 3, 1) := by decide +kernel
theorem dX7_azimuthOf_15 : decode cX7_azimuthOf 15 = .ok (.ifCond .ne 5, 3) := by decide +kernel
theorem dX7_azimuthOf_18 : decode cX7_azimuthOf 18 = .ok (.iconst (-1), 1) := by decide +kernel
theorem dX7_azimuthOf_19 : decode cX7_azimuthOf 19 = .ok (.ireturn, 1) := by decide +kernel
theorem dX7_azimuthOf_20 : decode cX7_azimuthOf 20 = .ok (.iconst 2, 1) := by decide +kernel
theorem dX7_azimuthOf_21 : decode cX7_azimuthOf 21 = .ok (.iload_n 3, 1) := by decide +kernel
theorem dX7_azimuthOf_22 : decode cX7_azimuthOf 22 = .ok (.imul, 1) := by decide +kernel
theorem dX7_azimuthOf_23 : decode cX7_azimuthOf 23 = .ok (.iload_n 2, 1) := by decide +kernel
theorem dX7_azimuthOf_24 : decode cX7_azimuthOf 24 = .ok (.if_icmp .ge 13, 3) := by decide +kernel
theorem dX7_azimuthOf_27 : decode cX7_azimuthOf 27 = .ok (.iload_n 0, 1) := by decide +kernel
theorem dX7_azimuthOf_28 : decode cX7_azimuthOf 28 = .ok (.ifCond .le 7, 3) := by decide +kernel
theorem dX7_azimuthOf_31 : decode cX7_azimuthOf 31 = .ok (.iconst 0, 1) := by decide +kernel
theorem dX7_azimuthOf_32 : decode cX7_azimuthOf 32 = .ok (.goto 4, 3) := by decide +kernel
theorem dX7_azimuthOf_35 : decode cX7_azimuthOf 35 = .ok (.iconst 4, 1) := by decide +kernel
theorem dX7_azimuthOf_36 : decode cX7_azimuthOf 36 = .ok (.ireturn, 1) := by decide +kernel
theorem dX7_azimuthOf_37 : decode cX7_azimuthOf 37 = .ok (.iconst 2, 1) := by decide +kernel
theorem dX7_azimuthOf_38 : decode cX7_azimuthOf 38 = .ok (.iload_n 2, 1) := by decide +kernel
theorem dX7_azimuthOf_39 : decode cX7_azimuthOf 39 = .ok (.imul, 1) := by decide +kernel
theorem dX7_azimuthOf_40 : decode cX7_azimuthOf 40 = .ok (.iload_n 3, 1) := by decide +kernel
theorem dX7_azimuthOf_41 : decode cX7_azimuthOf 41 = .ok (.if_icmp .ge 14, 3) := by decide +kernel
theorem dX7_azimuthOf_44 : decode cX7_azimuthOf 44 = .ok (.iload_n 1, 1) := by decide +kernel
theorem dX7_azimuthOf_45 : decode cX7_azimuthOf 45 = .ok (.ifCond .ge 7, 3) := by decide +kernel
theorem dX7_azimuthOf_48 : decode cX7_azimuthOf 48 = .ok (.iconst 2, 1) := by decide +kernel
theorem dX7_azimuthOf_49 : decode cX7_azimuthOf 49 = .ok (.goto 5, 3) := by decide +kernel
theorem dX7_azimuthOf_52 : decode cX7_azimuthOf 52 = .ok (.bipush 6, 2) := by decide +kernel
theorem dX7_azimuthOf_54 : decode cX7_azimuthOf 54 = .ok (.ireturn, 1) := by decide +kernel
theorem dX7_azimuthOf_55 : decode cX7_azimuthOf 55 = .ok (.iload_n 1, 1) := by decide +kernel
theorem dX7_azimuthOf_56 : decode cX7_azimuthOf 56 = .ok (.ifCond .ge 13, 3) := by decide +kernel
theorem dX7_azimuthOf_59 : decode cX7_azimuthOf 59 = .ok (.iload_n 0, 1) := by decide +kernel
theorem dX7_azimuthOf_60 : decode cX7_azimuthOf 60 = .ok (.ifCond .le 7, 3) := by decide +kernel
theorem dX7_azimuthOf_63 : decode cX7_azimuthOf 63 = .ok (.iconst 1, 1) := by decide +kernel
theorem dX7_azimuthOf_64 : decode cX7_azimuthOf 64 = .ok (.goto 4, 3) := by decide +kernel
theorem dX7_azimuthOf_67 : decode cX7_azimuthOf 67 = .ok (.iconst 3, 1) := by decide +kernel
theorem dX7_azimuthOf_68 : decode cX7_azimuthOf 68 = .ok (.ireturn, 1) := by decide +kernel
theorem dX7_azimuthOf_69 : decode cX7_azimuthOf 69 = .ok (.iload_n 0, 1) := by decide +kernel
theorem dX7_azimuthOf_70 : decode cX7_azimuthOf 70 = .ok (.ifCond .ge 7, 3) := by decide +kernel
theorem dX7_azimuthOf_73 : decode cX7_azimuthOf 73 = .ok (.iconst 5, 1) := by decide +kernel
theorem dX7_azimuthOf_74 : decode cX7_azimuthOf 74 = .ok (.goto 5, 3) := by decide +kernel
theorem dX7_azimuthOf_77 : decode cX7_azimuthOf 77 = .ok (.bipush 7, 2) := by decide +kernel
theorem dX7_azimuthOf_79 : decode cX7_azimuthOf 79 = .ok (.ireturn, 1) := by decide +kernel
theorem dX7_mark_0 : decode cX7_mark 0 = .ok (.iload_n 1, 1) := by decide +kernel
theorem dX7_mark_1 : decode cX7_mark 1 = .ok (.iconst 0, 1) := by decide +kernel
theorem dX7_mark_2 : decode cX7_mark 2 = .ok (.sipush 725, 3) := by decide +kernel
theorem dX7_mark_5 : decode cX7_mark 5 = .ok (.invokestatic 24, 3) := by decide +kernel
theorem dX7_mark_8 : decode cX7_mark 8 = .ok (.ifCond .eq 38, 3) := by decide +kernel
theorem dX7_mark_11 : decode cX7_mark 11 = .ok (.aload_n 0, 1) := by decide +kernel
theorem dX7_mark_12 : decode cX7_mark 12 = .ok (.getfield 11, 3) := by decide +kernel
theorem dX7_mark_15 : decode cX7_mark 15 = .ok (.iload_n 1, 1) := by decide +kernel
theorem dX7_mark_16 : decode cX7_mark 16 = .ok (.iaload, 1) := by decide +kernel
theorem dX7_mark_17 : decode cX7_mark 17 = .ok (.iconst 1, 1) := by decide +kernel
theorem dX7_mark_18 : decode cX7_mark 18 = .ok (.iload_n 2, 1) := by decide +kernel
theorem dX7_mark_19 : decode cX7_mark 19 = .ok (.ishl, 1) := by decide +kernel
theorem dX7_mark_20 : decode cX7_mark 20 = .ok (.iconst (-1), 1) := by decide +kernel
theorem dX7_mark_21 : decode cX7_mark 21 = .ok (.ixor, 1) := by decide +kernel
theorem dX7_mark_22 : decode cX7_mark 22 = .ok (.iand, 1) := by decide +kernel
theorem dX7_mark_23 : decode cX7_mark 23 = .ok (.istore 4, 2) := by decide +kernel
theorem dX7_mark_25 : decode cX7_mark 25 = .ok (.aload_n 0, 1) := by decide +kernel
theorem dX7_mark_26 : decode cX7_mark 26 = .ok (.getfield 11, 3) := by decide +kernel
theorem dX7_mark_29 : decode cX7_mark 29 = .ok (.iload_n 1, 1) := by decide +kernel
theorem dX7_mark_30 : decode cX7_mark 30 = .ok (.iload_n 3, 1) := by decide +kernel
theorem dX7_mark_31 : decode cX7_mark 31 = .ok (.ifCond .eq 12, 3) := by decide +kernel
theorem dX7_mark_34 : decode cX7_mark 34 = .ok (.iload 4, 2) := by decide +kernel
theorem dX7_mark_36 : decode cX7_mark 36 = .ok (.iconst 1, 1) := by decide +kernel
theorem dX7_mark_37 : decode cX7_mark 37 = .ok (.iload_n 2, 1) := by decide +kernel
theorem dX7_mark_38 : decode cX7_mark 38 = .ok (.ishl, 1) := by decide +kernel
theorem dX7_mark_39 : decode cX7_mark 39 = .ok (.ior, 1) := by decide +kernel
theorem dX7_mark_40 : decode cX7_mark 40 = .ok (.goto 5, 3) := by decide +kernel
theorem dX7_mark_43 : decode cX7_mark 43 = .ok (.iload 4, 2) := by decide +kernel
theorem dX7_mark_45 : decode cX7_mark 45 = .ok (.iastore, 1) := by decide +kernel
theorem dX7_mark_46 : decode cX7_mark 46 = .ok (.return_, 1) := by decide +kernel
theorem dX7_countLet_0 : decode cX7_countLet 0 = .ok (.iconst 0, 1) := by decide +kernel
theorem dX7_countLet_1 : decode cX7_countLet 1 = .ok (.istore_n 2, 1) := by decide +kernel
theorem dX7_countLet_2 : decode cX7_countLet 2 = .ok (.iconst 0, 1) := by decide +kernel
theorem dX7_countLet_3 : decode cX7_countLet 3 = .ok (.istore_n 3, 1) := by decide +kernel
theorem dX7_countLet_4 : decode cX7_countLet 4 = .ok (.iload_n 3, 1) := by decide +kernel
theorem dX7_countLet_5 : decode cX7_countLet 5 = .ok (.sipush 726, 3) := by decide +kernel
theorem dX7_countLet_8 : decode cX7_countLet 8 = .ok (.if_icmp .ge 24, 3) := by decide +kernel
theorem dX7_countLet_11 : decode cX7_countLet 11 = .ok (.aload_n 0, 1) := by decide +kernel
theorem dX7_countLet_12 : decode cX7_countLet 12 = .ok (.getfield 11, 3) := by decide +kernel
theorem dX7_countLet_15 : decode cX7_countLet 15 = .ok (.iload_n 3, 1) := by decide +kernel
theorem dX7_countLet_16 : decode cX7_countLet 16 = .ok (.iaload, 1) := by decide +kernel
theorem dX7_countLet_17 : decode cX7_countLet 17 = .ok (.iload_n 1, 1) := by decide +kernel
theorem dX7_countLet_18 : decode cX7_countLet 18 = .ok (.iand, 1) := by decide +kernel
theorem dX7_countLet_19 : decode cX7_countLet 19 = .ok (.iload_n 1, 1) := by decide +kernel
theorem dX7_countLet_20 : decode cX7_countLet 20 = .ok (.if_icmp .ne 6, 3) := by decide +kernel
theorem dX7_countLet_23 : decode cX7_countLet 23 = .ok (.iinc 2 1, 3) := by decide +kernel
theorem dX7_countLet_26 : decode cX7_countLet 26 = .ok (.iinc 3 1, 3) := by decide +kernel
theorem dX7_countLet_29 : decode cX7_countLet 29 = .ok (.goto (-25), 3) := by decide +kernel
theorem dX7_countLet_32 : decode cX7_countLet 32 = .ok (.iload_n 2, 1) := by decide +kernel
theorem dX7_countLet_33 : decode cX7_countLet 33 = .ok (.ireturn, 1) := by decide +kernel
theorem dX7_nthLet_0 : decode cX7_nthLet 0 = .ok (.iload_n 2, 1) := by decide +kernel
theorem dX7_nthLet_1 : decode cX7_nthLet 1 = .ok (.istore_n 3, 1) := by decide +kernel
theorem dX7_nthLet_2 : decode cX7_nthLet 2 = .ok (.iconst 0, 1) := by decide +kernel
theorem dX7_nthLet_3 : decode cX7_nthLet 3 = .ok (.istore 4, 2) := by decide +kernel
theorem dX7_nthLet_5 : decode cX7_nthLet 5 = .ok (.iload 4, 2) := by decide +kernel
theorem dX7_nthLet_7 : decode cX7_nthLet 7 = .ok (.sipush 726, 3) := by decide +kernel
theorem dX7_nthLet_10 : decode cX7_nthLet 10 = .ok (.if_icmp .ge 32, 3) := by decide +kernel
theorem dX7_nthLet_13 : decode cX7_nthLet 13 = .ok (.aload_n 0, 1) := by decide +kernel
theorem dX7_nthLet_14 : decode cX7_nthLet 14 = .ok (.getfield 11, 3) := by decide +kernel
theorem dX7_nthLet_17 : decode cX7_nthLet 17 = .ok (.iload 4, 2) := by decide +kernel
theorem dX7_nthLet_19 : decode cX7_nthLet 19 = .ok (.iaload, 1) := by decide +kernel
theorem dX7_nthLet_20 : decode cX7_nthLet 20 = .ok (.iload_n 1, 1) := by decide +kernel
theorem dX7_nthLet_21 : decode cX7_nthLet 21 = .ok (.iand, 1) := by decide +kernel
theorem dX7_nthLet_22 : decode cX7_nthLet 22 = .ok (.iload_n 1, 1) := by decide +kernel
theorem dX7_nthLet_23 : decode cX7_nthLet 23 = .ok (.if_icmp .ne 13, 3) := by decide +kernel
theorem dX7_nthLet_26 : decode cX7_nthLet 26 = .ok (.iload_n 3, 1) := by decide +kernel
theorem dX7_nthLet_27 : decode cX7_nthLet 27 = .ok (.ifCond .ne 6, 3) := by decide +kernel
theorem dX7_nthLet_30 : decode cX7_nthLet 30 = .ok (.iload 4, 2) := by decide +kernel
theorem dX7_nthLet_32 : decode cX7_nthLet 32 = .ok (.ireturn, 1) := by decide +kernel
theorem dX7_nthLet_33 : decode cX7_nthLet 33 = .ok (.iinc 3 (-1), 3) := by decide +kernel
theorem dX7_nthLet_36 : decode cX7_nthLet 36 = .ok (.iinc 4 1, 3) := by decide +kernel
theorem dX7_nthLet_39 : decode cX7_nthLet 39 = .ok (.goto (-34), 3) := by decide +kernel
theorem dX7_nthLet_42 : decode cX7_nthLet 42 = .ok (.iconst (-1), 1) := by decide +kernel
theorem dX7_nthLet_43 : decode cX7_nthLet 43 = .ok (.ireturn, 1) := by decide +kernel
theorem dX7_mostLet_0 : decode cX7_mostLet 0 = .ok (.iconst 0, 1) := by decide +kernel
theorem dX7_mostLet_1 : decode cX7_mostLet 1 = .ok (.istore_n 2, 1) := by decide +kernel
theorem dX7_mostLet_2 : decode cX7_mostLet 2 = .ok (.iconst (-1), 1) := by decide +kernel
theorem dX7_mostLet_3 : decode cX7_mostLet 3 = .ok (.istore_n 3, 1) := by decide +kernel
theorem dX7_mostLet_4 : decode cX7_mostLet 4 = .ok (.iconst 0, 1) := by decide +kernel
theorem dX7_mostLet_5 : decode cX7_mostLet 5 = .ok (.istore 4, 2) := by decide +kernel
theorem dX7_mostLet_7 : decode cX7_mostLet 7 = .ok (.iload 4, 2) := by decide +kernel
theorem dX7_mostLet_9 : decode cX7_mostLet 9 = .ok (.sipush 726, 3) := by decide +kernel
theorem dX7_mostLet_12 : decode cX7_mostLet 12 = .ok (.if_icmp .ge 35, 3) := by decide +kernel
theorem dX7_mostLet_15 : decode cX7_mostLet 15 = .ok (.aload_n 0, 1) := by decide +kernel
theorem dX7_mostLet_16 : decode cX7_mostLet 16 = .ok (.getfield 11, 3) := by decide +kernel
theorem dX7_mostLet_19 : decode cX7_mostLet 19 = .ok (.iload 4, 2) := by decide +kernel
theorem dX7_mostLet_21 : decode cX7_mostLet 21 = .ok (.iaload, 1) := by decide +kernel
theorem dX7_mostLet_22 : decode cX7_mostLet 22 = .ok (.iload_n 1, 1) := by decide +kernel
theorem dX7_mostLet_23 : decode cX7_mostLet 23 = .ok (.iand, 1) := by decide +kernel
theorem dX7_mostLet_24 : decode cX7_mostLet 24 = .ok (.invokestatic 67, 3) := by decide +kernel
theorem dX7_mostLet_27 : decode cX7_mostLet 27 = .ok (.istore 5, 2) := by decide +kernel
theorem dX7_mostLet_29 : decode cX7_mostLet 29 = .ok (.iload 5, 2) := by decide +kernel
theorem dX7_mostLet_31 : decode cX7_mostLet 31 = .ok (.iload_n 3, 1) := by decide +kernel
theorem dX7_mostLet_32 : decode cX7_mostLet 32 = .ok (.if_icmp .le 9, 3) := by decide +kernel
theorem dX7_mostLet_35 : decode cX7_mostLet 35 = .ok (.iload 5, 2) := by decide +kernel
theorem dX7_mostLet_37 : decode cX7_mostLet 37 = .ok (.istore_n 3, 1) := by decide +kernel
theorem dX7_mostLet_38 : decode cX7_mostLet 38 = .ok (.iload 4, 2) := by decide +kernel
theorem dX7_mostLet_40 : decode cX7_mostLet 40 = .ok (.istore_n 2, 1) := by decide +kernel
theorem dX7_mostLet_41 : decode cX7_mostLet 41 = .ok (.iinc 4 1, 3) := by decide +kernel
theorem dX7_mostLet_44 : decode cX7_mostLet 44 = .ok (.goto (-37), 3) := by decide +kernel
theorem dX7_mostLet_47 : decode cX7_mostLet 47 = .ok (.iload_n 2, 1) := by decide +kernel
theorem dX7_mostLet_48 : decode cX7_mostLet 48 = .ok (.ireturn, 1) := by decide +kernel
theorem dX7_findSuns_0 : decode cX7_findSuns 0 = .ok (.iload_n 1, 1) := by decide +kernel
theorem dX7_findSuns_1 : decode cX7_findSuns 1 = .ok (.ifCond .ne 5, 3) := by decide +kernel
theorem dX7_findSuns_4 : decode cX7_findSuns 4 = .ok (.iconst 0, 1) := by decide +kernel
theorem dX7_findSuns_5 : decode cX7_findSuns 5 = .ok (.ireturn, 1) := by decide +kernel
theorem dX7_findSuns_6 : decode cX7_findSuns 6 = .ok (.aload_n 0, 1) := by decide +kernel
theorem dX7_findSuns_7 : decode cX7_findSuns 7 = .ok (.iload_n 1, 1) := by decide +kernel
theorem dX7_findSuns_8 : decode cX7_findSuns 8 = .ok (.invokevirtual 72, 3) := by decide +kernel
theorem dX7_findSuns_11 : decode cX7_findSuns 11 = .ok (.aload_n 0, 1) := by decide +kernel
theorem dX7_findSuns_12 : decode cX7_findSuns 12 = .ok (.iload_n 1, 1) := by decide +kernel
theorem dX7_findSuns_13 : decode cX7_findSuns 13 = .ok (.iconst 0, 1) := by decide +kernel
theorem dX7_findSuns_14 : decode cX7_findSuns 14 = .ok (.invokevirtual 76, 3) := by decide +kernel
theorem dX7_findSuns_17 : decode cX7_findSuns 17 = .ok (.ifCond .eq 5, 3) := by decide +kernel
theorem dX7_findSuns_20 : decode cX7_findSuns 20 = .ok (.iconst 1, 1) := by decide +kernel
theorem dX7_findSuns_21 : decode cX7_findSuns 21 = .ok (.ireturn, 1) := by decide +kernel
theorem dX7_findSuns_22 : decode cX7_findSuns 22 = .ok (.aload_n 0, 1) := by decide +kernel
theorem dX7_findSuns_23 : decode cX7_findSuns 23 = .ok (.iload_n 1, 1) := by decide +kernel
theorem dX7_findSuns_24 : decode cX7_findSuns 24 = .ok (.iconst 0, 1) := by decide +kernel
theorem dX7_findSuns_25 : decode cX7_findSuns 25 = .ok (.invokevirtual 80, 3) := by decide +kernel
theorem dX7_findSuns_28 : decode cX7_findSuns 28 = .ok (.ifCond .eq 5, 3) := by decide +kernel
theorem dX7_findSuns_31 : decode cX7_findSuns 31 = .ok (.iconst 2, 1) := by decide +kernel
theorem dX7_findSuns_32 : decode cX7_findSuns 32 = .ok (.ireturn, 1) := by decide +kernel
theorem dX7_findSuns_33 : decode cX7_findSuns 33 = .ok (.aload_n 0, 1) := by decide +kernel
theorem dX7_findSuns_34 : decode cX7_findSuns 34 = .ok (.iload_n 1, 1) := by decide +kernel
theorem dX7_findSuns_35 : decode cX7_findSuns 35 = .ok (.invokevirtual 83, 3) := by decide +kernel
theorem dX7_findSuns_38 : decode cX7_findSuns 38 = .ok (.ifCond .eq 7, 3) := by decide +kernel
theorem dX7_findSuns_41 : decode cX7_findSuns 41 = .ok (.iconst 3, 1) := by decide +kernel
theorem dX7_findSuns_42 : decode cX7_findSuns 42 = .ok (.goto 4, 3) := by decide +kernel
theorem dX7_findSuns_45 : decode cX7_findSuns 45 = .ok (.iconst (-1), 1) := by decide +kernel
theorem dX7_findSuns_46 : decode cX7_findSuns 46 = .ok (.ireturn, 1) := by decide +kernel
theorem dX7_sun_0 : decode cX7_sun 0 = .ok (.iconst 3, 1) := by decide +kernel
theorem dX7_sun_1 : decode cX7_sun 1 = .ok (.iload_n 2, 1) := by decide +kernel
theorem dX7_sun_2 : decode cX7_sun 2 = .ok (.isub, 1) := by decide +kernel
theorem dX7_sun_3 : decode cX7_sun 3 = .ok (.iload_n 1, 1) := by decide +kernel
theorem dX7_sun_4 : decode cX7_sun 4 = .ok (.iadd, 1) := by decide +kernel
theorem dX7_sun_5 : decode cX7_sun 5 = .ok (.istore_n 3, 1) := by decide +kernel
theorem dX7_sun_6 : decode cX7_sun 6 = .ok (.iload_n 3, 1) := by decide +kernel
theorem dX7_sun_7 : decode cX7_sun 7 = .ok (.iconst 0, 1) := by decide +kernel
theorem dX7_sun_8 : decode cX7_sun 8 = .ok (.iconst 2, 1) := by decide +kernel
theorem dX7_sun_9 : decode cX7_sun 9 = .ok (.invokestatic 24, 3) := by decide +kernel
theorem dX7_sun_12 : decode cX7_sun 12 = .ok (.ifCond .eq 12, 3) := by decide +kernel
theorem dX7_sun_15 : decode cX7_sun 15 = .ok (.aload_n 0, 1) := by decide +kernel
theorem dX7_sun_16 : decode cX7_sun 16 = .ok (.getfield 21, 3) := by decide +kernel
theorem dX7_sun_19 : decode cX7_sun 19 = .ok (.iload_n 3, 1) := by decide +kernel
theorem dX7_sun_20 : decode cX7_sun 20 = .ok (.iaload, 1) := by decide +kernel
theorem dX7_sun_21 : decode cX7_sun 21 = .ok (.goto 4, 3) := by decide +kernel
theorem dX7_sun_24 : decode cX7_sun 24 = .ok (.iconst (-1), 1) := by decide +kernel
theorem dX7_sun_25 : decode cX7_sun 25 = .ok (.ireturn, 1) := by decide +kernel
theorem dX7_gatherKinds_0 : decode cX7_gatherKinds 0 = .ok (.aload_n 0, 1) := by decide +kernel
theorem dX7_gatherKinds_1 : decode cX7_gatherKinds 1 = .ok (.iconst 0, 1) := by decide +kernel
theorem dX7_gatherKinds_2 : decode cX7_gatherKinds 2 = .ok (.putfield 87, 3) := by decide +kernel
theorem dX7_gatherKinds_5 : decode cX7_gatherKinds 5 = .ok (.aload_n 0, 1) := by decide +kernel
theorem dX7_gatherKinds_6 : decode cX7_gatherKinds 6 = .ok (.iconst 0, 1) := by decide +kernel
theorem dX7_gatherKinds_7 : decode cX7_gatherKinds 7 = .ok (.putfield 91, 3) := by decide +kernel
theorem dX7_gatherKinds_10 : decode cX7_gatherKinds 10 = .ok (.iconst 0, 1) := by decide +kernel
theorem dX7_gatherKinds_11 : decode cX7_gatherKinds 11 = .ok (.istore_n 2, 1) := by decide +kernel
theorem dX7_gatherKinds_12 : decode cX7_gatherKinds 12 = .ok (.iload_n 2, 1) := by decide +kernel
theorem dX7_gatherKinds_13 : decode cX7_gatherKinds 13 = .ok (.sipush 726, 3) := by decide +kernel
theorem dX7_gatherKinds_16 : decode cX7_gatherKinds 16 = .ok (.if_icmp .ge 85, 3) := by decide +kernel
theorem dX7_gatherKinds_19 : decode cX7_gatherKinds 19 = .ok (.aload_n 0, 1) := by decide +kernel
theorem dX7_gatherKinds_20 : decode cX7_gatherKinds 20 = .ok (.getfield 11, 3) := by decide +kernel
theorem dX7_gatherKinds_23 : decode cX7_gatherKinds 23 = .ok (.iload_n 2, 1) := by decide +kernel
theorem dX7_gatherKinds_24 : decode cX7_gatherKinds 24 = .ok (.iaload, 1) := by decide +kernel
theorem dX7_gatherKinds_25 : decode cX7_gatherKinds 25 = .ok (.iload_n 1, 1) := by decide +kernel
theorem dX7_gatherKinds_26 : decode cX7_gatherKinds 26 = .ok (.iand, 1) := by decide +kernel
theorem dX7_gatherKinds_27 : decode cX7_gatherKinds 27 = .ok (.istore_n 3, 1) := by decide +kernel
theorem dX7_gatherKinds_28 : decode cX7_gatherKinds 28 = .ok (.iload_n 3, 1) := by decide +kernel
theorem dX7_gatherKinds_29 : decode cX7_gatherKinds 29 = .ok (.ifCond .eq 66, 3) := by decide +kernel
theorem dX7_gatherKinds_32 : decode cX7_gatherKinds 32 = .ok (.aload_n 0, 1) := by decide +kernel
theorem dX7_gatherKinds_33 : decode cX7_gatherKinds 33 = .ok (.iload_n 3, 1) := by decide +kernel
theorem dX7_gatherKinds_34 : decode cX7_gatherKinds 34 = .ok (.invokevirtual 94, 3) := by decide +kernel
theorem dX7_gatherKinds_37 : decode cX7_gatherKinds 37 = .ok (.ifCond .ne 58, 3) := by decide +kernel
theorem dX7_gatherKinds_40 : decode cX7_gatherKinds 40 = .ok (.aload_n 0, 1) := by decide +kernel
theorem dX7_gatherKinds_41 : decode cX7_gatherKinds 41 = .ok (.getfield 87, 3) := by decide +kernel
theorem dX7_gatherKinds_44 : decode cX7_gatherKinds 44 = .ok (.sipush 726, 3) := by decide +kernel
theorem dX7_gatherKinds_47 : decode cX7_gatherKinds 47 = .ok (.if_icmp .ge 48, 3) := by decide +kernel
theorem dX7_gatherKinds_50 : decode cX7_gatherKinds 50 = .ok (.aload_n 0, 1) := by decide +kernel
theorem dX7_gatherKinds_51 : decode cX7_gatherKinds 51 = .ok (.getfield 15, 3) := by decide +kernel
theorem dX7_gatherKinds_54 : decode cX7_gatherKinds 54 = .ok (.aload_n 0, 1) := by decide +kernel
theorem dX7_gatherKinds_55 : decode cX7_gatherKinds 55 = .ok (.getfield 87, 3) := by decide +kernel
theorem dX7_gatherKinds_58 : decode cX7_gatherKinds 58 = .ok (.iload_n 3, 1) := by decide +kernel
theorem dX7_gatherKinds_59 : decode cX7_gatherKinds 59 = .ok (.iastore, 1) := by decide +kernel
theorem dX7_gatherKinds_60 : decode cX7_gatherKinds 60 = .ok (.aload_n 0, 1) := by decide +kernel
theorem dX7_gatherKinds_61 : decode cX7_gatherKinds 61 = .ok (.getfield 18, 3) := by decide +kernel
theorem dX7_gatherKinds_64 : decode cX7_gatherKinds 64 = .ok (.aload_n 0, 1) := by decide +kernel
theorem dX7_gatherKinds_65 : decode cX7_gatherKinds 65 = .ok (.getfield 87, 3) := by decide +kernel
theorem dX7_gatherKinds_68 : decode cX7_gatherKinds 68 = .ok (.iload_n 2, 1) := by decide +kernel
theorem dX7_gatherKinds_69 : decode cX7_gatherKinds 69 = .ok (.iastore, 1) := by decide +kernel
theorem dX7_gatherKinds_70 : decode cX7_gatherKinds 70 = .ok (.aload_n 0, 1) := by decide +kernel
theorem dX7_gatherKinds_71 : decode cX7_gatherKinds 71 = .ok (.dup, 1) := by decide +kernel
theorem dX7_gatherKinds_72 : decode cX7_gatherKinds 72 = .ok (.getfield 87, 3) := by decide +kernel
theorem dX7_gatherKinds_75 : decode cX7_gatherKinds 75 = .ok (.iconst 1, 1) := by decide +kernel
theorem dX7_gatherKinds_76 : decode cX7_gatherKinds 76 = .ok (.iadd, 1) := by decide +kernel
theorem dX7_gatherKinds_77 : decode cX7_gatherKinds 77 = .ok (.putfield 87, 3) := by decide +kernel
theorem dX7_gatherKinds_80 : decode cX7_gatherKinds 80 = .ok (.aload_n 0, 1) := by decide +kernel
theorem dX7_gatherKinds_81 : decode cX7_gatherKinds 81 = .ok (.aload_n 0, 1) := by decide +kernel
theorem dX7_gatherKinds_82 : decode cX7_gatherKinds 82 = .ok (.getfield 91, 3) := by decide +kernel
theorem dX7_gatherKinds_85 : decode cX7_gatherKinds 85 = .ok (.iload_n 3, 1) := by decide +kernel
theorem dX7_gatherKinds_86 : decode cX7_gatherKinds 86 = .ok (.invokestatic 67, 3) := by decide +kernel
theorem dX7_gatherKinds_89 : decode cX7_gatherKinds 89 = .ok (.invokestatic 45, 3) := by decide +kernel
theorem dX7_gatherKinds_92 : decode cX7_gatherKinds 92 = .ok (.putfield 91, 3) := by decide +kernel
theorem dX7_gatherKinds_95 : decode cX7_gatherKinds 95 = .ok (.iinc 2 1, 3) := by decide +kernel
theorem dX7_gatherKinds_98 : decode cX7_gatherKinds 98 = .ok (.goto (-86), 3) := by decide +kernel
theorem dX7_gatherKinds_101 : decode cX7_gatherKinds 101 = .ok (.return_, 1) := by decide +kernel
theorem dX7_isKind_0 : decode cX7_isKind 0 = .ok (.iconst 0, 1) := by decide +kernel
theorem dX7_isKind_1 : decode cX7_isKind 1 = .ok (.istore_n 2, 1) := by decide +kernel
theorem dX7_isKind_2 : decode cX7_isKind 2 = .ok (.iload_n 2, 1) := by decide +kernel
theorem dX7_isKind_3 : decode cX7_isKind 3 = .ok (.aload_n 0, 1) := by decide +kernel
theorem dX7_isKind_4 : decode cX7_isKind 4 = .ok (.getfield 87, 3) := by decide +kernel
theorem dX7_isKind_7 : decode cX7_isKind 7 = .ok (.if_icmp .ge 21, 3) := by decide +kernel
theorem dX7_isKind_10 : decode cX7_isKind 10 = .ok (.aload_n 0, 1) := by decide +kernel
theorem dX7_isKind_11 : decode cX7_isKind 11 = .ok (.getfield 15, 3) := by decide +kernel
theorem dX7_isKind_14 : decode cX7_isKind 14 = .ok (.iload_n 2, 1) := by decide +kernel
theorem dX7_isKind_15 : decode cX7_isKind 15 = .ok (.iaload, 1) := by decide +kernel
theorem dX7_isKind_16 : decode cX7_isKind 16 = .ok (.iload_n 1, 1) := by decide +kernel
theorem dX7_isKind_17 : decode cX7_isKind 17 = .ok (.if_icmp .ne 5, 3) := by decide +kernel
theorem dX7_isKind_20 : decode cX7_isKind 20 = .ok (.iconst 1, 1) := by decide +kernel
theorem dX7_isKind_21 : decode cX7_isKind 21 = .ok (.ireturn, 1) := by decide +kernel
theorem dX7_isKind_22 : decode cX7_isKind 22 = .ok (.iinc 2 1, 3) := by decide +kernel
theorem dX7_isKind_25 : decode cX7_isKind 25 = .ok (.goto (-23), 3) := by decide +kernel
theorem dX7_isKind_28 : decode cX7_isKind 28 = .ok (.iconst 0, 1) := by decide +kernel
theorem dX7_isKind_29 : decode cX7_isKind 29 = .ok (.ireturn, 1) := by decide +kernel
theorem dX7_oneLets_0 : decode cX7_oneLets 0 = .ok (.iload_n 1, 1) := by decide +kernel
theorem dX7_oneLets_1 : decode cX7_oneLets 1 = .ok (.invokestatic 67, 3) := by decide +kernel
theorem dX7_oneLets_4 : decode cX7_oneLets 4 = .ok (.aload_n 0, 1) := by decide +kernel
theorem dX7_oneLets_5 : decode cX7_oneLets 5 = .ok (.getfield 91, 3) := by decide +kernel
theorem dX7_oneLets_8 : decode cX7_oneLets 8 = .ok (.if_icmp .le 5, 3) := by decide +kernel
theorem dX7_oneLets_11 : decode cX7_oneLets 11 = .ok (.iconst 0, 1) := by decide +kernel
theorem dX7_oneLets_12 : decode cX7_oneLets 12 = .ok (.ireturn, 1) := by decide +kernel
theorem dX7_oneLets_13 : decode cX7_oneLets 13 = .ok (.iconst 0, 1) := by decide +kernel
theorem dX7_oneLets_14 : decode cX7_oneLets 14 = .ok (.iload_n 2, 1) := by decide +kernel
theorem dX7_oneLets_15 : decode cX7_oneLets 15 = .ok (.invokestatic 45, 3) := by decide +kernel
theorem dX7_oneLets_18 : decode cX7_oneLets 18 = .ok (.istore_n 3, 1) := by decide +kernel
theorem dX7_oneLets_19 : decode cX7_oneLets 19 = .ok (.iload_n 3, 1) := by decide +kernel
theorem dX7_oneLets_20 : decode cX7_oneLets 20 = .ok (.aload_n 0, 1) := by decide +kernel
theorem dX7_oneLets_21 : decode cX7_oneLets 21 = .ok (.getfield 87, 3) := by decide +kernel
theorem dX7_oneLets_24 : decode cX7_oneLets 24 = .ok (.if_icmp .ge 36, 3) := by decide +kernel
theorem dX7_oneLets_27 : decode cX7_oneLets 27 = .ok (.iload_n 1, 1) := by decide +kernel
theorem dX7_oneLets_28 : decode cX7_oneLets 28 = .ok (.aload_n 0, 1) := by decide +kernel
theorem dX7_oneLets_29 : decode cX7_oneLets 29 = .ok (.getfield 15, 3) := by decide +kernel
theorem dX7_oneLets_32 : decode cX7_oneLets 32 = .ok (.iload_n 3, 1) := by decide +kernel
theorem dX7_oneLets_33 : decode cX7_oneLets 33 = .ok (.iaload, 1) := by decide +kernel
theorem dX7_oneLets_34 : decode cX7_oneLets 34 = .ok (.iconst (-1), 1) := by decide +kernel
theorem dX7_oneLets_35 : decode cX7_oneLets 35 = .ok (.ixor, 1) := by decide +kernel
theorem dX7_oneLets_36 : decode cX7_oneLets 36 = .ok (.iand, 1) := by decide +kernel
theorem dX7_oneLets_37 : decode cX7_oneLets 37 = .ok (.ifCond .ne 17, 3) := by decide +kernel
theorem dX7_oneLets_40 : decode cX7_oneLets 40 = .ok (.aload_n 0, 1) := by decide +kernel
theorem dX7_oneLets_41 : decode cX7_oneLets 41 = .ok (.getfield 21, 3) := by decide +kernel
theorem dX7_oneLets_44 : decode cX7_oneLets 44 = .ok (.iconst 2, 1) := by decide +kernel
theorem dX7_oneLets_45 : decode cX7_oneLets 45 = .ok (.aload_n 0, 1) := by decide +kernel
theorem dX7_oneLets_46 : decode cX7_oneLets 46 = .ok (.getfield 18, 3) := by decide +kernel
theorem dX7_oneLets_49 : decode cX7_oneLets 49 = .ok (.iload_n 3, 1) := by decide +kernel
theorem dX7_oneLets_50 : decode cX7_oneLets 50 = .ok (.iaload, 1) := by decide +kernel
theorem dX7_oneLets_51 : decode cX7_oneLets 51 = .ok (.iastore, 1) := by decide +kernel
theorem dX7_oneLets_52 : decode cX7_oneLets 52 = .ok (.iconst 1, 1) := by decide +kernel
theorem dX7_oneLets_53 : decode cX7_oneLets 53 = .ok (.ireturn, 1) := by decide +kernel
theorem dX7_oneLets_54 : decode cX7_oneLets 54 = .ok (.iinc 3 1, 3) := by decide +kernel
theorem dX7_oneLets_57 : decode cX7_oneLets 57 = .ok (.goto (-38), 3) := by decide +kernel
theorem dX7_oneLets_60 : decode cX7_oneLets 60 = .ok (.iconst 0, 1) := by decide +kernel
theorem dX7_oneLets_61 : decode cX7_oneLets 61 = .ok (.ireturn, 1) := by decide +kernel
theorem dX7_twoLet_0 : decode cX7_twoLet 0 = .ok (.iload_n 1, 1) := by decide +kernel
theorem dX7_twoLet_1 : decode cX7_twoLet 1 = .ok (.invokestatic 67, 3) := by decide +kernel
theorem dX7_twoLet_4 : decode cX7_twoLet 4 = .ok (.iconst 2, 1) := by decide +kernel
theorem dX7_twoLet_5 : decode cX7_twoLet 5 = .ok (.aload_n 0, 1) := by decide +kernel
theorem dX7_twoLet_6 : decode cX7_twoLet 6 = .ok (.getfield 91, 3) := by decide +kernel
theorem dX7_twoLet_9 : decode cX7_twoLet 9 = .ok (.imul, 1) := by decide +kernel
theorem dX7_twoLet_10 : decode cX7_twoLet 10 = .ok (.if_icmp .le 5, 3) := by decide +kernel
theorem dX7_twoLet_13 : decode cX7_twoLet 13 = .ok (.iconst 0, 1) := by decide +kernel
theorem dX7_twoLet_14 : decode cX7_twoLet 14 = .ok (.ireturn, 1) := by decide +kernel
theorem dX7_twoLet_15 : decode cX7_twoLet 15 = .ok (.iconst 0, 1) := by decide +kernel
theorem dX7_twoLet_16 : decode cX7_twoLet 16 = .ok (.iload_n 2, 1) := by decide +kernel
theorem dX7_twoLet_17 : decode cX7_twoLet 17 = .ok (.invokestatic 45, 3) := by decide +kernel
theorem dX7_twoLet_20 : decode cX7_twoLet 20 = .ok (.istore_n 3, 1) := by decide +kernel
theorem dX7_twoLet_21 : decode cX7_twoLet 21 = .ok (.iload_n 3, 1) := by decide +kernel
theorem dX7_twoLet_22 : decode cX7_twoLet 22 = .ok (.aload_n 0, 1) := by decide +kernel
theorem dX7_twoLet_23 : decode cX7_twoLet 23 = .ok (.getfield 87, 3) := by decide +kernel
theorem dX7_twoLet_26 : decode cX7_twoLet 26 = .ok (.if_icmp .ge 43, 3) := by decide +kernel
theorem dX7_twoLet_29 : decode cX7_twoLet 29 = .ok (.aload_n 0, 1) := by decide +kernel
theorem dX7_twoLet_30 : decode cX7_twoLet 30 = .ok (.iload_n 1, 1) := by decide +kernel
theorem dX7_twoLet_31 : decode cX7_twoLet 31 = .ok (.aload_n 0, 1) := by decide +kernel
theorem dX7_twoLet_32 : decode cX7_twoLet 32 = .ok (.getfield 15, 3) := by decide +kernel
theorem dX7_twoLet_35 : decode cX7_twoLet 35 = .ok (.iload_n 3, 1) := by decide +kernel
theorem dX7_twoLet_36 : decode cX7_twoLet 36 = .ok (.iaload, 1) := by decide +kernel
theorem dX7_twoLet_37 : decode cX7_twoLet 37 = .ok (.iconst (-1), 1) := by decide +kernel
theorem dX7_twoLet_38 : decode cX7_twoLet 38 = .ok (.ixor, 1) := by decide +kernel
theorem dX7_twoLet_39 : decode cX7_twoLet 39 = .ok (.iand, 1) := by decide +kernel
theorem dX7_twoLet_40 : decode cX7_twoLet 40 = .ok (.iload_n 3, 1) := by decide +kernel
theorem dX7_twoLet_41 : decode cX7_twoLet 41 = .ok (.iconst 1, 1) := by decide +kernel
theorem dX7_twoLet_42 : decode cX7_twoLet 42 = .ok (.iadd, 1) := by decide +kernel
theorem dX7_twoLet_43 : decode cX7_twoLet 43 = .ok (.invokevirtual 76, 3) := by decide +kernel
theorem dX7_twoLet_46 : decode cX7_twoLet 46 = .ok (.ifCond .eq 17, 3) := by decide +kernel
theorem dX7_twoLet_49 : decode cX7_twoLet 49 = .ok (.aload_n 0, 1) := by decide +kernel
theorem dX7_twoLet_50 : decode cX7_twoLet 50 = .ok (.getfield 21, 3) := by decide +kernel
theorem dX7_twoLet_53 : decode cX7_twoLet 53 = .ok (.iconst 1, 1) := by decide +kernel
theorem dX7_twoLet_54 : decode cX7_twoLet 54 = .ok (.aload_n 0, 1) := by decide +kernel
theorem dX7_twoLet_55 : decode cX7_twoLet 55 = .ok (.getfield 18, 3) := by decide +kernel
theorem dX7_twoLet_58 : decode cX7_twoLet 58 = .ok (.iload_n 3, 1) := by decide +kernel
theorem dX7_twoLet_59 : decode cX7_twoLet 59 = .ok (.iaload, 1) := by decide +kernel
theorem dX7_twoLet_60 : decode cX7_twoLet 60 = .ok (.iastore, 1) := by decide +kernel
theorem dX7_twoLet_61 : decode cX7_twoLet 61 = .ok (.iconst 1, 1) := by decide +kernel
theorem dX7_twoLet_62 : decode cX7_twoLet 62 = .ok (.ireturn, 1) := by decide +kernel
theorem dX7_twoLet_63 : decode cX7_twoLet 63 = .ok (.iinc 3 1, 3) := by decide +kernel
theorem dX7_twoLet_66 : decode cX7_twoLet 66 = .ok (.goto (-45), 3) := by decide +kernel
theorem dX7_twoLet_69 : decode cX7_twoLet 69 = .ok (.iconst 0, 1) := by decide +kernel
theorem dX7_twoLet_70 : decode cX7_twoLet 70 = .ok (.ireturn, 1) := by decide +kernel
theorem dX7_threeLet_0 : decode cX7_threeLet 0 = .ok (.iconst 0, 1) := by decide +kernel
theorem dX7_threeLet_1 : decode cX7_threeLet 1 = .ok (.istore_n 2, 1) := by decide +kernel
theorem dX7_threeLet_2 : decode cX7_threeLet 2 = .ok (.iload_n 2, 1) := by decide +kernel
theorem dX7_threeLet_3 : decode cX7_threeLet 3 = .ok (.aload_n 0, 1) := by decide +kernel
theorem dX7_threeLet_4 : decode cX7_threeLet 4 = .ok (.getfield 87, 3) := by decide +kernel
theorem dX7_threeLet_7 : decode cX7_threeLet 7 = .ok (.if_icmp .ge 43, 3) := by decide +kernel
theorem dX7_threeLet_10 : decode cX7_threeLet 10 = .ok (.aload_n 0, 1) := by decide +kernel
theorem dX7_threeLet_11 : decode cX7_threeLet 11 = .ok (.iload_n 1, 1) := by decide +kernel
theorem dX7_threeLet_12 : decode cX7_threeLet 12 = .ok (.aload_n 0, 1) := by decide +kernel
theorem dX7_threeLet_13 : decode cX7_threeLet 13 = .ok (.getfield 15, 3) := by decide +kernel
theorem dX7_threeLet_16 : decode cX7_threeLet 16 = .ok (.iload_n 2, 1) := by decide +kernel
theorem dX7_threeLet_17 : decode cX7_threeLet 17 = .ok (.iaload, 1) := by decide +kernel
theorem dX7_threeLet_18 : decode cX7_threeLet 18 = .ok (.iconst (-1), 1) := by decide +kernel
theorem dX7_threeLet_19 : decode cX7_threeLet 19 = .ok (.ixor, 1) := by decide +kernel
theorem dX7_threeLet_20 : decode cX7_threeLet 20 = .ok (.iand, 1) := by decide +kernel
theorem dX7_threeLet_21 : decode cX7_threeLet 21 = .ok (.iload_n 2, 1) := by decide +kernel
theorem dX7_threeLet_22 : decode cX7_threeLet 22 = .ok (.iconst 1, 1) := by decide +kernel
theorem dX7_threeLet_23 : decode cX7_threeLet 23 = .ok (.iadd, 1) := by decide +kernel
theorem dX7_threeLet_24 : decode cX7_threeLet 24 = .ok (.invokevirtual 80, 3) := by decide +kernel
theorem dX7_threeLet_27 : decode cX7_threeLet 27 = .ok (.ifCond .eq 17, 3) := by decide +kernel
theorem dX7_threeLet_30 : decode cX7_threeLet 30 = .ok (.aload_n 0, 1) := by decide +kernel
theorem dX7_threeLet_31 : decode cX7_threeLet 31 = .ok (.getfield 21, 3) := by decide +kernel
theorem dX7_threeLet_34 : decode cX7_threeLet 34 = .ok (.iconst 0, 1) := by decide +kernel
theorem dX7_threeLet_35 : decode cX7_threeLet 35 = .ok (.aload_n 0, 1) := by decide +kernel
theorem dX7_threeLet_36 : decode cX7_threeLet 36 = .ok (.getfield 18, 3) := by decide +kernel
theorem dX7_threeLet_39 : decode cX7_threeLet 39 = .ok (.iload_n 2, 1) := by decide +kernel
theorem dX7_threeLet_40 : decode cX7_threeLet 40 = .ok (.iaload, 1) := by decide +kernel
theorem dX7_threeLet_41 : decode cX7_threeLet 41 = .ok (.iastore, 1) := by decide +kernel
theorem dX7_threeLet_42 : decode cX7_threeLet 42 = .ok (.iconst 1, 1) := by decide +kernel
theorem dX7_threeLet_43 : decode cX7_threeLet 43 = .ok (.ireturn, 1) := by decide +kernel
theorem dX7_threeLet_44 : decode cX7_threeLet 44 = .ok (.iinc 2 1, 3) := by decide +kernel
theorem dX7_threeLet_47 : decode cX7_threeLet 47 = .ok (.goto (-45), 3) := by decide +kernel
theorem dX7_threeLet_50 : decode cX7_threeLet 50 = .ok (.iconst 0, 1) := by decide +kernel
theorem dX7_threeLet_51 : decode cX7_threeLet 51 = .ok (.ireturn, 1) := by decide +kernel
theorem dX8_init_0 : decode cX8_init 0 = .ok (.aload_n 0, 1) := by decide +kernel
theorem dX8_init_1 : decode cX8_init 1 = .ok (.invokespecial 3, 3) := by decide +kernel
theorem dX8_init_4 : decode cX8_init 4 = .ok (.aload_n 0, 1) := by decide +kernel
theorem dX8_init_5 : decode cX8_init 5 = .ok (.iconst 5, 1) := by decide +kernel
theorem dX8_init_6 : decode cX8_init 6 = .ok (.anewarray 9, 3) := by decide +kernel
theorem dX8_init_9 : decode cX8_init 9 = .ok (.putfield 11, 3) := by decide +kernel
theorem dX8_init_12 : decode cX8_init 12 = .ok (.aload_n 0, 1) := by decide +kernel
theorem dX8_init_13 : decode cX8_init 13 = .ok (.iconst 4, 1) := by decide +kernel
theorem dX8_init_14 : decode cX8_init 14 = .ok (.newarray .int, 2) := by decide +kernel
theorem dX8_init_16 : decode cX8_init 16 = .ok (.putfield 17, 3) := by decide +kernel
theorem dX8_init_19 : decode cX8_init 19 = .ok (.aload_n 0, 1) := by decide +kernel
theorem dX8_init_20 : decode cX8_init 20 = .ok (.bipush 24, 2) := by decide +kernel
theorem dX8_init_22 : decode cX8_init 22 = .ok (.newarray .int, 2) := by decide +kernel
theorem dX8_init_24 : decode cX8_init 24 = .ok (.putfield 21, 3) := by decide +kernel
theorem dX8_init_27 : decode cX8_init 27 = .ok (.aload_n 0, 1) := by decide +kernel
theorem dX8_init_28 : decode cX8_init 28 = .ok (.bipush 90, 2) := by decide +kernel
theorem dX8_init_30 : decode cX8_init 30 = .ok (.putfield 24, 3) := by decide +kernel
theorem dX8_init_33 : decode cX8_init 33 = .ok (.aload_n 0, 1) := by decide +kernel
theorem dX8_init_34 : decode cX8_init 34 = .ok (.iload_n 1, 1) := by decide +kernel
theorem dX8_init_35 : decode cX8_init 35 = .ok (.putfield 28, 3) := by decide +kernel
theorem dX8_init_38 : decode cX8_init 38 = .ok (.aload_n 0, 1) := by decide +kernel
theorem dX8_init_39 : decode cX8_init 39 = .ok (.iload_n 2, 1) := by decide +kernel
theorem dX8_init_40 : decode cX8_init 40 = .ok (.putfield 31, 3) := by decide +kernel
theorem dX8_init_43 : decode cX8_init 43 = .ok (.iconst 0, 1) := by decide +kernel
theorem dX8_init_44 : decode cX8_init 44 = .ok (.istore_n 3, 1) := by decide +kernel
theorem dX8_init_45 : decode cX8_init 45 = .ok (.iload_n 3, 1) := by decide +kernel
theorem dX8_init_46 : decode cX8_init 46 = .ok (.aload_n 0, 1) := by decide +kernel
theorem dX8_init_47 : decode cX8_init 47 = .ok (.getfield 11, 3) := by decide +kernel
theorem dX8_init_50 : decode cX8_init 50 = .ok (.arraylength, 1) := by decide +kernel
theorem dX8_init_51 : decode cX8_init 51 = .ok (.if_icmp .ge 24, 3) := by decide +kernel
theorem dX8_init_54 : decode cX8_init 54 = .ok (.aload_n 0, 1) := by decide +kernel
theorem dX8_init_55 : decode cX8_init 55 = .ok (.getfield 11, 3) := by decide +kernel
theorem dX8_init_58 : decode cX8_init 58 = .ok (.iload_n 3, 1) := by decide +kernel
theorem dX8_init_59 : decode cX8_init 59 = .ok (.new 9, 3) := by decide +kernel
theorem dX8_init_62 : decode cX8_init 62 = .ok (.dup, 1) := by decide +kernel
theorem dX8_init_63 : decode cX8_init 63 = .ok (.iload_n 1, 1) := by decide +kernel
theorem dX8_init_64 : decode cX8_init 64 = .ok (.iload_n 2, 1) := by decide +kernel
theorem dX8_init_65 : decode cX8_init 65 = .ok (.invokespecial 34, 3) := by decide +kernel
theorem dX8_init_68 : decode cX8_init 68 = .ok (.aastore, 1) := by decide +kernel
theorem dX8_init_69 : decode cX8_init 69 = .ok (.iinc 3 1, 3) := by decide +kernel
theorem dX8_init_72 : decode cX8_init 72 = .ok (.goto (-27), 3) := by decide +kernel
theorem dX8_init_75 : decode cX8_init 75 = .ok (.iconst 0, 1) := by decide +kernel
theorem dX8_init_76 : decode cX8_init 76 = .ok (.istore_n 3, 1) := by decide +kernel
theorem dX8_init_77 : decode cX8_init 77 = .ok (.iload_n 3, 1) := by decide +kernel
theorem dX8_init_78 : decode cX8_init 78 = .ok (.aload_n 0, 1) := by decide +kernel
theorem dX8_init_79 : decode cX8_init 79 = .ok (.getfield 21, 3) := by decide +kernel
theorem dX8_init_82 : decode cX8_init 82 = .ok (.arraylength, 1) := by decide +kernel
theorem dX8_init_83 : decode cX8_init 83 = .ok (.if_icmp .ge 17, 3) := by decide +kernel
theorem dX8_init_86 : decode cX8_init 86 = .ok (.aload_n 0, 1) := by decide +kernel
theorem dX8_init_87 : decode cX8_init 87 = .ok (.getfield 21, 3) := by decide +kernel
theorem dX8_init_90 : decode cX8_init 90 = .ok (.iload_n 3, 1) := by decide +kernel
theorem dX8_init_91 : decode cX8_init 91 = .ok (.bipush 50, 2) := by decide +kernel
theorem dX8_init_93 : decode cX8_init 93 = .ok (.iastore, 1) := by decide +kernel
theorem dX8_init_94 : decode cX8_init 94 = .ok (.iinc 3 1, 3) := by decide +kernel
theorem dX8_init_97 : decode cX8_init 97 = .ok (.goto (-20), 3) := by decide +kernel
theorem dX8_init_100 : decode cX8_init 100 = .ok (.return_, 1) := by decide +kernel
theorem dX8_picture_0 : decode cX8_picture 0 = .ok (.iload_n 1, 1) := by decide +kernel
theorem dX8_picture_1 : decode cX8_picture 1 = .ok (.iconst 0, 1) := by decide +kernel
theorem dX8_picture_2 : decode cX8_picture 2 = .ok (.aload_n 0, 1) := by decide +kernel
theorem dX8_picture_3 : decode cX8_picture 3 = .ok (.getfield 11, 3) := by decide +kernel
theorem dX8_picture_6 : decode cX8_picture 6 = .ok (.arraylength, 1) := by decide +kernel
theorem dX8_picture_7 : decode cX8_picture 7 = .ok (.iconst 1, 1) := by decide +kernel
theorem dX8_picture_8 : decode cX8_picture 8 = .ok (.isub, 1) := by decide +kernel
theorem dX8_picture_9 : decode cX8_picture 9 = .ok (.invokestatic 37, 3) := by decide +kernel
theorem dX8_picture_12 : decode cX8_picture 12 = .ok (.ifCond .eq 12, 3) := by decide +kernel
theorem dX8_picture_15 : decode cX8_picture 15 = .ok (.aload_n 0, 1) := by decide +kernel
theorem dX8_picture_16 : decode cX8_picture 16 = .ok (.getfield 11, 3) := by decide +kernel
theorem dX8_picture_19 : decode cX8_picture 19 = .ok (.iload_n 1, 1) := by decide +kernel
theorem dX8_picture_20 : decode cX8_picture 20 = .ok (.aaload, 1) := by decide +kernel
theorem dX8_picture_21 : decode cX8_picture 21 = .ok (.goto 4, 3) := by decide +kernel
theorem dX8_picture_24 : decode cX8_picture 24 = .ok (.aconst_null, 1) := by decide +kernel
theorem dX8_picture_25 : decode cX8_picture 25 = .ok (.areturn, 1) := by decide +kernel
theorem dX8_become_0 : decode cX8_become 0 = .ok (.iconst 0, 1) := by decide +kernel
theorem dX8_become_1 : decode cX8_become 1 = .ok (.istore_n 2, 1) := by decide +kernel
theorem dX8_become_2 : decode cX8_become 2 = .ok (.iload_n 2, 1) := by decide +kernel
theorem dX8_become_3 : decode cX8_become 3 = .ok (.aload_n 0, 1) := by decide +kernel
theorem dX8_become_4 : decode cX8_become 4 = .ok (.getfield 11, 3) := by decide +kernel
theorem dX8_become_7 : decode cX8_become 7 = .ok (.arraylength, 1) := by decide +kernel
theorem dX8_become_8 : decode cX8_become 8 = .ok (.if_icmp .ge 32, 3) := by decide +kernel
theorem dX8_become_11 : decode cX8_become 11 = .ok (.aload_n 0, 1) := by decide +kernel
theorem dX8_become_12 : decode cX8_become 12 = .ok (.getfield 11, 3) := by decide +kernel
theorem dX8_become_15 : decode cX8_become 15 = .ok (.iload_n 2, 1) := by decide +kernel
theorem dX8_become_16 : decode cX8_become 16 = .ok (.aaload, 1) := by decide +kernel
theorem dX8_become_17 : decode cX8_become 17 = .ok (.ifnull 17, 3) := by decide +kernel
theorem dX8_become_20 : decode cX8_become 20 = .ok (.aload_n 0, 1) := by decide +kernel
theorem dX8_become_21 : decode cX8_become 21 = .ok (.getfield 11, 3) := by decide +kernel
theorem dX8_become_24 : decode cX8_become 24 = .ok (.iload_n 2, 1) := by decide +kernel
theorem dX8_become_25 : decode cX8_become 25 = .ok (.aaload, 1) := by decide +kernel
theorem dX8_become_26 : decode cX8_become 26 = .ok (.aload_n 1, 1) := by decide +kernel
theorem dX8_become_27 : decode cX8_become 27 = .ok (.iload_n 2, 1) := by decide +kernel
theorem dX8_become_28 : decode cX8_become 28 = .ok (.invokevirtual 41, 3) := by decide +kernel
theorem dX8_become_31 : decode cX8_become 31 = .ok (.invokevirtual 45, 3) := by decide +kernel
theorem dX8_become_34 : decode cX8_become 34 = .ok (.iinc 2 1, 3) := by decide +kernel
theorem dX8_become_37 : decode cX8_become 37 = .ok (.goto (-35), 3) := by decide +kernel
theorem dX8_become_40 : decode cX8_become 40 = .ok (.aload_n 1, 1) := by decide +kernel
theorem dX8_become_41 : decode cX8_become 41 = .ok (.getfield 17, 3) := by decide +kernel
theorem dX8_become_44 : decode cX8_become 44 = .ok (.iconst 0, 1) := by decide +kernel
theorem dX8_become_45 : decode cX8_become 45 = .ok (.aload_n 0, 1) := by decide +kernel
theorem dX8_become_46 : decode cX8_become 46 = .ok (.getfield 17, 3) := by decide +kernel
theorem dX8_become_49 : decode cX8_become 49 = .ok (.iconst 0, 1) := by decide +kernel
theorem dX8_become_50 : decode cX8_become 50 = .ok (.aload_n 0, 1) := by decide +kernel
theorem dX8_become_51 : decode cX8_become 51 = .ok (.getfield 17, 3) := by decide +kernel
theorem dX8_become_54 : decode cX8_become 54 = .ok (.arraylength, 1) := by decide +kernel
theorem dX8_become_55 : decode cX8_become 55 = .ok (.invokestatic 49, 3) := by decide +kernel
theorem dX8_become_58 : decode cX8_become 58 = .ok (.aload_n 1, 1) := by decide +kernel
theorem dX8_become_59 : decode cX8_become 59 = .ok (.getfield 21, 3) := by decide +kernel
theorem dX8_become_62 : decode cX8_become 62 = .ok (.iconst 0, 1) := by decide +kernel
theorem dX8_become_63 : decode cX8_become 63 = .ok (.aload_n 0, 1) := by decide +kernel
theorem dX8_become_64 : decode cX8_become 64 = .ok (.getfield 21, 3) := by decide +kernel
theorem dX8_become_67 : decode cX8_become 67 = .ok (.iconst 0, 1) := by decide +kernel
theorem dX8_become_68 : decode cX8_become 68 = .ok (.aload_n 0, 1) := by decide +kernel
theorem dX8_become_69 : decode cX8_become 69 = .ok (.getfield 21, 3) := by decide +kernel
theorem dX8_become_72 : decode cX8_become 72 = .ok (.arraylength, 1) := by decide +kernel
theorem dX8_become_73 : decode cX8_become 73 = .ok (.invokestatic 49, 3) := by decide +kernel
theorem dX8_become_76 : decode cX8_become 76 = .ok (.aload_n 0, 1) := by decide +kernel
theorem dX8_become_77 : decode cX8_become 77 = .ok (.aload_n 1, 1) := by decide +kernel
theorem dX8_become_78 : decode cX8_become 78 = .ok (.getfield 24, 3) := by decide +kernel
theorem dX8_become_81 : decode cX8_become 81 = .ok (.putfield 24, 3) := by decide +kernel
theorem dX8_become_84 : decode cX8_become 84 = .ok (.aload_n 0, 1) := by decide +kernel
theorem dX8_become_85 : decode cX8_become 85 = .ok (.aload_n 1, 1) := by decide +kernel
theorem dX8_become_86 : decode cX8_become 86 = .ok (.getfield 55, 3) := by decide +kernel
theorem dX8_become_89 : decode cX8_become 89 = .ok (.putfield 55, 3) := by decide +kernel
theorem dX8_become_92 : decode cX8_become 92 = .ok (.aload_n 0, 1) := by decide +kernel
theorem dX8_become_93 : decode cX8_become 93 = .ok (.aload_n 1, 1) := by decide +kernel
theorem dX8_become_94 : decode cX8_become 94 = .ok (.getfield 58, 3) := by decide +kernel
theorem dX8_become_97 : decode cX8_become 97 = .ok (.putfield 58, 3) := by decide +kernel
theorem dX8_become_100 : decode cX8_become 100 = .ok (.aload_n 0, 1) := by decide +kernel
theorem dX8_become_101 : decode cX8_become 101 = .ok (.aload_n 1, 1) := by decide +kernel
theorem dX8_become_102 : decode cX8_become 102 = .ok (.getfield 61, 3) := by decide +kernel
theorem dX8_become_105 : decode cX8_become 105 = .ok (.putfield 61, 3) := by decide +kernel
theorem dX8_become_108 : decode cX8_become 108 = .ok (.aload_n 0, 1) := by decide +kernel
theorem dX8_become_109 : decode cX8_become 109 = .ok (.aload_n 1, 1) := by decide +kernel
theorem dX8_become_110 : decode cX8_become 110 = .ok (.getfield 64, 3) := by decide +kernel
theorem dX8_become_113 : decode cX8_become 113 = .ok (.putfield 64, 3) := by decide +kernel
theorem dX8_become_116 : decode cX8_become 116 = .ok (.return_, 1) := by decide +kernel
theorem dX8_chance_0 : decode cX8_chance 0 = .ok (.iload_n 1, 1) := by decide +kernel
theorem dX8_chance_1 : decode cX8_chance 1 = .ok (.invokestatic 67, 3) := by decide +kernel
theorem dX8_chance_4 : decode cX8_chance 4 = .ok (.ifCond .ne 5, 3) := by decide +kernel
theorem dX8_chance_7 : decode cX8_chance 7 = .ok (.lconst 0, 1) := by decide +kernel
theorem dX8_chance_8 : decode cX8_chance 8 = .ok (.lreturn, 1) := by decide +kernel
theorem dX8_chance_9 : decode cX8_chance 9 = .ok (.aload_n 0, 1) := by decide +kernel
theorem dX8_chance_10 : decode cX8_chance 10 = .ok (.getfield 17, 3) := by decide +kernel
theorem dX8_chance_13 : decode cX8_chance 13 = .ok (.iload_n 1, 1) := by decide +kernel
theorem dX8_chance_14 : decode cX8_chance 14 = .ok (.iaload, 1) := by decide +kernel
theorem dX8_chance_15 : decode cX8_chance 15 = .ok (.i2l, 1) := by decide +kernel
theorem dX8_chance_16 : decode cX8_chance 16 = .ok (.lstore 4, 2) := by decide +kernel
theorem dX8_chance_18 : decode cX8_chance 18 = .ok (.iconst 0, 1) := by decide +kernel
theorem dX8_chance_19 : decode cX8_chance 19 = .ok (.istore 6, 2) := by decide +kernel
theorem dX8_chance_21 : decode cX8_chance 21 = .ok (.iload 6, 2) := by decide +kernel
theorem dX8_chance_23 : decode cX8_chance 23 = .ok (.bipush 6, 2) := by decide +kernel
theorem dX8_chance_25 : decode cX8_chance 25 = .ok (.if_icmp .ge 55, 3) := by decide +kernel
theorem dX8_chance_28 : decode cX8_chance 28 = .ok (.aload_n 0, 1) := by decide +kernel
theorem dX8_chance_29 : decode cX8_chance 29 = .ok (.aload_n 0, 1) := by decide +kernel
theorem dX8_chance_30 : decode cX8_chance 30 = .ok (.getfield 21, 3) := by decide +kernel
theorem dX8_chance_33 : decode cX8_chance 33 = .ok (.iload_n 1, 1) := by decide +kernel
theorem dX8_chance_34 : decode cX8_chance 34 = .ok (.bipush 6, 2) := by decide +kernel
theorem dX8_chance_36 : decode cX8_chance 36 = .ok (.imul, 1) := by decide +kernel
theorem dX8_chance_37 : decode cX8_chance 37 = .ok (.iload 6, 2) := by decide +kernel
theorem dX8_chance_39 : decode cX8_chance 39 = .ok (.iadd, 1) := by decide +kernel
theorem dX8_chance_40 : decode cX8_chance 40 = .ok (.iaload, 1) := by decide +kernel
theorem dX8_chance_41 : decode cX8_chance 41 = .ok (.iload_n 2, 1) := by decide +kernel
theorem dX8_chance_42 : decode cX8_chance 42 = .ok (.invokevirtual 71, 3) := by decide +kernel
theorem dX8_chance_45 : decode cX8_chance 45 = .ok (.istore 7, 2) := by decide +kernel
theorem dX8_chance_47 : decode cX8_chance 47 = .ok (.lload 4, 2) := by decide +kernel
theorem dX8_chance_49 : decode cX8_chance 49 = .ok (.iload_n 3, 1) := by decide +kernel
theorem dX8_chance_50 : decode cX8_chance 50 = .ok (.iload 6, 2) := by decide +kernel
theorem dX8_chance_52 : decode cX8_chance 52 = .ok (.ishr, 1) := by decide +kernel
theorem dX8_chance_53 : decode cX8_chance 53 = .ok (.iconst 1, 1) := by decide +kernel
theorem dX8_chance_54 : decode cX8_chance 54 = .ok (.iand, 1) := by decide +kernel
theorem dX8_chance_55 : decode cX8_chance 55 = .ok (.iconst 1, 1) := by decide +kernel
theorem dX8_chance_56 : decode cX8_chance 56 = .ok (.if_icmp .ne 9, 3) := by decide +kernel
theorem dX8_chance_59 : decode cX8_chance 59 = .ok (.iload 7, 2) := by decide +kernel
theorem dX8_chance_61 : decode cX8_chance 61 = .ok (.i2l, 1) := by decide +kernel
theorem dX8_chance_62 : decode cX8_chance 62 = .ok (.goto 9, 3) := by decide +kernel
theorem dX8_chance_65 : decode cX8_chance 65 = .ok (.bipush 100, 2) := by decide +kernel
theorem dX8_chance_67 : decode cX8_chance 67 = .ok (.iload 7, 2) := by decide +kernel
theorem dX8_chance_69 : decode cX8_chance 69 = .ok (.isub, 1) := by decide +kernel
theorem dX8_chance_70 : decode cX8_chance 70 = .ok (.i2l, 1) := by decide +kernel
theorem dX8_chance_71 : decode cX8_chance 71 = .ok (.lmul, 1) := by decide +kernel
theorem dX8_chance_72 : decode cX8_chance 72 = .ok (.lstore 4, 2) := by decide +kernel
theorem dX8_chance_74 : decode cX8_chance 74 = .ok (.iinc 6 1, 3) := by decide +kernel
theorem dX8_chance_77 : decode cX8_chance 77 = .ok (.goto (-56), 3) := by decide +kernel
theorem dX8_chance_80 : decode cX8_chance 80 = .ok (.lload 4, 2) := by decide +kernel
theorem dX8_chance_82 : decode cX8_chance 82 = .ok (.lreturn, 1) := by decide +kernel
theorem dX8_waned_0 : decode cX8_waned 0 = .ok (.iload_n 1, 1) := by decide +kernel
theorem dX8_waned_1 : decode cX8_waned 1 = .ok (.bipush 50, 2) := by decide +kernel
theorem dX8_waned_3 : decode cX8_waned 3 = .ok (.isub, 1) := by decide +kernel
theorem dX8_waned_4 : decode cX8_waned 4 = .ok (.istore_n 3, 1) := by decide +kernel
theorem dX8_waned_5 : decode cX8_waned 5 = .ok (.iconst 0, 1) := by decide +kernel
theorem dX8_waned_6 : decode cX8_waned 6 = .ok (.istore 4, 2) := by decide +kernel
theorem dX8_waned_8 : decode cX8_waned 8 = .ok (.iload 4, 2) := by decide +kernel
theorem dX8_waned_10 : decode cX8_waned 10 = .ok (.iload_n 2, 1) := by decide +kernel
theorem dX8_waned_11 : decode cX8_waned 11 = .ok (.if_icmp .ge 19, 3) := by decide +kernel
theorem dX8_waned_14 : decode cX8_waned 14 = .ok (.iload_n 3, 1) := by decide +kernel
theorem dX8_waned_15 : decode cX8_waned 15 = .ok (.aload_n 0, 1) := by decide +kernel
theorem dX8_waned_16 : decode cX8_waned 16 = .ok (.getfield 24, 3) := by decide +kernel
theorem dX8_waned_19 : decode cX8_waned 19 = .ok (.imul, 1) := by decide +kernel
theorem dX8_waned_20 : decode cX8_waned 20 = .ok (.bipush 100, 2) := by decide +kernel
theorem dX8_waned_22 : decode cX8_waned 22 = .ok (.idiv, 1) := by decide +kernel
theorem dX8_waned_23 : decode cX8_waned 23 = .ok (.istore_n 3, 1) := by decide +kernel
theorem dX8_waned_24 : decode cX8_waned 24 = .ok (.iinc 4 1, 3) := by decide +kernel
theorem dX8_waned_27 : decode cX8_waned 27 = .ok (.goto (-19), 3) := by decide +kernel
theorem dX8_waned_30 : decode cX8_waned 30 = .ok (.bipush 50, 2) := by decide +kernel
theorem dX8_waned_32 : decode cX8_waned 32 = .ok (.iload_n 3, 1) := by decide +kernel
theorem dX8_waned_33 : decode cX8_waned 33 = .ok (.iadd, 1) := by decide +kernel
theorem dX8_waned_34 : decode cX8_waned 34 = .ok (.ireturn, 1) := by decide +kernel
theorem dX9_init_0 : decode cX9_init 0 = .ok (.aload_n 0, 1) := by decide +kernel
theorem dX9_init_1 : decode cX9_init 1 = .ok (.invokespecial 3, 3) := by decide +kernel
theorem dX9_init_4 : decode cX9_init 4 = .ok (.aload_n 0, 1) := by decide +kernel
theorem dX9_init_5 : decode cX9_init 5 = .ok (.iconst 3, 1) := by decide +kernel
theorem dX9_init_6 : decode cX9_init 6 = .ok (.anewarray 9, 3) := by decide +kernel
theorem dX9_init_9 : decode cX9_init 9 = .ok (.putfield 11, 3) := by decide +kernel
theorem dX9_init_12 : decode cX9_init 12 = .ok (.aload_n 0, 1) := by decide +kernel
theorem dX9_init_13 : decode cX9_init 13 = .ok (.iconst 3, 1) := by decide +kernel
theorem dX9_init_14 : decode cX9_init 14 = .ok (.newarray .int, 2) := by decide +kernel
theorem dX9_init_16 : decode cX9_init 16 = .ok (.putfield 17, 3) := by decide +kernel
theorem dX9_init_19 : decode cX9_init 19 = .ok (.aload_n 0, 1) := by decide +kernel
theorem dX9_init_20 : decode cX9_init 20 = .ok (.iconst 3, 1) := by decide +kernel
theorem dX9_init_21 : decode cX9_init 21 = .ok (.newarray .int, 2) := by decide +kernel
theorem dX9_init_23 : decode cX9_init 23 = .ok (.putfield 21, 3) := by decide +kernel
theorem dX9_init_26 : decode cX9_init 26 = .ok (.iconst 0, 1) := by decide +kernel
theorem dX9_init_27 : decode cX9_init 27 = .ok (.istore_n 3, 1) := by decide +kernel
theorem dX9_init_28 : decode cX9_init 28 = .ok (.iload_n 3, 1) := by decide +kernel
theorem dX9_init_29 : decode cX9_init 29 = .ok (.iconst 3, 1) := by decide +kernel
theorem dX9_init_30 : decode cX9_init 30 = .ok (.if_icmp .ge 24, 3) := by decide +kernel
theorem dX9_init_33 : decode cX9_init 33 = .ok (.aload_n 0, 1) := by decide +kernel
theorem dX9_init_34 : decode cX9_init 34 = .ok (.getfield 11, 3) := by decide +kernel
theorem dX9_init_37 : decode cX9_init 37 = .ok (.iload_n 3, 1) := by decide +kernel
theorem dX9_init_38 : decode cX9_init 38 = .ok (.new 9, 3) := by decide +kernel
theorem dX9_init_41 : decode cX9_init 41 = .ok (.dup, 1) := by decide +kernel
theorem dX9_init_42 : decode cX9_init 42 = .ok (.iload_n 1, 1) := by decide +kernel
theorem dX9_init_43 : decode cX9_init 43 = .ok (.iload_n 2, 1) := by decide +kernel
theorem dX9_init_44 : decode cX9_init 44 = .ok (.invokespecial 24, 3) := by decide +kernel
theorem dX9_init_47 : decode cX9_init 47 = .ok (.aastore, 1) := by decide +kernel
theorem dX9_init_48 : decode cX9_init 48 = .ok (.iinc 3 1, 3) := by decide +kernel
theorem dX9_init_51 : decode cX9_init 51 = .ok (.goto (-23), 3) := by decide +kernel
theorem dX9_init_54 : decode cX9_init 54 = .ok (.return_, 1) := by decide +kernel
theorem dX9_findShortest_0 : decode cX9_findShortest 0 = .ok (.aload_n 0, 1) := by decide +kernel
theorem dX9_findShortest_1 : decode cX9_findShortest 1 = .ok (.aload_n 1, 1) := by decide +kernel
theorem dX9_findShortest_2 : decode cX9_findShortest 2 = .ok (.putfield 27, 3) := by decide +kernel
theorem dX9_findShortest_5 : decode cX9_findShortest 5 = .ok (.aload_n 0, 1) := by decide +kernel
theorem dX9_findShortest_6 : decode cX9_findShortest 6 = .ok (.aload_n 2, 1) := by decide +kernel
theorem dX9_findShortest_7 : decode cX9_findShortest 7 = .ok (.putfield 31, 3) := by decide +kernel
theorem dX9_findShortest_10 : decode cX9_findShortest 10 = .ok (.aload_n 0, 1) := by decide +kernel
theorem dX9_findShortest_11 : decode cX9_findShortest 11 = .ok (.aload_n 3, 1) := by decide +kernel
theorem dX9_findShortest_12 : decode cX9_findShortest 12 = .ok (.putfield 34, 3) := by decide +kernel
theorem dX9_findShortest_15 : decode cX9_findShortest 15 = .ok (.aload_n 0, 1) := by decide +kernel
theorem dX9_findShortest_16 : decode cX9_findShortest 16 = .ok (.aload 4, 2) := by decide +kernel
theorem dX9_findShortest_18 : decode cX9_findShortest 18 = .ok (.putfield 38, 3) := by decide +kernel
theorem dX9_findShortest_21 : decode cX9_findShortest 21 = .ok (.aload_n 0, 1) := by decide +kernel
theorem dX9_findShortest_22 : decode cX9_findShortest 22 = .ok (.aload 5, 2) := by decide +kernel
theorem dX9_findShortest_24 : decode cX9_findShortest 24 = .ok (.putfield 42, 3) := by decide +kernel
theorem dX9_findShortest_27 : decode cX9_findShortest 27 = .ok (.aload_n 0, 1) := by decide +kernel
theorem dX9_findShortest_28 : decode cX9_findShortest 28 = .ok (.iconst 0, 1) := by decide +kernel
theorem dX9_findShortest_29 : decode cX9_findShortest 29 = .ok (.putfield 46, 3) := by decide +kernel
theorem dX9_findShortest_32 : decode cX9_findShortest 32 = .ok (.iconst 0, 1) := by decide +kernel
theorem dX9_findShortest_33 : decode cX9_findShortest 33 = .ok (.istore 6, 2) := by decide +kernel
theorem dX9_findShortest_35 : decode cX9_findShortest 35 = .ok (.iload 6, 2) := by decide +kernel
theorem dX9_findShortest_37 : decode cX9_findShortest 37 = .ok (.iconst 3, 1) := by decide +kernel
theorem dX9_findShortest_38 : decode cX9_findShortest 38 = .ok (.if_icmp .gt 28, 3) := by decide +kernel
theorem dX9_findShortest_41 : decode cX9_findShortest 41 = .ok (.aload_n 0, 1) := by decide +kernel
theorem dX9_findShortest_42 : decode cX9_findShortest 42 = .ok (.iload 6, 2) := by decide +kernel
theorem dX9_findShortest_44 : decode cX9_findShortest 44 = .ok (.putfield 50, 3) := by decide +kernel
theorem dX9_findShortest_47 : decode cX9_findShortest 47 = .ok (.aload_n 0, 1) := by decide +kernel
theorem dX9_findShortest_48 : decode cX9_findShortest 48 = .ok (.iconst 0, 1) := by decide +kernel
theorem dX9_findShortest_49 : decode cX9_findShortest 49 = .ok (.invokevirtual 53, 3) := by decide +kernel
theorem dX9_findShortest_52 : decode cX9_findShortest 52 = .ok (.aload_n 0, 1) := by decide +kernel
theorem dX9_findShortest_53 : decode cX9_findShortest 53 = .ok (.getfield 46, 3) := by decide +kernel
theorem dX9_findShortest_56 : decode cX9_findShortest 56 = .ok (.ifCond .le 4, 3) := by decide +kernel
theorem dX9_findShortest_59 : decode cX9_findShortest 59 = .ok (.return_, 1) := by decide +kernel
theorem dX9_findShortest_60 : decode cX9_findShortest 60 = .ok (.iinc 6 1, 3) := by decide +kernel
theorem dX9_findShortest_63 : decode cX9_findShortest 63 = .ok (.goto (-28), 3) := by decide +kernel
theorem dX9_findShortest_66 : decode cX9_findShortest 66 = .ok (.aload_n 0, 1) := by decide +kernel
theorem dX9_findShortest_67 : decode cX9_findShortest 67 = .ok (.iconst (-1), 1) := by decide +kernel
theorem dX9_findShortest_68 : decode cX9_findShortest 68 = .ok (.putfield 50, 3) := by decide +kernel
theorem dX9_findShortest_71 : decode cX9_findShortest 71 = .ok (.return_, 1) := by decide +kernel
theorem dX9_textOf_0 : decode cX9_textOf 0 = .ok (.iload_n 1, 1) := by decide +kernel
theorem dX9_textOf_1 : decode cX9_textOf 1 = .ok (.iconst 0, 1) := by decide +kernel
theorem dX9_textOf_2 : decode cX9_textOf 2 = .ok (.aload_n 0, 1) := by decide +kernel
theorem dX9_textOf_3 : decode cX9_textOf 3 = .ok (.getfield 50, 3) := by decide +kernel
theorem dX9_textOf_6 : decode cX9_textOf 6 = .ok (.iconst 3, 1) := by decide +kernel
theorem dX9_textOf_7 : decode cX9_textOf 7 = .ok (.invokestatic 57, 3) := by decide +kernel
theorem dX9_textOf_10 : decode cX9_textOf 10 = .ok (.iconst 1, 1) := by decide +kernel
theorem dX9_textOf_11 : decode cX9_textOf 11 = .ok (.isub, 1) := by decide +kernel
theorem dX9_textOf_12 : decode cX9_textOf 12 = .ok (.invokestatic 63, 3) := by decide +kernel
theorem dX9_textOf_15 : decode cX9_textOf 15 = .ok (.ifCond .eq 12, 3) := by decide +kernel
theorem dX9_textOf_18 : decode cX9_textOf 18 = .ok (.aload_n 0, 1) := by decide +kernel
theorem dX9_textOf_19 : decode cX9_textOf 19 = .ok (.getfield 21, 3) := by decide +kernel
theorem dX9_textOf_22 : decode cX9_textOf 22 = .ok (.iload_n 1, 1) := by decide +kernel
theorem dX9_textOf_23 : decode cX9_textOf 23 = .ok (.iaload, 1) := by decide +kernel
theorem dX9_textOf_24 : decode cX9_textOf 24 = .ok (.goto 4, 3) := by decide +kernel
theorem dX9_textOf_27 : decode cX9_textOf 27 = .ok (.iconst (-1), 1) := by decide +kernel
theorem dX9_textOf_28 : decode cX9_textOf 28 = .ok (.ireturn, 1) := by decide +kernel
theorem dX9_tell_0 : decode cX9_tell 0 = .ok (.iload_n 1, 1) := by decide +kernel
theorem dX9_tell_1 : decode cX9_tell 1 = .ok (.aload_n 0, 1) := by decide +kernel
theorem dX9_tell_2 : decode cX9_tell 2 = .ok (.getfield 50, 3) := by decide +kernel
theorem dX9_tell_5 : decode cX9_tell 5 = .ok (.if_icmp .ge 8, 3) := by decide +kernel
theorem dX9_tell_8 : decode cX9_tell 8 = .ok (.iload_n 1, 1) := by decide +kernel
theorem dX9_tell_9 : decode cX9_tell 9 = .ok (.iconst 3, 1) := by decide +kernel
theorem dX9_tell_10 : decode cX9_tell 10 = .ok (.if_icmp .lt 8, 3) := by decide +kernel
theorem dX9_tell_13 : decode cX9_tell 13 = .ok (.aload_n 0, 1) := by decide +kernel
theorem dX9_tell_14 : decode cX9_tell 14 = .ok (.invokevirtual 67, 3) := by decide +kernel
theorem dX9_tell_17 : decode cX9_tell 17 = .ok (.return_, 1) := by decide +kernel
theorem dX9_tell_18 : decode cX9_tell 18 = .ok (.aload_n 0, 1) := by decide +kernel
theorem dX9_tell_19 : decode cX9_tell 19 = .ok (.getfield 11, 3) := by decide +kernel
theorem dX9_tell_22 : decode cX9_tell 22 = .ok (.iload_n 1, 1) := by decide +kernel
theorem dX9_tell_23 : decode cX9_tell 23 = .ok (.aaload, 1) := by decide +kernel
theorem dX9_tell_24 : decode cX9_tell 24 = .ok (.astore_n 2, 1) := by decide +kernel
theorem dX9_tell_25 : decode cX9_tell 25 = .ok (.aload_n 2, 1) := by decide +kernel
theorem dX9_tell_26 : decode cX9_tell 26 = .ok (.ifnonnull 4, 3) := by decide +kernel
theorem dX9_tell_29 : decode cX9_tell 29 = .ok (.return_, 1) := by decide +kernel
theorem dX9_tell_30 : decode cX9_tell 30 = .ok (.aload_n 2, 1) := by decide +kernel
theorem dX9_tell_31 : decode cX9_tell 31 = .ok (.aload_n 0, 1) := by decide +kernel
theorem dX9_tell_32 : decode cX9_tell 32 = .ok (.getfield 27, 3) := by decide +kernel
theorem dX9_tell_35 : decode cX9_tell 35 = .ok (.invokevirtual 70, 3) := by decide +kernel
theorem dX9_tell_38 : decode cX9_tell 38 = .ok (.iconst 0, 1) := by decide +kernel
theorem dX9_tell_39 : decode cX9_tell 39 = .ok (.istore_n 3, 1) := by decide +kernel
theorem dX9_tell_40 : decode cX9_tell 40 = .ok (.iload_n 3, 1) := by decide +kernel
theorem dX9_tell_41 : decode cX9_tell 41 = .ok (.aload_n 0, 1) := by decide +kernel
theorem dX9_tell_42 : decode cX9_tell 42 = .ok (.getfield 34, 3) := by decide +kernel
theorem dX9_tell_45 : decode cX9_tell 45 = .ok (.getfield 74, 3) := by decide +kernel
theorem dX9_tell_48 : decode cX9_tell 48 = .ok (.aload_n 0, 1) := by decide +kernel
theorem dX9_tell_49 : decode cX9_tell 49 = .ok (.getfield 38, 3) := by decide +kernel
theorem dX9_tell_52 : decode cX9_tell 52 = .ok (.arraylength, 1) := by decide +kernel
theorem dX9_tell_53 : decode cX9_tell 53 = .ok (.invokestatic 57, 3) := by decide +kernel
theorem dX9_tell_56 : decode cX9_tell 56 = .ok (.if_icmp .ge 30, 3) := by decide +kernel
theorem dX9_tell_59 : decode cX9_tell 59 = .ok (.aload_n 0, 1) := by decide +kernel
theorem dX9_tell_60 : decode cX9_tell 60 = .ok (.getfield 17, 3) := by decide +kernel
theorem dX9_tell_63 : decode cX9_tell 63 = .ok (.iload_n 1, 1) := by decide +kernel
theorem dX9_tell_64 : decode cX9_tell 64 = .ok (.iload_n 3, 1) := by decide +kernel
theorem dX9_tell_65 : decode cX9_tell 65 = .ok (.iastore, 1) := by decide +kernel
theorem dX9_tell_66 : decode cX9_tell 66 = .ok (.aload_n 0, 1) := by decide +kernel
theorem dX9_tell_67 : decode cX9_tell 67 = .ok (.iload_n 3, 1) := by decide +kernel
theorem dX9_tell_68 : decode cX9_tell 68 = .ok (.iload_n 1, 1) := by decide +kernel
theorem dX9_tell_69 : decode cX9_tell 69 = .ok (.invokevirtual 79, 3) := by decide +kernel
theorem dX9_tell_72 : decode cX9_tell 72 = .ok (.aload_n 0, 1) := by decide +kernel
theorem dX9_tell_73 : decode cX9_tell 73 = .ok (.getfield 27, 3) := by decide +kernel
theorem dX9_tell_76 : decode cX9_tell 76 = .ok (.aload_n 2, 1) := by decide +kernel
theorem dX9_tell_77 : decode cX9_tell 77 = .ok (.invokevirtual 70, 3) := by decide +kernel
theorem dX9_tell_80 : decode cX9_tell 80 = .ok (.iinc 3 1, 3) := by decide +kernel
theorem dX9_tell_83 : decode cX9_tell 83 = .ok (.goto (-43), 3) := by decide +kernel
theorem dX9_tell_86 : decode cX9_tell 86 = .ok (.return_, 1) := by decide +kernel
theorem dX9_tellOn_0 : decode cX9_tellOn 0 = .ok (.iload_n 1, 1) := by decide +kernel
theorem dX9_tellOn_1 : decode cX9_tellOn 1 = .ok (.iconst 0, 1) := by decide +kernel
theorem dX9_tellOn_2 : decode cX9_tellOn 2 = .ok (.aload_n 0, 1) := by decide +kernel
theorem dX9_tellOn_3 : decode cX9_tellOn 3 = .ok (.getfield 38, 3) := by decide +kernel
theorem dX9_tellOn_6 : decode cX9_tellOn 6 = .ok (.arraylength, 1) := by decide +kernel
theorem dX9_tellOn_7 : decode cX9_tellOn 7 = .ok (.iconst 1, 1) := by decide +kernel
theorem dX9_tellOn_8 : decode cX9_tellOn 8 = .ok (.isub, 1) := by decide +kernel
theorem dX9_tellOn_9 : decode cX9_tellOn 9 = .ok (.invokestatic 63, 3) := by decide +kernel
theorem dX9_tellOn_12 : decode cX9_tellOn 12 = .ok (.ifCond .eq 32, 3) := by decide +kernel
theorem dX9_tellOn_15 : decode cX9_tellOn 15 = .ok (.aload_n 0, 1) := by decide +kernel
theorem dX9_tellOn_16 : decode cX9_tellOn 16 = .ok (.getfield 42, 3) := by decide +kernel
theorem dX9_tellOn_19 : decode cX9_tellOn 19 = .ok (.aload_n 0, 1) := by decide +kernel
theorem dX9_tellOn_20 : decode cX9_tellOn 20 = .ok (.getfield 38, 3) := by decide +kernel
theorem dX9_tellOn_23 : decode cX9_tellOn 23 = .ok (.iload_n 1, 1) := by decide +kernel
theorem dX9_tellOn_24 : decode cX9_tellOn 24 = .ok (.aaload, 1) := by decide +kernel
theorem dX9_tellOn_25 : decode cX9_tellOn 25 = .ok (.aload_n 0, 1) := by decide +kernel
theorem dX9_tellOn_26 : decode cX9_tellOn 26 = .ok (.getfield 27, 3) := by decide +kernel
theorem dX9_tellOn_29 : decode cX9_tellOn 29 = .ok (.aload_n 0, 1) := by decide +kernel
theorem dX9_tellOn_30 : decode cX9_tellOn 30 = .ok (.getfield 34, 3) := by decide +kernel
theorem dX9_tellOn_33 : decode cX9_tellOn 33 = .ok (.invokevirtual 82, 3) := by decide +kernel
theorem dX9_tellOn_36 : decode cX9_tellOn 36 = .ok (.pop, 1) := by decide +kernel
theorem dX9_tellOn_37 : decode cX9_tellOn 37 = .ok (.aload_n 0, 1) := by decide +kernel
theorem dX9_tellOn_38 : decode cX9_tellOn 38 = .ok (.iload_n 2, 1) := by decide +kernel
theorem dX9_tellOn_39 : decode cX9_tellOn 39 = .ok (.iconst 1, 1) := by decide +kernel
theorem dX9_tellOn_40 : decode cX9_tellOn 40 = .ok (.iadd, 1) := by decide +kernel
theorem dX9_tellOn_41 : decode cX9_tellOn 41 = .ok (.invokevirtual 53, 3) := by decide +kernel
theorem dX9_tellOn_44 : decode cX9_tellOn 44 = .ok (.return_, 1) := by decide +kernel
theorem dX9_judge_0 : decode cX9_judge 0 = .ok (.aload_n 0, 1) := by decide +kernel
theorem dX9_judge_1 : decode cX9_judge 1 = .ok (.getfield 27, 3) := by decide +kernel
theorem dX9_judge_4 : decode cX9_judge 4 = .ok (.aload_n 0, 1) := by decide +kernel
theorem dX9_judge_5 : decode cX9_judge 5 = .ok (.getfield 31, 3) := by decide +kernel
theorem dX9_judge_8 : decode cX9_judge 8 = .ok (.invokevirtual 88, 3) := by decide +kernel
theorem dX9_judge_11 : decode cX9_judge 11 = .ok (.ifCond .ne 4, 3) := by decide +kernel
theorem dX9_judge_14 : decode cX9_judge 14 = .ok (.return_, 1) := by decide +kernel
theorem dX9_judge_15 : decode cX9_judge 15 = .ok (.aload_n 0, 1) := by decide +kernel
theorem dX9_judge_16 : decode cX9_judge 16 = .ok (.getfield 46, 3) := by decide +kernel
theorem dX9_judge_19 : decode cX9_judge 19 = .ok (.ifCond .ne 17, 3) := by decide +kernel
theorem dX9_judge_22 : decode cX9_judge 22 = .ok (.aload_n 0, 1) := by decide +kernel
theorem dX9_judge_23 : decode cX9_judge 23 = .ok (.getfield 17, 3) := by decide +kernel
theorem dX9_judge_26 : decode cX9_judge 26 = .ok (.iconst 0, 1) := by decide +kernel
theorem dX9_judge_27 : decode cX9_judge 27 = .ok (.aload_n 0, 1) := by decide +kernel
theorem dX9_judge_28 : decode cX9_judge 28 = .ok (.getfield 21, 3) := by decide +kernel
theorem dX9_judge_31 : decode cX9_judge 31 = .ok (.iconst 0, 1) := by decide +kernel
theorem dX9_judge_32 : decode cX9_judge 32 = .ok (.iconst 3, 1) := by decide +kernel
theorem dX9_judge_33 : decode cX9_judge 33 = .ok (.invokestatic 92, 3) := by decide +kernel
theorem dX9_judge_36 : decode cX9_judge 36 = .ok (.aload_n 0, 1) := by decide +kernel
theorem dX9_judge_37 : decode cX9_judge 37 = .ok (.dup, 1) := by decide +kernel
theorem dX9_judge_38 : decode cX9_judge 38 = .ok (.getfield 46, 3) := by decide +kernel
theorem dX9_judge_41 : decode cX9_judge 41 = .ok (.iconst 1, 1) := by decide +kernel
theorem dX9_judge_42 : decode cX9_judge 42 = .ok (.iadd, 1) := by decide +kernel
theorem dX9_judge_43 : decode cX9_judge 43 = .ok (.putfield 46, 3) := by decide +kernel
theorem dX9_judge_46 : decode cX9_judge 46 = .ok (.return_, 1) := by decide +kernel
