theorem dX12_readText_0 : decode cX12_readText 0 = .ok (.aload_n 0, 1) := by decide +kernel
theorem dX12_readText_1 : decode cX12_readText 1 = .ok (.sipush 1000, 3) := by decide +kernel
theorem dX12_readText_4 : decode cX12_readText 4 = .ok (.aload_n 0, 1) := by decide +kernel
theorem dX12_readText_5 : decode cX12_readText 5 = .ok (.getfield 7, 3) := by decide +kernel
theorem dX12_readText_8 : decode cX12_readText 8 = .ok (.iconst 3, 1) := by decide +kernel
theorem dX12_readText_9 : decode cX12_readText 9 = .ok (.iaload, 1) := by decide +kernel
theorem dX12_readText_10 : decode cX12_readText 10 = .ok (.imul, 1) := by decide +kernel
theorem dX12_readText_11 : decode cX12_readText 11 = .ok (.putfield 250, 3) := by decide +kernel
theorem dX12_readText_14 : decode cX12_readText 14 = .ok (.aload_n 0, 1) := by decide +kernel
theorem dX12_readText_15 : decode cX12_readText 15 = .ok (.getfield 16, 3) := by decide +kernel
theorem dX12_readText_18 : decode cX12_readText 18 = .ok (.aload_n 0, 1) := by decide +kernel
theorem dX12_readText_19 : decode cX12_readText 19 = .ok (.getfield 250, 3) := by decide +kernel
theorem dX12_readText_22 : decode cX12_readText 22 = .ok (.iconst 0, 1) := by decide +kernel
theorem dX12_readText_23 : decode cX12_readText 23 = .ok (.iastore, 1) := by decide +kernel
theorem dX12_readText_24 : decode cX12_readText 24 = .ok (.aload_n 0, 1) := by decide +kernel
theorem dX12_readText_25 : decode cX12_readText 25 = .ok (.iconst 0, 1) := by decide +kernel
theorem dX12_readText_26 : decode cX12_readText 26 = .ok (.putfield 253, 3) := by decide +kernel
theorem dX12_readText_29 : decode cX12_readText 29 = .ok (.aload_n 0, 1) := by decide +kernel
theorem dX12_readText_30 : decode cX12_readText 30 = .ok (.iconst 0, 1) := by decide +kernel
theorem dX12_readText_31 : decode cX12_readText 31 = .ok (.putfield 262, 3) := by decide +kernel
theorem dX12_readText_34 : decode cX12_readText 34 = .ok (.aload_n 0, 1) := by decide +kernel
theorem dX12_readText_35 : decode cX12_readText 35 = .ok (.iconst 0, 1) := by decide +kernel
theorem dX12_readText_36 : decode cX12_readText 36 = .ok (.putfield 336, 3) := by decide +kernel
theorem dX12_readText_39 : decode cX12_readText 39 = .ok (.aload_n 0, 1) := by decide +kernel
theorem dX12_readText_40 : decode cX12_readText 40 = .ok (.iconst 0, 1) := by decide +kernel
theorem dX12_readText_41 : decode cX12_readText 41 = .ok (.putfield 216, 3) := by decide +kernel
theorem dX12_readText_44 : decode cX12_readText 44 = .ok (.aload_n 0, 1) := by decide +kernel
theorem dX12_readText_45 : decode cX12_readText 45 = .ok (.invokevirtual 278, 3) := by decide +kernel
theorem dX12_readText_48 : decode cX12_readText 48 = .ok (.aload_n 0, 1) := by decide +kernel
theorem dX12_readText_49 : decode cX12_readText 49 = .ok (.getfield 225, 3) := by decide +kernel
theorem dX12_readText_52 : decode cX12_readText 52 = .ok (.ifCond .eq 86, 3) := by decide +kernel
theorem dX12_readText_55 : decode cX12_readText 55 = .ok (.aload_n 0, 1) := by decide +kernel
theorem dX12_readText_56 : decode cX12_readText 56 = .ok (.getfield 225, 3) := by decide +kernel
theorem dX12_readText_59 : decode cX12_readText 59 = .ok (.bipush 125, 2) := by decide +kernel
theorem dX12_readText_61 : decode cX12_readText 61 = .ok (.if_icmp .ne 63, 3) := by decide +kernel
theorem dX12_readText_64 : decode cX12_readText 64 = .ok (.aload_n 0, 1) := by decide +kernel
theorem dX12_readText_65 : decode cX12_readText 65 = .ok (.getfield 336, 3) := by decide +kernel
theorem dX12_readText_68 : decode cX12_readText 68 = .ok (.ifCond .le 56, 3) := by decide +kernel
theorem dX12_readText_71 : decode cX12_readText 71 = .ok (.aload_n 0, 1) := by decide +kernel
theorem dX12_readText_72 : decode cX12_readText 72 = .ok (.dup, 1) := by decide +kernel
theorem dX12_readText_73 : decode cX12_readText 73 = .ok (.getfield 336, 3) := by decide +kernel
theorem dX12_readText_76 : decode cX12_readText 76 = .ok (.iconst 1, 1) := by decide +kernel
theorem dX12_readText_77 : decode cX12_readText 77 = .ok (.isub, 1) := by decide +kernel
theorem dX12_readText_78 : decode cX12_readText 78 = .ok (.putfield 336, 3) := by decide +kernel
theorem dX12_readText_81 : decode cX12_readText 81 = .ok (.aload_n 0, 1) := by decide +kernel
theorem dX12_readText_82 : decode cX12_readText 82 = .ok (.dup, 1) := by decide +kernel
theorem dX12_readText_83 : decode cX12_readText 83 = .ok (.getfield 262, 3) := by decide +kernel
theorem dX12_readText_86 : decode cX12_readText 86 = .ok (.iconst 1, 1) := by decide +kernel
theorem dX12_readText_87 : decode cX12_readText 87 = .ok (.isub, 1) := by decide +kernel
theorem dX12_readText_88 : decode cX12_readText 88 = .ok (.putfield 262, 3) := by decide +kernel
theorem dX12_readText_91 : decode cX12_readText 91 = .ok (.aload_n 0, 1) := by decide +kernel
theorem dX12_readText_92 : decode cX12_readText 92 = .ok (.getfield 16, 3) := by decide +kernel
theorem dX12_readText_95 : decode cX12_readText 95 = .ok (.aload_n 0, 1) := by decide +kernel
theorem dX12_readText_96 : decode cX12_readText 96 = .ok (.getfield 41, 3) := by decide +kernel
theorem dX12_readText_99 : decode cX12_readText 99 = .ok (.aload_n 0, 1) := by decide +kernel
theorem dX12_readText_100 : decode cX12_readText 100 = .ok (.getfield 336, 3) := by decide +kernel
theorem dX12_readText_103 : decode cX12_readText 103 = .ok (.iaload, 1) := by decide +kernel
theorem dX12_readText_104 : decode cX12_readText 104 = .ok (.bipush 10, 2) := by decide +kernel
theorem dX12_readText_106 : decode cX12_readText 106 = .ok (.iadd, 1) := by decide +kernel
theorem dX12_readText_107 : decode cX12_readText 107 = .ok (.aload_n 0, 1) := by decide +kernel
theorem dX12_readText_108 : decode cX12_readText 108 = .ok (.getfield 16, 3) := by decide +kernel
theorem dX12_readText_111 : decode cX12_readText 111 = .ok (.aload_n 0, 1) := by decide +kernel
theorem dX12_readText_112 : decode cX12_readText 112 = .ok (.getfield 250, 3) := by decide +kernel
theorem dX12_readText_115 : decode cX12_readText 115 = .ok (.iaload, 1) := by decide +kernel
theorem dX12_readText_116 : decode cX12_readText 116 = .ok (.iastore, 1) := by decide +kernel
theorem dX12_readText_117 : decode cX12_readText 117 = .ok (.aload_n 0, 1) := by decide +kernel
theorem dX12_readText_118 : decode cX12_readText 118 = .ok (.invokevirtual 278, 3) := by decide +kernel
theorem dX12_readText_121 : decode cX12_readText 121 = .ok (.goto (-73), 3) := by decide +kernel
theorem dX12_readText_124 : decode cX12_readText 124 = .ok (.aload_n 0, 1) := by decide +kernel
theorem dX12_readText_125 : decode cX12_readText 125 = .ok (.invokevirtual 347, 3) := by decide +kernel
theorem dX12_readText_128 : decode cX12_readText 128 = .ok (.istore_n 1, 1) := by decide +kernel
theorem dX12_readText_129 : decode cX12_readText 129 = .ok (.iload_n 1, 1) := by decide +kernel
theorem dX12_readText_130 : decode cX12_readText 130 = .ok (.ifCond .eq 5, 3) := by decide +kernel
theorem dX12_readText_133 : decode cX12_readText 133 = .ok (.iload_n 1, 1) := by decide +kernel
theorem dX12_readText_134 : decode cX12_readText 134 = .ok (.ireturn, 1) := by decide +kernel
theorem dX12_readText_135 : decode cX12_readText 135 = .ok (.goto (-87), 3) := by decide +kernel
theorem dX12_readText_138 : decode cX12_readText 138 = .ok (.aload_n 0, 1) := by decide +kernel
theorem dX12_readText_139 : decode cX12_readText 139 = .ok (.getfield 336, 3) := by decide +kernel
theorem dX12_readText_142 : decode cX12_readText 142 = .ok (.ifCond .le 7, 3) := by decide +kernel
theorem dX12_readText_145 : decode cX12_readText 145 = .ok (.iconst 1, 1) := by decide +kernel
theorem dX12_readText_146 : decode cX12_readText 146 = .ok (.goto 4, 3) := by decide +kernel
theorem dX12_readText_149 : decode cX12_readText 149 = .ok (.iconst 0, 1) := by decide +kernel
theorem dX12_readText_150 : decode cX12_readText 150 = .ok (.ireturn, 1) := by decide +kernel
theorem dX12_text_0 : decode cX12_text 0 = .ok (.aload_n 0, 1) := by decide +kernel
theorem dX12_text_1 : decode cX12_text 1 = .ok (.getfield 7, 3) := by decide +kernel
theorem dX12_text_4 : decode cX12_text 4 = .ok (.iconst 3, 1) := by decide +kernel
theorem dX12_text_5 : decode cX12_text 5 = .ok (.iaload, 1) := by decide +kernel
theorem dX12_text_6 : decode cX12_text 6 = .ok (.bipush 6, 2) := by decide +kernel
theorem dX12_text_8 : decode cX12_text 8 = .ok (.if_icmp .ne 5, 3) := by decide +kernel
theorem dX12_text_11 : decode cX12_text 11 = .ok (.iconst (-1), 1) := by decide +kernel
theorem dX12_text_12 : decode cX12_text 12 = .ok (.ireturn, 1) := by decide +kernel
theorem dX12_text_13 : decode cX12_text 13 = .ok (.aload_n 0, 1) := by decide +kernel
theorem dX12_text_14 : decode cX12_text 14 = .ok (.aload_n 0, 1) := by decide +kernel
theorem dX12_text_15 : decode cX12_text 15 = .ok (.invokevirtual 350, 3) := by decide +kernel
theorem dX12_text_18 : decode cX12_text 18 = .ok (.putfield 31, 3) := by decide +kernel
theorem dX12_text_21 : decode cX12_text 21 = .ok (.aload_n 0, 1) := by decide +kernel
theorem dX12_text_22 : decode cX12_text 22 = .ok (.aload_n 0, 1) := by decide +kernel
theorem dX12_text_23 : decode cX12_text 23 = .ok (.getfield 31, 3) := by decide +kernel
theorem dX12_text_26 : decode cX12_text 26 = .ok (.ifCond .ne 7, 3) := by decide +kernel
theorem dX12_text_29 : decode cX12_text 29 = .ok (.iconst (-1), 1) := by decide +kernel
theorem dX12_text_30 : decode cX12_text 30 = .ok (.goto 7, 3) := by decide +kernel
theorem dX12_text_33 : decode cX12_text 33 = .ok (.aload_n 0, 1) := by decide +kernel
theorem dX12_text_34 : decode cX12_text 34 = .ok (.getfield 222, 3) := by decide +kernel
theorem dX12_text_37 : decode cX12_text 37 = .ok (.putfield 35, 3) := by decide +kernel
theorem dX12_text_40 : decode cX12_text 40 = .ok (.aload_n 0, 1) := by decide +kernel
theorem dX12_text_41 : decode cX12_text 41 = .ok (.iconst 0, 1) := by decide +kernel
theorem dX12_text_42 : decode cX12_text 42 = .ok (.putfield 210, 3) := by decide +kernel
theorem dX12_text_45 : decode cX12_text 45 = .ok (.aload_n 0, 1) := by decide +kernel
theorem dX12_text_46 : decode cX12_text 46 = .ok (.getfield 31, 3) := by decide +kernel
theorem dX12_text_49 : decode cX12_text 49 = .ok (.ifCond .eq 5, 3) := by decide +kernel
theorem dX12_text_52 : decode cX12_text 52 = .ok (.iconst (-1), 1) := by decide +kernel
theorem dX12_text_53 : decode cX12_text 53 = .ok (.ireturn, 1) := by decide +kernel
theorem dX12_text_54 : decode cX12_text 54 = .ok (.aload_n 0, 1) := by decide +kernel
theorem dX12_text_55 : decode cX12_text 55 = .ok (.getfield 7, 3) := by decide +kernel
theorem dX12_text_58 : decode cX12_text 58 = .ok (.iconst 3, 1) := by decide +kernel
theorem dX12_text_59 : decode cX12_text 59 = .ok (.dup2, 1) := by decide +kernel
theorem dX12_text_60 : decode cX12_text 60 = .ok (.iaload, 1) := by decide +kernel
theorem dX12_text_61 : decode cX12_text 61 = .ok (.iconst 1, 1) := by decide +kernel
theorem dX12_text_62 : decode cX12_text 62 = .ok (.iadd, 1) := by decide +kernel
theorem dX12_text_63 : decode cX12_text 63 = .ok (.iastore, 1) := by decide +kernel
theorem dX12_text_64 : decode cX12_text 64 = .ok (.aload_n 0, 1) := by decide +kernel
theorem dX12_text_65 : decode cX12_text 65 = .ok (.getfield 7, 3) := by decide +kernel
theorem dX12_text_68 : decode cX12_text 68 = .ok (.iconst 3, 1) := by decide +kernel
theorem dX12_text_69 : decode cX12_text 69 = .ok (.iaload, 1) := by decide +kernel
theorem dX12_text_70 : decode cX12_text 70 = .ok (.iconst 1, 1) := by decide +kernel
theorem dX12_text_71 : decode cX12_text 71 = .ok (.isub, 1) := by decide +kernel
theorem dX12_text_72 : decode cX12_text 72 = .ok (.ireturn, 1) := by decide +kernel
theorem dX12_fault_0 : decode cX12_fault 0 = .ok (.iload_n 1, 1) := by decide +kernel
theorem dX12_fault_1 : decode cX12_fault 1 = .ok (.ifCond .ne 10, 3) := by decide +kernel
theorem dX12_fault_4 : decode cX12_fault 4 = .ok (.aload_n 0, 1) := by decide +kernel
theorem dX12_fault_5 : decode cX12_fault 5 = .ok (.getfield 31, 3) := by decide +kernel
theorem dX12_fault_8 : decode cX12_fault 8 = .ok (.goto 16, 3) := by decide +kernel
theorem dX12_fault_11 : decode cX12_fault 11 = .ok (.iload_n 1, 1) := by decide +kernel
theorem dX12_fault_12 : decode cX12_fault 12 = .ok (.iconst 1, 1) := by decide +kernel
theorem dX12_fault_13 : decode cX12_fault 13 = .ok (.if_icmp .ne 10, 3) := by decide +kernel
theorem dX12_fault_16 : decode cX12_fault 16 = .ok (.aload_n 0, 1) := by decide +kernel
theorem dX12_fault_17 : decode cX12_fault 17 = .ok (.getfield 35, 3) := by decide +kernel
theorem dX12_fault_20 : decode cX12_fault 20 = .ok (.goto 4, 3) := by decide +kernel
theorem dX12_fault_23 : decode cX12_fault 23 = .ok (.iconst (-1), 1) := by decide +kernel
theorem dX12_fault_24 : decode cX12_fault 24 = .ok (.ireturn, 1) := by decide +kernel
theorem dX12_clip_0 : decode cX12_clip 0 = .ok (.lload_n 0, 1) := by decide +kernel
theorem dX12_clip_1 : decode cX12_clip 1 = .ok (.ldc2_w 353, 3) := by decide +kernel
theorem dX12_clip_4 : decode cX12_clip 4 = .ok (.lcmp, 1) := by decide +kernel
theorem dX12_clip_5 : decode cX12_clip 5 = .ok (.ifCond .le 9, 3) := by decide +kernel
theorem dX12_clip_8 : decode cX12_clip 8 = .ok (.ldc2_w 353, 3) := by decide +kernel
theorem dX12_clip_11 : decode cX12_clip 11 = .ok (.goto 18, 3) := by decide +kernel
theorem dX12_clip_14 : decode cX12_clip 14 = .ok (.lload_n 0, 1) := by decide +kernel
theorem dX12_clip_15 : decode cX12_clip 15 = .ok (.ldc2_w 355, 3) := by decide +kernel
theorem dX12_clip_18 : decode cX12_clip 18 = .ok (.lcmp, 1) := by decide +kernel
theorem dX12_clip_19 : decode cX12_clip 19 = .ok (.ifCond .ge 9, 3) := by decide +kernel
theorem dX12_clip_22 : decode cX12_clip 22 = .ok (.ldc2_w 355, 3) := by decide +kernel
theorem dX12_clip_25 : decode cX12_clip 25 = .ok (.goto 4, 3) := by decide +kernel
theorem dX12_clip_28 : decode cX12_clip 28 = .ok (.lload_n 0, 1) := by decide +kernel
theorem dX12_clip_29 : decode cX12_clip 29 = .ok (.lreturn, 1) := by decide +kernel
theorem dX12_worked_0 : decode cX12_worked 0 = .ok (.iload_n 0, 1) := by decide +kernel
theorem dX12_worked_1 : decode cX12_worked 1 = .ok (.tableswitch 48 3 5 #[27, 34, 41], 27) := by decide +kernel
theorem dX12_worked_28 : decode cX12_worked 28 = .ok (.lload_n 1, 1) := by decide +kernel
theorem dX12_worked_29 : decode cX12_worked 29 = .ok (.lload_n 3, 1) := by decide +kernel
theorem dX12_worked_30 : decode cX12_worked 30 = .ok (.ladd, 1) := by decide +kernel
theorem dX12_worked_31 : decode cX12_worked 31 = .ok (.invokestatic 357, 3) := by decide +kernel
theorem dX12_worked_34 : decode cX12_worked 34 = .ok (.lreturn, 1) := by decide +kernel
theorem dX12_worked_35 : decode cX12_worked 35 = .ok (.lload_n 1, 1) := by decide +kernel
theorem dX12_worked_36 : decode cX12_worked 36 = .ok (.lload_n 3, 1) := by decide +kernel
theorem dX12_worked_37 : decode cX12_worked 37 = .ok (.lsub, 1) := by decide +kernel
theorem dX12_worked_38 : decode cX12_worked 38 = .ok (.invokestatic 357, 3) := by decide +kernel
theorem dX12_worked_41 : decode cX12_worked 41 = .ok (.lreturn, 1) := by decide +kernel
theorem dX12_worked_42 : decode cX12_worked 42 = .ok (.lload_n 1, 1) := by decide +kernel
theorem dX12_worked_43 : decode cX12_worked 43 = .ok (.lload_n 3, 1) := by decide +kernel
theorem dX12_worked_44 : decode cX12_worked 44 = .ok (.lmul, 1) := by decide +kernel
theorem dX12_worked_45 : decode cX12_worked 45 = .ok (.invokestatic 357, 3) := by decide +kernel
theorem dX12_worked_48 : decode cX12_worked 48 = .ok (.lreturn, 1) := by decide +kernel
theorem dX12_worked_49 : decode cX12_worked 49 = .ok (.lload_n 3, 1) := by decide +kernel
theorem dX12_worked_50 : decode cX12_worked 50 = .ok (.lconst 0, 1) := by decide +kernel
theorem dX12_worked_51 : decode cX12_worked 51 = .ok (.lcmp, 1) := by decide +kernel
theorem dX12_worked_52 : decode cX12_worked 52 = .ok (.ifCond .ne 7, 3) := by decide +kernel
theorem dX12_worked_55 : decode cX12_worked 55 = .ok (.lconst 0, 1) := by decide +kernel
theorem dX12_worked_56 : decode cX12_worked 56 = .ok (.goto 9, 3) := by decide +kernel
theorem dX12_worked_59 : decode cX12_worked 59 = .ok (.lload_n 1, 1) := by decide +kernel
theorem dX12_worked_60 : decode cX12_worked 60 = .ok (.lload_n 3, 1) := by decide +kernel
theorem dX12_worked_61 : decode cX12_worked 61 = .ok (.ldiv, 1) := by decide +kernel
theorem dX12_worked_62 : decode cX12_worked 62 = .ok (.invokestatic 357, 3) := by decide +kernel
theorem dX12_worked_65 : decode cX12_worked 65 = .ok (.lreturn, 1) := by decide +kernel
theorem dX12_sumOf_0 : decode cX12_sumOf 0 = .ok (.sipush 1000, 3) := by decide +kernel
theorem dX12_sumOf_3 : decode cX12_sumOf 3 = .ok (.iload_n 1, 1) := by decide +kernel
theorem dX12_sumOf_4 : decode cX12_sumOf 4 = .ok (.imul, 1) := by decide +kernel
theorem dX12_sumOf_5 : decode cX12_sumOf 5 = .ok (.sipush 200, 3) := by decide +kernel
theorem dX12_sumOf_8 : decode cX12_sumOf 8 = .ok (.iadd, 1) := by decide +kernel
theorem dX12_sumOf_9 : decode cX12_sumOf 9 = .ok (.istore_n 3, 1) := by decide +kernel
theorem dX12_sumOf_10 : decode cX12_sumOf 10 = .ok (.iconst 0, 1) := by decide +kernel
theorem dX12_sumOf_11 : decode cX12_sumOf 11 = .ok (.istore 4, 2) := by decide +kernel
theorem dX12_sumOf_13 : decode cX12_sumOf 13 = .ok (.aload_n 0, 1) := by decide +kernel
theorem dX12_sumOf_14 : decode cX12_sumOf 14 = .ok (.getfield 16, 3) := by decide +kernel
theorem dX12_sumOf_17 : decode cX12_sumOf 17 = .ok (.iload_n 2, 1) := by decide +kernel
theorem dX12_sumOf_18 : decode cX12_sumOf 18 = .ok (.bipush 8, 2) := by decide +kernel
theorem dX12_sumOf_20 : decode cX12_sumOf 20 = .ok (.iadd, 1) := by decide +kernel
theorem dX12_sumOf_21 : decode cX12_sumOf 21 = .ok (.iaload, 1) := by decide +kernel
theorem dX12_sumOf_22 : decode cX12_sumOf 22 = .ok (.istore 5, 2) := by decide +kernel
theorem dX12_sumOf_24 : decode cX12_sumOf 24 = .ok (.iload 5, 2) := by decide +kernel
theorem dX12_sumOf_26 : decode cX12_sumOf 26 = .ok (.aload_n 0, 1) := by decide +kernel
theorem dX12_sumOf_27 : decode cX12_sumOf 27 = .ok (.getfield 16, 3) := by decide +kernel
theorem dX12_sumOf_30 : decode cX12_sumOf 30 = .ok (.iload_n 2, 1) := by decide +kernel
theorem dX12_sumOf_31 : decode cX12_sumOf 31 = .ok (.bipush 9, 2) := by decide +kernel
theorem dX12_sumOf_33 : decode cX12_sumOf 33 = .ok (.iadd, 1) := by decide +kernel
theorem dX12_sumOf_34 : decode cX12_sumOf 34 = .ok (.iaload, 1) := by decide +kernel
theorem dX12_sumOf_35 : decode cX12_sumOf 35 = .ok (.if_icmp .ge 136, 3) := by decide +kernel
theorem dX12_sumOf_38 : decode cX12_sumOf 38 = .ok (.aload_n 0, 1) := by decide +kernel
theorem dX12_sumOf_39 : decode cX12_sumOf 39 = .ok (.getfield 16, 3) := by decide +kernel
theorem dX12_sumOf_42 : decode cX12_sumOf 42 = .ok (.iload_n 3, 1) := by decide +kernel
theorem dX12_sumOf_43 : decode cX12_sumOf 43 = .ok (.iconst 2, 1) := by decide +kernel
theorem dX12_sumOf_44 : decode cX12_sumOf 44 = .ok (.iload 5, 2) := by decide +kernel
theorem dX12_sumOf_46 : decode cX12_sumOf 46 = .ok (.imul, 1) := by decide +kernel
theorem dX12_sumOf_47 : decode cX12_sumOf 47 = .ok (.iadd, 1) := by decide +kernel
theorem dX12_sumOf_48 : decode cX12_sumOf 48 = .ok (.iaload, 1) := by decide +kernel
theorem dX12_sumOf_49 : decode cX12_sumOf 49 = .ok (.istore 6, 2) := by decide +kernel
theorem dX12_sumOf_51 : decode cX12_sumOf 51 = .ok (.aload_n 0, 1) := by decide +kernel
theorem dX12_sumOf_52 : decode cX12_sumOf 52 = .ok (.getfield 16, 3) := by decide +kernel
theorem dX12_sumOf_55 : decode cX12_sumOf 55 = .ok (.iload_n 3, 1) := by decide +kernel
theorem dX12_sumOf_56 : decode cX12_sumOf 56 = .ok (.iconst 2, 1) := by decide +kernel
theorem dX12_sumOf_57 : decode cX12_sumOf 57 = .ok (.iload 5, 2) := by decide +kernel
theorem dX12_sumOf_59 : decode cX12_sumOf 59 = .ok (.imul, 1) := by decide +kernel
theorem dX12_sumOf_60 : decode cX12_sumOf 60 = .ok (.iadd, 1) := by decide +kernel
theorem dX12_sumOf_61 : decode cX12_sumOf 61 = .ok (.iconst 1, 1) := by decide +kernel
theorem dX12_sumOf_62 : decode cX12_sumOf 62 = .ok (.iadd, 1) := by decide +kernel
theorem dX12_sumOf_63 : decode cX12_sumOf 63 = .ok (.iaload, 1) := by decide +kernel
theorem dX12_sumOf_64 : decode cX12_sumOf 64 = .ok (.istore 7, 2) := by decide +kernel
theorem dX12_sumOf_66 : decode cX12_sumOf 66 = .ok (.iload 6, 2) := by decide +kernel
theorem dX12_sumOf_68 : decode cX12_sumOf 68 = .ok (.iconst 1, 1) := by decide +kernel
theorem dX12_sumOf_69 : decode cX12_sumOf 69 = .ok (.if_icmp .gt 35, 3) := by decide +kernel
theorem dX12_sumOf_72 : decode cX12_sumOf 72 = .ok (.aload_n 0, 1) := by decide +kernel
theorem dX12_sumOf_73 : decode cX12_sumOf 73 = .ok (.getfield 47, 3) := by decide +kernel
theorem dX12_sumOf_76 : decode cX12_sumOf 76 = .ok (.iload 4, 2) := by decide +kernel
theorem dX12_sumOf_78 : decode cX12_sumOf 78 = .ok (.iload 6, 2) := by decide +kernel
theorem dX12_sumOf_80 : decode cX12_sumOf 80 = .ok (.ifCond .ne 9, 3) := by decide +kernel
theorem dX12_sumOf_83 : decode cX12_sumOf 83 = .ok (.iload 7, 2) := by decide +kernel
theorem dX12_sumOf_85 : decode cX12_sumOf 85 = .ok (.i2l, 1) := by decide +kernel
theorem dX12_sumOf_86 : decode cX12_sumOf 86 = .ok (.goto 11, 3) := by decide +kernel
theorem dX12_sumOf_89 : decode cX12_sumOf 89 = .ok (.aload_n 0, 1) := by decide +kernel
theorem dX12_sumOf_90 : decode cX12_sumOf 90 = .ok (.getfield 44, 3) := by decide +kernel
theorem dX12_sumOf_93 : decode cX12_sumOf 93 = .ok (.iload 7, 2) := by decide +kernel
theorem dX12_sumOf_95 : decode cX12_sumOf 95 = .ok (.iaload, 1) := by decide +kernel
theorem dX12_sumOf_96 : decode cX12_sumOf 96 = .ok (.i2l, 1) := by decide +kernel
theorem dX12_sumOf_97 : decode cX12_sumOf 97 = .ok (.lastore, 1) := by decide +kernel
theorem dX12_sumOf_98 : decode cX12_sumOf 98 = .ok (.iinc 4 1, 3) := by decide +kernel
theorem dX12_sumOf_101 : decode cX12_sumOf 101 = .ok (.goto 64, 3) := by decide +kernel
theorem dX12_sumOf_104 : decode cX12_sumOf 104 = .ok (.iload 6, 2) := by decide +kernel
theorem dX12_sumOf_106 : decode cX12_sumOf 106 = .ok (.iconst 2, 1) := by decide +kernel
theorem dX12_sumOf_107 : decode cX12_sumOf 107 = .ok (.if_icmp .ne 25, 3) := by decide +kernel
theorem dX12_sumOf_110 : decode cX12_sumOf 110 = .ok (.aload_n 0, 1) := by decide +kernel
theorem dX12_sumOf_111 : decode cX12_sumOf 111 = .ok (.getfield 47, 3) := by decide +kernel
theorem dX12_sumOf_114 : decode cX12_sumOf 114 = .ok (.iload 4, 2) := by decide +kernel
theorem dX12_sumOf_116 : decode cX12_sumOf 116 = .ok (.iconst 1, 1) := by decide +kernel
theorem dX12_sumOf_117 : decode cX12_sumOf 117 = .ok (.isub, 1) := by decide +kernel
theorem dX12_sumOf_118 : decode cX12_sumOf 118 = .ok (.aload_n 0, 1) := by decide +kernel
theorem dX12_sumOf_119 : decode cX12_sumOf 119 = .ok (.getfield 47, 3) := by decide +kernel
theorem dX12_sumOf_122 : decode cX12_sumOf 122 = .ok (.iload 4, 2) := by decide +kernel
theorem dX12_sumOf_124 : decode cX12_sumOf 124 = .ok (.iconst 1, 1) := by decide +kernel
theorem dX12_sumOf_125 : decode cX12_sumOf 125 = .ok (.isub, 1) := by decide +kernel
theorem dX12_sumOf_126 : decode cX12_sumOf 126 = .ok (.laload, 1) := by decide +kernel
theorem dX12_sumOf_127 : decode cX12_sumOf 127 = .ok (.lneg, 1) := by decide +kernel
theorem dX12_sumOf_128 : decode cX12_sumOf 128 = .ok (.lastore, 1) := by decide +kernel
theorem dX12_sumOf_129 : decode cX12_sumOf 129 = .ok (.goto 36, 3) := by decide +kernel
theorem dX12_sumOf_132 : decode cX12_sumOf 132 = .ok (.iinc 4 (-1), 3) := by decide +kernel
theorem dX12_sumOf_135 : decode cX12_sumOf 135 = .ok (.aload_n 0, 1) := by decide +kernel
theorem dX12_sumOf_136 : decode cX12_sumOf 136 = .ok (.getfield 47, 3) := by decide +kernel
theorem dX12_sumOf_139 : decode cX12_sumOf 139 = .ok (.iload 4, 2) := by decide +kernel
theorem dX12_sumOf_141 : decode cX12_sumOf 141 = .ok (.iconst 1, 1) := by decide +kernel
theorem dX12_sumOf_142 : decode cX12_sumOf 142 = .ok (.isub, 1) := by decide +kernel
theorem dX12_sumOf_143 : decode cX12_sumOf 143 = .ok (.iload 6, 2) := by decide +kernel
theorem dX12_sumOf_145 : decode cX12_sumOf 145 = .ok (.aload_n 0, 1) := by decide +kernel
theorem dX12_sumOf_146 : decode cX12_sumOf 146 = .ok (.getfield 47, 3) := by decide +kernel
theorem dX12_sumOf_149 : decode cX12_sumOf 149 = .ok (.iload 4, 2) := by decide +kernel
theorem dX12_sumOf_151 : decode cX12_sumOf 151 = .ok (.iconst 1, 1) := by decide +kernel
theorem dX12_sumOf_152 : decode cX12_sumOf 152 = .ok (.isub, 1) := by decide +kernel
theorem dX12_sumOf_153 : decode cX12_sumOf 153 = .ok (.laload, 1) := by decide +kernel
theorem dX12_sumOf_154 : decode cX12_sumOf 154 = .ok (.aload_n 0, 1) := by decide +kernel
theorem dX12_sumOf_155 : decode cX12_sumOf 155 = .ok (.getfield 47, 3) := by decide +kernel
theorem dX12_sumOf_158 : decode cX12_sumOf 158 = .ok (.iload 4, 2) := by decide +kernel
theorem dX12_sumOf_160 : decode cX12_sumOf 160 = .ok (.laload, 1) := by decide +kernel
theorem dX12_sumOf_161 : decode cX12_sumOf 161 = .ok (.invokestatic 361, 3) := by decide +kernel
theorem dX12_sumOf_164 : decode cX12_sumOf 164 = .ok (.lastore, 1) := by decide +kernel
theorem dX12_sumOf_165 : decode cX12_sumOf 165 = .ok (.iinc 5 1, 3) := by decide +kernel
theorem dX12_sumOf_168 : decode cX12_sumOf 168 = .ok (.goto (-144), 3) := by decide +kernel
theorem dX12_sumOf_171 : decode cX12_sumOf 171 = .ok (.aload_n 0, 1) := by decide +kernel
theorem dX12_sumOf_172 : decode cX12_sumOf 172 = .ok (.getfield 47, 3) := by decide +kernel
theorem dX12_sumOf_175 : decode cX12_sumOf 175 = .ok (.iconst 0, 1) := by decide +kernel
theorem dX12_sumOf_176 : decode cX12_sumOf 176 = .ok (.laload, 1) := by decide +kernel
theorem dX12_sumOf_177 : decode cX12_sumOf 177 = .ok (.lconst 0, 1) := by decide +kernel
theorem dX12_sumOf_178 : decode cX12_sumOf 178 = .ok (.lcmp, 1) := by decide +kernel
theorem dX12_sumOf_179 : decode cX12_sumOf 179 = .ok (.ifCond .ge 7, 3) := by decide +kernel
theorem dX12_sumOf_182 : decode cX12_sumOf 182 = .ok (.iconst 0, 1) := by decide +kernel
theorem dX12_sumOf_183 : decode cX12_sumOf 183 = .ok (.goto 28, 3) := by decide +kernel
theorem dX12_sumOf_186 : decode cX12_sumOf 186 = .ok (.aload_n 0, 1) := by decide +kernel
theorem dX12_sumOf_187 : decode cX12_sumOf 187 = .ok (.getfield 47, 3) := by decide +kernel
theorem dX12_sumOf_190 : decode cX12_sumOf 190 = .ok (.iconst 0, 1) := by decide +kernel
theorem dX12_sumOf_191 : decode cX12_sumOf 191 = .ok (.laload, 1) := by decide +kernel
theorem dX12_sumOf_192 : decode cX12_sumOf 192 = .ok (.ldc2_w 365, 3) := by decide +kernel
theorem dX12_sumOf_195 : decode cX12_sumOf 195 = .ok (.lcmp, 1) := by decide +kernel
theorem dX12_sumOf_196 : decode cX12_sumOf 196 = .ok (.ifCond .le 8, 3) := by decide +kernel
theorem dX12_sumOf_199 : decode cX12_sumOf 199 = .ok (.bipush 99, 2) := by decide +kernel
theorem dX12_sumOf_201 : decode cX12_sumOf 201 = .ok (.goto 10, 3) := by decide +kernel
theorem dX12_sumOf_204 : decode cX12_sumOf 204 = .ok (.aload_n 0, 1) := by decide +kernel
theorem dX12_sumOf_205 : decode cX12_sumOf 205 = .ok (.getfield 47, 3) := by decide +kernel
theorem dX12_sumOf_208 : decode cX12_sumOf 208 = .ok (.iconst 0, 1) := by decide +kernel
theorem dX12_sumOf_209 : decode cX12_sumOf 209 = .ok (.laload, 1) := by decide +kernel
theorem dX12_sumOf_210 : decode cX12_sumOf 210 = .ok (.l2i, 1) := by decide +kernel
theorem dX12_sumOf_211 : decode cX12_sumOf 211 = .ok (.ireturn, 1) := by decide +kernel
theorem dX12_paste_0 : decode cX12_paste 0 = .ok (.aload_n 0, 1) := by decide +kernel
theorem dX12_paste_1 : decode cX12_paste 1 = .ok (.getfield 16, 3) := by decide +kernel
theorem dX12_paste_4 : decode cX12_paste 4 = .ok (.iload_n 1, 1) := by decide +kernel
theorem dX12_paste_5 : decode cX12_paste 5 = .ok (.iconst 1, 1) := by decide +kernel
theorem dX12_paste_6 : decode cX12_paste 6 = .ok (.iadd, 1) := by decide +kernel
theorem dX12_paste_7 : decode cX12_paste 7 = .ok (.iaload, 1) := by decide +kernel
theorem dX12_paste_8 : decode cX12_paste 8 = .ok (.istore_n 3, 1) := by decide +kernel
theorem dX12_paste_9 : decode cX12_paste 9 = .ok (.iconst 0, 1) := by decide +kernel
theorem dX12_paste_10 : decode cX12_paste 10 = .ok (.istore 4, 2) := by decide +kernel
theorem dX12_paste_12 : decode cX12_paste 12 = .ok (.iload 4, 2) := by decide +kernel
theorem dX12_paste_14 : decode cX12_paste 14 = .ok (.sipush 144, 3) := by decide +kernel
theorem dX12_paste_17 : decode cX12_paste 17 = .ok (.if_icmp .ge 32, 3) := by decide +kernel
theorem dX12_paste_20 : decode cX12_paste 20 = .ok (.aload_n 0, 1) := by decide +kernel
theorem dX12_paste_21 : decode cX12_paste 21 = .ok (.getfield 51, 3) := by decide +kernel
theorem dX12_paste_24 : decode cX12_paste 24 = .ok (.iload 4, 2) := by decide +kernel
theorem dX12_paste_26 : decode cX12_paste 26 = .ok (.aload_n 0, 1) := by decide +kernel
theorem dX12_paste_27 : decode cX12_paste 27 = .ok (.getfield 7, 3) := by decide +kernel
theorem dX12_paste_30 : decode cX12_paste 30 = .ok (.bipush 10, 2) := by decide +kernel
theorem dX12_paste_32 : decode cX12_paste 32 = .ok (.sipush 144, 3) := by decide +kernel
theorem dX12_paste_35 : decode cX12_paste 35 = .ok (.iload_n 3, 1) := by decide +kernel
theorem dX12_paste_36 : decode cX12_paste 36 = .ok (.imul, 1) := by decide +kernel
theorem dX12_paste_37 : decode cX12_paste 37 = .ok (.iadd, 1) := by decide +kernel
theorem dX12_paste_38 : decode cX12_paste 38 = .ok (.iload 4, 2) := by decide +kernel
theorem dX12_paste_40 : decode cX12_paste 40 = .ok (.iadd, 1) := by decide +kernel
theorem dX12_paste_41 : decode cX12_paste 41 = .ok (.iaload, 1) := by decide +kernel
theorem dX12_paste_42 : decode cX12_paste 42 = .ok (.iastore, 1) := by decide +kernel
theorem dX12_paste_43 : decode cX12_paste 43 = .ok (.iinc 4 1, 3) := by decide +kernel
theorem dX12_paste_46 : decode cX12_paste 46 = .ok (.goto (-34), 3) := by decide +kernel
theorem dX12_paste_49 : decode cX12_paste 49 = .ok (.iconst 0, 1) := by decide +kernel
theorem dX12_paste_50 : decode cX12_paste 50 = .ok (.istore 4, 2) := by decide +kernel
theorem dX12_paste_52 : decode cX12_paste 52 = .ok (.iload 4, 2) := by decide +kernel
theorem dX12_paste_54 : decode cX12_paste 54 = .ok (.aload_n 0, 1) := by decide +kernel
theorem dX12_paste_55 : decode cX12_paste 55 = .ok (.getfield 16, 3) := by decide +kernel
theorem dX12_paste_58 : decode cX12_paste 58 = .ok (.iload_n 1, 1) := by decide +kernel
theorem dX12_paste_59 : decode cX12_paste 59 = .ok (.iconst 5, 1) := by decide +kernel
theorem dX12_paste_60 : decode cX12_paste 60 = .ok (.iadd, 1) := by decide +kernel
theorem dX12_paste_61 : decode cX12_paste 61 = .ok (.iaload, 1) := by decide +kernel
theorem dX12_paste_62 : decode cX12_paste 62 = .ok (.if_icmp .ge 133, 3) := by decide +kernel
theorem dX12_paste_65 : decode cX12_paste 65 = .ok (.iconst 0, 1) := by decide +kernel
theorem dX12_paste_66 : decode cX12_paste 66 = .ok (.istore 5, 2) := by decide +kernel
theorem dX12_paste_68 : decode cX12_paste 68 = .ok (.iload 5, 2) := by decide +kernel
theorem dX12_paste_70 : decode cX12_paste 70 = .ok (.aload_n 0, 1) := by decide +kernel
theorem dX12_paste_71 : decode cX12_paste 71 = .ok (.getfield 16, 3) := by decide +kernel
theorem dX12_paste_74 : decode cX12_paste 74 = .ok (.iload_n 1, 1) := by decide +kernel
theorem dX12_paste_75 : decode cX12_paste 75 = .ok (.iconst 4, 1) := by decide +kernel
theorem dX12_paste_76 : decode cX12_paste 76 = .ok (.iadd, 1) := by decide +kernel
theorem dX12_paste_77 : decode cX12_paste 77 = .ok (.iaload, 1) := by decide +kernel
theorem dX12_paste_78 : decode cX12_paste 78 = .ok (.if_icmp .ge 111, 3) := by decide +kernel
theorem dX12_paste_81 : decode cX12_paste 81 = .ok (.aload_n 0, 1) := by decide +kernel
theorem dX12_paste_82 : decode cX12_paste 82 = .ok (.getfield 16, 3) := by decide +kernel
theorem dX12_paste_85 : decode cX12_paste 85 = .ok (.iload_n 1, 1) := by decide +kernel
theorem dX12_paste_86 : decode cX12_paste 86 = .ok (.iconst 2, 1) := by decide +kernel
theorem dX12_paste_87 : decode cX12_paste 87 = .ok (.iadd, 1) := by decide +kernel
theorem dX12_paste_88 : decode cX12_paste 88 = .ok (.iaload, 1) := by decide +kernel
theorem dX12_paste_89 : decode cX12_paste 89 = .ok (.iload 5, 2) := by decide +kernel
theorem dX12_paste_91 : decode cX12_paste 91 = .ok (.iadd, 1) := by decide +kernel
theorem dX12_paste_92 : decode cX12_paste 92 = .ok (.istore 6, 2) := by decide +kernel
theorem dX12_paste_94 : decode cX12_paste 94 = .ok (.aload_n 0, 1) := by decide +kernel
theorem dX12_paste_95 : decode cX12_paste 95 = .ok (.getfield 16, 3) := by decide +kernel
theorem dX12_paste_98 : decode cX12_paste 98 = .ok (.iload_n 1, 1) := by decide +kernel
theorem dX12_paste_99 : decode cX12_paste 99 = .ok (.iconst 3, 1) := by decide +kernel
theorem dX12_paste_100 : decode cX12_paste 100 = .ok (.iadd, 1) := by decide +kernel
theorem dX12_paste_101 : decode cX12_paste 101 = .ok (.iaload, 1) := by decide +kernel
theorem dX12_paste_102 : decode cX12_paste 102 = .ok (.iload 4, 2) := by decide +kernel
theorem dX12_paste_104 : decode cX12_paste 104 = .ok (.iadd, 1) := by decide +kernel
theorem dX12_paste_105 : decode cX12_paste 105 = .ok (.istore 7, 2) := by decide +kernel
theorem dX12_paste_107 : decode cX12_paste 107 = .ok (.aload_n 0, 1) := by decide +kernel
theorem dX12_paste_108 : decode cX12_paste 108 = .ok (.getfield 16, 3) := by decide +kernel
theorem dX12_paste_111 : decode cX12_paste 111 = .ok (.iload_n 1, 1) := by decide +kernel
theorem dX12_paste_112 : decode cX12_paste 112 = .ok (.bipush 6, 2) := by decide +kernel
theorem dX12_paste_114 : decode cX12_paste 114 = .ok (.iadd, 1) := by decide +kernel
theorem dX12_paste_115 : decode cX12_paste 115 = .ok (.iaload, 1) := by decide +kernel
theorem dX12_paste_116 : decode cX12_paste 116 = .ok (.iload 5, 2) := by decide +kernel
theorem dX12_paste_118 : decode cX12_paste 118 = .ok (.iadd, 1) := by decide +kernel
theorem dX12_paste_119 : decode cX12_paste 119 = .ok (.istore 8, 2) := by decide +kernel
theorem dX12_paste_121 : decode cX12_paste 121 = .ok (.aload_n 0, 1) := by decide +kernel
theorem dX12_paste_122 : decode cX12_paste 122 = .ok (.getfield 16, 3) := by decide +kernel
theorem dX12_paste_125 : decode cX12_paste 125 = .ok (.iload_n 1, 1) := by decide +kernel
theorem dX12_paste_126 : decode cX12_paste 126 = .ok (.bipush 7, 2) := by decide +kernel
theorem dX12_paste_128 : decode cX12_paste 128 = .ok (.iadd, 1) := by decide +kernel
theorem dX12_paste_129 : decode cX12_paste 129 = .ok (.iaload, 1) := by decide +kernel
theorem dX12_paste_130 : decode cX12_paste 130 = .ok (.iload 4, 2) := by decide +kernel
theorem dX12_paste_132 : decode cX12_paste 132 = .ok (.iadd, 1) := by decide +kernel
theorem dX12_paste_133 : decode cX12_paste 133 = .ok (.istore 9, 2) := by decide +kernel
theorem dX12_paste_135 : decode cX12_paste 135 = .ok (.aload_n 0, 1) := by decide +kernel
theorem dX12_paste_136 : decode cX12_paste 136 = .ok (.iload 6, 2) := by decide +kernel
theorem dX12_paste_138 : decode cX12_paste 138 = .ok (.iload 7, 2) := by decide +kernel
theorem dX12_paste_140 : decode cX12_paste 140 = .ok (.invokevirtual 91, 3) := by decide +kernel
theorem dX12_paste_143 : decode cX12_paste 143 = .ok (.ifCond .eq 40, 3) := by decide +kernel
theorem dX12_paste_146 : decode cX12_paste 146 = .ok (.aload_n 0, 1) := by decide +kernel
theorem dX12_paste_147 : decode cX12_paste 147 = .ok (.iload 8, 2) := by decide +kernel
theorem dX12_paste_149 : decode cX12_paste 149 = .ok (.iload 9, 2) := by decide +kernel
theorem dX12_paste_151 : decode cX12_paste 151 = .ok (.invokevirtual 91, 3) := by decide +kernel
theorem dX12_paste_154 : decode cX12_paste 154 = .ok (.ifCond .eq 29, 3) := by decide +kernel
theorem dX12_paste_157 : decode cX12_paste 157 = .ok (.aload_n 0, 1) := by decide +kernel
theorem dX12_paste_158 : decode cX12_paste 158 = .ok (.getfield 7, 3) := by decide +kernel
theorem dX12_paste_161 : decode cX12_paste 161 = .ok (.iload_n 2, 1) := by decide +kernel
theorem dX12_paste_162 : decode cX12_paste 162 = .ok (.iload 8, 2) := by decide +kernel
theorem dX12_paste_164 : decode cX12_paste 164 = .ok (.iload 9, 2) := by decide +kernel
theorem dX12_paste_166 : decode cX12_paste 166 = .ok (.invokestatic 83, 3) := by decide +kernel
theorem dX12_paste_169 : decode cX12_paste 169 = .ok (.aload_n 0, 1) := by decide +kernel
theorem dX12_paste_170 : decode cX12_paste 170 = .ok (.getfield 51, 3) := by decide +kernel
theorem dX12_paste_173 : decode cX12_paste 173 = .ok (.bipush 12, 2) := by decide +kernel
theorem dX12_paste_175 : decode cX12_paste 175 = .ok (.iload 7, 2) := by decide +kernel
theorem dX12_paste_177 : decode cX12_paste 177 = .ok (.imul, 1) := by decide +kernel
theorem dX12_paste_178 : decode cX12_paste 178 = .ok (.iload 6, 2) := by decide +kernel
theorem dX12_paste_180 : decode cX12_paste 180 = .ok (.iadd, 1) := by decide +kernel
theorem dX12_paste_181 : decode cX12_paste 181 = .ok (.iaload, 1) := by decide +kernel
theorem dX12_paste_182 : decode cX12_paste 182 = .ok (.iastore, 1) := by decide +kernel
theorem dX12_paste_183 : decode cX12_paste 183 = .ok (.iinc 5 1, 3) := by decide +kernel
theorem dX12_paste_186 : decode cX12_paste 186 = .ok (.goto (-118), 3) := by decide +kernel
theorem dX12_paste_189 : decode cX12_paste 189 = .ok (.iinc 4 1, 3) := by decide +kernel
theorem dX12_paste_192 : decode cX12_paste 192 = .ok (.goto (-140), 3) := by decide +kernel
theorem dX12_paste_195 : decode cX12_paste 195 = .ok (.return_, 1) := by decide +kernel
theorem dX12_paint_0 : decode cX12_paint 0 = .ok (.aload_n 0, 1) := by decide +kernel
theorem dX12_paint_1 : decode cX12_paint 1 = .ok (.getfield 16, 3) := by decide +kernel
theorem dX12_paint_4 : decode cX12_paint 4 = .ok (.iload_n 2, 1) := by decide +kernel
theorem dX12_paint_5 : decode cX12_paint 5 = .ok (.iconst 2, 1) := by decide +kernel
theorem dX12_paint_6 : decode cX12_paint 6 = .ok (.iadd, 1) := by decide +kernel
theorem dX12_paint_7 : decode cX12_paint 7 = .ok (.iaload, 1) := by decide +kernel
theorem dX12_paint_8 : decode cX12_paint 8 = .ok (.istore 4, 2) := by decide +kernel
theorem dX12_paint_10 : decode cX12_paint 10 = .ok (.iload 4, 2) := by decide +kernel
theorem dX12_paint_12 : decode cX12_paint 12 = .ok (.aload_n 0, 1) := by decide +kernel
theorem dX12_paint_13 : decode cX12_paint 13 = .ok (.getfield 16, 3) := by decide +kernel
theorem dX12_paint_16 : decode cX12_paint 16 = .ok (.iload_n 2, 1) := by decide +kernel
theorem dX12_paint_17 : decode cX12_paint 17 = .ok (.iconst 2, 1) := by decide +kernel
theorem dX12_paint_18 : decode cX12_paint 18 = .ok (.iadd, 1) := by decide +kernel
theorem dX12_paint_19 : decode cX12_paint 19 = .ok (.iaload, 1) := by decide +kernel
theorem dX12_paint_20 : decode cX12_paint 20 = .ok (.aload_n 0, 1) := by decide +kernel
theorem dX12_paint_21 : decode cX12_paint 21 = .ok (.getfield 16, 3) := by decide +kernel
theorem dX12_paint_24 : decode cX12_paint 24 = .ok (.iload_n 2, 1) := by decide +kernel
theorem dX12_paint_25 : decode cX12_paint 25 = .ok (.iconst 4, 1) := by decide +kernel
theorem dX12_paint_26 : decode cX12_paint 26 = .ok (.iadd, 1) := by decide +kernel
theorem dX12_paint_27 : decode cX12_paint 27 = .ok (.iaload, 1) := by decide +kernel
theorem dX12_paint_28 : decode cX12_paint 28 = .ok (.iadd, 1) := by decide +kernel
theorem dX12_paint_29 : decode cX12_paint 29 = .ok (.if_icmp .ge 163, 3) := by decide +kernel
theorem dX12_paint_32 : decode cX12_paint 32 = .ok (.aload_n 0, 1) := by decide +kernel
theorem dX12_paint_33 : decode cX12_paint 33 = .ok (.getfield 16, 3) := by decide +kernel
theorem dX12_paint_36 : decode cX12_paint 36 = .ok (.iload_n 2, 1) := by decide +kernel
theorem dX12_paint_37 : decode cX12_paint 37 = .ok (.iconst 1, 1) := by decide +kernel
theorem dX12_paint_38 : decode cX12_paint 38 = .ok (.iadd, 1) := by decide +kernel
theorem dX12_paint_39 : decode cX12_paint 39 = .ok (.iaload, 1) := by decide +kernel
theorem dX12_paint_40 : decode cX12_paint 40 = .ok (.istore 5, 2) := by decide +kernel
theorem dX12_paint_42 : decode cX12_paint 42 = .ok (.iload 5, 2) := by decide +kernel
theorem dX12_paint_44 : decode cX12_paint 44 = .ok (.aload_n 0, 1) := by decide +kernel
theorem dX12_paint_45 : decode cX12_paint 45 = .ok (.getfield 16, 3) := by decide +kernel
theorem dX12_paint_48 : decode cX12_paint 48 = .ok (.iload_n 2, 1) := by decide +kernel
theorem dX12_paint_49 : decode cX12_paint 49 = .ok (.iconst 1, 1) := by decide +kernel
theorem dX12_paint_50 : decode cX12_paint 50 = .ok (.iadd, 1) := by decide +kernel
theorem dX12_paint_51 : decode cX12_paint 51 = .ok (.iaload, 1) := by decide +kernel
theorem dX12_paint_52 : decode cX12_paint 52 = .ok (.aload_n 0, 1) := by decide +kernel
theorem dX12_paint_53 : decode cX12_paint 53 = .ok (.getfield 16, 3) := by decide +kernel
theorem dX12_paint_56 : decode cX12_paint 56 = .ok (.iload_n 2, 1) := by decide +kernel
theorem dX12_paint_57 : decode cX12_paint 57 = .ok (.iconst 3, 1) := by decide +kernel
theorem dX12_paint_58 : decode cX12_paint 58 = .ok (.iadd, 1) := by decide +kernel
theorem dX12_paint_59 : decode cX12_paint 59 = .ok (.iaload, 1) := by decide +kernel
theorem dX12_paint_60 : decode cX12_paint 60 = .ok (.iadd, 1) := by decide +kernel
theorem dX12_paint_61 : decode cX12_paint 61 = .ok (.if_icmp .ge 125, 3) := by decide +kernel
theorem dX12_paint_64 : decode cX12_paint 64 = .ok (.aload_n 0, 1) := by decide +kernel
theorem dX12_paint_65 : decode cX12_paint 65 = .ok (.iload 5, 2) := by decide +kernel
theorem dX12_paint_67 : decode cX12_paint 67 = .ok (.iload 4, 2) := by decide +kernel
theorem dX12_paint_69 : decode cX12_paint 69 = .ok (.invokevirtual 91, 3) := by decide +kernel
theorem dX12_paint_72 : decode cX12_paint 72 = .ok (.ifCond .ne 6, 3) := by decide +kernel
theorem dX12_paint_75 : decode cX12_paint 75 = .ok (.goto 105, 3) := by decide +kernel
theorem dX12_paint_78 : decode cX12_paint 78 = .ok (.aload_n 0, 1) := by decide +kernel
theorem dX12_paint_79 : decode cX12_paint 79 = .ok (.getfield 44, 3) := by decide +kernel
theorem dX12_paint_82 : decode cX12_paint 82 = .ok (.iconst 0, 1) := by decide +kernel
theorem dX12_paint_83 : decode cX12_paint 83 = .ok (.aload_n 0, 1) := by decide +kernel
theorem dX12_paint_84 : decode cX12_paint 84 = .ok (.iload_n 3, 1) := by decide +kernel
theorem dX12_paint_85 : decode cX12_paint 85 = .ok (.iload 5, 2) := by decide +kernel
theorem dX12_paint_87 : decode cX12_paint 87 = .ok (.iload 4, 2) := by decide +kernel
theorem dX12_paint_89 : decode cX12_paint 89 = .ok (.invokevirtual 99, 3) := by decide +kernel
theorem dX12_paint_92 : decode cX12_paint 92 = .ok (.iastore, 1) := by decide +kernel
theorem dX12_paint_93 : decode cX12_paint 93 = .ok (.aload_n 0, 1) := by decide +kernel
theorem dX12_paint_94 : decode cX12_paint 94 = .ok (.getfield 44, 3) := by decide +kernel
theorem dX12_paint_97 : decode cX12_paint 97 = .ok (.iconst 1, 1) := by decide +kernel
theorem dX12_paint_98 : decode cX12_paint 98 = .ok (.iload 5, 2) := by decide +kernel
theorem dX12_paint_100 : decode cX12_paint 100 = .ok (.iastore, 1) := by decide +kernel
theorem dX12_paint_101 : decode cX12_paint 101 = .ok (.aload_n 0, 1) := by decide +kernel
theorem dX12_paint_102 : decode cX12_paint 102 = .ok (.getfield 44, 3) := by decide +kernel
theorem dX12_paint_105 : decode cX12_paint 105 = .ok (.iconst 2, 1) := by decide +kernel
theorem dX12_paint_106 : decode cX12_paint 106 = .ok (.iload 4, 2) := by decide +kernel
theorem dX12_paint_108 : decode cX12_paint 108 = .ok (.iastore, 1) := by decide +kernel
theorem dX12_paint_109 : decode cX12_paint 109 = .ok (.aload_n 0, 1) := by decide +kernel
theorem dX12_paint_110 : decode cX12_paint 110 = .ok (.getfield 44, 3) := by decide +kernel
theorem dX12_paint_113 : decode cX12_paint 113 = .ok (.iconst 3, 1) := by decide +kernel
theorem dX12_paint_114 : decode cX12_paint 114 = .ok (.iload 5, 2) := by decide +kernel
theorem dX12_paint_116 : decode cX12_paint 116 = .ok (.ifCond .le 17, 3) := by decide +kernel
theorem dX12_paint_119 : decode cX12_paint 119 = .ok (.aload_n 0, 1) := by decide +kernel
theorem dX12_paint_120 : decode cX12_paint 120 = .ok (.iload_n 3, 1) := by decide +kernel
theorem dX12_paint_121 : decode cX12_paint 121 = .ok (.iload 5, 2) := by decide +kernel
theorem dX12_paint_123 : decode cX12_paint 123 = .ok (.iconst 1, 1) := by decide +kernel
theorem dX12_paint_124 : decode cX12_paint 124 = .ok (.isub, 1) := by decide +kernel
theorem dX12_paint_125 : decode cX12_paint 125 = .ok (.iload 4, 2) := by decide +kernel
theorem dX12_paint_127 : decode cX12_paint 127 = .ok (.invokevirtual 99, 3) := by decide +kernel
theorem dX12_paint_130 : decode cX12_paint 130 = .ok (.goto 4, 3) := by decide +kernel
theorem dX12_paint_133 : decode cX12_paint 133 = .ok (.iconst 0, 1) := by decide +kernel
theorem dX12_paint_134 : decode cX12_paint 134 = .ok (.iastore, 1) := by decide +kernel
theorem dX12_paint_135 : decode cX12_paint 135 = .ok (.aload_n 0, 1) := by decide +kernel
theorem dX12_paint_136 : decode cX12_paint 136 = .ok (.getfield 44, 3) := by decide +kernel
theorem dX12_paint_139 : decode cX12_paint 139 = .ok (.iconst 4, 1) := by decide +kernel
theorem dX12_paint_140 : decode cX12_paint 140 = .ok (.iload 4, 2) := by decide +kernel
theorem dX12_paint_142 : decode cX12_paint 142 = .ok (.ifCond .le 17, 3) := by decide +kernel
theorem dX12_paint_145 : decode cX12_paint 145 = .ok (.aload_n 0, 1) := by decide +kernel
theorem dX12_paint_146 : decode cX12_paint 146 = .ok (.iload_n 3, 1) := by decide +kernel
theorem dX12_paint_147 : decode cX12_paint 147 = .ok (.iload 5, 2) := by decide +kernel
theorem dX12_paint_149 : decode cX12_paint 149 = .ok (.iload 4, 2) := by decide +kernel
theorem dX12_paint_151 : decode cX12_paint 151 = .ok (.iconst 1, 1) := by decide +kernel
theorem dX12_paint_152 : decode cX12_paint 152 = .ok (.isub, 1) := by decide +kernel
theorem dX12_paint_153 : decode cX12_paint 153 = .ok (.invokevirtual 99, 3) := by decide +kernel
theorem dX12_paint_156 : decode cX12_paint 156 = .ok (.goto 4, 3) := by decide +kernel
theorem dX12_paint_159 : decode cX12_paint 159 = .ok (.iconst 0, 1) := by decide +kernel
theorem dX12_paint_160 : decode cX12_paint 160 = .ok (.iastore, 1) := by decide +kernel
theorem dX12_paint_161 : decode cX12_paint 161 = .ok (.aload_n 0, 1) := by decide +kernel
theorem dX12_paint_162 : decode cX12_paint 162 = .ok (.getfield 7, 3) := by decide +kernel
theorem dX12_paint_165 : decode cX12_paint 165 = .ok (.iload_n 3, 1) := by decide +kernel
theorem dX12_paint_166 : decode cX12_paint 166 = .ok (.iload 5, 2) := by decide +kernel
theorem dX12_paint_168 : decode cX12_paint 168 = .ok (.iload 4, 2) := by decide +kernel
theorem dX12_paint_170 : decode cX12_paint 170 = .ok (.invokestatic 83, 3) := by decide +kernel
theorem dX12_paint_173 : decode cX12_paint 173 = .ok (.aload_n 0, 1) := by decide +kernel
theorem dX12_paint_174 : decode cX12_paint 174 = .ok (.iload_n 1, 1) := by decide +kernel
theorem dX12_paint_175 : decode cX12_paint 175 = .ok (.iload_n 2, 1) := by decide +kernel
theorem dX12_paint_176 : decode cX12_paint 176 = .ok (.invokevirtual 367, 3) := by decide +kernel
theorem dX12_paint_179 : decode cX12_paint 179 = .ok (.iastore, 1) := by decide +kernel
theorem dX12_paint_180 : decode cX12_paint 180 = .ok (.iinc 5 1, 3) := by decide +kernel
theorem dX12_paint_183 : decode cX12_paint 183 = .ok (.goto (-141), 3) := by decide +kernel
theorem dX12_paint_186 : decode cX12_paint 186 = .ok (.iinc 4 1, 3) := by decide +kernel
theorem dX12_paint_189 : decode cX12_paint 189 = .ok (.goto (-179), 3) := by decide +kernel
theorem dX12_paint_192 : decode cX12_paint 192 = .ok (.return_, 1) := by decide +kernel
theorem dX12_nearestOf_0 : decode cX12_nearestOf 0 = .ok (.iload_n 0, 1) := by decide +kernel
theorem dX12_nearestOf_1 : decode cX12_nearestOf 1 = .ok (.iload_n 1, 1) := by decide +kernel
theorem dX12_nearestOf_2 : decode cX12_nearestOf 2 = .ok (.idiv, 1) := by decide +kernel
theorem dX12_nearestOf_3 : decode cX12_nearestOf 3 = .ok (.iload_n 1, 1) := by decide +kernel
theorem dX12_nearestOf_4 : decode cX12_nearestOf 4 = .ok (.imul, 1) := by decide +kernel
theorem dX12_nearestOf_5 : decode cX12_nearestOf 5 = .ok (.istore_n 2, 1) := by decide +kernel
theorem dX12_nearestOf_6 : decode cX12_nearestOf 6 = .ok (.iconst 2, 1) := by decide +kernel
theorem dX12_nearestOf_7 : decode cX12_nearestOf 7 = .ok (.iload_n 0, 1) := by decide +kernel
theorem dX12_nearestOf_8 : decode cX12_nearestOf 8 = .ok (.iload_n 2, 1) := by decide +kernel
theorem dX12_nearestOf_9 : decode cX12_nearestOf 9 = .ok (.isub, 1) := by decide +kernel
theorem dX12_nearestOf_10 : decode cX12_nearestOf 10 = .ok (.imul, 1) := by decide +kernel
theorem dX12_nearestOf_11 : decode cX12_nearestOf 11 = .ok (.iload_n 1, 1) := by decide +kernel
theorem dX12_nearestOf_12 : decode cX12_nearestOf 12 = .ok (.if_icmp .le 9, 3) := by decide +kernel
theorem dX12_nearestOf_15 : decode cX12_nearestOf 15 = .ok (.iload_n 2, 1) := by decide +kernel
theorem dX12_nearestOf_16 : decode cX12_nearestOf 16 = .ok (.iload_n 1, 1) := by decide +kernel
theorem dX12_nearestOf_17 : decode cX12_nearestOf 17 = .ok (.iadd, 1) := by decide +kernel
theorem dX12_nearestOf_18 : decode cX12_nearestOf 18 = .ok (.goto 4, 3) := by decide +kernel
theorem dX12_nearestOf_21 : decode cX12_nearestOf 21 = .ok (.iload_n 2, 1) := by decide +kernel
theorem dX12_nearestOf_22 : decode cX12_nearestOf 22 = .ok (.istore_n 3, 1) := by decide +kernel
theorem dX12_nearestOf_23 : decode cX12_nearestOf 23 = .ok (.iload_n 3, 1) := by decide +kernel
theorem dX12_nearestOf_24 : decode cX12_nearestOf 24 = .ok (.bipush 99, 2) := by decide +kernel
theorem dX12_nearestOf_26 : decode cX12_nearestOf 26 = .ok (.if_icmp .le 8, 3) := by decide +kernel
theorem dX12_nearestOf_29 : decode cX12_nearestOf 29 = .ok (.bipush 99, 2) := by decide +kernel
theorem dX12_nearestOf_31 : decode cX12_nearestOf 31 = .ok (.goto 4, 3) := by decide +kernel
theorem dX12_nearestOf_34 : decode cX12_nearestOf 34 = .ok (.iload_n 3, 1) := by decide +kernel
theorem dX12_nearestOf_35 : decode cX12_nearestOf 35 = .ok (.ireturn, 1) := by decide +kernel
theorem dX12_keep_0 : decode cX12_keep 0 = .ok (.aload_n 0, 1) := by decide +kernel
theorem dX12_keep_1 : decode cX12_keep 1 = .ok (.getfield 16, 3) := by decide +kernel
theorem dX12_keep_4 : decode cX12_keep 4 = .ok (.iload_n 1, 1) := by decide +kernel
theorem dX12_keep_5 : decode cX12_keep 5 = .ok (.iconst 1, 1) := by decide +kernel
theorem dX12_keep_6 : decode cX12_keep 6 = .ok (.iadd, 1) := by decide +kernel
theorem dX12_keep_7 : decode cX12_keep 7 = .ok (.iaload, 1) := by decide +kernel
theorem dX12_keep_8 : decode cX12_keep 8 = .ok (.istore_n 3, 1) := by decide +kernel
theorem dX12_keep_9 : decode cX12_keep 9 = .ok (.aload_n 0, 1) := by decide +kernel
theorem dX12_keep_10 : decode cX12_keep 10 = .ok (.getfield 16, 3) := by decide +kernel
theorem dX12_keep_13 : decode cX12_keep 13 = .ok (.iload_n 1, 1) := by decide +kernel
theorem dX12_keep_14 : decode cX12_keep 14 = .ok (.iconst 3, 1) := by decide +kernel
theorem dX12_keep_15 : decode cX12_keep 15 = .ok (.iadd, 1) := by decide +kernel
theorem dX12_keep_16 : decode cX12_keep 16 = .ok (.iaload, 1) := by decide +kernel
theorem dX12_keep_17 : decode cX12_keep 17 = .ok (.iconst 4, 1) := by decide +kernel
theorem dX12_keep_18 : decode cX12_keep 18 = .ok (.irem, 1) := by decide +kernel
theorem dX12_keep_19 : decode cX12_keep 19 = .ok (.istore 4, 2) := by decide +kernel
theorem dX12_keep_21 : decode cX12_keep 21 = .ok (.iload 4, 2) := by decide +kernel
theorem dX12_keep_23 : decode cX12_keep 23 = .ok (.iconst 4, 1) := by decide +kernel
theorem dX12_keep_24 : decode cX12_keep 24 = .ok (.iadd, 1) := by decide +kernel
theorem dX12_keep_25 : decode cX12_keep 25 = .ok (.aload_n 0, 1) := by decide +kernel
theorem dX12_keep_26 : decode cX12_keep 26 = .ok (.getfield 72, 3) := by decide +kernel
theorem dX12_keep_29 : decode cX12_keep 29 = .ok (.if_icmp .gt 100, 3) := by decide +kernel
theorem dX12_keep_32 : decode cX12_keep 32 = .ok (.aload_n 0, 1) := by decide +kernel
theorem dX12_keep_33 : decode cX12_keep 33 = .ok (.getfield 16, 3) := by decide +kernel
theorem dX12_keep_36 : decode cX12_keep 36 = .ok (.iload_n 1, 1) := by decide +kernel
theorem dX12_keep_37 : decode cX12_keep 37 = .ok (.iconst 2, 1) := by decide +kernel
theorem dX12_keep_38 : decode cX12_keep 38 = .ok (.iadd, 1) := by decide +kernel
theorem dX12_keep_39 : decode cX12_keep 39 = .ok (.iaload, 1) := by decide +kernel
theorem dX12_keep_40 : decode cX12_keep 40 = .ok (.iconst 4, 1) := by decide +kernel
theorem dX12_keep_41 : decode cX12_keep 41 = .ok (.irem, 1) := by decide +kernel
theorem dX12_keep_42 : decode cX12_keep 42 = .ok (.istore 5, 2) := by decide +kernel
theorem dX12_keep_44 : decode cX12_keep 44 = .ok (.iload 5, 2) := by decide +kernel
theorem dX12_keep_46 : decode cX12_keep 46 = .ok (.iconst 4, 1) := by decide +kernel
theorem dX12_keep_47 : decode cX12_keep 47 = .ok (.iadd, 1) := by decide +kernel
theorem dX12_keep_48 : decode cX12_keep 48 = .ok (.aload_n 0, 1) := by decide +kernel
theorem dX12_keep_49 : decode cX12_keep 49 = .ok (.getfield 69, 3) := by decide +kernel
theorem dX12_keep_52 : decode cX12_keep 52 = .ok (.if_icmp .gt 71, 3) := by decide +kernel
theorem dX12_keep_55 : decode cX12_keep 55 = .ok (.iconst 0, 1) := by decide +kernel
theorem dX12_keep_56 : decode cX12_keep 56 = .ok (.istore 6, 2) := by decide +kernel
theorem dX12_keep_58 : decode cX12_keep 58 = .ok (.iload 6, 2) := by decide +kernel
theorem dX12_keep_60 : decode cX12_keep 60 = .ok (.bipush 16, 2) := by decide +kernel
theorem dX12_keep_62 : decode cX12_keep 62 = .ok (.if_icmp .ge 55, 3) := by decide +kernel
theorem dX12_keep_65 : decode cX12_keep 65 = .ok (.aload_n 0, 1) := by decide +kernel
theorem dX12_keep_66 : decode cX12_keep 66 = .ok (.getfield 7, 3) := by decide +kernel
theorem dX12_keep_69 : decode cX12_keep 69 = .ok (.iload_n 2, 1) := by decide +kernel
theorem dX12_keep_70 : decode cX12_keep 70 = .ok (.iload 5, 2) := by decide +kernel
theorem dX12_keep_72 : decode cX12_keep 72 = .ok (.iload 6, 2) := by decide +kernel
theorem dX12_keep_74 : decode cX12_keep 74 = .ok (.iconst 4, 1) := by decide +kernel
theorem dX12_keep_75 : decode cX12_keep 75 = .ok (.irem, 1) := by decide +kernel
theorem dX12_keep_76 : decode cX12_keep 76 = .ok (.iadd, 1) := by decide +kernel
theorem dX12_keep_77 : decode cX12_keep 77 = .ok (.iload 4, 2) := by decide +kernel
theorem dX12_keep_79 : decode cX12_keep 79 = .ok (.iload 6, 2) := by decide +kernel
theorem dX12_keep_81 : decode cX12_keep 81 = .ok (.iconst 4, 1) := by decide +kernel
theorem dX12_keep_82 : decode cX12_keep 82 = .ok (.idiv, 1) := by decide +kernel
theorem dX12_keep_83 : decode cX12_keep 83 = .ok (.iadd, 1) := by decide +kernel
theorem dX12_keep_84 : decode cX12_keep 84 = .ok (.invokestatic 83, 3) := by decide +kernel
theorem dX12_keep_87 : decode cX12_keep 87 = .ok (.aload_n 0, 1) := by decide +kernel
theorem dX12_keep_88 : decode cX12_keep 88 = .ok (.iload_n 2, 1) := by decide +kernel
theorem dX12_keep_89 : decode cX12_keep 89 = .ok (.iload 5, 2) := by decide +kernel
theorem dX12_keep_91 : decode cX12_keep 91 = .ok (.iload 6, 2) := by decide +kernel
theorem dX12_keep_93 : decode cX12_keep 93 = .ok (.iconst 4, 1) := by decide +kernel
theorem dX12_keep_94 : decode cX12_keep 94 = .ok (.irem, 1) := by decide +kernel
theorem dX12_keep_95 : decode cX12_keep 95 = .ok (.iadd, 1) := by decide +kernel
theorem dX12_keep_96 : decode cX12_keep 96 = .ok (.iload 4, 2) := by decide +kernel
theorem dX12_keep_98 : decode cX12_keep 98 = .ok (.iload 6, 2) := by decide +kernel
theorem dX12_keep_100 : decode cX12_keep 100 = .ok (.iconst 4, 1) := by decide +kernel
theorem dX12_keep_101 : decode cX12_keep 101 = .ok (.idiv, 1) := by decide +kernel
theorem dX12_keep_102 : decode cX12_keep 102 = .ok (.iadd, 1) := by decide +kernel
theorem dX12_keep_103 : decode cX12_keep 103 = .ok (.invokevirtual 99, 3) := by decide +kernel
theorem dX12_keep_106 : decode cX12_keep 106 = .ok (.iload_n 3, 1) := by decide +kernel
theorem dX12_keep_107 : decode cX12_keep 107 = .ok (.invokestatic 370, 3) := by decide +kernel
theorem dX12_keep_110 : decode cX12_keep 110 = .ok (.iastore, 1) := by decide +kernel
theorem dX12_keep_111 : decode cX12_keep 111 = .ok (.iinc 6 1, 3) := by decide +kernel
theorem dX12_keep_114 : decode cX12_keep 114 = .ok (.goto (-56), 3) := by decide +kernel
theorem dX12_keep_117 : decode cX12_keep 117 = .ok (.iinc 5 4, 3) := by decide +kernel
theorem dX12_keep_120 : decode cX12_keep 120 = .ok (.goto (-76), 3) := by decide +kernel
theorem dX12_keep_123 : decode cX12_keep 123 = .ok (.iinc 4 4, 3) := by decide +kernel
theorem dX12_keep_126 : decode cX12_keep 126 = .ok (.goto (-105), 3) := by decide +kernel
theorem dX12_keep_129 : decode cX12_keep 129 = .ok (.return_, 1) := by decide +kernel
theorem dX12_flip_0 : decode cX12_flip 0 = .ok (.aload_n 0, 1) := by decide +kernel
theorem dX12_flip_1 : decode cX12_flip 1 = .ok (.getfield 16, 3) := by decide +kernel
theorem dX12_flip_4 : decode cX12_flip 4 = .ok (.iload_n 1, 1) := by decide +kernel
theorem dX12_flip_5 : decode cX12_flip 5 = .ok (.iconst 1, 1) := by decide +kernel
theorem dX12_flip_6 : decode cX12_flip 6 = .ok (.iadd, 1) := by decide +kernel
theorem dX12_flip_7 : decode cX12_flip 7 = .ok (.iaload, 1) := by decide +kernel
theorem dX12_flip_8 : decode cX12_flip 8 = .ok (.istore_n 3, 1) := by decide +kernel
theorem dX12_flip_9 : decode cX12_flip 9 = .ok (.aload_n 0, 1) := by decide +kernel
theorem dX12_flip_10 : decode cX12_flip 10 = .ok (.getfield 16, 3) := by decide +kernel
theorem dX12_flip_13 : decode cX12_flip 13 = .ok (.iload_n 1, 1) := by decide +kernel
theorem dX12_flip_14 : decode cX12_flip 14 = .ok (.iconst 2, 1) := by decide +kernel
theorem dX12_flip_15 : decode cX12_flip 15 = .ok (.iadd, 1) := by decide +kernel
theorem dX12_flip_16 : decode cX12_flip 16 = .ok (.iaload, 1) := by decide +kernel
theorem dX12_flip_17 : decode cX12_flip 17 = .ok (.istore 4, 2) := by decide +kernel
theorem dX12_flip_19 : decode cX12_flip 19 = .ok (.iload_n 3, 1) := by decide +kernel
theorem dX12_flip_20 : decode cX12_flip 20 = .ok (.aload_n 0, 1) := by decide +kernel
theorem dX12_flip_21 : decode cX12_flip 21 = .ok (.getfield 16, 3) := by decide +kernel
theorem dX12_flip_24 : decode cX12_flip 24 = .ok (.iload_n 1, 1) := by decide +kernel
theorem dX12_flip_25 : decode cX12_flip 25 = .ok (.iconst 3, 1) := by decide +kernel
theorem dX12_flip_26 : decode cX12_flip 26 = .ok (.iadd, 1) := by decide +kernel
theorem dX12_flip_27 : decode cX12_flip 27 = .ok (.iaload, 1) := by decide +kernel
theorem dX12_flip_28 : decode cX12_flip 28 = .ok (.iadd, 1) := by decide +kernel
theorem dX12_flip_29 : decode cX12_flip 29 = .ok (.aload_n 0, 1) := by decide +kernel
theorem dX12_flip_30 : decode cX12_flip 30 = .ok (.getfield 69, 3) := by decide +kernel
theorem dX12_flip_33 : decode cX12_flip 33 = .ok (.if_icmp .le 10, 3) := by decide +kernel
theorem dX12_flip_36 : decode cX12_flip 36 = .ok (.aload_n 0, 1) := by decide +kernel
theorem dX12_flip_37 : decode cX12_flip 37 = .ok (.getfield 69, 3) := by decide +kernel
theorem dX12_flip_40 : decode cX12_flip 40 = .ok (.goto 13, 3) := by decide +kernel
theorem dX12_flip_43 : decode cX12_flip 43 = .ok (.iload_n 3, 1) := by decide +kernel
theorem dX12_flip_44 : decode cX12_flip 44 = .ok (.aload_n 0, 1) := by decide +kernel
theorem dX12_flip_45 : decode cX12_flip 45 = .ok (.getfield 16, 3) := by decide +kernel
theorem dX12_flip_48 : decode cX12_flip 48 = .ok (.iload_n 1, 1) := by decide +kernel
theorem dX12_flip_49 : decode cX12_flip 49 = .ok (.iconst 3, 1) := by decide +kernel
theorem dX12_flip_50 : decode cX12_flip 50 = .ok (.iadd, 1) := by decide +kernel
theorem dX12_flip_51 : decode cX12_flip 51 = .ok (.iaload, 1) := by decide +kernel
theorem dX12_flip_52 : decode cX12_flip 52 = .ok (.iadd, 1) := by decide +kernel
theorem dX12_flip_53 : decode cX12_flip 53 = .ok (.istore 5, 2) := by decide +kernel
theorem dX12_flip_55 : decode cX12_flip 55 = .ok (.iload 4, 2) := by decide +kernel
theorem dX12_flip_57 : decode cX12_flip 57 = .ok (.aload_n 0, 1) := by decide +kernel
theorem dX12_flip_58 : decode cX12_flip 58 = .ok (.getfield 16, 3) := by decide +kernel
theorem dX12_flip_61 : decode cX12_flip 61 = .ok (.iload_n 1, 1) := by decide +kernel
theorem dX12_flip_62 : decode cX12_flip 62 = .ok (.iconst 4, 1) := by decide +kernel
theorem dX12_flip_63 : decode cX12_flip 63 = .ok (.iadd, 1) := by decide +kernel
theorem dX12_flip_64 : decode cX12_flip 64 = .ok (.iaload, 1) := by decide +kernel
theorem dX12_flip_65 : decode cX12_flip 65 = .ok (.iadd, 1) := by decide +kernel
theorem dX12_flip_66 : decode cX12_flip 66 = .ok (.aload_n 0, 1) := by decide +kernel
theorem dX12_flip_67 : decode cX12_flip 67 = .ok (.getfield 72, 3) := by decide +kernel
theorem dX12_flip_70 : decode cX12_flip 70 = .ok (.if_icmp .le 10, 3) := by decide +kernel
theorem dX12_flip_73 : decode cX12_flip 73 = .ok (.aload_n 0, 1) := by decide +kernel
theorem dX12_flip_74 : decode cX12_flip 74 = .ok (.getfield 72, 3) := by decide +kernel
theorem dX12_flip_77 : decode cX12_flip 77 = .ok (.goto 14, 3) := by decide +kernel
theorem dX12_flip_80 : decode cX12_flip 80 = .ok (.iload 4, 2) := by decide +kernel
theorem dX12_flip_82 : decode cX12_flip 82 = .ok (.aload_n 0, 1) := by decide +kernel
theorem dX12_flip_83 : decode cX12_flip 83 = .ok (.getfield 16, 3) := by decide +kernel
theorem dX12_flip_86 : decode cX12_flip 86 = .ok (.iload_n 1, 1) := by decide +kernel
theorem dX12_flip_87 : decode cX12_flip 87 = .ok (.iconst 4, 1) := by decide +kernel
theorem dX12_flip_88 : decode cX12_flip 88 = .ok (.iadd, 1) := by decide +kernel
theorem dX12_flip_89 : decode cX12_flip 89 = .ok (.iaload, 1) := by decide +kernel
theorem dX12_flip_90 : decode cX12_flip 90 = .ok (.iadd, 1) := by decide +kernel
theorem dX12_flip_91 : decode cX12_flip 91 = .ok (.istore 6, 2) := by decide +kernel
theorem dX12_flip_93 : decode cX12_flip 93 = .ok (.iload 4, 2) := by decide +kernel
theorem dX12_flip_95 : decode cX12_flip 95 = .ok (.istore 7, 2) := by decide +kernel
theorem dX12_flip_97 : decode cX12_flip 97 = .ok (.iload 7, 2) := by decide +kernel
theorem dX12_flip_99 : decode cX12_flip 99 = .ok (.iload 6, 2) := by decide +kernel
theorem dX12_flip_101 : decode cX12_flip 101 = .ok (.if_icmp .ge 82, 3) := by decide +kernel
theorem dX12_flip_104 : decode cX12_flip 104 = .ok (.iload_n 3, 1) := by decide +kernel
theorem dX12_flip_105 : decode cX12_flip 105 = .ok (.istore 8, 2) := by decide +kernel
theorem dX12_flip_107 : decode cX12_flip 107 = .ok (.iload 5, 2) := by decide +kernel
theorem dX12_flip_109 : decode cX12_flip 109 = .ok (.iconst 1, 1) := by decide +kernel
theorem dX12_flip_110 : decode cX12_flip 110 = .ok (.isub, 1) := by decide +kernel
theorem dX12_flip_111 : decode cX12_flip 111 = .ok (.istore 9, 2) := by decide +kernel
theorem dX12_flip_113 : decode cX12_flip 113 = .ok (.iload 8, 2) := by decide +kernel
theorem dX12_flip_115 : decode cX12_flip 115 = .ok (.iload 9, 2) := by decide +kernel
theorem dX12_flip_117 : decode cX12_flip 117 = .ok (.if_icmp .ge 60, 3) := by decide +kernel
theorem dX12_flip_120 : decode cX12_flip 120 = .ok (.aload_n 0, 1) := by decide +kernel
theorem dX12_flip_121 : decode cX12_flip 121 = .ok (.iload_n 2, 1) := by decide +kernel
theorem dX12_flip_122 : decode cX12_flip 122 = .ok (.iload 8, 2) := by decide +kernel
theorem dX12_flip_124 : decode cX12_flip 124 = .ok (.iload 7, 2) := by decide +kernel
theorem dX12_flip_126 : decode cX12_flip 126 = .ok (.invokevirtual 99, 3) := by decide +kernel
theorem dX12_flip_129 : decode cX12_flip 129 = .ok (.istore 10, 2) := by decide +kernel
theorem dX12_flip_131 : decode cX12_flip 131 = .ok (.aload_n 0, 1) := by decide +kernel
theorem dX12_flip_132 : decode cX12_flip 132 = .ok (.getfield 7, 3) := by decide +kernel
theorem dX12_flip_135 : decode cX12_flip 135 = .ok (.iload_n 2, 1) := by decide +kernel
theorem dX12_flip_136 : decode cX12_flip 136 = .ok (.iload 8, 2) := by decide +kernel
theorem dX12_flip_138 : decode cX12_flip 138 = .ok (.iload 7, 2) := by decide +kernel
theorem dX12_flip_140 : decode cX12_flip 140 = .ok (.invokestatic 83, 3) := by decide +kernel
theorem dX12_flip_143 : decode cX12_flip 143 = .ok (.aload_n 0, 1) := by decide +kernel
theorem dX12_flip_144 : decode cX12_flip 144 = .ok (.iload_n 2, 1) := by decide +kernel
theorem dX12_flip_145 : decode cX12_flip 145 = .ok (.iload 9, 2) := by decide +kernel
theorem dX12_flip_147 : decode cX12_flip 147 = .ok (.iload 7, 2) := by decide +kernel
theorem dX12_flip_149 : decode cX12_flip 149 = .ok (.invokevirtual 99, 3) := by decide +kernel
theorem dX12_flip_152 : decode cX12_flip 152 = .ok (.iastore, 1) := by decide +kernel
theorem dX12_flip_153 : decode cX12_flip 153 = .ok (.aload_n 0, 1) := by decide +kernel
theorem dX12_flip_154 : decode cX12_flip 154 = .ok (.getfield 7, 3) := by decide +kernel
theorem dX12_flip_157 : decode cX12_flip 157 = .ok (.iload_n 2, 1) := by decide +kernel
theorem dX12_flip_158 : decode cX12_flip 158 = .ok (.iload 9, 2) := by decide +kernel
theorem dX12_flip_160 : decode cX12_flip 160 = .ok (.iload 7, 2) := by decide +kernel
theorem dX12_flip_162 : decode cX12_flip 162 = .ok (.invokestatic 83, 3) := by decide +kernel
theorem dX12_flip_165 : decode cX12_flip 165 = .ok (.iload 10, 2) := by decide +kernel
theorem dX12_flip_167 : decode cX12_flip 167 = .ok (.iastore, 1) := by decide +kernel
theorem dX12_flip_168 : decode cX12_flip 168 = .ok (.iinc 8 1, 3) := by decide +kernel
theorem dX12_flip_171 : decode cX12_flip 171 = .ok (.iinc 9 (-1), 3) := by decide +kernel
theorem dX12_flip_174 : decode cX12_flip 174 = .ok (.goto (-61), 3) := by decide +kernel
theorem dX12_flip_177 : decode cX12_flip 177 = .ok (.iinc 7 1, 3) := by decide +kernel
theorem dX12_flip_180 : decode cX12_flip 180 = .ok (.goto (-83), 3) := by decide +kernel
theorem dX12_flip_183 : decode cX12_flip 183 = .ok (.return_, 1) := by decide +kernel
theorem dX12_doText_0 : decode cX12_doText 0 = .ok (.sipush 1000, 3) := by decide +kernel
theorem dX12_doText_3 : decode cX12_doText 3 = .ok (.iload_n 1, 1) := by decide +kernel
theorem dX12_doText_4 : decode cX12_doText 4 = .ok (.imul, 1) := by decide +kernel
theorem dX12_doText_5 : decode cX12_doText 5 = .ok (.istore_n 3, 1) := by decide +kernel
theorem dX12_doText_6 : decode cX12_doText 6 = .ok (.iconst 0, 1) := by decide +kernel
theorem dX12_doText_7 : decode cX12_doText 7 = .ok (.istore 4, 2) := by decide +kernel
theorem dX12_doText_9 : decode cX12_doText 9 = .ok (.iconst 0, 1) := by decide +kernel
theorem dX12_doText_10 : decode cX12_doText 10 = .ok (.istore 5, 2) := by decide +kernel
theorem dX12_doText_12 : decode cX12_doText 12 = .ok (.iconst 0, 1) := by decide +kernel
theorem dX12_doText_13 : decode cX12_doText 13 = .ok (.istore 6, 2) := by decide +kernel
theorem dX12_doText_15 : decode cX12_doText 15 = .ok (.iconst 1, 1) := by decide +kernel
theorem dX12_doText_16 : decode cX12_doText 16 = .ok (.istore 7, 2) := by decide +kernel
theorem dX12_doText_18 : decode cX12_doText 18 = .ok (.iload 7, 2) := by decide +kernel
theorem dX12_doText_20 : decode cX12_doText 20 = .ok (.ifCond .eq 288, 3) := by decide +kernel
theorem dX12_doText_23 : decode cX12_doText 23 = .ok (.iload 5, 2) := by decide +kernel
theorem dX12_doText_25 : decode cX12_doText 25 = .ok (.ifCond .le 107, 3) := by decide +kernel
theorem dX12_doText_28 : decode cX12_doText 28 = .ok (.iload 6, 2) := by decide +kernel
theorem dX12_doText_30 : decode cX12_doText 30 = .ok (.aload_n 0, 1) := by decide +kernel
theorem dX12_doText_31 : decode cX12_doText 31 = .ok (.getfield 16, 3) := by decide +kernel
theorem dX12_doText_34 : decode cX12_doText 34 = .ok (.aload_n 0, 1) := by decide +kernel
theorem dX12_doText_35 : decode cX12_doText 35 = .ok (.getfield 54, 3) := by decide +kernel
theorem dX12_doText_38 : decode cX12_doText 38 = .ok (.iload 5, 2) := by decide +kernel
theorem dX12_doText_40 : decode cX12_doText 40 = .ok (.iconst 1, 1) := by decide +kernel
theorem dX12_doText_41 : decode cX12_doText 41 = .ok (.isub, 1) := by decide +kernel
theorem dX12_doText_42 : decode cX12_doText 42 = .ok (.iaload, 1) := by decide +kernel
theorem dX12_doText_43 : decode cX12_doText 43 = .ok (.bipush 10, 2) := by decide +kernel
theorem dX12_doText_45 : decode cX12_doText 45 = .ok (.iadd, 1) := by decide +kernel
theorem dX12_doText_46 : decode cX12_doText 46 = .ok (.iaload, 1) := by decide +kernel
theorem dX12_doText_47 : decode cX12_doText 47 = .ok (.if_icmp .ne 85, 3) := by decide +kernel
theorem dX12_doText_50 : decode cX12_doText 50 = .ok (.aload_n 0, 1) := by decide +kernel
theorem dX12_doText_51 : decode cX12_doText 51 = .ok (.getfield 54, 3) := by decide +kernel
theorem dX12_doText_54 : decode cX12_doText 54 = .ok (.iload 5, 2) := by decide +kernel
theorem dX12_doText_56 : decode cX12_doText 56 = .ok (.iconst 1, 1) := by decide +kernel
theorem dX12_doText_57 : decode cX12_doText 57 = .ok (.isub, 1) := by decide +kernel
theorem dX12_doText_58 : decode cX12_doText 58 = .ok (.iaload, 1) := by decide +kernel
theorem dX12_doText_59 : decode cX12_doText 59 = .ok (.istore 8, 2) := by decide +kernel
theorem dX12_doText_61 : decode cX12_doText 61 = .ok (.aload_n 0, 1) := by decide +kernel
theorem dX12_doText_62 : decode cX12_doText 62 = .ok (.getfield 57, 3) := by decide +kernel
theorem dX12_doText_65 : decode cX12_doText 65 = .ok (.iload 5, 2) := by decide +kernel
theorem dX12_doText_67 : decode cX12_doText 67 = .ok (.iconst 1, 1) := by decide +kernel
theorem dX12_doText_68 : decode cX12_doText 68 = .ok (.isub, 1) := by decide +kernel
theorem dX12_doText_69 : decode cX12_doText 69 = .ok (.dup2, 1) := by decide +kernel
theorem dX12_doText_70 : decode cX12_doText 70 = .ok (.iaload, 1) := by decide +kernel
theorem dX12_doText_71 : decode cX12_doText 71 = .ok (.iconst 1, 1) := by decide +kernel
theorem dX12_doText_72 : decode cX12_doText 72 = .ok (.iadd, 1) := by decide +kernel
theorem dX12_doText_73 : decode cX12_doText 73 = .ok (.iastore, 1) := by decide +kernel
theorem dX12_doText_74 : decode cX12_doText 74 = .ok (.aload_n 0, 1) := by decide +kernel
theorem dX12_doText_75 : decode cX12_doText 75 = .ok (.getfield 57, 3) := by decide +kernel
theorem dX12_doText_78 : decode cX12_doText 78 = .ok (.iload 5, 2) := by decide +kernel
theorem dX12_doText_80 : decode cX12_doText 80 = .ok (.iconst 1, 1) := by decide +kernel
theorem dX12_doText_81 : decode cX12_doText 81 = .ok (.isub, 1) := by decide +kernel
theorem dX12_doText_82 : decode cX12_doText 82 = .ok (.iaload, 1) := by decide +kernel
theorem dX12_doText_83 : decode cX12_doText 83 = .ok (.aload_n 0, 1) := by decide +kernel
theorem dX12_doText_84 : decode cX12_doText 84 = .ok (.getfield 16, 3) := by decide +kernel
theorem dX12_doText_87 : decode cX12_doText 87 = .ok (.iload 8, 2) := by decide +kernel
theorem dX12_doText_89 : decode cX12_doText 89 = .ok (.iconst 1, 1) := by decide +kernel
theorem dX12_doText_90 : decode cX12_doText 90 = .ok (.iadd, 1) := by decide +kernel
theorem dX12_doText_91 : decode cX12_doText 91 = .ok (.iaload, 1) := by decide +kernel
theorem dX12_doText_92 : decode cX12_doText 92 = .ok (.if_icmp .ge 34, 3) := by decide +kernel
theorem dX12_doText_95 : decode cX12_doText 95 = .ok (.iload 8, 2) := by decide +kernel
theorem dX12_doText_97 : decode cX12_doText 97 = .ok (.iload_n 3, 1) := by decide +kernel
theorem dX12_doText_98 : decode cX12_doText 98 = .ok (.isub, 1) := by decide +kernel
theorem dX12_doText_99 : decode cX12_doText 99 = .ok (.iconst 1, 1) := by decide +kernel
theorem dX12_doText_100 : decode cX12_doText 100 = .ok (.isub, 1) := by decide +kernel
theorem dX12_doText_101 : decode cX12_doText 101 = .ok (.bipush 12, 2) := by decide +kernel
theorem dX12_doText_103 : decode cX12_doText 103 = .ok (.idiv, 1) := by decide +kernel
theorem dX12_doText_104 : decode cX12_doText 104 = .ok (.iconst 1, 1) := by decide +kernel
theorem dX12_doText_105 : decode cX12_doText 105 = .ok (.iadd, 1) := by decide +kernel
theorem dX12_doText_106 : decode cX12_doText 106 = .ok (.istore 6, 2) := by decide +kernel
theorem dX12_doText_108 : decode cX12_doText 108 = .ok (.iload 6, 2) := by decide +kernel
theorem dX12_doText_110 : decode cX12_doText 110 = .ok (.aload_n 0, 1) := by decide +kernel
theorem dX12_doText_111 : decode cX12_doText 111 = .ok (.getfield 16, 3) := by decide +kernel
theorem dX12_doText_114 : decode cX12_doText 114 = .ok (.iload 8, 2) := by decide +kernel
theorem dX12_doText_116 : decode cX12_doText 116 = .ok (.bipush 10, 2) := by decide +kernel
theorem dX12_doText_118 : decode cX12_doText 118 = .ok (.iadd, 1) := by decide +kernel
theorem dX12_doText_119 : decode cX12_doText 119 = .ok (.iaload, 1) := by decide +kernel
theorem dX12_doText_120 : decode cX12_doText 120 = .ok (.if_icmp .ne 12, 3) := by decide +kernel
theorem dX12_doText_123 : decode cX12_doText 123 = .ok (.goto (-100), 3) := by decide +kernel
theorem dX12_doText_126 : decode cX12_doText 126 = .ok (.iinc 5 (-1), 3) := by decide +kernel
theorem dX12_doText_129 : decode cX12_doText 129 = .ok (.goto (-106), 3) := by decide +kernel
theorem dX12_doText_132 : decode cX12_doText 132 = .ok (.iload 6, 2) := by decide +kernel
theorem dX12_doText_134 : decode cX12_doText 134 = .ok (.aload_n 0, 1) := by decide +kernel
theorem dX12_doText_135 : decode cX12_doText 135 = .ok (.getfield 16, 3) := by decide +kernel
theorem dX12_doText_138 : decode cX12_doText 138 = .ok (.iload_n 3, 1) := by decide +kernel
theorem dX12_doText_139 : decode cX12_doText 139 = .ok (.iaload, 1) := by decide +kernel
theorem dX12_doText_140 : decode cX12_doText 140 = .ok (.if_icmp .ge 15, 3) := by decide +kernel
theorem dX12_doText_143 : decode cX12_doText 143 = .ok (.iload 4, 2) := by decide +kernel
theorem dX12_doText_145 : decode cX12_doText 145 = .ok (.sipush 300, 3) := by decide +kernel
theorem dX12_doText_148 : decode cX12_doText 148 = .ok (.if_icmp .ge 7, 3) := by decide +kernel
theorem dX12_doText_151 : decode cX12_doText 151 = .ok (.iconst 1, 1) := by decide +kernel
theorem dX12_doText_152 : decode cX12_doText 152 = .ok (.goto 4, 3) := by decide +kernel
theorem dX12_doText_155 : decode cX12_doText 155 = .ok (.iconst 0, 1) := by decide +kernel
theorem dX12_doText_156 : decode cX12_doText 156 = .ok (.istore 7, 2) := by decide +kernel
theorem dX12_doText_158 : decode cX12_doText 158 = .ok (.iload 7, 2) := by decide +kernel
theorem dX12_doText_160 : decode cX12_doText 160 = .ok (.ifCond .ne 6, 3) := by decide +kernel
theorem dX12_doText_163 : decode cX12_doText 163 = .ok (.goto (-145), 3) := by decide +kernel
theorem dX12_doText_166 : decode cX12_doText 166 = .ok (.iload_n 3, 1) := by decide +kernel
theorem dX12_doText_167 : decode cX12_doText 167 = .ok (.iconst 1, 1) := by decide +kernel
theorem dX12_doText_168 : decode cX12_doText 168 = .ok (.iadd, 1) := by decide +kernel
theorem dX12_doText_169 : decode cX12_doText 169 = .ok (.bipush 12, 2) := by decide +kernel
theorem dX12_doText_171 : decode cX12_doText 171 = .ok (.iload 6, 2) := by decide +kernel
theorem dX12_doText_173 : decode cX12_doText 173 = .ok (.imul, 1) := by decide +kernel
theorem dX12_doText_174 : decode cX12_doText 174 = .ok (.iadd, 1) := by decide +kernel
theorem dX12_doText_175 : decode cX12_doText 175 = .ok (.istore 8, 2) := by decide +kernel
theorem dX12_doText_177 : decode cX12_doText 177 = .ok (.iinc 4 1, 3) := by decide +kernel
theorem dX12_doText_180 : decode cX12_doText 180 = .ok (.iinc 6 1, 3) := by decide +kernel
theorem dX12_doText_183 : decode cX12_doText 183 = .ok (.aload_n 0, 1) := by decide +kernel
theorem dX12_doText_184 : decode cX12_doText 184 = .ok (.getfield 44, 3) := by decide +kernel
theorem dX12_doText_187 : decode cX12_doText 187 = .ok (.iconst 5, 1) := by decide +kernel
theorem dX12_doText_188 : decode cX12_doText 188 = .ok (.iload 5, 2) := by decide +kernel
theorem dX12_doText_190 : decode cX12_doText 190 = .ok (.ifCond .le 15, 3) := by decide +kernel
theorem dX12_doText_193 : decode cX12_doText 193 = .ok (.aload_n 0, 1) := by decide +kernel
theorem dX12_doText_194 : decode cX12_doText 194 = .ok (.getfield 57, 3) := by decide +kernel
theorem dX12_doText_197 : decode cX12_doText 197 = .ok (.iload 5, 2) := by decide +kernel
theorem dX12_doText_199 : decode cX12_doText 199 = .ok (.iconst 1, 1) := by decide +kernel
theorem dX12_doText_200 : decode cX12_doText 200 = .ok (.isub, 1) := by decide +kernel
theorem dX12_doText_201 : decode cX12_doText 201 = .ok (.iaload, 1) := by decide +kernel
theorem dX12_doText_202 : decode cX12_doText 202 = .ok (.goto 4, 3) := by decide +kernel
theorem dX12_doText_205 : decode cX12_doText 205 = .ok (.iconst 0, 1) := by decide +kernel
theorem dX12_doText_206 : decode cX12_doText 206 = .ok (.iastore, 1) := by decide +kernel
theorem dX12_doText_207 : decode cX12_doText 207 = .ok (.aload_n 0, 1) := by decide +kernel
theorem dX12_doText_208 : decode cX12_doText 208 = .ok (.getfield 16, 3) := by decide +kernel
theorem dX12_doText_211 : decode cX12_doText 211 = .ok (.iload 8, 2) := by decide +kernel
theorem dX12_doText_213 : decode cX12_doText 213 = .ok (.iaload, 1) := by decide +kernel
theorem dX12_doText_214 : decode cX12_doText 214 = .ok (.tableswitch 71 0 3 #[30, 40, 51, 61], 30) := by decide +kernel
theorem dX12_doText_244 : decode cX12_doText 244 = .ok (.aload_n 0, 1) := by decide +kernel
theorem dX12_doText_245 : decode cX12_doText 245 = .ok (.iload 8, 2) := by decide +kernel
theorem dX12_doText_247 : decode cX12_doText 247 = .ok (.iload_n 2, 1) := by decide +kernel
theorem dX12_doText_248 : decode cX12_doText 248 = .ok (.invokevirtual 373, 3) := by decide +kernel
theorem dX12_doText_251 : decode cX12_doText 251 = .ok (.goto 54, 3) := by decide +kernel
theorem dX12_doText_254 : decode cX12_doText 254 = .ok (.aload_n 0, 1) := by decide +kernel
theorem dX12_doText_255 : decode cX12_doText 255 = .ok (.iload_n 1, 1) := by decide +kernel
theorem dX12_doText_256 : decode cX12_doText 256 = .ok (.iload 8, 2) := by decide +kernel
theorem dX12_doText_258 : decode cX12_doText 258 = .ok (.iload_n 2, 1) := by decide +kernel
theorem dX12_doText_259 : decode cX12_doText 259 = .ok (.invokevirtual 376, 3) := by decide +kernel
theorem dX12_doText_262 : decode cX12_doText 262 = .ok (.goto 43, 3) := by decide +kernel
theorem dX12_doText_265 : decode cX12_doText 265 = .ok (.aload_n 0, 1) := by decide +kernel
theorem dX12_doText_266 : decode cX12_doText 266 = .ok (.iload 8, 2) := by decide +kernel
theorem dX12_doText_268 : decode cX12_doText 268 = .ok (.iload_n 2, 1) := by decide +kernel
theorem dX12_doText_269 : decode cX12_doText 269 = .ok (.invokevirtual 380, 3) := by decide +kernel
theorem dX12_doText_272 : decode cX12_doText 272 = .ok (.goto 33, 3) := by decide +kernel
theorem dX12_doText_275 : decode cX12_doText 275 = .ok (.aload_n 0, 1) := by decide +kernel
theorem dX12_doText_276 : decode cX12_doText 276 = .ok (.iload 8, 2) := by decide +kernel
theorem dX12_doText_278 : decode cX12_doText 278 = .ok (.iload_n 2, 1) := by decide +kernel
theorem dX12_doText_279 : decode cX12_doText 279 = .ok (.invokevirtual 383, 3) := by decide +kernel
theorem dX12_doText_282 : decode cX12_doText 282 = .ok (.goto 23, 3) := by decide +kernel
theorem dX12_doText_285 : decode cX12_doText 285 = .ok (.aload_n 0, 1) := by decide +kernel
theorem dX12_doText_286 : decode cX12_doText 286 = .ok (.getfield 54, 3) := by decide +kernel
theorem dX12_doText_289 : decode cX12_doText 289 = .ok (.iload 5, 2) := by decide +kernel
theorem dX12_doText_291 : decode cX12_doText 291 = .ok (.iload 8, 2) := by decide +kernel
theorem dX12_doText_293 : decode cX12_doText 293 = .ok (.iastore, 1) := by decide +kernel
theorem dX12_doText_294 : decode cX12_doText 294 = .ok (.aload_n 0, 1) := by decide +kernel
theorem dX12_doText_295 : decode cX12_doText 295 = .ok (.getfield 57, 3) := by decide +kernel
theorem dX12_doText_298 : decode cX12_doText 298 = .ok (.iload 5, 2) := by decide +kernel
theorem dX12_doText_300 : decode cX12_doText 300 = .ok (.iconst 0, 1) := by decide +kernel
theorem dX12_doText_301 : decode cX12_doText 301 = .ok (.iastore, 1) := by decide +kernel
theorem dX12_doText_302 : decode cX12_doText 302 = .ok (.iinc 5 1, 3) := by decide +kernel
theorem dX12_doText_305 : decode cX12_doText 305 = .ok (.goto (-287), 3) := by decide +kernel
theorem dX12_doText_308 : decode cX12_doText 308 = .ok (.iload 4, 2) := by decide +kernel
theorem dX12_doText_310 : decode cX12_doText 310 = .ok (.ireturn, 1) := by decide +kernel
theorem dX12_act_0 : decode cX12_act 0 = .ok (.iload_n 1, 1) := by decide +kernel
theorem dX12_act_1 : decode cX12_act 1 = .ok (.iconst 0, 1) := by decide +kernel
theorem dX12_act_2 : decode cX12_act 2 = .ok (.aload_n 0, 1) := by decide +kernel
theorem dX12_act_3 : decode cX12_act 3 = .ok (.getfield 7, 3) := by decide +kernel
theorem dX12_act_6 : decode cX12_act 6 = .ok (.iconst 3, 1) := by decide +kernel
theorem dX12_act_7 : decode cX12_act 7 = .ok (.iaload, 1) := by decide +kernel
theorem dX12_act_8 : decode cX12_act 8 = .ok (.iconst 1, 1) := by decide +kernel
theorem dX12_act_9 : decode cX12_act 9 = .ok (.isub, 1) := by decide +kernel
theorem dX12_act_10 : decode cX12_act 10 = .ok (.invokestatic 79, 3) := by decide +kernel
theorem dX12_act_13 : decode cX12_act 13 = .ok (.ifCond .eq 19, 3) := by decide +kernel
theorem dX12_act_16 : decode cX12_act 16 = .ok (.iload_n 2, 1) := by decide +kernel
theorem dX12_act_17 : decode cX12_act 17 = .ok (.invokestatic 87, 3) := by decide +kernel
theorem dX12_act_20 : decode cX12_act 20 = .ok (.ifCond .eq 12, 3) := by decide +kernel
theorem dX12_act_23 : decode cX12_act 23 = .ok (.aload_n 0, 1) := by decide +kernel
theorem dX12_act_24 : decode cX12_act 24 = .ok (.iload_n 1, 1) := by decide +kernel
theorem dX12_act_25 : decode cX12_act 25 = .ok (.iload_n 2, 1) := by decide +kernel
theorem dX12_act_26 : decode cX12_act 26 = .ok (.invokevirtual 386, 3) := by decide +kernel
theorem dX12_act_29 : decode cX12_act 29 = .ok (.goto 4, 3) := by decide +kernel
theorem dX12_act_32 : decode cX12_act 32 = .ok (.iconst (-1), 1) := by decide +kernel
theorem dX12_act_33 : decode cX12_act 33 = .ok (.ireturn, 1) := by decide +kernel
theorem dX12_becomes_0 : decode cX12_becomes 0 = .ok (.iload_n 3, 1) := by decide +kernel
theorem dX12_becomes_1 : decode cX12_becomes 1 = .ok (.istore 4, 2) := by decide +kernel
theorem dX12_becomes_3 : decode cX12_becomes 3 = .ok (.iconst 1, 1) := by decide +kernel
theorem dX12_becomes_4 : decode cX12_becomes 4 = .ok (.istore 5, 2) := by decide +kernel
theorem dX12_becomes_6 : decode cX12_becomes 6 = .ok (.iconst 1, 1) := by decide +kernel
theorem dX12_becomes_7 : decode cX12_becomes 7 = .ok (.istore 6, 2) := by decide +kernel
theorem dX12_becomes_9 : decode cX12_becomes 9 = .ok (.iload 6, 2) := by decide +kernel
theorem dX12_becomes_11 : decode cX12_becomes 11 = .ok (.iload_n 2, 1) := by decide +kernel
theorem dX12_becomes_12 : decode cX12_becomes 12 = .ok (.if_icmp .ge 20, 3) := by decide +kernel
theorem dX12_becomes_15 : decode cX12_becomes 15 = .ok (.iload 5, 2) := by decide +kernel
theorem dX12_becomes_17 : decode cX12_becomes 17 = .ok (.aload_n 0, 1) := by decide +kernel
theorem dX12_becomes_18 : decode cX12_becomes 18 = .ok (.getfield 7, 3) := by decide +kernel
theorem dX12_becomes_21 : decode cX12_becomes 21 = .ok (.iconst 3, 1) := by decide +kernel
theorem dX12_becomes_22 : decode cX12_becomes 22 = .ok (.iaload, 1) := by decide +kernel
theorem dX12_becomes_23 : decode cX12_becomes 23 = .ok (.imul, 1) := by decide +kernel
theorem dX12_becomes_24 : decode cX12_becomes 24 = .ok (.istore 5, 2) := by decide +kernel
theorem dX12_becomes_26 : decode cX12_becomes 26 = .ok (.iinc 6 1, 3) := by decide +kernel
theorem dX12_becomes_29 : decode cX12_becomes 29 = .ok (.goto (-20), 3) := by decide +kernel
theorem dX12_becomes_32 : decode cX12_becomes 32 = .ok (.iconst 0, 1) := by decide +kernel
theorem dX12_becomes_33 : decode cX12_becomes 33 = .ok (.istore 6, 2) := by decide +kernel
theorem dX12_becomes_35 : decode cX12_becomes 35 = .ok (.iload 6, 2) := by decide +kernel
theorem dX12_becomes_37 : decode cX12_becomes 37 = .ok (.iload_n 2, 1) := by decide +kernel
theorem dX12_becomes_38 : decode cX12_becomes 38 = .ok (.if_icmp .ge 54, 3) := by decide +kernel
theorem dX12_becomes_41 : decode cX12_becomes 41 = .ok (.aload_n 0, 1) := by decide +kernel
theorem dX12_becomes_42 : decode cX12_becomes 42 = .ok (.iload 4, 2) := by decide +kernel
theorem dX12_becomes_44 : decode cX12_becomes 44 = .ok (.iload 5, 2) := by decide +kernel
theorem dX12_becomes_46 : decode cX12_becomes 46 = .ok (.idiv, 1) := by decide +kernel
theorem dX12_becomes_47 : decode cX12_becomes 47 = .ok (.iload_n 1, 1) := by decide +kernel
theorem dX12_becomes_48 : decode cX12_becomes 48 = .ok (.invokevirtual 386, 3) := by decide +kernel
theorem dX12_becomes_51 : decode cX12_becomes 51 = .ok (.pop, 1) := by decide +kernel
theorem dX12_becomes_52 : decode cX12_becomes 52 = .ok (.iload 4, 2) := by decide +kernel
theorem dX12_becomes_54 : decode cX12_becomes 54 = .ok (.iload 5, 2) := by decide +kernel
theorem dX12_becomes_56 : decode cX12_becomes 56 = .ok (.irem, 1) := by decide +kernel
theorem dX12_becomes_57 : decode cX12_becomes 57 = .ok (.istore 4, 2) := by decide +kernel
theorem dX12_becomes_59 : decode cX12_becomes 59 = .ok (.iload 5, 2) := by decide +kernel
theorem dX12_becomes_61 : decode cX12_becomes 61 = .ok (.aload_n 0, 1) := by decide +kernel
theorem dX12_becomes_62 : decode cX12_becomes 62 = .ok (.getfield 7, 3) := by decide +kernel
theorem dX12_becomes_65 : decode cX12_becomes 65 = .ok (.iconst 3, 1) := by decide +kernel
theorem dX12_becomes_66 : decode cX12_becomes 66 = .ok (.iaload, 1) := by decide +kernel
theorem dX12_becomes_67 : decode cX12_becomes 67 = .ok (.idiv, 1) := by decide +kernel
theorem dX12_becomes_68 : decode cX12_becomes 68 = .ok (.istore 5, 2) := by decide +kernel
theorem dX12_becomes_70 : decode cX12_becomes 70 = .ok (.iload 6, 2) := by decide +kernel
theorem dX12_becomes_72 : decode cX12_becomes 72 = .ok (.iconst 1, 1) := by decide +kernel
theorem dX12_becomes_73 : decode cX12_becomes 73 = .ok (.iadd, 1) := by decide +kernel
theorem dX12_becomes_74 : decode cX12_becomes 74 = .ok (.iload_n 2, 1) := by decide +kernel
theorem dX12_becomes_75 : decode cX12_becomes 75 = .ok (.if_icmp .ge 11, 3) := by decide +kernel
theorem dX12_becomes_78 : decode cX12_becomes 78 = .ok (.iload 5, 2) := by decide +kernel
theorem dX12_becomes_80 : decode cX12_becomes 80 = .ok (.ifCond .ne 6, 3) := by decide +kernel
theorem dX12_becomes_83 : decode cX12_becomes 83 = .ok (.iconst 1, 1) := by decide +kernel
theorem dX12_becomes_84 : decode cX12_becomes 84 = .ok (.istore 5, 2) := by decide +kernel
theorem dX12_becomes_86 : decode cX12_becomes 86 = .ok (.iinc 6 1, 3) := by decide +kernel
theorem dX12_becomes_89 : decode cX12_becomes 89 = .ok (.goto (-54), 3) := by decide +kernel
theorem dX12_becomes_92 : decode cX12_becomes 92 = .ok (.iconst 1, 1) := by decide +kernel
theorem dX12_becomes_93 : decode cX12_becomes 93 = .ok (.istore 6, 2) := by decide +kernel
theorem dX12_becomes_95 : decode cX12_becomes 95 = .ok (.iconst 0, 1) := by decide +kernel
theorem dX12_becomes_96 : decode cX12_becomes 96 = .ok (.istore 7, 2) := by decide +kernel
theorem dX12_becomes_98 : decode cX12_becomes 98 = .ok (.iload 7, 2) := by decide +kernel
theorem dX12_becomes_100 : decode cX12_becomes 100 = .ok (.aload_n 0, 1) := by decide +kernel
theorem dX12_becomes_101 : decode cX12_becomes 101 = .ok (.getfield 69, 3) := by decide +kernel
theorem dX12_becomes_104 : decode cX12_becomes 104 = .ok (.aload_n 0, 1) := by decide +kernel
theorem dX12_becomes_105 : decode cX12_becomes 105 = .ok (.getfield 72, 3) := by decide +kernel
theorem dX12_becomes_108 : decode cX12_becomes 108 = .ok (.imul, 1) := by decide +kernel
theorem dX12_becomes_109 : decode cX12_becomes 109 = .ok (.if_icmp .ge 66, 3) := by decide +kernel
theorem dX12_becomes_112 : decode cX12_becomes 112 = .ok (.iload 6, 2) := by decide +kernel
theorem dX12_becomes_114 : decode cX12_becomes 114 = .ok (.ifCond .eq 52, 3) := by decide +kernel
theorem dX12_becomes_117 : decode cX12_becomes 117 = .ok (.aload_n 0, 1) := by decide +kernel
theorem dX12_becomes_118 : decode cX12_becomes 118 = .ok (.iload_n 1, 1) := by decide +kernel
theorem dX12_becomes_119 : decode cX12_becomes 119 = .ok (.iload 7, 2) := by decide +kernel
theorem dX12_becomes_121 : decode cX12_becomes 121 = .ok (.aload_n 0, 1) := by decide +kernel
theorem dX12_becomes_122 : decode cX12_becomes 122 = .ok (.getfield 69, 3) := by decide +kernel
theorem dX12_becomes_125 : decode cX12_becomes 125 = .ok (.irem, 1) := by decide +kernel
theorem dX12_becomes_126 : decode cX12_becomes 126 = .ok (.iload 7, 2) := by decide +kernel
theorem dX12_becomes_128 : decode cX12_becomes 128 = .ok (.aload_n 0, 1) := by decide +kernel
theorem dX12_becomes_129 : decode cX12_becomes 129 = .ok (.getfield 69, 3) := by decide +kernel
theorem dX12_becomes_132 : decode cX12_becomes 132 = .ok (.idiv, 1) := by decide +kernel
theorem dX12_becomes_133 : decode cX12_becomes 133 = .ok (.invokevirtual 99, 3) := by decide +kernel
theorem dX12_becomes_136 : decode cX12_becomes 136 = .ok (.aload_n 0, 1) := by decide +kernel
theorem dX12_becomes_137 : decode cX12_becomes 137 = .ok (.getfield 63, 3) := by decide +kernel
theorem dX12_becomes_140 : decode cX12_becomes 140 = .ok (.bipush 12, 2) := by decide +kernel
theorem dX12_becomes_142 : decode cX12_becomes 142 = .ok (.iload 7, 2) := by decide +kernel
theorem dX12_becomes_144 : decode cX12_becomes 144 = .ok (.aload_n 0, 1) := by decide +kernel
theorem dX12_becomes_145 : decode cX12_becomes 145 = .ok (.getfield 69, 3) := by decide +kernel
theorem dX12_becomes_148 : decode cX12_becomes 148 = .ok (.idiv, 1) := by decide +kernel
theorem dX12_becomes_149 : decode cX12_becomes 149 = .ok (.imul, 1) := by decide +kernel
theorem dX12_becomes_150 : decode cX12_becomes 150 = .ok (.iload 7, 2) := by decide +kernel
theorem dX12_becomes_152 : decode cX12_becomes 152 = .ok (.aload_n 0, 1) := by decide +kernel
theorem dX12_becomes_153 : decode cX12_becomes 153 = .ok (.getfield 69, 3) := by decide +kernel
theorem dX12_becomes_156 : decode cX12_becomes 156 = .ok (.irem, 1) := by decide +kernel
theorem dX12_becomes_157 : decode cX12_becomes 157 = .ok (.iadd, 1) := by decide +kernel
theorem dX12_becomes_158 : decode cX12_becomes 158 = .ok (.iaload, 1) := by decide +kernel
theorem dX12_becomes_159 : decode cX12_becomes 159 = .ok (.if_icmp .ne 7, 3) := by decide +kernel
theorem dX12_becomes_162 : decode cX12_becomes 162 = .ok (.iconst 1, 1) := by decide +kernel
theorem dX12_becomes_163 : decode cX12_becomes 163 = .ok (.goto 4, 3) := by decide +kernel
theorem dX12_becomes_166 : decode cX12_becomes 166 = .ok (.iconst 0, 1) := by decide +kernel
theorem dX12_becomes_167 : decode cX12_becomes 167 = .ok (.istore 6, 2) := by decide +kernel
theorem dX12_becomes_169 : decode cX12_becomes 169 = .ok (.iinc 7 1, 3) := by decide +kernel
theorem dX12_becomes_172 : decode cX12_becomes 172 = .ok (.goto (-74), 3) := by decide +kernel
theorem dX12_becomes_175 : decode cX12_becomes 175 = .ok (.iconst 0, 1) := by decide +kernel
theorem dX12_becomes_176 : decode cX12_becomes 176 = .ok (.istore 7, 2) := by decide +kernel
theorem dX12_becomes_178 : decode cX12_becomes 178 = .ok (.iload 7, 2) := by decide +kernel
theorem dX12_becomes_180 : decode cX12_becomes 180 = .ok (.sipush 144, 3) := by decide +kernel
theorem dX12_becomes_183 : decode cX12_becomes 183 = .ok (.if_icmp .ge 32, 3) := by decide +kernel
theorem dX12_becomes_186 : decode cX12_becomes 186 = .ok (.aload_n 0, 1) := by decide +kernel
theorem dX12_becomes_187 : decode cX12_becomes 187 = .ok (.getfield 7, 3) := by decide +kernel
theorem dX12_becomes_190 : decode cX12_becomes 190 = .ok (.bipush 10, 2) := by decide +kernel
theorem dX12_becomes_192 : decode cX12_becomes 192 = .ok (.sipush 144, 3) := by decide +kernel
theorem dX12_becomes_195 : decode cX12_becomes 195 = .ok (.iload_n 1, 1) := by decide +kernel
theorem dX12_becomes_196 : decode cX12_becomes 196 = .ok (.imul, 1) := by decide +kernel
theorem dX12_becomes_197 : decode cX12_becomes 197 = .ok (.iadd, 1) := by decide +kernel
theorem dX12_becomes_198 : decode cX12_becomes 198 = .ok (.iload 7, 2) := by decide +kernel
theorem dX12_becomes_200 : decode cX12_becomes 200 = .ok (.iadd, 1) := by decide +kernel
theorem dX12_becomes_201 : decode cX12_becomes 201 = .ok (.aload_n 0, 1) := by decide +kernel
theorem dX12_becomes_202 : decode cX12_becomes 202 = .ok (.getfield 60, 3) := by decide +kernel
theorem dX12_becomes_205 : decode cX12_becomes 205 = .ok (.iload 7, 2) := by decide +kernel
theorem dX12_becomes_207 : decode cX12_becomes 207 = .ok (.iaload, 1) := by decide +kernel
theorem dX12_becomes_208 : decode cX12_becomes 208 = .ok (.iastore, 1) := by decide +kernel
theorem dX12_becomes_209 : decode cX12_becomes 209 = .ok (.iinc 7 1, 3) := by decide +kernel
theorem dX12_becomes_212 : decode cX12_becomes 212 = .ok (.goto (-34), 3) := by decide +kernel
theorem dX12_becomes_215 : decode cX12_becomes 215 = .ok (.iload 6, 2) := by decide +kernel
theorem dX12_becomes_217 : decode cX12_becomes 217 = .ok (.ireturn, 1) := by decide +kernel
theorem dX12_story_0 : decode cX12_story 0 = .ok (.iload_n 1, 1) := by decide +kernel
theorem dX12_story_1 : decode cX12_story 1 = .ok (.invokestatic 87, 3) := by decide +kernel
theorem dX12_story_4 : decode cX12_story 4 = .ok (.ifCond .eq 20, 3) := by decide +kernel
theorem dX12_story_7 : decode cX12_story 7 = .ok (.iload_n 2, 1) := by decide +kernel
theorem dX12_story_8 : decode cX12_story 8 = .ok (.invokestatic 87, 3) := by decide +kernel
theorem dX12_story_11 : decode cX12_story 11 = .ok (.ifCond .eq 13, 3) := by decide +kernel
theorem dX12_story_14 : decode cX12_story 14 = .ok (.iload_n 3, 1) := by decide +kernel
theorem dX12_story_15 : decode cX12_story 15 = .ok (.bipush (-2), 2) := by decide +kernel
theorem dX12_story_17 : decode cX12_story 17 = .ok (.iconst 2, 1) := by decide +kernel
theorem dX12_story_18 : decode cX12_story 18 = .ok (.invokestatic 79, 3) := by decide +kernel
theorem dX12_story_21 : decode cX12_story 21 = .ok (.ifCond .ne 5, 3) := by decide +kernel
theorem dX12_story_24 : decode cX12_story 24 = .ok (.iconst (-1), 1) := by decide +kernel
theorem dX12_story_25 : decode cX12_story 25 = .ok (.ireturn, 1) := by decide +kernel
theorem dX12_story_26 : decode cX12_story 26 = .ok (.iconst 0, 1) := by decide +kernel
theorem dX12_story_27 : decode cX12_story 27 = .ok (.istore 4, 2) := by decide +kernel
theorem dX12_story_29 : decode cX12_story 29 = .ok (.iload 4, 2) := by decide +kernel
theorem dX12_story_31 : decode cX12_story 31 = .ok (.sipush 144, 3) := by decide +kernel
theorem dX12_story_34 : decode cX12_story 34 = .ok (.if_icmp .ge 55, 3) := by decide +kernel
theorem dX12_story_37 : decode cX12_story 37 = .ok (.aload_n 0, 1) := by decide +kernel
theorem dX12_story_38 : decode cX12_story 38 = .ok (.getfield 60, 3) := by decide +kernel
theorem dX12_story_41 : decode cX12_story 41 = .ok (.iload 4, 2) := by decide +kernel
theorem dX12_story_43 : decode cX12_story 43 = .ok (.aload_n 0, 1) := by decide +kernel
theorem dX12_story_44 : decode cX12_story 44 = .ok (.getfield 7, 3) := by decide +kernel
theorem dX12_story_47 : decode cX12_story 47 = .ok (.bipush 10, 2) := by decide +kernel
theorem dX12_story_49 : decode cX12_story 49 = .ok (.sipush 144, 3) := by decide +kernel
theorem dX12_story_52 : decode cX12_story 52 = .ok (.iload_n 1, 1) := by decide +kernel
theorem dX12_story_53 : decode cX12_story 53 = .ok (.imul, 1) := by decide +kernel
theorem dX12_story_54 : decode cX12_story 54 = .ok (.iadd, 1) := by decide +kernel
theorem dX12_story_55 : decode cX12_story 55 = .ok (.iload 4, 2) := by decide +kernel
theorem dX12_story_57 : decode cX12_story 57 = .ok (.iadd, 1) := by decide +kernel
theorem dX12_story_58 : decode cX12_story 58 = .ok (.iaload, 1) := by decide +kernel
theorem dX12_story_59 : decode cX12_story 59 = .ok (.iastore, 1) := by decide +kernel
theorem dX12_story_60 : decode cX12_story 60 = .ok (.aload_n 0, 1) := by decide +kernel
theorem dX12_story_61 : decode cX12_story 61 = .ok (.getfield 63, 3) := by decide +kernel
theorem dX12_story_64 : decode cX12_story 64 = .ok (.iload 4, 2) := by decide +kernel
theorem dX12_story_66 : decode cX12_story 66 = .ok (.aload_n 0, 1) := by decide +kernel
theorem dX12_story_67 : decode cX12_story 67 = .ok (.getfield 7, 3) := by decide +kernel
theorem dX12_story_70 : decode cX12_story 70 = .ok (.bipush 10, 2) := by decide +kernel
theorem dX12_story_72 : decode cX12_story 72 = .ok (.sipush 144, 3) := by decide +kernel
theorem dX12_story_75 : decode cX12_story 75 = .ok (.iload_n 2, 1) := by decide +kernel
theorem dX12_story_76 : decode cX12_story 76 = .ok (.imul, 1) := by decide +kernel
theorem dX12_story_77 : decode cX12_story 77 = .ok (.iadd, 1) := by decide +kernel
theorem dX12_story_78 : decode cX12_story 78 = .ok (.iload 4, 2) := by decide +kernel
theorem dX12_story_80 : decode cX12_story 80 = .ok (.iadd, 1) := by decide +kernel
theorem dX12_story_81 : decode cX12_story 81 = .ok (.iaload, 1) := by decide +kernel
theorem dX12_story_82 : decode cX12_story 82 = .ok (.iastore, 1) := by decide +kernel
theorem dX12_story_83 : decode cX12_story 83 = .ok (.iinc 4 1, 3) := by decide +kernel
theorem dX12_story_86 : decode cX12_story 86 = .ok (.goto (-57), 3) := by decide +kernel
theorem dX12_story_89 : decode cX12_story 89 = .ok (.iconst 1, 1) := by decide +kernel
theorem dX12_story_90 : decode cX12_story 90 = .ok (.istore 4, 2) := by decide +kernel
theorem dX12_story_92 : decode cX12_story 92 = .ok (.iconst 0, 1) := by decide +kernel
theorem dX12_story_93 : decode cX12_story 93 = .ok (.istore 5, 2) := by decide +kernel
theorem dX12_story_95 : decode cX12_story 95 = .ok (.iload 5, 2) := by decide +kernel
theorem dX12_story_97 : decode cX12_story 97 = .ok (.iconst 4, 1) := by decide +kernel
theorem dX12_story_98 : decode cX12_story 98 = .ok (.if_icmp .ge 149, 3) := by decide +kernel
theorem dX12_story_101 : decode cX12_story 101 = .ok (.iconst 0, 1) := by decide +kernel
theorem dX12_story_102 : decode cX12_story 102 = .ok (.istore 6, 2) := by decide +kernel
theorem dX12_story_104 : decode cX12_story 104 = .ok (.iload 4, 2) := by decide +kernel
theorem dX12_story_106 : decode cX12_story 106 = .ok (.iconst 1, 1) := by decide +kernel
theorem dX12_story_107 : decode cX12_story 107 = .ok (.isub, 1) := by decide +kernel
theorem dX12_story_108 : decode cX12_story 108 = .ok (.istore 7, 2) := by decide +kernel
theorem dX12_story_110 : decode cX12_story 110 = .ok (.iload 7, 2) := by decide +kernel
theorem dX12_story_112 : decode cX12_story 112 = .ok (.ifCond .lt 75, 3) := by decide +kernel
theorem dX12_story_115 : decode cX12_story 115 = .ok (.aload_n 0, 1) := by decide +kernel
theorem dX12_story_116 : decode cX12_story 116 = .ok (.iload_n 1, 1) := by decide +kernel
theorem dX12_story_117 : decode cX12_story 117 = .ok (.iload 5, 2) := by decide +kernel
theorem dX12_story_119 : decode cX12_story 119 = .ok (.iload 7, 2) := by decide +kernel
theorem dX12_story_121 : decode cX12_story 121 = .ok (.invokevirtual 389, 3) := by decide +kernel
theorem dX12_story_124 : decode cX12_story 124 = .ok (.ifCond .ne 6, 3) := by decide +kernel
theorem dX12_story_127 : decode cX12_story 127 = .ok (.goto 54, 3) := by decide +kernel
theorem dX12_story_130 : decode cX12_story 130 = .ok (.iinc 6 1, 3) := by decide +kernel
theorem dX12_story_133 : decode cX12_story 133 = .ok (.iload 7, 2) := by decide +kernel
theorem dX12_story_135 : decode cX12_story 135 = .ok (.istore 8, 2) := by decide +kernel
theorem dX12_story_137 : decode cX12_story 137 = .ok (.iload 5, 2) := by decide +kernel
theorem dX12_story_139 : decode cX12_story 139 = .ok (.iconst 1, 1) := by decide +kernel
theorem dX12_story_140 : decode cX12_story 140 = .ok (.isub, 1) := by decide +kernel
theorem dX12_story_141 : decode cX12_story 141 = .ok (.istore 9, 2) := by decide +kernel
theorem dX12_story_143 : decode cX12_story 143 = .ok (.iload 9, 2) := by decide +kernel
theorem dX12_story_145 : decode cX12_story 145 = .ok (.ifCond .lt 36, 3) := by decide +kernel
theorem dX12_story_148 : decode cX12_story 148 = .ok (.aload_n 0, 1) := by decide +kernel
theorem dX12_story_149 : decode cX12_story 149 = .ok (.getfield 66, 3) := by decide +kernel
theorem dX12_story_152 : decode cX12_story 152 = .ok (.iload 9, 2) := by decide +kernel
theorem dX12_story_154 : decode cX12_story 154 = .ok (.iload 8, 2) := by decide +kernel
theorem dX12_story_156 : decode cX12_story 156 = .ok (.aload_n 0, 1) := by decide +kernel
theorem dX12_story_157 : decode cX12_story 157 = .ok (.getfield 7, 3) := by decide +kernel
theorem dX12_story_160 : decode cX12_story 160 = .ok (.iconst 3, 1) := by decide +kernel
theorem dX12_story_161 : decode cX12_story 161 = .ok (.iaload, 1) := by decide +kernel
theorem dX12_story_162 : decode cX12_story 162 = .ok (.irem, 1) := by decide +kernel
theorem dX12_story_163 : decode cX12_story 163 = .ok (.iastore, 1) := by decide +kernel
theorem dX12_story_164 : decode cX12_story 164 = .ok (.iload 8, 2) := by decide +kernel
theorem dX12_story_166 : decode cX12_story 166 = .ok (.aload_n 0, 1) := by decide +kernel
theorem dX12_story_167 : decode cX12_story 167 = .ok (.getfield 7, 3) := by decide +kernel
theorem dX12_story_170 : decode cX12_story 170 = .ok (.iconst 3, 1) := by decide +kernel
theorem dX12_story_171 : decode cX12_story 171 = .ok (.iaload, 1) := by decide +kernel
theorem dX12_story_172 : decode cX12_story 172 = .ok (.idiv, 1) := by decide +kernel
theorem dX12_story_173 : decode cX12_story 173 = .ok (.istore 8, 2) := by decide +kernel
theorem dX12_story_175 : decode cX12_story 175 = .ok (.iinc 9 (-1), 3) := by decide +kernel
theorem dX12_story_178 : decode cX12_story 178 = .ok (.goto (-35), 3) := by decide +kernel
theorem dX12_story_181 : decode cX12_story 181 = .ok (.iinc 7 (-1), 3) := by decide +kernel
theorem dX12_story_184 : decode cX12_story 184 = .ok (.goto (-74), 3) := by decide +kernel
theorem dX12_story_187 : decode cX12_story 187 = .ok (.iload 6, 2) := by decide +kernel
theorem dX12_story_189 : decode cX12_story 189 = .ok (.ifCond .le 41, 3) := by decide +kernel
theorem dX12_story_192 : decode cX12_story 192 = .ok (.iload_n 3, 1) := by decide +kernel
theorem dX12_story_193 : decode cX12_story 193 = .ok (.bipush (-2), 2) := by decide +kernel
theorem dX12_story_195 : decode cX12_story 195 = .ok (.if_icmp .ne 8, 3) := by decide +kernel
theorem dX12_story_198 : decode cX12_story 198 = .ok (.iload 6, 2) := by decide +kernel
theorem dX12_story_200 : decode cX12_story 200 = .ok (.goto 29, 3) := by decide +kernel
theorem dX12_story_203 : decode cX12_story 203 = .ok (.iload_n 3, 1) := by decide +kernel
theorem dX12_story_204 : decode cX12_story 204 = .ok (.iconst (-1), 1) := by decide +kernel
theorem dX12_story_205 : decode cX12_story 205 = .ok (.if_icmp .ne 8, 3) := by decide +kernel
theorem dX12_story_208 : decode cX12_story 208 = .ok (.iload 5, 2) := by decide +kernel
theorem dX12_story_210 : decode cX12_story 210 = .ok (.goto 19, 3) := by decide +kernel
theorem dX12_story_213 : decode cX12_story 213 = .ok (.iload_n 3, 1) := by decide +kernel
theorem dX12_story_214 : decode cX12_story 214 = .ok (.iload 5, 2) := by decide +kernel
theorem dX12_story_216 : decode cX12_story 216 = .ok (.if_icmp .ge 12, 3) := by decide +kernel
theorem dX12_story_219 : decode cX12_story 219 = .ok (.aload_n 0, 1) := by decide +kernel
theorem dX12_story_220 : decode cX12_story 220 = .ok (.getfield 66, 3) := by decide +kernel
theorem dX12_story_223 : decode cX12_story 223 = .ok (.iload_n 3, 1) := by decide +kernel
theorem dX12_story_224 : decode cX12_story 224 = .ok (.iaload, 1) := by decide +kernel
theorem dX12_story_225 : decode cX12_story 225 = .ok (.goto 4, 3) := by decide +kernel
theorem dX12_story_228 : decode cX12_story 228 = .ok (.iconst (-1), 1) := by decide +kernel
theorem dX12_story_229 : decode cX12_story 229 = .ok (.ireturn, 1) := by decide +kernel
theorem dX12_story_230 : decode cX12_story 230 = .ok (.iload 4, 2) := by decide +kernel
theorem dX12_story_232 : decode cX12_story 232 = .ok (.aload_n 0, 1) := by decide +kernel
theorem dX12_story_233 : decode cX12_story 233 = .ok (.getfield 7, 3) := by decide +kernel
theorem dX12_story_236 : decode cX12_story 236 = .ok (.iconst 3, 1) := by decide +kernel
theorem dX12_story_237 : decode cX12_story 237 = .ok (.iaload, 1) := by decide +kernel
theorem dX12_story_238 : decode cX12_story 238 = .ok (.imul, 1) := by decide +kernel
theorem dX12_story_239 : decode cX12_story 239 = .ok (.istore 4, 2) := by decide +kernel
theorem dX12_story_241 : decode cX12_story 241 = .ok (.iinc 5 1, 3) := by decide +kernel
theorem dX12_story_244 : decode cX12_story 244 = .ok (.goto (-149), 3) := by decide +kernel
theorem dX12_story_247 : decode cX12_story 247 = .ok (.iconst (-1), 1) := by decide +kernel
theorem dX12_story_248 : decode cX12_story 248 = .ok (.ireturn, 1) := by decide +kernel
theorem dX12_isMaker_0 : decode cX12_isMaker 0 = .ok (.iload_n 0, 1) := by decide +kernel
theorem dX12_isMaker_1 : decode cX12_isMaker 1 = .ok (.iconst 0, 1) := by decide +kernel
theorem dX12_isMaker_2 : decode cX12_isMaker 2 = .ok (.iconst 3, 1) := by decide +kernel
theorem dX12_isMaker_3 : decode cX12_isMaker 3 = .ok (.invokestatic 79, 3) := by decide +kernel
theorem dX12_isMaker_6 : decode cX12_isMaker 6 = .ok (.ireturn, 1) := by decide +kernel
theorem dX12_maker_0 : decode cX12_maker 0 = .ok (.iload_n 1, 1) := by decide +kernel
theorem dX12_maker_1 : decode cX12_maker 1 = .ok (.invokestatic 392, 3) := by decide +kernel
theorem dX12_maker_4 : decode cX12_maker 4 = .ok (.ifCond .eq 13, 3) := by decide +kernel
theorem dX12_maker_7 : decode cX12_maker 7 = .ok (.iload_n 2, 1) := by decide +kernel
theorem dX12_maker_8 : decode cX12_maker 8 = .ok (.iconst 0, 1) := by decide +kernel
theorem dX12_maker_9 : decode cX12_maker 9 = .ok (.bipush 9, 2) := by decide +kernel
theorem dX12_maker_11 : decode cX12_maker 11 = .ok (.invokestatic 79, 3) := by decide +kernel
theorem dX12_maker_14 : decode cX12_maker 14 = .ok (.ifCond .ne 5, 3) := by decide +kernel
theorem dX12_maker_17 : decode cX12_maker 17 = .ok (.iconst 0, 1) := by decide +kernel
theorem dX12_maker_18 : decode cX12_maker 18 = .ok (.ireturn, 1) := by decide +kernel
theorem dX12_maker_19 : decode cX12_maker 19 = .ok (.aload_n 0, 1) := by decide +kernel
theorem dX12_maker_20 : decode cX12_maker 20 = .ok (.getfield 7, 3) := by decide +kernel
theorem dX12_maker_23 : decode cX12_maker 23 = .ok (.sipush 880, 3) := by decide +kernel
theorem dX12_maker_26 : decode cX12_maker 26 = .ok (.iload_n 1, 1) := by decide +kernel
theorem dX12_maker_27 : decode cX12_maker 27 = .ok (.iadd, 1) := by decide +kernel
theorem dX12_maker_28 : decode cX12_maker 28 = .ok (.iload_n 2, 1) := by decide +kernel
theorem dX12_maker_29 : decode cX12_maker 29 = .ok (.iastore, 1) := by decide +kernel
theorem dX12_maker_30 : decode cX12_maker 30 = .ok (.iconst 1, 1) := by decide +kernel
theorem dX12_maker_31 : decode cX12_maker 31 = .ok (.ireturn, 1) := by decide +kernel
theorem dX12_habit_0 : decode cX12_habit 0 = .ok (.iload_n 1, 1) := by decide +kernel
theorem dX12_habit_1 : decode cX12_habit 1 = .ok (.invokestatic 392, 3) := by decide +kernel
theorem dX12_habit_4 : decode cX12_habit 4 = .ok (.ifCond .eq 22, 3) := by decide +kernel
theorem dX12_habit_7 : decode cX12_habit 7 = .ok (.iload_n 2, 1) := by decide +kernel
theorem dX12_habit_8 : decode cX12_habit 8 = .ok (.iconst 0, 1) := by decide +kernel
theorem dX12_habit_9 : decode cX12_habit 9 = .ok (.iconst 5, 1) := by decide +kernel
theorem dX12_habit_10 : decode cX12_habit 10 = .ok (.invokestatic 79, 3) := by decide +kernel
theorem dX12_habit_13 : decode cX12_habit 13 = .ok (.ifCond .eq 13, 3) := by decide +kernel
theorem dX12_habit_16 : decode cX12_habit 16 = .ok (.iload_n 3, 1) := by decide +kernel
theorem dX12_habit_17 : decode cX12_habit 17 = .ok (.iconst 1, 1) := by decide +kernel
theorem dX12_habit_18 : decode cX12_habit 18 = .ok (.bipush 99, 2) := by decide +kernel
theorem dX12_habit_20 : decode cX12_habit 20 = .ok (.invokestatic 79, 3) := by decide +kernel
theorem dX12_habit_23 : decode cX12_habit 23 = .ok (.ifCond .ne 5, 3) := by decide +kernel
theorem dX12_habit_26 : decode cX12_habit 26 = .ok (.iconst 0, 1) := by decide +kernel
theorem dX12_habit_27 : decode cX12_habit 27 = .ok (.ireturn, 1) := by decide +kernel
theorem dX12_habit_28 : decode cX12_habit 28 = .ok (.aload_n 0, 1) := by decide +kernel
theorem dX12_habit_29 : decode cX12_habit 29 = .ok (.getfield 7, 3) := by decide +kernel
theorem dX12_habit_32 : decode cX12_habit 32 = .ok (.sipush 890, 3) := by decide +kernel
theorem dX12_habit_35 : decode cX12_habit 35 = .ok (.bipush 6, 2) := by decide +kernel
theorem dX12_habit_37 : decode cX12_habit 37 = .ok (.iload_n 1, 1) := by decide +kernel
theorem dX12_habit_38 : decode cX12_habit 38 = .ok (.imul, 1) := by decide +kernel
theorem dX12_habit_39 : decode cX12_habit 39 = .ok (.iadd, 1) := by decide +kernel
theorem dX12_habit_40 : decode cX12_habit 40 = .ok (.iload_n 2, 1) := by decide +kernel
theorem dX12_habit_41 : decode cX12_habit 41 = .ok (.iadd, 1) := by decide +kernel
theorem dX12_habit_42 : decode cX12_habit 42 = .ok (.iload_n 3, 1) := by decide +kernel
theorem dX12_habit_43 : decode cX12_habit 43 = .ok (.iastore, 1) := by decide +kernel
theorem dX12_habit_44 : decode cX12_habit 44 = .ok (.iconst 1, 1) := by decide +kernel
theorem dX12_habit_45 : decode cX12_habit 45 = .ok (.ireturn, 1) := by decide +kernel
theorem dX12_wane_0 : decode cX12_wane 0 = .ok (.iload_n 1, 1) := by decide +kernel
theorem dX12_wane_1 : decode cX12_wane 1 = .ok (.iconst 0, 1) := by decide +kernel
theorem dX12_wane_2 : decode cX12_wane 2 = .ok (.bipush 100, 2) := by decide +kernel
theorem dX12_wane_4 : decode cX12_wane 4 = .ok (.invokestatic 79, 3) := by decide +kernel
theorem dX12_wane_7 : decode cX12_wane 7 = .ok (.ifCond .ne 5, 3) := by decide +kernel
theorem dX12_wane_10 : decode cX12_wane 10 = .ok (.iconst 0, 1) := by decide +kernel
theorem dX12_wane_11 : decode cX12_wane 11 = .ok (.ireturn, 1) := by decide +kernel
theorem dX12_wane_12 : decode cX12_wane 12 = .ok (.aload_n 0, 1) := by decide +kernel
theorem dX12_wane_13 : decode cX12_wane 13 = .ok (.getfield 7, 3) := by decide +kernel
theorem dX12_wane_16 : decode cX12_wane 16 = .ok (.iconst 4, 1) := by decide +kernel
theorem dX12_wane_17 : decode cX12_wane 17 = .ok (.iload_n 1, 1) := by decide +kernel
theorem dX12_wane_18 : decode cX12_wane 18 = .ok (.iastore, 1) := by decide +kernel
theorem dX12_wane_19 : decode cX12_wane 19 = .ok (.iconst 1, 1) := by decide +kernel
theorem dX12_wane_20 : decode cX12_wane 20 = .ok (.ireturn, 1) := by decide +kernel
theorem dX12_chance_0 : decode cX12_chance 0 = .ok (.aload_n 0, 1) := by decide +kernel
theorem dX12_chance_1 : decode cX12_chance 1 = .ok (.getfield 7, 3) := by decide +kernel
theorem dX12_chance_4 : decode cX12_chance 4 = .ok (.sipush 880, 3) := by decide +kernel
theorem dX12_chance_7 : decode cX12_chance 7 = .ok (.iload_n 1, 1) := by decide +kernel
theorem dX12_chance_8 : decode cX12_chance 8 = .ok (.iadd, 1) := by decide +kernel
theorem dX12_chance_9 : decode cX12_chance 9 = .ok (.iaload, 1) := by decide +kernel
theorem dX12_chance_10 : decode cX12_chance 10 = .ok (.i2l, 1) := by decide +kernel
theorem dX12_chance_11 : decode cX12_chance 11 = .ok (.lstore 4, 2) := by decide +kernel
theorem dX12_chance_13 : decode cX12_chance 13 = .ok (.iconst 0, 1) := by decide +kernel
theorem dX12_chance_14 : decode cX12_chance 14 = .ok (.istore 6, 2) := by decide +kernel
theorem dX12_chance_16 : decode cX12_chance 16 = .ok (.iload 6, 2) := by decide +kernel
theorem dX12_chance_18 : decode cX12_chance 18 = .ok (.bipush 6, 2) := by decide +kernel
theorem dX12_chance_20 : decode cX12_chance 20 = .ok (.if_icmp .ge 89, 3) := by decide +kernel
theorem dX12_chance_23 : decode cX12_chance 23 = .ok (.aload_n 0, 1) := by decide +kernel
theorem dX12_chance_24 : decode cX12_chance 24 = .ok (.getfield 7, 3) := by decide +kernel
theorem dX12_chance_27 : decode cX12_chance 27 = .ok (.sipush 890, 3) := by decide +kernel
theorem dX12_chance_30 : decode cX12_chance 30 = .ok (.bipush 6, 2) := by decide +kernel
theorem dX12_chance_32 : decode cX12_chance 32 = .ok (.iload_n 1, 1) := by decide +kernel
theorem dX12_chance_33 : decode cX12_chance 33 = .ok (.imul, 1) := by decide +kernel
theorem dX12_chance_34 : decode cX12_chance 34 = .ok (.iadd, 1) := by decide +kernel
theorem dX12_chance_35 : decode cX12_chance 35 = .ok (.iload 6, 2) := by decide +kernel
theorem dX12_chance_37 : decode cX12_chance 37 = .ok (.iadd, 1) := by decide +kernel
theorem dX12_chance_38 : decode cX12_chance 38 = .ok (.iaload, 1) := by decide +kernel
theorem dX12_chance_39 : decode cX12_chance 39 = .ok (.bipush 50, 2) := by decide +kernel
theorem dX12_chance_41 : decode cX12_chance 41 = .ok (.isub, 1) := by decide +kernel
theorem dX12_chance_42 : decode cX12_chance 42 = .ok (.istore 7, 2) := by decide +kernel
theorem dX12_chance_44 : decode cX12_chance 44 = .ok (.iconst 0, 1) := by decide +kernel
theorem dX12_chance_45 : decode cX12_chance 45 = .ok (.istore 8, 2) := by decide +kernel
theorem dX12_chance_47 : decode cX12_chance 47 = .ok (.iload 8, 2) := by decide +kernel
theorem dX12_chance_49 : decode cX12_chance 49 = .ok (.iload_n 2, 1) := by decide +kernel
theorem dX12_chance_50 : decode cX12_chance 50 = .ok (.if_icmp .ge 23, 3) := by decide +kernel
theorem dX12_chance_53 : decode cX12_chance 53 = .ok (.iload 7, 2) := by decide +kernel
theorem dX12_chance_55 : decode cX12_chance 55 = .ok (.aload_n 0, 1) := by decide +kernel
theorem dX12_chance_56 : decode cX12_chance 56 = .ok (.getfield 7, 3) := by decide +kernel
theorem dX12_chance_59 : decode cX12_chance 59 = .ok (.iconst 4, 1) := by decide +kernel
theorem dX12_chance_60 : decode cX12_chance 60 = .ok (.iaload, 1) := by decide +kernel
theorem dX12_chance_61 : decode cX12_chance 61 = .ok (.imul, 1) := by decide +kernel
theorem dX12_chance_62 : decode cX12_chance 62 = .ok (.bipush 100, 2) := by decide +kernel
theorem dX12_chance_64 : decode cX12_chance 64 = .ok (.idiv, 1) := by decide +kernel
theorem dX12_chance_65 : decode cX12_chance 65 = .ok (.istore 7, 2) := by decide +kernel
theorem dX12_chance_67 : decode cX12_chance 67 = .ok (.iinc 8 1, 3) := by decide +kernel
theorem dX12_chance_70 : decode cX12_chance 70 = .ok (.goto (-23), 3) := by decide +kernel
theorem dX12_chance_73 : decode cX12_chance 73 = .ok (.lload 4, 2) := by decide +kernel
theorem dX12_chance_75 : decode cX12_chance 75 = .ok (.iload_n 3, 1) := by decide +kernel
theorem dX12_chance_76 : decode cX12_chance 76 = .ok (.iload 6, 2) := by decide +kernel
theorem dX12_chance_78 : decode cX12_chance 78 = .ok (.ishr, 1) := by decide +kernel
theorem dX12_chance_79 : decode cX12_chance 79 = .ok (.iconst 1, 1) := by decide +kernel
theorem dX12_chance_80 : decode cX12_chance 80 = .ok (.iand, 1) := by decide +kernel
theorem dX12_chance_81 : decode cX12_chance 81 = .ok (.iconst 1, 1) := by decide +kernel
theorem dX12_chance_82 : decode cX12_chance 82 = .ok (.if_icmp .ne 12, 3) := by decide +kernel
theorem dX12_chance_85 : decode cX12_chance 85 = .ok (.bipush 50, 2) := by decide +kernel
theorem dX12_chance_87 : decode cX12_chance 87 = .ok (.iload 7, 2) := by decide +kernel
theorem dX12_chance_89 : decode cX12_chance 89 = .ok (.iadd, 1) := by decide +kernel
theorem dX12_chance_90 : decode cX12_chance 90 = .ok (.i2l, 1) := by decide +kernel
theorem dX12_chance_91 : decode cX12_chance 91 = .ok (.goto 9, 3) := by decide +kernel
theorem dX12_chance_94 : decode cX12_chance 94 = .ok (.bipush 50, 2) := by decide +kernel
theorem dX12_chance_96 : decode cX12_chance 96 = .ok (.iload 7, 2) := by decide +kernel
theorem dX12_chance_98 : decode cX12_chance 98 = .ok (.isub, 1) := by decide +kernel
theorem dX12_chance_99 : decode cX12_chance 99 = .ok (.i2l, 1) := by decide +kernel
theorem dX12_chance_100 : decode cX12_chance 100 = .ok (.lmul, 1) := by decide +kernel
theorem dX12_chance_101 : decode cX12_chance 101 = .ok (.lstore 4, 2) := by decide +kernel
theorem dX12_chance_103 : decode cX12_chance 103 = .ok (.iinc 6 1, 3) := by decide +kernel
theorem dX12_chance_106 : decode cX12_chance 106 = .ok (.goto (-90), 3) := by decide +kernel
theorem dX12_chance_109 : decode cX12_chance 109 = .ok (.lload 4, 2) := by decide +kernel
theorem dX12_chance_111 : decode cX12_chance 111 = .ok (.lreturn, 1) := by decide +kernel
theorem dX12_odds_0 : decode cX12_odds 0 = .ok (.iload_n 1, 1) := by decide +kernel
theorem dX12_odds_1 : decode cX12_odds 1 = .ok (.invokestatic 392, 3) := by decide +kernel
theorem dX12_odds_4 : decode cX12_odds 4 = .ok (.ifCond .eq 23, 3) := by decide +kernel
theorem dX12_odds_7 : decode cX12_odds 7 = .ok (.iload_n 2, 1) := by decide +kernel
theorem dX12_odds_8 : decode cX12_odds 8 = .ok (.iconst 0, 1) := by decide +kernel
theorem dX12_odds_9 : decode cX12_odds 9 = .ok (.bipush 50, 2) := by decide +kernel
theorem dX12_odds_11 : decode cX12_odds 11 = .ok (.invokestatic 79, 3) := by decide +kernel
theorem dX12_odds_14 : decode cX12_odds 14 = .ok (.ifCond .eq 13, 3) := by decide +kernel
theorem dX12_odds_17 : decode cX12_odds 17 = .ok (.iload_n 3, 1) := by decide +kernel
theorem dX12_odds_18 : decode cX12_odds 18 = .ok (.iconst 0, 1) := by decide +kernel
theorem dX12_odds_19 : decode cX12_odds 19 = .ok (.bipush 63, 2) := by decide +kernel
theorem dX12_odds_21 : decode cX12_odds 21 = .ok (.invokestatic 79, 3) := by decide +kernel
theorem dX12_odds_24 : decode cX12_odds 24 = .ok (.ifCond .ne 5, 3) := by decide +kernel
theorem dX12_odds_27 : decode cX12_odds 27 = .ok (.iconst (-1), 1) := by decide +kernel
theorem dX12_odds_28 : decode cX12_odds 28 = .ok (.ireturn, 1) := by decide +kernel
theorem dX12_odds_29 : decode cX12_odds 29 = .ok (.lconst 0, 1) := by decide +kernel
theorem dX12_odds_30 : decode cX12_odds 30 = .ok (.lstore 4, 2) := by decide +kernel
theorem dX12_odds_32 : decode cX12_odds 32 = .ok (.iconst 0, 1) := by decide +kernel
theorem dX12_odds_33 : decode cX12_odds 33 = .ok (.istore 6, 2) := by decide +kernel
theorem dX12_odds_35 : decode cX12_odds 35 = .ok (.iload 6, 2) := by decide +kernel
theorem dX12_odds_37 : decode cX12_odds 37 = .ok (.iconst 4, 1) := by decide +kernel
theorem dX12_odds_38 : decode cX12_odds 38 = .ok (.if_icmp .ge 22, 3) := by decide +kernel
theorem dX12_odds_41 : decode cX12_odds 41 = .ok (.lload 4, 2) := by decide +kernel
theorem dX12_odds_43 : decode cX12_odds 43 = .ok (.aload_n 0, 1) := by decide +kernel
theorem dX12_odds_44 : decode cX12_odds 44 = .ok (.iload 6, 2) := by decide +kernel
theorem dX12_odds_46 : decode cX12_odds 46 = .ok (.iload_n 2, 1) := by decide +kernel
theorem dX12_odds_47 : decode cX12_odds 47 = .ok (.iload_n 3, 1) := by decide +kernel
theorem dX12_odds_48 : decode cX12_odds 48 = .ok (.invokevirtual 395, 3) := by decide +kernel
theorem dX12_odds_51 : decode cX12_odds 51 = .ok (.ladd, 1) := by decide +kernel
theorem dX12_odds_52 : decode cX12_odds 52 = .ok (.lstore 4, 2) := by decide +kernel
theorem dX12_odds_54 : decode cX12_odds 54 = .ok (.iinc 6 1, 3) := by decide +kernel
theorem dX12_odds_57 : decode cX12_odds 57 = .ok (.goto (-22), 3) := by decide +kernel
theorem dX12_odds_60 : decode cX12_odds 60 = .ok (.lload 4, 2) := by decide +kernel
theorem dX12_odds_62 : decode cX12_odds 62 = .ok (.lconst 0, 1) := by decide +kernel
theorem dX12_odds_63 : decode cX12_odds 63 = .ok (.lcmp, 1) := by decide +kernel
theorem dX12_odds_64 : decode cX12_odds 64 = .ok (.ifCond .ne 7, 3) := by decide +kernel
theorem dX12_odds_67 : decode cX12_odds 67 = .ok (.iconst (-1), 1) := by decide +kernel
theorem dX12_odds_68 : decode cX12_odds 68 = .ok (.goto 18, 3) := by decide +kernel
theorem dX12_odds_71 : decode cX12_odds 71 = .ok (.ldc2_w 398, 3) := by decide +kernel
theorem dX12_odds_74 : decode cX12_odds 74 = .ok (.aload_n 0, 1) := by decide +kernel
theorem dX12_odds_75 : decode cX12_odds 75 = .ok (.iload_n 1, 1) := by decide +kernel
theorem dX12_odds_76 : decode cX12_odds 76 = .ok (.iload_n 2, 1) := by decide +kernel
theorem dX12_odds_77 : decode cX12_odds 77 = .ok (.iload_n 3, 1) := by decide +kernel
theorem dX12_odds_78 : decode cX12_odds 78 = .ok (.invokevirtual 395, 3) := by decide +kernel
theorem dX12_odds_81 : decode cX12_odds 81 = .ok (.lmul, 1) := by decide +kernel
theorem dX12_odds_82 : decode cX12_odds 82 = .ok (.lload 4, 2) := by decide +kernel
theorem dX12_odds_84 : decode cX12_odds 84 = .ok (.ldiv, 1) := by decide +kernel
theorem dX12_odds_85 : decode cX12_odds 85 = .ok (.l2i, 1) := by decide +kernel
theorem dX12_odds_86 : decode cX12_odds 86 = .ok (.ireturn, 1) := by decide +kernel
theorem dX12_say_0 : decode cX12_say 0 = .ok (.iload_n 1, 1) := by decide +kernel
theorem dX12_say_1 : decode cX12_say 1 = .ok (.invokestatic 87, 3) := by decide +kernel
theorem dX12_say_4 : decode cX12_say 4 = .ok (.ifCond .eq 26, 3) := by decide +kernel
theorem dX12_say_7 : decode cX12_say 7 = .ok (.iload_n 2, 1) := by decide +kernel
theorem dX12_say_8 : decode cX12_say 8 = .ok (.iconst 0, 1) := by decide +kernel
theorem dX12_say_9 : decode cX12_say 9 = .ok (.aload_n 0, 1) := by decide +kernel
theorem dX12_say_10 : decode cX12_say 10 = .ok (.invokevirtual 155, 3) := by decide +kernel
theorem dX12_say_13 : decode cX12_say 13 = .ok (.iconst 1, 1) := by decide +kernel
theorem dX12_say_14 : decode cX12_say 14 = .ok (.isub, 1) := by decide +kernel
theorem dX12_say_15 : decode cX12_say 15 = .ok (.invokestatic 79, 3) := by decide +kernel
theorem dX12_say_18 : decode cX12_say 18 = .ok (.ifCond .eq 12, 3) := by decide +kernel
theorem dX12_say_21 : decode cX12_say 21 = .ok (.iload_n 3, 1) := by decide +kernel
theorem dX12_say_22 : decode cX12_say 22 = .ok (.iload 4, 2) := by decide +kernel
theorem dX12_say_24 : decode cX12_say 24 = .ok (.invokestatic 188, 3) := by decide +kernel
theorem dX12_say_27 : decode cX12_say 27 = .ok (.ifCond .ne 5, 3) := by decide +kernel
theorem dX12_say_30 : decode cX12_say 30 = .ok (.iconst (-1), 1) := by decide +kernel
theorem dX12_say_31 : decode cX12_say 31 = .ok (.ireturn, 1) := by decide +kernel
theorem dX12_say_32 : decode cX12_say 32 = .ok (.aload_n 0, 1) := by decide +kernel
theorem dX12_say_33 : decode cX12_say 33 = .ok (.iconst 4, 1) := by decide +kernel
theorem dX12_say_34 : decode cX12_say 34 = .ok (.iload_n 2, 1) := by decide +kernel
theorem dX12_say_35 : decode cX12_say 35 = .ok (.aload_n 0, 1) := by decide +kernel
theorem dX12_say_36 : decode cX12_say 36 = .ok (.getfield 69, 3) := by decide +kernel
theorem dX12_say_39 : decode cX12_say 39 = .ok (.iconst 4, 1) := by decide +kernel
theorem dX12_say_40 : decode cX12_say 40 = .ok (.idiv, 1) := by decide +kernel
theorem dX12_say_41 : decode cX12_say 41 = .ok (.irem, 1) := by decide +kernel
theorem dX12_say_42 : decode cX12_say 42 = .ok (.imul, 1) := by decide +kernel
theorem dX12_say_43 : decode cX12_say 43 = .ok (.putfield 179, 3) := by decide +kernel
theorem dX12_say_46 : decode cX12_say 46 = .ok (.aload_n 0, 1) := by decide +kernel
theorem dX12_say_47 : decode cX12_say 47 = .ok (.iconst 4, 1) := by decide +kernel
theorem dX12_say_48 : decode cX12_say 48 = .ok (.iload_n 2, 1) := by decide +kernel
theorem dX12_say_49 : decode cX12_say 49 = .ok (.aload_n 0, 1) := by decide +kernel
theorem dX12_say_50 : decode cX12_say 50 = .ok (.getfield 69, 3) := by decide +kernel
theorem dX12_say_53 : decode cX12_say 53 = .ok (.iconst 4, 1) := by decide +kernel
theorem dX12_say_54 : decode cX12_say 54 = .ok (.idiv, 1) := by decide +kernel
theorem dX12_say_55 : decode cX12_say 55 = .ok (.idiv, 1) := by decide +kernel
theorem dX12_say_56 : decode cX12_say 56 = .ok (.imul, 1) := by decide +kernel
theorem dX12_say_57 : decode cX12_say 57 = .ok (.putfield 185, 3) := by decide +kernel
theorem dX12_say_60 : decode cX12_say 60 = .ok (.aload_n 0, 1) := by decide +kernel
theorem dX12_say_61 : decode cX12_say 61 = .ok (.iload_n 1, 1) := by decide +kernel
theorem dX12_say_62 : decode cX12_say 62 = .ok (.iload_n 3, 1) := by decide +kernel
theorem dX12_say_63 : decode cX12_say 63 = .ok (.iload 4, 2) := by decide +kernel
theorem dX12_say_65 : decode cX12_say 65 = .ok (.invokevirtual 191, 3) := by decide +kernel
theorem dX12_say_68 : decode cX12_say 68 = .ok (.pop, 1) := by decide +kernel
theorem dX12_say_69 : decode cX12_say 69 = .ok (.aload_n 0, 1) := by decide +kernel
theorem dX12_say_70 : decode cX12_say 70 = .ok (.getfield 171, 3) := by decide +kernel
theorem dX12_say_73 : decode cX12_say 73 = .ok (.ifCond .eq 7, 3) := by decide +kernel
theorem dX12_say_76 : decode cX12_say 76 = .ok (.iconst 2, 1) := by decide +kernel
theorem dX12_say_77 : decode cX12_say 77 = .ok (.goto 18, 3) := by decide +kernel
theorem dX12_say_80 : decode cX12_say 80 = .ok (.aload_n 0, 1) := by decide +kernel
theorem dX12_say_81 : decode cX12_say 81 = .ok (.iload_n 1, 1) := by decide +kernel
theorem dX12_say_82 : decode cX12_say 82 = .ok (.iload_n 2, 1) := by decide +kernel
theorem dX12_say_83 : decode cX12_say 83 = .ok (.iconst 3, 1) := by decide +kernel
theorem dX12_say_84 : decode cX12_say 84 = .ok (.invokevirtual 165, 3) := by decide +kernel
theorem dX12_say_87 : decode cX12_say 87 = .ok (.ifCond .eq 7, 3) := by decide +kernel
theorem dX12_say_90 : decode cX12_say 90 = .ok (.iconst 1, 1) := by decide +kernel
theorem dX12_say_91 : decode cX12_say 91 = .ok (.goto 4, 3) := by decide +kernel
theorem dX12_say_94 : decode cX12_say 94 = .ok (.iconst 0, 1) := by decide +kernel
theorem dX12_say_95 : decode cX12_say 95 = .ok (.ireturn, 1) := by decide +kernel
theorem dX12_image_0 : decode cX12_image 0 = .ok (.aload_n 0, 1) := by decide +kernel
theorem dX12_image_1 : decode cX12_image 1 = .ok (.getfield 7, 3) := by decide +kernel
theorem dX12_image_4 : decode cX12_image 4 = .ok (.aload_n 0, 1) := by decide +kernel
theorem dX12_image_5 : decode cX12_image 5 = .ok (.getfield 13, 3) := by decide +kernel
theorem dX12_image_8 : decode cX12_image 8 = .ok (.invokestatic 75, 3) := by decide +kernel
theorem dX12_image_11 : decode cX12_image 11 = .ok (.aload_n 0, 1) := by decide +kernel
theorem dX12_image_12 : decode cX12_image 12 = .ok (.getfield 7, 3) := by decide +kernel
theorem dX12_image_15 : decode cX12_image 15 = .ok (.iconst 3, 1) := by decide +kernel
theorem dX12_image_16 : decode cX12_image 16 = .ok (.iaload, 1) := by decide +kernel
theorem dX12_image_17 : decode cX12_image 17 = .ok (.ireturn, 1) := by decide +kernel
theorem dX12_back_0 : decode cX12_back 0 = .ok (.aload_n 0, 1) := by decide +kernel
theorem dX12_back_1 : decode cX12_back 1 = .ok (.getfield 13, 3) := by decide +kernel
theorem dX12_back_4 : decode cX12_back 4 = .ok (.aload_n 0, 1) := by decide +kernel
theorem dX12_back_5 : decode cX12_back 5 = .ok (.getfield 7, 3) := by decide +kernel
theorem dX12_back_8 : decode cX12_back 8 = .ok (.invokestatic 75, 3) := by decide +kernel
theorem dX12_back_11 : decode cX12_back 11 = .ok (.aload_n 0, 1) := by decide +kernel
theorem dX12_back_12 : decode cX12_back 12 = .ok (.getfield 7, 3) := by decide +kernel
theorem dX12_back_15 : decode cX12_back 15 = .ok (.iconst 3, 1) := by decide +kernel
theorem dX12_back_16 : decode cX12_back 16 = .ok (.iaload, 1) := by decide +kernel
theorem dX12_back_17 : decode cX12_back 17 = .ok (.ireturn, 1) := by decide +kernel
theorem dX12_about_0 : decode cX12_about 0 = .ok (.iload_n 1, 1) := by decide +kernel
theorem dX12_about_1 : decode cX12_about 1 = .ok (.bipush 10, 2) := by decide +kernel
theorem dX12_about_3 : decode cX12_about 3 = .ok (.bipush 13, 2) := by decide +kernel
theorem dX12_about_5 : decode cX12_about 5 = .ok (.invokestatic 79, 3) := by decide +kernel
theorem dX12_about_8 : decode cX12_about 8 = .ok (.ifCond .eq 17, 3) := by decide +kernel
theorem dX12_about_11 : decode cX12_about 11 = .ok (.aload_n 0, 1) := by decide +kernel
theorem dX12_about_12 : decode cX12_about 12 = .ok (.getfield 7, 3) := by decide +kernel
theorem dX12_about_15 : decode cX12_about 15 = .ok (.sipush 880, 3) := by decide +kernel
theorem dX12_about_18 : decode cX12_about 18 = .ok (.iload_n 1, 1) := by decide +kernel
theorem dX12_about_19 : decode cX12_about 19 = .ok (.iadd, 1) := by decide +kernel
theorem dX12_about_20 : decode cX12_about 20 = .ok (.bipush 10, 2) := by decide +kernel
theorem dX12_about_22 : decode cX12_about 22 = .ok (.isub, 1) := by decide +kernel
theorem dX12_about_23 : decode cX12_about 23 = .ok (.iaload, 1) := by decide +kernel
theorem dX12_about_24 : decode cX12_about 24 = .ok (.ireturn, 1) := by decide +kernel
theorem dX12_about_25 : decode cX12_about 25 = .ok (.iload_n 1, 1) := by decide +kernel
theorem dX12_about_26 : decode cX12_about 26 = .ok (.tableswitch 96 0 7 #[46, 51, 56, 63, 70, 77, 84, 89], 46) := by decide +kernel
theorem dX12_about_72 : decode cX12_about 72 = .ok (.aload_n 0, 1) := by decide +kernel
theorem dX12_about_73 : decode cX12_about 73 = .ok (.getfield 69, 3) := by decide +kernel
theorem dX12_about_76 : decode cX12_about 76 = .ok (.ireturn, 1) := by decide +kernel
theorem dX12_about_77 : decode cX12_about 77 = .ok (.aload_n 0, 1) := by decide +kernel
theorem dX12_about_78 : decode cX12_about 78 = .ok (.getfield 72, 3) := by decide +kernel
theorem dX12_about_81 : decode cX12_about 81 = .ok (.ireturn, 1) := by decide +kernel
theorem dX12_about_82 : decode cX12_about 82 = .ok (.aload_n 0, 1) := by decide +kernel
theorem dX12_about_83 : decode cX12_about 83 = .ok (.getfield 7, 3) := by decide +kernel
theorem dX12_about_86 : decode cX12_about 86 = .ok (.iconst 0, 1) := by decide +kernel
theorem dX12_about_87 : decode cX12_about 87 = .ok (.iaload, 1) := by decide +kernel
theorem dX12_about_88 : decode cX12_about 88 = .ok (.ireturn, 1) := by decide +kernel
theorem dX12_about_89 : decode cX12_about 89 = .ok (.aload_n 0, 1) := by decide +kernel
theorem dX12_about_90 : decode cX12_about 90 = .ok (.getfield 7, 3) := by decide +kernel
theorem dX12_about_93 : decode cX12_about 93 = .ok (.iconst 1, 1) := by decide +kernel
theorem dX12_about_94 : decode cX12_about 94 = .ok (.iaload, 1) := by decide +kernel
theorem dX12_about_95 : decode cX12_about 95 = .ok (.ireturn, 1) := by decide +kernel
theorem dX12_about_96 : decode cX12_about 96 = .ok (.aload_n 0, 1) := by decide +kernel
theorem dX12_about_97 : decode cX12_about 97 = .ok (.getfield 7, 3) := by decide +kernel
theorem dX12_about_100 : decode cX12_about 100 = .ok (.iconst 2, 1) := by decide +kernel
theorem dX12_about_101 : decode cX12_about 101 = .ok (.iaload, 1) := by decide +kernel
theorem dX12_about_102 : decode cX12_about 102 = .ok (.ireturn, 1) := by decide +kernel
theorem dX12_about_103 : decode cX12_about 103 = .ok (.aload_n 0, 1) := by decide +kernel
theorem dX12_about_104 : decode cX12_about 104 = .ok (.getfield 7, 3) := by decide +kernel
theorem dX12_about_107 : decode cX12_about 107 = .ok (.iconst 3, 1) := by decide +kernel
theorem dX12_about_108 : decode cX12_about 108 = .ok (.iaload, 1) := by decide +kernel
theorem dX12_about_109 : decode cX12_about 109 = .ok (.ireturn, 1) := by decide +kernel
theorem dX12_about_110 : decode cX12_about 110 = .ok (.aload_n 0, 1) := by decide +kernel
theorem dX12_about_111 : decode cX12_about 111 = .ok (.getfield 210, 3) := by decide +kernel
theorem dX12_about_114 : decode cX12_about 114 = .ok (.ireturn, 1) := by decide +kernel
theorem dX12_about_115 : decode cX12_about 115 = .ok (.aload_n 0, 1) := by decide +kernel
theorem dX12_about_116 : decode cX12_about 116 = .ok (.getfield 7, 3) := by decide +kernel
theorem dX12_about_119 : decode cX12_about 119 = .ok (.iconst 4, 1) := by decide +kernel
theorem dX12_about_120 : decode cX12_about 120 = .ok (.iaload, 1) := by decide +kernel
theorem dX12_about_121 : decode cX12_about 121 = .ok (.ireturn, 1) := by decide +kernel
theorem dX12_about_122 : decode cX12_about 122 = .ok (.iconst (-1), 1) := by decide +kernel
theorem dX12_about_123 : decode cX12_about 123 = .ok (.ireturn, 1) := by decide +kernel
