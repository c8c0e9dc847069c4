theorem dX11_init_0 : decode cX11_init 0 = .ok (.aload_n 0, 1) := by decide +kernel
theorem dX11_init_1 : decode cX11_init 1 = .ok (.invokespecial 1, 3) := by decide +kernel
theorem dX11_init_4 : decode cX11_init 4 = .ok (.iconst 4, 1) := by decide +kernel
theorem dX11_init_5 : decode cX11_init 5 = .ok (.bipush 12, 2) := by decide +kernel
theorem dX11_init_7 : decode cX11_init 7 = .ok (.iload_n 1, 1) := by decide +kernel
theorem dX11_init_8 : decode cX11_init 8 = .ok (.invokestatic 9, 3) := by decide +kernel
theorem dX11_init_11 : decode cX11_init 11 = .ok (.invokestatic 15, 3) := by decide +kernel
theorem dX11_init_14 : decode cX11_init 14 = .ok (.istore_n 3, 1) := by decide +kernel
theorem dX11_init_15 : decode cX11_init 15 = .ok (.iconst 4, 1) := by decide +kernel
theorem dX11_init_16 : decode cX11_init 16 = .ok (.bipush 12, 2) := by decide +kernel
theorem dX11_init_18 : decode cX11_init 18 = .ok (.iload_n 2, 1) := by decide +kernel
theorem dX11_init_19 : decode cX11_init 19 = .ok (.invokestatic 9, 3) := by decide +kernel
theorem dX11_init_22 : decode cX11_init 22 = .ok (.invokestatic 15, 3) := by decide +kernel
theorem dX11_init_25 : decode cX11_init 25 = .ok (.istore 4, 2) := by decide +kernel
theorem dX11_init_27 : decode cX11_init 27 = .ok (.aload_n 0, 1) := by decide +kernel
theorem dX11_init_28 : decode cX11_init 28 = .ok (.new 18, 3) := by decide +kernel
theorem dX11_init_31 : decode cX11_init 31 = .ok (.dup, 1) := by decide +kernel
theorem dX11_init_32 : decode cX11_init 32 = .ok (.iload_n 3, 1) := by decide +kernel
theorem dX11_init_33 : decode cX11_init 33 = .ok (.iload 4, 2) := by decide +kernel
theorem dX11_init_35 : decode cX11_init 35 = .ok (.invokespecial 20, 3) := by decide +kernel
theorem dX11_init_38 : decode cX11_init 38 = .ok (.putfield 23, 3) := by decide +kernel
theorem dX11_init_41 : decode cX11_init 41 = .ok (.aload_n 0, 1) := by decide +kernel
theorem dX11_init_42 : decode cX11_init 42 = .ok (.new 18, 3) := by decide +kernel
theorem dX11_init_45 : decode cX11_init 45 = .ok (.dup, 1) := by decide +kernel
theorem dX11_init_46 : decode cX11_init 46 = .ok (.iload_n 3, 1) := by decide +kernel
theorem dX11_init_47 : decode cX11_init 47 = .ok (.iload 4, 2) := by decide +kernel
theorem dX11_init_49 : decode cX11_init 49 = .ok (.invokespecial 20, 3) := by decide +kernel
theorem dX11_init_52 : decode cX11_init 52 = .ok (.putfield 27, 3) := by decide +kernel
theorem dX11_init_55 : decode cX11_init 55 = .ok (.aload_n 0, 1) := by decide +kernel
theorem dX11_init_56 : decode cX11_init 56 = .ok (.new 30, 3) := by decide +kernel
theorem dX11_init_59 : decode cX11_init 59 = .ok (.dup, 1) := by decide +kernel
theorem dX11_init_60 : decode cX11_init 60 = .ok (.invokespecial 32, 3) := by decide +kernel
theorem dX11_init_63 : decode cX11_init 63 = .ok (.putfield 33, 3) := by decide +kernel
theorem dX11_init_66 : decode cX11_init 66 = .ok (.aload_n 0, 1) := by decide +kernel
theorem dX11_init_67 : decode cX11_init 67 = .ok (.new 37, 3) := by decide +kernel
theorem dX11_init_70 : decode cX11_init 70 = .ok (.dup, 1) := by decide +kernel
theorem dX11_init_71 : decode cX11_init 71 = .ok (.invokespecial 39, 3) := by decide +kernel
theorem dX11_init_74 : decode cX11_init 74 = .ok (.putfield 40, 3) := by decide +kernel
theorem dX11_init_77 : decode cX11_init 77 = .ok (.aload_n 0, 1) := by decide +kernel
theorem dX11_init_78 : decode cX11_init 78 = .ok (.new 44, 3) := by decide +kernel
theorem dX11_init_81 : decode cX11_init 81 = .ok (.dup, 1) := by decide +kernel
theorem dX11_init_82 : decode cX11_init 82 = .ok (.invokespecial 46, 3) := by decide +kernel
theorem dX11_init_85 : decode cX11_init 85 = .ok (.putfield 47, 3) := by decide +kernel
theorem dX11_init_88 : decode cX11_init 88 = .ok (.aload_n 0, 1) := by decide +kernel
theorem dX11_init_89 : decode cX11_init 89 = .ok (.new 51, 3) := by decide +kernel
theorem dX11_init_92 : decode cX11_init 92 = .ok (.dup, 1) := by decide +kernel
theorem dX11_init_93 : decode cX11_init 93 = .ok (.invokespecial 53, 3) := by decide +kernel
theorem dX11_init_96 : decode cX11_init 96 = .ok (.putfield 54, 3) := by decide +kernel
theorem dX11_init_99 : decode cX11_init 99 = .ok (.aload_n 0, 1) := by decide +kernel
theorem dX11_init_100 : decode cX11_init 100 = .ok (.new 58, 3) := by decide +kernel
theorem dX11_init_103 : decode cX11_init 103 = .ok (.dup, 1) := by decide +kernel
theorem dX11_init_104 : decode cX11_init 104 = .ok (.invokespecial 60, 3) := by decide +kernel
theorem dX11_init_107 : decode cX11_init 107 = .ok (.putfield 61, 3) := by decide +kernel
theorem dX11_init_110 : decode cX11_init 110 = .ok (.aload_n 0, 1) := by decide +kernel
theorem dX11_init_111 : decode cX11_init 111 = .ok (.new 65, 3) := by decide +kernel
theorem dX11_init_114 : decode cX11_init 114 = .ok (.dup, 1) := by decide +kernel
theorem dX11_init_115 : decode cX11_init 115 = .ok (.invokespecial 67, 3) := by decide +kernel
theorem dX11_init_118 : decode cX11_init 118 = .ok (.putfield 68, 3) := by decide +kernel
theorem dX11_init_121 : decode cX11_init 121 = .ok (.aload_n 0, 1) := by decide +kernel
theorem dX11_init_122 : decode cX11_init 122 = .ok (.new 72, 3) := by decide +kernel
theorem dX11_init_125 : decode cX11_init 125 = .ok (.dup, 1) := by decide +kernel
theorem dX11_init_126 : decode cX11_init 126 = .ok (.iload_n 3, 1) := by decide +kernel
theorem dX11_init_127 : decode cX11_init 127 = .ok (.iload 4, 2) := by decide +kernel
theorem dX11_init_129 : decode cX11_init 129 = .ok (.invokespecial 74, 3) := by decide +kernel
theorem dX11_init_132 : decode cX11_init 132 = .ok (.putfield 75, 3) := by decide +kernel
theorem dX11_init_135 : decode cX11_init 135 = .ok (.aload_n 0, 1) := by decide +kernel
theorem dX11_init_136 : decode cX11_init 136 = .ok (.new 79, 3) := by decide +kernel
theorem dX11_init_139 : decode cX11_init 139 = .ok (.dup, 1) := by decide +kernel
theorem dX11_init_140 : decode cX11_init 140 = .ok (.iload_n 3, 1) := by decide +kernel
theorem dX11_init_141 : decode cX11_init 141 = .ok (.iload 4, 2) := by decide +kernel
theorem dX11_init_143 : decode cX11_init 143 = .ok (.invokespecial 81, 3) := by decide +kernel
theorem dX11_init_146 : decode cX11_init 146 = .ok (.putfield 82, 3) := by decide +kernel
theorem dX11_init_149 : decode cX11_init 149 = .ok (.aload_n 0, 1) := by decide +kernel
theorem dX11_init_150 : decode cX11_init 150 = .ok (.bipush 6, 2) := by decide +kernel
theorem dX11_init_152 : decode cX11_init 152 = .ok (.anewarray 86, 3) := by decide +kernel
theorem dX11_init_155 : decode cX11_init 155 = .ok (.putfield 88, 3) := by decide +kernel
theorem dX11_init_158 : decode cX11_init 158 = .ok (.iconst 0, 1) := by decide +kernel
theorem dX11_init_159 : decode cX11_init 159 = .ok (.istore 5, 2) := by decide +kernel
theorem dX11_init_161 : decode cX11_init 161 = .ok (.iload 5, 2) := by decide +kernel
theorem dX11_init_163 : decode cX11_init 163 = .ok (.bipush 6, 2) := by decide +kernel
theorem dX11_init_165 : decode cX11_init 165 = .ok (.if_icmp .ge 23, 3) := by decide +kernel
theorem dX11_init_168 : decode cX11_init 168 = .ok (.aload_n 0, 1) := by decide +kernel
theorem dX11_init_169 : decode cX11_init 169 = .ok (.getfield 88, 3) := by decide +kernel
theorem dX11_init_172 : decode cX11_init 172 = .ok (.iload 5, 2) := by decide +kernel
theorem dX11_init_174 : decode cX11_init 174 = .ok (.new 86, 3) := by decide +kernel
theorem dX11_init_177 : decode cX11_init 177 = .ok (.dup, 1) := by decide +kernel
theorem dX11_init_178 : decode cX11_init 178 = .ok (.invokespecial 92, 3) := by decide +kernel
theorem dX11_init_181 : decode cX11_init 181 = .ok (.aastore, 1) := by decide +kernel
theorem dX11_init_182 : decode cX11_init 182 = .ok (.iinc 5 1, 3) := by decide +kernel
theorem dX11_init_185 : decode cX11_init 185 = .ok (.goto (-24), 3) := by decide +kernel
theorem dX11_init_188 : decode cX11_init 188 = .ok (.return_, 1) := by decide +kernel
theorem dX11_light_0 : decode cX11_light 0 = .ok (.aload_n 0, 1) := by decide +kernel
theorem dX11_light_1 : decode cX11_light 1 = .ok (.getfield 23, 3) := by decide +kernel
theorem dX11_light_4 : decode cX11_light 4 = .ok (.iload_n 1, 1) := by decide +kernel
theorem dX11_light_5 : decode cX11_light 5 = .ok (.invokevirtual 93, 3) := by decide +kernel
theorem dX11_light_8 : decode cX11_light 8 = .ok (.astore 5, 2) := by decide +kernel
theorem dX11_light_10 : decode cX11_light 10 = .ok (.aload 5, 2) := by decide +kernel
theorem dX11_light_12 : decode cX11_light 12 = .ok (.ifnull 24, 3) := by decide +kernel
theorem dX11_light_15 : decode cX11_light 15 = .ok (.aload 5, 2) := by decide +kernel
theorem dX11_light_17 : decode cX11_light 17 = .ok (.iload_n 2, 1) := by decide +kernel
theorem dX11_light_18 : decode cX11_light 18 = .ok (.iload_n 3, 1) := by decide +kernel
theorem dX11_light_19 : decode cX11_light 19 = .ok (.invokevirtual 97, 3) := by decide +kernel
theorem dX11_light_22 : decode cX11_light 22 = .ok (.ifCond .eq 14, 3) := by decide +kernel
theorem dX11_light_25 : decode cX11_light 25 = .ok (.iload 4, 2) := by decide +kernel
theorem dX11_light_27 : decode cX11_light 27 = .ok (.iconst 0, 1) := by decide +kernel
theorem dX11_light_28 : decode cX11_light 28 = .ok (.bipush 99, 2) := by decide +kernel
theorem dX11_light_30 : decode cX11_light 30 = .ok (.invokestatic 103, 3) := by decide +kernel
theorem dX11_light_33 : decode cX11_light 33 = .ok (.ifCond .ne 5, 3) := by decide +kernel
theorem dX11_light_36 : decode cX11_light 36 = .ok (.iconst 0, 1) := by decide +kernel
theorem dX11_light_37 : decode cX11_light 37 = .ok (.ireturn, 1) := by decide +kernel
theorem dX11_light_38 : decode cX11_light 38 = .ok (.aload 5, 2) := by decide +kernel
theorem dX11_light_40 : decode cX11_light 40 = .ok (.iload_n 2, 1) := by decide +kernel
theorem dX11_light_41 : decode cX11_light 41 = .ok (.iload_n 3, 1) := by decide +kernel
theorem dX11_light_42 : decode cX11_light 42 = .ok (.iload 4, 2) := by decide +kernel
theorem dX11_light_44 : decode cX11_light 44 = .ok (.invokevirtual 107, 3) := by decide +kernel
theorem dX11_light_47 : decode cX11_light 47 = .ok (.iconst 1, 1) := by decide +kernel
theorem dX11_light_48 : decode cX11_light 48 = .ok (.ireturn, 1) := by decide +kernel
theorem dX11_row_0 : decode cX11_row 0 = .ok (.aload_n 0, 1) := by decide +kernel
theorem dX11_row_1 : decode cX11_row 1 = .ok (.getfield 23, 3) := by decide +kernel
theorem dX11_row_4 : decode cX11_row 4 = .ok (.iload_n 1, 1) := by decide +kernel
theorem dX11_row_5 : decode cX11_row 5 = .ok (.invokevirtual 93, 3) := by decide +kernel
theorem dX11_row_8 : decode cX11_row 8 = .ok (.astore 6, 2) := by decide +kernel
theorem dX11_row_10 : decode cX11_row 10 = .ok (.aload 6, 2) := by decide +kernel
theorem dX11_row_12 : decode cX11_row 12 = .ok (.ifnull 29, 3) := by decide +kernel
theorem dX11_row_15 : decode cX11_row 15 = .ok (.aload 6, 2) := by decide +kernel
theorem dX11_row_17 : decode cX11_row 17 = .ok (.iload_n 2, 1) := by decide +kernel
theorem dX11_row_18 : decode cX11_row 18 = .ok (.iload_n 3, 1) := by decide +kernel
theorem dX11_row_19 : decode cX11_row 19 = .ok (.invokevirtual 97, 3) := by decide +kernel
theorem dX11_row_22 : decode cX11_row 22 = .ok (.ifCond .eq 19, 3) := by decide +kernel
theorem dX11_row_25 : decode cX11_row 25 = .ok (.lload 4, 2) := by decide +kernel
theorem dX11_row_27 : decode cX11_row 27 = .ok (.lconst 0, 1) := by decide +kernel
theorem dX11_row_28 : decode cX11_row 28 = .ok (.lcmp, 1) := by decide +kernel
theorem dX11_row_29 : decode cX11_row 29 = .ok (.ifCond .lt 12, 3) := by decide +kernel
theorem dX11_row_32 : decode cX11_row 32 = .ok (.lload 4, 2) := by decide +kernel
theorem dX11_row_34 : decode cX11_row 34 = .ok (.ldc2_w 111, 3) := by decide +kernel
theorem dX11_row_37 : decode cX11_row 37 = .ok (.lcmp, 1) := by decide +kernel
theorem dX11_row_38 : decode cX11_row 38 = .ok (.ifCond .le 5, 3) := by decide +kernel
theorem dX11_row_41 : decode cX11_row 41 = .ok (.iconst (-1), 1) := by decide +kernel
theorem dX11_row_42 : decode cX11_row 42 = .ok (.ireturn, 1) := by decide +kernel
theorem dX11_row_43 : decode cX11_row 43 = .ok (.bipush 8, 2) := by decide +kernel
theorem dX11_row_45 : decode cX11_row 45 = .ok (.aload 6, 2) := by decide +kernel
theorem dX11_row_47 : decode cX11_row 47 = .ok (.getfield 113, 3) := by decide +kernel
theorem dX11_row_50 : decode cX11_row 50 = .ok (.iload_n 2, 1) := by decide +kernel
theorem dX11_row_51 : decode cX11_row 51 = .ok (.isub, 1) := by decide +kernel
theorem dX11_row_52 : decode cX11_row 52 = .ok (.invokestatic 9, 3) := by decide +kernel
theorem dX11_row_55 : decode cX11_row 55 = .ok (.istore 7, 2) := by decide +kernel
theorem dX11_row_57 : decode cX11_row 57 = .ok (.lload 4, 2) := by decide +kernel
theorem dX11_row_59 : decode cX11_row 59 = .ok (.lstore 8, 2) := by decide +kernel
theorem dX11_row_61 : decode cX11_row 61 = .ok (.iconst 0, 1) := by decide +kernel
theorem dX11_row_62 : decode cX11_row 62 = .ok (.istore 10, 2) := by decide +kernel
theorem dX11_row_64 : decode cX11_row 64 = .ok (.iload 10, 2) := by decide +kernel
theorem dX11_row_66 : decode cX11_row 66 = .ok (.iload 7, 2) := by decide +kernel
theorem dX11_row_68 : decode cX11_row 68 = .ok (.if_icmp .ge 34, 3) := by decide +kernel
theorem dX11_row_71 : decode cX11_row 71 = .ok (.aload 6, 2) := by decide +kernel
theorem dX11_row_73 : decode cX11_row 73 = .ok (.iload_n 2, 1) := by decide +kernel
theorem dX11_row_74 : decode cX11_row 74 = .ok (.iload 10, 2) := by decide +kernel
theorem dX11_row_76 : decode cX11_row 76 = .ok (.iadd, 1) := by decide +kernel
theorem dX11_row_77 : decode cX11_row 77 = .ok (.iload_n 3, 1) := by decide +kernel
theorem dX11_row_78 : decode cX11_row 78 = .ok (.lload 8, 2) := by decide +kernel
theorem dX11_row_80 : decode cX11_row 80 = .ok (.ldc2_w 117, 3) := by decide +kernel
theorem dX11_row_83 : decode cX11_row 83 = .ok (.lrem, 1) := by decide +kernel
theorem dX11_row_84 : decode cX11_row 84 = .ok (.l2i, 1) := by decide +kernel
theorem dX11_row_85 : decode cX11_row 85 = .ok (.invokevirtual 107, 3) := by decide +kernel
theorem dX11_row_88 : decode cX11_row 88 = .ok (.lload 8, 2) := by decide +kernel
theorem dX11_row_90 : decode cX11_row 90 = .ok (.ldc2_w 117, 3) := by decide +kernel
theorem dX11_row_93 : decode cX11_row 93 = .ok (.ldiv, 1) := by decide +kernel
theorem dX11_row_94 : decode cX11_row 94 = .ok (.lstore 8, 2) := by decide +kernel
theorem dX11_row_96 : decode cX11_row 96 = .ok (.iinc 10 1, 3) := by decide +kernel
theorem dX11_row_99 : decode cX11_row 99 = .ok (.goto (-35), 3) := by decide +kernel
theorem dX11_row_102 : decode cX11_row 102 = .ok (.iload 7, 2) := by decide +kernel
theorem dX11_row_104 : decode cX11_row 104 = .ok (.ireturn, 1) := by decide +kernel
theorem dX11_at_0 : decode cX11_at 0 = .ok (.aload_n 0, 1) := by decide +kernel
theorem dX11_at_1 : decode cX11_at 1 = .ok (.getfield 23, 3) := by decide +kernel
theorem dX11_at_4 : decode cX11_at 4 = .ok (.iload_n 1, 1) := by decide +kernel
theorem dX11_at_5 : decode cX11_at 5 = .ok (.invokevirtual 93, 3) := by decide +kernel
theorem dX11_at_8 : decode cX11_at 8 = .ok (.astore 4, 2) := by decide +kernel
theorem dX11_at_10 : decode cX11_at 10 = .ok (.aload 4, 2) := by decide +kernel
theorem dX11_at_12 : decode cX11_at 12 = .ok (.ifnull 13, 3) := by decide +kernel
theorem dX11_at_15 : decode cX11_at 15 = .ok (.aload 4, 2) := by decide +kernel
theorem dX11_at_17 : decode cX11_at 17 = .ok (.iload_n 2, 1) := by decide +kernel
theorem dX11_at_18 : decode cX11_at 18 = .ok (.iload_n 3, 1) := by decide +kernel
theorem dX11_at_19 : decode cX11_at 19 = .ok (.invokevirtual 97, 3) := by decide +kernel
theorem dX11_at_22 : decode cX11_at 22 = .ok (.ifCond .ne 5, 3) := by decide +kernel
theorem dX11_at_25 : decode cX11_at 25 = .ok (.iconst (-1), 1) := by decide +kernel
theorem dX11_at_26 : decode cX11_at 26 = .ok (.ireturn, 1) := by decide +kernel
theorem dX11_at_27 : decode cX11_at 27 = .ok (.aload 4, 2) := by decide +kernel
theorem dX11_at_29 : decode cX11_at 29 = .ok (.iload_n 2, 1) := by decide +kernel
theorem dX11_at_30 : decode cX11_at 30 = .ok (.iload_n 3, 1) := by decide +kernel
theorem dX11_at_31 : decode cX11_at 31 = .ok (.invokevirtual 119, 3) := by decide +kernel
theorem dX11_at_34 : decode cX11_at 34 = .ok (.ireturn, 1) := by decide +kernel
theorem dX11_copy_0 : decode cX11_copy 0 = .ok (.aload_n 0, 1) := by decide +kernel
theorem dX11_copy_1 : decode cX11_copy 1 = .ok (.getfield 23, 3) := by decide +kernel
theorem dX11_copy_4 : decode cX11_copy 4 = .ok (.iload_n 1, 1) := by decide +kernel
theorem dX11_copy_5 : decode cX11_copy 5 = .ok (.invokevirtual 93, 3) := by decide +kernel
theorem dX11_copy_8 : decode cX11_copy 8 = .ok (.astore_n 3, 1) := by decide +kernel
theorem dX11_copy_9 : decode cX11_copy 9 = .ok (.aload_n 0, 1) := by decide +kernel
theorem dX11_copy_10 : decode cX11_copy 10 = .ok (.getfield 23, 3) := by decide +kernel
theorem dX11_copy_13 : decode cX11_copy 13 = .ok (.iload_n 2, 1) := by decide +kernel
theorem dX11_copy_14 : decode cX11_copy 14 = .ok (.invokevirtual 93, 3) := by decide +kernel
theorem dX11_copy_17 : decode cX11_copy 17 = .ok (.astore 4, 2) := by decide +kernel
theorem dX11_copy_19 : decode cX11_copy 19 = .ok (.aload_n 3, 1) := by decide +kernel
theorem dX11_copy_20 : decode cX11_copy 20 = .ok (.ifnull 8, 3) := by decide +kernel
theorem dX11_copy_23 : decode cX11_copy 23 = .ok (.aload 4, 2) := by decide +kernel
theorem dX11_copy_25 : decode cX11_copy 25 = .ok (.ifnonnull 5, 3) := by decide +kernel
theorem dX11_copy_28 : decode cX11_copy 28 = .ok (.iconst 0, 1) := by decide +kernel
theorem dX11_copy_29 : decode cX11_copy 29 = .ok (.ireturn, 1) := by decide +kernel
theorem dX11_copy_30 : decode cX11_copy 30 = .ok (.aload 4, 2) := by decide +kernel
theorem dX11_copy_32 : decode cX11_copy 32 = .ok (.aload_n 3, 1) := by decide +kernel
theorem dX11_copy_33 : decode cX11_copy 33 = .ok (.invokevirtual 122, 3) := by decide +kernel
theorem dX11_copy_36 : decode cX11_copy 36 = .ok (.iconst 1, 1) := by decide +kernel
theorem dX11_copy_37 : decode cX11_copy 37 = .ok (.ireturn, 1) := by decide +kernel
theorem dX11_shadow_0 : decode cX11_shadow 0 = .ok (.iload_n 1, 1) := by decide +kernel
theorem dX11_shadow_1 : decode cX11_shadow 1 = .ok (.iconst 1, 1) := by decide +kernel
theorem dX11_shadow_2 : decode cX11_shadow 2 = .ok (.bipush 99, 2) := by decide +kernel
theorem dX11_shadow_4 : decode cX11_shadow 4 = .ok (.invokestatic 103, 3) := by decide +kernel
theorem dX11_shadow_7 : decode cX11_shadow 7 = .ok (.ifCond .eq 15, 3) := by decide +kernel
theorem dX11_shadow_10 : decode cX11_shadow 10 = .ok (.iload_n 2, 1) := by decide +kernel
theorem dX11_shadow_11 : decode cX11_shadow 11 = .ok (.iload_n 3, 1) := by decide +kernel
theorem dX11_shadow_12 : decode cX11_shadow 12 = .ok (.invokestatic 126, 3) := by decide +kernel
theorem dX11_shadow_15 : decode cX11_shadow 15 = .ok (.ifCond .eq 7, 3) := by decide +kernel
theorem dX11_shadow_18 : decode cX11_shadow 18 = .ok (.iconst 1, 1) := by decide +kernel
theorem dX11_shadow_19 : decode cX11_shadow 19 = .ok (.goto 4, 3) := by decide +kernel
theorem dX11_shadow_22 : decode cX11_shadow 22 = .ok (.iconst 0, 1) := by decide +kernel
theorem dX11_shadow_23 : decode cX11_shadow 23 = .ok (.istore 7, 2) := by decide +kernel
theorem dX11_shadow_25 : decode cX11_shadow 25 = .ok (.iload 4, 2) := by decide +kernel
theorem dX11_shadow_27 : decode cX11_shadow 27 = .ok (.iconst 1, 1) := by decide +kernel
theorem dX11_shadow_28 : decode cX11_shadow 28 = .ok (.sipush 300, 3) := by decide +kernel
theorem dX11_shadow_31 : decode cX11_shadow 31 = .ok (.invokestatic 103, 3) := by decide +kernel
theorem dX11_shadow_34 : decode cX11_shadow 34 = .ok (.ifCond .eq 20, 3) := by decide +kernel
theorem dX11_shadow_37 : decode cX11_shadow 37 = .ok (.iload 5, 2) := by decide +kernel
theorem dX11_shadow_39 : decode cX11_shadow 39 = .ok (.iload 4, 2) := by decide +kernel
theorem dX11_shadow_41 : decode cX11_shadow 41 = .ok (.sipush 300, 3) := by decide +kernel
theorem dX11_shadow_44 : decode cX11_shadow 44 = .ok (.invokestatic 103, 3) := by decide +kernel
theorem dX11_shadow_47 : decode cX11_shadow 47 = .ok (.ifCond .eq 7, 3) := by decide +kernel
theorem dX11_shadow_50 : decode cX11_shadow 50 = .ok (.iconst 1, 1) := by decide +kernel
theorem dX11_shadow_51 : decode cX11_shadow 51 = .ok (.goto 4, 3) := by decide +kernel
theorem dX11_shadow_54 : decode cX11_shadow 54 = .ok (.iconst 0, 1) := by decide +kernel
theorem dX11_shadow_55 : decode cX11_shadow 55 = .ok (.istore 8, 2) := by decide +kernel
theorem dX11_shadow_57 : decode cX11_shadow 57 = .ok (.iload 7, 2) := by decide +kernel
theorem dX11_shadow_59 : decode cX11_shadow 59 = .ok (.ifCond .eq 31, 3) := by decide +kernel
theorem dX11_shadow_62 : decode cX11_shadow 62 = .ok (.iload 8, 2) := by decide +kernel
theorem dX11_shadow_64 : decode cX11_shadow 64 = .ok (.ifCond .eq 26, 3) := by decide +kernel
theorem dX11_shadow_67 : decode cX11_shadow 67 = .ok (.iload 6, 2) := by decide +kernel
theorem dX11_shadow_69 : decode cX11_shadow 69 = .ok (.iconst 0, 1) := by decide +kernel
theorem dX11_shadow_70 : decode cX11_shadow 70 = .ok (.bipush 20, 2) := by decide +kernel
theorem dX11_shadow_72 : decode cX11_shadow 72 = .ok (.invokestatic 103, 3) := by decide +kernel
theorem dX11_shadow_75 : decode cX11_shadow 75 = .ok (.ifCond .eq 15, 3) := by decide +kernel
theorem dX11_shadow_78 : decode cX11_shadow 78 = .ok (.aload_n 0, 1) := by decide +kernel
theorem dX11_shadow_79 : decode cX11_shadow 79 = .ok (.getfield 23, 3) := by decide +kernel
theorem dX11_shadow_82 : decode cX11_shadow 82 = .ok (.getfield 129, 3) := by decide +kernel
theorem dX11_shadow_85 : decode cX11_shadow 85 = .ok (.bipush 12, 2) := by decide +kernel
theorem dX11_shadow_87 : decode cX11_shadow 87 = .ok (.if_icmp .lt 5, 3) := by decide +kernel
theorem dX11_shadow_90 : decode cX11_shadow 90 = .ok (.iconst (-1), 1) := by decide +kernel
theorem dX11_shadow_91 : decode cX11_shadow 91 = .ok (.ireturn, 1) := by decide +kernel
theorem dX11_shadow_92 : decode cX11_shadow 92 = .ok (.aload_n 0, 1) := by decide +kernel
theorem dX11_shadow_93 : decode cX11_shadow 93 = .ok (.getfield 33, 3) := by decide +kernel
theorem dX11_shadow_96 : decode cX11_shadow 96 = .ok (.aload_n 0, 1) := by decide +kernel
theorem dX11_shadow_97 : decode cX11_shadow 97 = .ok (.getfield 23, 3) := by decide +kernel
theorem dX11_shadow_100 : decode cX11_shadow 100 = .ok (.getfield 129, 3) := by decide +kernel
theorem dX11_shadow_103 : decode cX11_shadow 103 = .ok (.iload_n 1, 1) := by decide +kernel
theorem dX11_shadow_104 : decode cX11_shadow 104 = .ok (.iload_n 2, 1) := by decide +kernel
theorem dX11_shadow_105 : decode cX11_shadow 105 = .ok (.iload_n 3, 1) := by decide +kernel
theorem dX11_shadow_106 : decode cX11_shadow 106 = .ok (.iload 4, 2) := by decide +kernel
theorem dX11_shadow_108 : decode cX11_shadow 108 = .ok (.iload 5, 2) := by decide +kernel
theorem dX11_shadow_110 : decode cX11_shadow 110 = .ok (.iload 6, 2) := by decide +kernel
theorem dX11_shadow_112 : decode cX11_shadow 112 = .ok (.invokevirtual 132, 3) := by decide +kernel
theorem dX11_shadow_115 : decode cX11_shadow 115 = .ok (.aload_n 0, 1) := by decide +kernel
theorem dX11_shadow_116 : decode cX11_shadow 116 = .ok (.getfield 23, 3) := by decide +kernel
theorem dX11_shadow_119 : decode cX11_shadow 119 = .ok (.dup, 1) := by decide +kernel
theorem dX11_shadow_120 : decode cX11_shadow 120 = .ok (.getfield 129, 3) := by decide +kernel
theorem dX11_shadow_123 : decode cX11_shadow 123 = .ok (.iconst 1, 1) := by decide +kernel
theorem dX11_shadow_124 : decode cX11_shadow 124 = .ok (.iadd, 1) := by decide +kernel
theorem dX11_shadow_125 : decode cX11_shadow 125 = .ok (.putfield 129, 3) := by decide +kernel
theorem dX11_shadow_128 : decode cX11_shadow 128 = .ok (.aload_n 0, 1) := by decide +kernel
theorem dX11_shadow_129 : decode cX11_shadow 129 = .ok (.getfield 23, 3) := by decide +kernel
theorem dX11_shadow_132 : decode cX11_shadow 132 = .ok (.getfield 129, 3) := by decide +kernel
theorem dX11_shadow_135 : decode cX11_shadow 135 = .ok (.iconst 1, 1) := by decide +kernel
theorem dX11_shadow_136 : decode cX11_shadow 136 = .ok (.isub, 1) := by decide +kernel
theorem dX11_shadow_137 : decode cX11_shadow 137 = .ok (.ireturn, 1) := by decide +kernel
theorem dX11_shine_0 : decode cX11_shine 0 = .ok (.iload_n 1, 1) := by decide +kernel
theorem dX11_shine_1 : decode cX11_shine 1 = .ok (.iconst 0, 1) := by decide +kernel
theorem dX11_shine_2 : decode cX11_shine 2 = .ok (.bipush 7, 2) := by decide +kernel
theorem dX11_shine_4 : decode cX11_shine 4 = .ok (.invokestatic 103, 3) := by decide +kernel
theorem dX11_shine_7 : decode cX11_shine 7 = .ok (.ifCond .eq 15, 3) := by decide +kernel
theorem dX11_shine_10 : decode cX11_shine 10 = .ok (.aload_n 0, 1) := by decide +kernel
theorem dX11_shine_11 : decode cX11_shine 11 = .ok (.getfield 23, 3) := by decide +kernel
theorem dX11_shine_14 : decode cX11_shine 14 = .ok (.getfield 136, 3) := by decide +kernel
theorem dX11_shine_17 : decode cX11_shine 17 = .ok (.bipush 8, 2) := by decide +kernel
theorem dX11_shine_19 : decode cX11_shine 19 = .ok (.if_icmp .lt 5, 3) := by decide +kernel
theorem dX11_shine_22 : decode cX11_shine 22 = .ok (.iconst (-1), 1) := by decide +kernel
theorem dX11_shine_23 : decode cX11_shine 23 = .ok (.ireturn, 1) := by decide +kernel
theorem dX11_shine_24 : decode cX11_shine 24 = .ok (.aload_n 0, 1) := by decide +kernel
theorem dX11_shine_25 : decode cX11_shine 25 = .ok (.getfield 33, 3) := by decide +kernel
theorem dX11_shine_28 : decode cX11_shine 28 = .ok (.bipush 12, 2) := by decide +kernel
theorem dX11_shine_30 : decode cX11_shine 30 = .ok (.aload_n 0, 1) := by decide +kernel
theorem dX11_shine_31 : decode cX11_shine 31 = .ok (.getfield 23, 3) := by decide +kernel
theorem dX11_shine_34 : decode cX11_shine 34 = .ok (.getfield 136, 3) := by decide +kernel
theorem dX11_shine_37 : decode cX11_shine 37 = .ok (.iadd, 1) := by decide +kernel
theorem dX11_shine_38 : decode cX11_shine 38 = .ok (.iload_n 1, 1) := by decide +kernel
theorem dX11_shine_39 : decode cX11_shine 39 = .ok (.invokevirtual 139, 3) := by decide +kernel
theorem dX11_shine_42 : decode cX11_shine 42 = .ok (.aload_n 0, 1) := by decide +kernel
theorem dX11_shine_43 : decode cX11_shine 43 = .ok (.getfield 23, 3) := by decide +kernel
theorem dX11_shine_46 : decode cX11_shine 46 = .ok (.dup, 1) := by decide +kernel
theorem dX11_shine_47 : decode cX11_shine 47 = .ok (.getfield 136, 3) := by decide +kernel
theorem dX11_shine_50 : decode cX11_shine 50 = .ok (.iconst 1, 1) := by decide +kernel
theorem dX11_shine_51 : decode cX11_shine 51 = .ok (.iadd, 1) := by decide +kernel
theorem dX11_shine_52 : decode cX11_shine 52 = .ok (.putfield 136, 3) := by decide +kernel
theorem dX11_shine_55 : decode cX11_shine 55 = .ok (.aload_n 0, 1) := by decide +kernel
theorem dX11_shine_56 : decode cX11_shine 56 = .ok (.getfield 23, 3) := by decide +kernel
theorem dX11_shine_59 : decode cX11_shine 59 = .ok (.getfield 136, 3) := by decide +kernel
theorem dX11_shine_62 : decode cX11_shine 62 = .ok (.iconst 1, 1) := by decide +kernel
theorem dX11_shine_63 : decode cX11_shine 63 = .ok (.isub, 1) := by decide +kernel
theorem dX11_shine_64 : decode cX11_shine 64 = .ok (.ireturn, 1) := by decide +kernel
theorem dX11_lamps_0 : decode cX11_lamps 0 = .ok (.aload_n 0, 1) := by decide +kernel
theorem dX11_lamps_1 : decode cX11_lamps 1 = .ok (.iload_n 1, 1) := by decide +kernel
theorem dX11_lamps_2 : decode cX11_lamps 2 = .ok (.invokevirtual 142, 3) := by decide +kernel
theorem dX11_lamps_5 : decode cX11_lamps 5 = .ok (.ifCond .eq 8, 3) := by decide +kernel
theorem dX11_lamps_8 : decode cX11_lamps 8 = .ok (.iload_n 2, 1) := by decide +kernel
theorem dX11_lamps_9 : decode cX11_lamps 9 = .ok (.iconst (-1), 1) := by decide +kernel
theorem dX11_lamps_10 : decode cX11_lamps 10 = .ok (.if_icmp .ge 5, 3) := by decide +kernel
theorem dX11_lamps_13 : decode cX11_lamps 13 = .ok (.iconst (-1), 1) := by decide +kernel
theorem dX11_lamps_14 : decode cX11_lamps 14 = .ok (.ireturn, 1) := by decide +kernel
theorem dX11_lamps_15 : decode cX11_lamps 15 = .ok (.iload_n 2, 1) := by decide +kernel
theorem dX11_lamps_16 : decode cX11_lamps 16 = .ok (.iconst (-1), 1) := by decide +kernel
theorem dX11_lamps_17 : decode cX11_lamps 17 = .ok (.if_icmp .ne 14, 3) := by decide +kernel
theorem dX11_lamps_20 : decode cX11_lamps 20 = .ok (.aload_n 0, 1) := by decide +kernel
theorem dX11_lamps_21 : decode cX11_lamps 21 = .ok (.getfield 33, 3) := by decide +kernel
theorem dX11_lamps_24 : decode cX11_lamps 24 = .ok (.iload_n 1, 1) := by decide +kernel
theorem dX11_lamps_25 : decode cX11_lamps 25 = .ok (.invokevirtual 146, 3) := by decide +kernel
theorem dX11_lamps_28 : decode cX11_lamps 28 = .ok (.goto 19, 3) := by decide +kernel
theorem dX11_lamps_31 : decode cX11_lamps 31 = .ok (.aload_n 0, 1) := by decide +kernel
theorem dX11_lamps_32 : decode cX11_lamps 32 = .ok (.getfield 33, 3) := by decide +kernel
theorem dX11_lamps_35 : decode cX11_lamps 35 = .ok (.aload_n 0, 1) := by decide +kernel
theorem dX11_lamps_36 : decode cX11_lamps 36 = .ok (.getfield 33, 3) := by decide +kernel
theorem dX11_lamps_39 : decode cX11_lamps 39 = .ok (.iload_n 1, 1) := by decide +kernel
theorem dX11_lamps_40 : decode cX11_lamps 40 = .ok (.iload_n 2, 1) := by decide +kernel
theorem dX11_lamps_41 : decode cX11_lamps 41 = .ok (.invokevirtual 150, 3) := by decide +kernel
theorem dX11_lamps_44 : decode cX11_lamps 44 = .ok (.invokevirtual 153, 3) := by decide +kernel
theorem dX11_lamps_47 : decode cX11_lamps 47 = .ok (.ireturn, 1) := by decide +kernel
theorem dX11_fight_0 : decode cX11_fight 0 = .ok (.aload_n 0, 1) := by decide +kernel
theorem dX11_fight_1 : decode cX11_fight 1 = .ok (.iload_n 1, 1) := by decide +kernel
theorem dX11_fight_2 : decode cX11_fight 2 = .ok (.invokevirtual 142, 3) := by decide +kernel
theorem dX11_fight_5 : decode cX11_fight 5 = .ok (.ifCond .eq 12, 3) := by decide +kernel
theorem dX11_fight_8 : decode cX11_fight 8 = .ok (.iload_n 2, 1) := by decide +kernel
theorem dX11_fight_9 : decode cX11_fight 9 = .ok (.iconst 0, 1) := by decide +kernel
theorem dX11_fight_10 : decode cX11_fight 10 = .ok (.iconst 2, 1) := by decide +kernel
theorem dX11_fight_11 : decode cX11_fight 11 = .ok (.invokestatic 103, 3) := by decide +kernel
theorem dX11_fight_14 : decode cX11_fight 14 = .ok (.ifCond .ne 5, 3) := by decide +kernel
theorem dX11_fight_17 : decode cX11_fight 17 = .ok (.iconst (-1), 1) := by decide +kernel
theorem dX11_fight_18 : decode cX11_fight 18 = .ok (.ireturn, 1) := by decide +kernel
theorem dX11_fight_19 : decode cX11_fight 19 = .ok (.aload_n 0, 1) := by decide +kernel
theorem dX11_fight_20 : decode cX11_fight 20 = .ok (.getfield 33, 3) := by decide +kernel
theorem dX11_fight_23 : decode cX11_fight 23 = .ok (.iload_n 1, 1) := by decide +kernel
theorem dX11_fight_24 : decode cX11_fight 24 = .ok (.invokevirtual 156, 3) := by decide +kernel
theorem dX11_fight_27 : decode cX11_fight 27 = .ok (.istore_n 3, 1) := by decide +kernel
theorem dX11_fight_28 : decode cX11_fight 28 = .ok (.iload_n 1, 1) := by decide +kernel
theorem dX11_fight_29 : decode cX11_fight 29 = .ok (.aload_n 0, 1) := by decide +kernel
theorem dX11_fight_30 : decode cX11_fight 30 = .ok (.getfield 33, 3) := by decide +kernel
theorem dX11_fight_33 : decode cX11_fight 33 = .ok (.iload_n 3, 1) := by decide +kernel
theorem dX11_fight_34 : decode cX11_fight 34 = .ok (.invokevirtual 159, 3) := by decide +kernel
theorem dX11_fight_37 : decode cX11_fight 37 = .ok (.iand, 1) := by decide +kernel
theorem dX11_fight_38 : decode cX11_fight 38 = .ok (.istore 4, 2) := by decide +kernel
theorem dX11_fight_40 : decode cX11_fight 40 = .ok (.iload_n 2, 1) := by decide +kernel
theorem dX11_fight_41 : decode cX11_fight 41 = .ok (.ifCond .ne 12, 3) := by decide +kernel
theorem dX11_fight_44 : decode cX11_fight 44 = .ok (.aload_n 0, 1) := by decide +kernel
theorem dX11_fight_45 : decode cX11_fight 45 = .ok (.getfield 33, 3) := by decide +kernel
theorem dX11_fight_48 : decode cX11_fight 48 = .ok (.iload_n 3, 1) := by decide +kernel
theorem dX11_fight_49 : decode cX11_fight 49 = .ok (.invokevirtual 153, 3) := by decide +kernel
theorem dX11_fight_52 : decode cX11_fight 52 = .ok (.ireturn, 1) := by decide +kernel
theorem dX11_fight_53 : decode cX11_fight 53 = .ok (.iload_n 2, 1) := by decide +kernel
theorem dX11_fight_54 : decode cX11_fight 54 = .ok (.iconst 1, 1) := by decide +kernel
theorem dX11_fight_55 : decode cX11_fight 55 = .ok (.if_icmp .ne 11, 3) := by decide +kernel
theorem dX11_fight_58 : decode cX11_fight 58 = .ok (.iload 4, 2) := by decide +kernel
theorem dX11_fight_60 : decode cX11_fight 60 = .ok (.invokestatic 162, 3) := by decide +kernel
theorem dX11_fight_63 : decode cX11_fight 63 = .ok (.goto 9, 3) := by decide +kernel
theorem dX11_fight_66 : decode cX11_fight 66 = .ok (.iload_n 1, 1) := by decide +kernel
theorem dX11_fight_67 : decode cX11_fight 67 = .ok (.iload 4, 2) := by decide +kernel
theorem dX11_fight_69 : decode cX11_fight 69 = .ok (.iconst (-1), 1) := by decide +kernel
theorem dX11_fight_70 : decode cX11_fight 70 = .ok (.ixor, 1) := by decide +kernel
theorem dX11_fight_71 : decode cX11_fight 71 = .ok (.iand, 1) := by decide +kernel
theorem dX11_fight_72 : decode cX11_fight 72 = .ok (.ireturn, 1) := by decide +kernel
theorem dX11_suns_0 : decode cX11_suns 0 = .ok (.aload_n 0, 1) := by decide +kernel
theorem dX11_suns_1 : decode cX11_suns 1 = .ok (.iload_n 1, 1) := by decide +kernel
theorem dX11_suns_2 : decode cX11_suns 2 = .ok (.invokevirtual 142, 3) := by decide +kernel
theorem dX11_suns_5 : decode cX11_suns 5 = .ok (.ifCond .eq 8, 3) := by decide +kernel
theorem dX11_suns_8 : decode cX11_suns 8 = .ok (.iload_n 2, 1) := by decide +kernel
theorem dX11_suns_9 : decode cX11_suns 9 = .ok (.iconst (-1), 1) := by decide +kernel
theorem dX11_suns_10 : decode cX11_suns 10 = .ok (.if_icmp .ge 5, 3) := by decide +kernel
theorem dX11_suns_13 : decode cX11_suns 13 = .ok (.iconst (-1), 1) := by decide +kernel
theorem dX11_suns_14 : decode cX11_suns 14 = .ok (.ireturn, 1) := by decide +kernel
theorem dX11_suns_15 : decode cX11_suns 15 = .ok (.aload_n 0, 1) := by decide +kernel
theorem dX11_suns_16 : decode cX11_suns 16 = .ok (.getfield 33, 3) := by decide +kernel
theorem dX11_suns_19 : decode cX11_suns 19 = .ok (.iload_n 1, 1) := by decide +kernel
theorem dX11_suns_20 : decode cX11_suns 20 = .ok (.invokevirtual 167, 3) := by decide +kernel
theorem dX11_suns_23 : decode cX11_suns 23 = .ok (.istore_n 3, 1) := by decide +kernel
theorem dX11_suns_24 : decode cX11_suns 24 = .ok (.iload_n 2, 1) := by decide +kernel
theorem dX11_suns_25 : decode cX11_suns 25 = .ok (.iconst (-1), 1) := by decide +kernel
theorem dX11_suns_26 : decode cX11_suns 26 = .ok (.if_icmp .ne 5, 3) := by decide +kernel
theorem dX11_suns_29 : decode cX11_suns 29 = .ok (.iload_n 3, 1) := by decide +kernel
theorem dX11_suns_30 : decode cX11_suns 30 = .ok (.ireturn, 1) := by decide +kernel
theorem dX11_suns_31 : decode cX11_suns 31 = .ok (.iload_n 2, 1) := by decide +kernel
theorem dX11_suns_32 : decode cX11_suns 32 = .ok (.iload_n 3, 1) := by decide +kernel
theorem dX11_suns_33 : decode cX11_suns 33 = .ok (.if_icmp .ge 22, 3) := by decide +kernel
theorem dX11_suns_36 : decode cX11_suns 36 = .ok (.aload_n 0, 1) := by decide +kernel
theorem dX11_suns_37 : decode cX11_suns 37 = .ok (.getfield 33, 3) := by decide +kernel
theorem dX11_suns_40 : decode cX11_suns 40 = .ok (.aload_n 0, 1) := by decide +kernel
theorem dX11_suns_41 : decode cX11_suns 41 = .ok (.getfield 33, 3) := by decide +kernel
theorem dX11_suns_44 : decode cX11_suns 44 = .ok (.iload_n 2, 1) := by decide +kernel
theorem dX11_suns_45 : decode cX11_suns 45 = .ok (.iload_n 3, 1) := by decide +kernel
theorem dX11_suns_46 : decode cX11_suns 46 = .ok (.invokevirtual 170, 3) := by decide +kernel
theorem dX11_suns_49 : decode cX11_suns 49 = .ok (.invokevirtual 153, 3) := by decide +kernel
theorem dX11_suns_52 : decode cX11_suns 52 = .ok (.goto 4, 3) := by decide +kernel
theorem dX11_suns_55 : decode cX11_suns 55 = .ok (.iconst (-1), 1) := by decide +kernel
theorem dX11_suns_56 : decode cX11_suns 56 = .ok (.ireturn, 1) := by decide +kernel
theorem dX11_line_0 : decode cX11_line 0 = .ok (.iload_n 1, 1) := by decide +kernel
theorem dX11_line_1 : decode cX11_line 1 = .ok (.iload_n 3, 1) := by decide +kernel
theorem dX11_line_2 : decode cX11_line 2 = .ok (.if_icmp .ne 9, 3) := by decide +kernel
theorem dX11_line_5 : decode cX11_line 5 = .ok (.iload_n 2, 1) := by decide +kernel
theorem dX11_line_6 : decode cX11_line 6 = .ok (.iload 4, 2) := by decide +kernel
theorem dX11_line_8 : decode cX11_line 8 = .ok (.if_icmp .eq 7, 3) := by decide +kernel
theorem dX11_line_11 : decode cX11_line 11 = .ok (.iconst 1, 1) := by decide +kernel
theorem dX11_line_12 : decode cX11_line 12 = .ok (.goto 4, 3) := by decide +kernel
theorem dX11_line_15 : decode cX11_line 15 = .ok (.iconst 0, 1) := by decide +kernel
theorem dX11_line_16 : decode cX11_line 16 = .ok (.istore 5, 2) := by decide +kernel
theorem dX11_line_18 : decode cX11_line 18 = .ok (.iload_n 1, 1) := by decide +kernel
theorem dX11_line_19 : decode cX11_line 19 = .ok (.iload_n 2, 1) := by decide +kernel
theorem dX11_line_20 : decode cX11_line 20 = .ok (.invokestatic 126, 3) := by decide +kernel
theorem dX11_line_23 : decode cX11_line 23 = .ok (.ifCond .eq 29, 3) := by decide +kernel
theorem dX11_line_26 : decode cX11_line 26 = .ok (.iload_n 3, 1) := by decide +kernel
theorem dX11_line_27 : decode cX11_line 27 = .ok (.iload 4, 2) := by decide +kernel
theorem dX11_line_29 : decode cX11_line 29 = .ok (.invokestatic 126, 3) := by decide +kernel
theorem dX11_line_32 : decode cX11_line 32 = .ok (.ifCond .eq 20, 3) := by decide +kernel
theorem dX11_line_35 : decode cX11_line 35 = .ok (.iload 5, 2) := by decide +kernel
theorem dX11_line_37 : decode cX11_line 37 = .ok (.ifCond .eq 15, 3) := by decide +kernel
theorem dX11_line_40 : decode cX11_line 40 = .ok (.aload_n 0, 1) := by decide +kernel
theorem dX11_line_41 : decode cX11_line 41 = .ok (.getfield 23, 3) := by decide +kernel
theorem dX11_line_44 : decode cX11_line 44 = .ok (.getfield 173, 3) := by decide +kernel
theorem dX11_line_47 : decode cX11_line 47 = .ok (.bipush 10, 2) := by decide +kernel
theorem dX11_line_49 : decode cX11_line 49 = .ok (.if_icmp .lt 5, 3) := by decide +kernel
theorem dX11_line_52 : decode cX11_line 52 = .ok (.iconst (-1), 1) := by decide +kernel
theorem dX11_line_53 : decode cX11_line 53 = .ok (.ireturn, 1) := by decide +kernel
theorem dX11_line_54 : decode cX11_line 54 = .ok (.aload_n 0, 1) := by decide +kernel
theorem dX11_line_55 : decode cX11_line 55 = .ok (.getfield 40, 3) := by decide +kernel
theorem dX11_line_58 : decode cX11_line 58 = .ok (.aload_n 0, 1) := by decide +kernel
theorem dX11_line_59 : decode cX11_line 59 = .ok (.getfield 23, 3) := by decide +kernel
theorem dX11_line_62 : decode cX11_line 62 = .ok (.getfield 173, 3) := by decide +kernel
theorem dX11_line_65 : decode cX11_line 65 = .ok (.iload_n 1, 1) := by decide +kernel
theorem dX11_line_66 : decode cX11_line 66 = .ok (.iload_n 2, 1) := by decide +kernel
theorem dX11_line_67 : decode cX11_line 67 = .ok (.iload_n 3, 1) := by decide +kernel
theorem dX11_line_68 : decode cX11_line 68 = .ok (.iload 4, 2) := by decide +kernel
theorem dX11_line_70 : decode cX11_line 70 = .ok (.invokevirtual 175, 3) := by decide +kernel
theorem dX11_line_73 : decode cX11_line 73 = .ok (.aload_n 0, 1) := by decide +kernel
theorem dX11_line_74 : decode cX11_line 74 = .ok (.getfield 23, 3) := by decide +kernel
theorem dX11_line_77 : decode cX11_line 77 = .ok (.dup, 1) := by decide +kernel
theorem dX11_line_78 : decode cX11_line 78 = .ok (.getfield 173, 3) := by decide +kernel
theorem dX11_line_81 : decode cX11_line 81 = .ok (.iconst 1, 1) := by decide +kernel
theorem dX11_line_82 : decode cX11_line 82 = .ok (.iadd, 1) := by decide +kernel
theorem dX11_line_83 : decode cX11_line 83 = .ok (.putfield 173, 3) := by decide +kernel
theorem dX11_line_86 : decode cX11_line 86 = .ok (.aload_n 0, 1) := by decide +kernel
theorem dX11_line_87 : decode cX11_line 87 = .ok (.getfield 23, 3) := by decide +kernel
theorem dX11_line_90 : decode cX11_line 90 = .ok (.getfield 173, 3) := by decide +kernel
theorem dX11_line_93 : decode cX11_line 93 = .ok (.iconst 1, 1) := by decide +kernel
theorem dX11_line_94 : decode cX11_line 94 = .ok (.isub, 1) := by decide +kernel
theorem dX11_line_95 : decode cX11_line 95 = .ok (.ireturn, 1) := by decide +kernel
theorem dX11_meet_0 : decode cX11_meet 0 = .ok (.iload_n 1, 1) := by decide +kernel
theorem dX11_meet_1 : decode cX11_meet 1 = .ok (.iconst 0, 1) := by decide +kernel
theorem dX11_meet_2 : decode cX11_meet 2 = .ok (.bipush 9, 2) := by decide +kernel
theorem dX11_meet_4 : decode cX11_meet 4 = .ok (.invokestatic 103, 3) := by decide +kernel
theorem dX11_meet_7 : decode cX11_meet 7 = .ok (.ifCond .eq 22, 3) := by decide +kernel
theorem dX11_meet_10 : decode cX11_meet 10 = .ok (.iload_n 2, 1) := by decide +kernel
theorem dX11_meet_11 : decode cX11_meet 11 = .ok (.iconst 0, 1) := by decide +kernel
theorem dX11_meet_12 : decode cX11_meet 12 = .ok (.iconst 3, 1) := by decide +kernel
theorem dX11_meet_13 : decode cX11_meet 13 = .ok (.invokestatic 103, 3) := by decide +kernel
theorem dX11_meet_16 : decode cX11_meet 16 = .ok (.ifCond .eq 13, 3) := by decide +kernel
theorem dX11_meet_19 : decode cX11_meet 19 = .ok (.aload_n 0, 1) := by decide +kernel
theorem dX11_meet_20 : decode cX11_meet 20 = .ok (.getfield 23, 3) := by decide +kernel
theorem dX11_meet_23 : decode cX11_meet 23 = .ok (.getfield 173, 3) := by decide +kernel
theorem dX11_meet_26 : decode cX11_meet 26 = .ok (.ifCond .ne 7, 3) := by decide +kernel
theorem dX11_meet_29 : decode cX11_meet 29 = .ok (.sipush (-1000), 3) := by decide +kernel
theorem dX11_meet_32 : decode cX11_meet 32 = .ok (.ireturn, 1) := by decide +kernel
theorem dX11_meet_33 : decode cX11_meet 33 = .ok (.aload_n 0, 1) := by decide +kernel
theorem dX11_meet_34 : decode cX11_meet 34 = .ok (.getfield 40, 3) := by decide +kernel
theorem dX11_meet_37 : decode cX11_meet 37 = .ok (.aload_n 0, 1) := by decide +kernel
theorem dX11_meet_38 : decode cX11_meet 38 = .ok (.getfield 23, 3) := by decide +kernel
theorem dX11_meet_41 : decode cX11_meet 41 = .ok (.getfield 173, 3) := by decide +kernel
theorem dX11_meet_44 : decode cX11_meet 44 = .ok (.iload_n 1, 1) := by decide +kernel
theorem dX11_meet_45 : decode cX11_meet 45 = .ok (.invokevirtual 178, 3) := by decide +kernel
theorem dX11_meet_48 : decode cX11_meet 48 = .ok (.iload_n 2, 1) := by decide +kernel
theorem dX11_meet_49 : decode cX11_meet 49 = .ok (.ifCond .ne 11, 3) := by decide +kernel
theorem dX11_meet_52 : decode cX11_meet 52 = .ok (.aload_n 0, 1) := by decide +kernel
theorem dX11_meet_53 : decode cX11_meet 53 = .ok (.getfield 40, 3) := by decide +kernel
theorem dX11_meet_56 : decode cX11_meet 56 = .ok (.getfield 181, 3) := by decide +kernel
theorem dX11_meet_59 : decode cX11_meet 59 = .ok (.ireturn, 1) := by decide +kernel
theorem dX11_meet_60 : decode cX11_meet 60 = .ok (.iload_n 2, 1) := by decide +kernel
theorem dX11_meet_61 : decode cX11_meet 61 = .ok (.iconst 1, 1) := by decide +kernel
theorem dX11_meet_62 : decode cX11_meet 62 = .ok (.if_icmp .ne 11, 3) := by decide +kernel
theorem dX11_meet_65 : decode cX11_meet 65 = .ok (.aload_n 0, 1) := by decide +kernel
theorem dX11_meet_66 : decode cX11_meet 66 = .ok (.getfield 40, 3) := by decide +kernel
theorem dX11_meet_69 : decode cX11_meet 69 = .ok (.getfield 184, 3) := by decide +kernel
theorem dX11_meet_72 : decode cX11_meet 72 = .ok (.ireturn, 1) := by decide +kernel
theorem dX11_meet_73 : decode cX11_meet 73 = .ok (.iload_n 2, 1) := by decide +kernel
theorem dX11_meet_74 : decode cX11_meet 74 = .ok (.iconst 2, 1) := by decide +kernel
theorem dX11_meet_75 : decode cX11_meet 75 = .ok (.if_icmp .ne 13, 3) := by decide +kernel
theorem dX11_meet_78 : decode cX11_meet 78 = .ok (.aload_n 0, 1) := by decide +kernel
theorem dX11_meet_79 : decode cX11_meet 79 = .ok (.getfield 40, 3) := by decide +kernel
theorem dX11_meet_82 : decode cX11_meet 82 = .ok (.getfield 187, 3) := by decide +kernel
theorem dX11_meet_85 : decode cX11_meet 85 = .ok (.goto 18, 3) := by decide +kernel
theorem dX11_meet_88 : decode cX11_meet 88 = .ok (.aload_n 0, 1) := by decide +kernel
theorem dX11_meet_89 : decode cX11_meet 89 = .ok (.getfield 40, 3) := by decide +kernel
theorem dX11_meet_92 : decode cX11_meet 92 = .ok (.aload_n 0, 1) := by decide +kernel
theorem dX11_meet_93 : decode cX11_meet 93 = .ok (.getfield 23, 3) := by decide +kernel
theorem dX11_meet_96 : decode cX11_meet 96 = .ok (.getfield 173, 3) := by decide +kernel
theorem dX11_meet_99 : decode cX11_meet 99 = .ok (.iload_n 1, 1) := by decide +kernel
theorem dX11_meet_100 : decode cX11_meet 100 = .ok (.invokevirtual 190, 3) := by decide +kernel
theorem dX11_meet_103 : decode cX11_meet 103 = .ok (.ireturn, 1) := by decide +kernel
theorem dX11_rough_0 : decode cX11_rough 0 = .ok (.aload_n 0, 1) := by decide +kernel
theorem dX11_rough_1 : decode cX11_rough 1 = .ok (.getfield 23, 3) := by decide +kernel
theorem dX11_rough_4 : decode cX11_rough 4 = .ok (.iload_n 1, 1) := by decide +kernel
theorem dX11_rough_5 : decode cX11_rough 5 = .ok (.invokevirtual 93, 3) := by decide +kernel
theorem dX11_rough_8 : decode cX11_rough 8 = .ok (.astore 6, 2) := by decide +kernel
theorem dX11_rough_10 : decode cX11_rough 10 = .ok (.aload 6, 2) := by decide +kernel
theorem dX11_rough_12 : decode cX11_rough 12 = .ok (.ifnull 17, 3) := by decide +kernel
theorem dX11_rough_15 : decode cX11_rough 15 = .ok (.aload 6, 2) := by decide +kernel
theorem dX11_rough_17 : decode cX11_rough 17 = .ok (.iload_n 2, 1) := by decide +kernel
theorem dX11_rough_18 : decode cX11_rough 18 = .ok (.iload_n 3, 1) := by decide +kernel
theorem dX11_rough_19 : decode cX11_rough 19 = .ok (.iload 4, 2) := by decide +kernel
theorem dX11_rough_21 : decode cX11_rough 21 = .ok (.iload 5, 2) := by decide +kernel
theorem dX11_rough_23 : decode cX11_rough 23 = .ok (.invokevirtual 193, 3) := by decide +kernel
theorem dX11_rough_26 : decode cX11_rough 26 = .ok (.ifCond .ne 5, 3) := by decide +kernel
theorem dX11_rough_29 : decode cX11_rough 29 = .ok (.iconst (-1), 1) := by decide +kernel
theorem dX11_rough_30 : decode cX11_rough 30 = .ok (.ireturn, 1) := by decide +kernel
theorem dX11_rough_31 : decode cX11_rough 31 = .ok (.aload 6, 2) := by decide +kernel
theorem dX11_rough_33 : decode cX11_rough 33 = .ok (.iload_n 2, 1) := by decide +kernel
theorem dX11_rough_34 : decode cX11_rough 34 = .ok (.iload_n 3, 1) := by decide +kernel
theorem dX11_rough_35 : decode cX11_rough 35 = .ok (.iload 4, 2) := by decide +kernel
theorem dX11_rough_37 : decode cX11_rough 37 = .ok (.iload 5, 2) := by decide +kernel
theorem dX11_rough_39 : decode cX11_rough 39 = .ok (.invokevirtual 197, 3) := by decide +kernel
theorem dX11_rough_42 : decode cX11_rough 42 = .ok (.ireturn, 1) := by decide +kernel
theorem dX11_grain_0 : decode cX11_grain 0 = .ok (.aload_n 0, 1) := by decide +kernel
theorem dX11_grain_1 : decode cX11_grain 1 = .ok (.getfield 23, 3) := by decide +kernel
theorem dX11_grain_4 : decode cX11_grain 4 = .ok (.iload_n 1, 1) := by decide +kernel
theorem dX11_grain_5 : decode cX11_grain 5 = .ok (.invokevirtual 93, 3) := by decide +kernel
theorem dX11_grain_8 : decode cX11_grain 8 = .ok (.astore 4, 2) := by decide +kernel
theorem dX11_grain_10 : decode cX11_grain 10 = .ok (.aload 4, 2) := by decide +kernel
theorem dX11_grain_12 : decode cX11_grain 12 = .ok (.ifnull 13, 3) := by decide +kernel
theorem dX11_grain_15 : decode cX11_grain 15 = .ok (.iload_n 2, 1) := by decide +kernel
theorem dX11_grain_16 : decode cX11_grain 16 = .ok (.iconst 2, 1) := by decide +kernel
theorem dX11_grain_17 : decode cX11_grain 17 = .ok (.bipush 99, 2) := by decide +kernel
theorem dX11_grain_19 : decode cX11_grain 19 = .ok (.invokestatic 103, 3) := by decide +kernel
theorem dX11_grain_22 : decode cX11_grain 22 = .ok (.ifCond .ne 5, 3) := by decide +kernel
theorem dX11_grain_25 : decode cX11_grain 25 = .ok (.iconst (-1), 1) := by decide +kernel
theorem dX11_grain_26 : decode cX11_grain 26 = .ok (.ireturn, 1) := by decide +kernel
theorem dX11_grain_27 : decode cX11_grain 27 = .ok (.aload_n 0, 1) := by decide +kernel
theorem dX11_grain_28 : decode cX11_grain 28 = .ok (.getfield 47, 3) := by decide +kernel
theorem dX11_grain_31 : decode cX11_grain 31 = .ok (.aload 4, 2) := by decide +kernel
theorem dX11_grain_33 : decode cX11_grain 33 = .ok (.invokevirtual 201, 3) := by decide +kernel
theorem dX11_grain_36 : decode cX11_grain 36 = .ok (.iload_n 3, 1) := by decide +kernel
theorem dX11_grain_37 : decode cX11_grain 37 = .ok (.ifCond .ne 11, 3) := by decide +kernel
theorem dX11_grain_40 : decode cX11_grain 40 = .ok (.aload_n 0, 1) := by decide +kernel
theorem dX11_grain_41 : decode cX11_grain 41 = .ok (.getfield 47, 3) := by decide +kernel
theorem dX11_grain_44 : decode cX11_grain 44 = .ok (.getfield 204, 3) := by decide +kernel
theorem dX11_grain_47 : decode cX11_grain 47 = .ok (.ireturn, 1) := by decide +kernel
theorem dX11_grain_48 : decode cX11_grain 48 = .ok (.iload_n 3, 1) := by decide +kernel
theorem dX11_grain_49 : decode cX11_grain 49 = .ok (.iconst 1, 1) := by decide +kernel
theorem dX11_grain_50 : decode cX11_grain 50 = .ok (.if_icmp .ne 11, 3) := by decide +kernel
theorem dX11_grain_53 : decode cX11_grain 53 = .ok (.aload_n 0, 1) := by decide +kernel
theorem dX11_grain_54 : decode cX11_grain 54 = .ok (.getfield 47, 3) := by decide +kernel
theorem dX11_grain_57 : decode cX11_grain 57 = .ok (.getfield 207, 3) := by decide +kernel
theorem dX11_grain_60 : decode cX11_grain 60 = .ok (.ireturn, 1) := by decide +kernel
theorem dX11_grain_61 : decode cX11_grain 61 = .ok (.iload_n 3, 1) := by decide +kernel
theorem dX11_grain_62 : decode cX11_grain 62 = .ok (.iconst 2, 1) := by decide +kernel
theorem dX11_grain_63 : decode cX11_grain 63 = .ok (.if_icmp .ne 12, 3) := by decide +kernel
theorem dX11_grain_66 : decode cX11_grain 66 = .ok (.aload_n 0, 1) := by decide +kernel
theorem dX11_grain_67 : decode cX11_grain 67 = .ok (.getfield 47, 3) := by decide +kernel
theorem dX11_grain_70 : decode cX11_grain 70 = .ok (.iload_n 2, 1) := by decide +kernel
theorem dX11_grain_71 : decode cX11_grain 71 = .ok (.invokevirtual 210, 3) := by decide +kernel
theorem dX11_grain_74 : decode cX11_grain 74 = .ok (.ireturn, 1) := by decide +kernel
theorem dX11_grain_75 : decode cX11_grain 75 = .ok (.iload_n 3, 1) := by decide +kernel
theorem dX11_grain_76 : decode cX11_grain 76 = .ok (.bipush 100, 2) := by decide +kernel
theorem dX11_grain_78 : decode cX11_grain 78 = .ok (.bipush 100, 2) := by decide +kernel
theorem dX11_grain_80 : decode cX11_grain 80 = .ok (.aload_n 0, 1) := by decide +kernel
theorem dX11_grain_81 : decode cX11_grain 81 = .ok (.getfield 47, 3) := by decide +kernel
theorem dX11_grain_84 : decode cX11_grain 84 = .ok (.getfield 204, 3) := by decide +kernel
theorem dX11_grain_87 : decode cX11_grain 87 = .ok (.iadd, 1) := by decide +kernel
theorem dX11_grain_88 : decode cX11_grain 88 = .ok (.iconst 1, 1) := by decide +kernel
theorem dX11_grain_89 : decode cX11_grain 89 = .ok (.isub, 1) := by decide +kernel
theorem dX11_grain_90 : decode cX11_grain 90 = .ok (.invokestatic 103, 3) := by decide +kernel
theorem dX11_grain_93 : decode cX11_grain 93 = .ok (.ifCond .ne 5, 3) := by decide +kernel
theorem dX11_grain_96 : decode cX11_grain 96 = .ok (.iconst (-1), 1) := by decide +kernel
theorem dX11_grain_97 : decode cX11_grain 97 = .ok (.ireturn, 1) := by decide +kernel
theorem dX11_grain_98 : decode cX11_grain 98 = .ok (.aload_n 0, 1) := by decide +kernel
theorem dX11_grain_99 : decode cX11_grain 99 = .ok (.getfield 47, 3) := by decide +kernel
theorem dX11_grain_102 : decode cX11_grain 102 = .ok (.iload_n 3, 1) := by decide +kernel
theorem dX11_grain_103 : decode cX11_grain 103 = .ok (.bipush 100, 2) := by decide +kernel
theorem dX11_grain_105 : decode cX11_grain 105 = .ok (.isub, 1) := by decide +kernel
theorem dX11_grain_106 : decode cX11_grain 106 = .ok (.iload_n 2, 1) := by decide +kernel
theorem dX11_grain_107 : decode cX11_grain 107 = .ok (.invokevirtual 213, 3) := by decide +kernel
theorem dX11_grain_110 : decode cX11_grain 110 = .ok (.ifCond .eq 7, 3) := by decide +kernel
theorem dX11_grain_113 : decode cX11_grain 113 = .ok (.iconst 1, 1) := by decide +kernel
theorem dX11_grain_114 : decode cX11_grain 114 = .ok (.goto 4, 3) := by decide +kernel
theorem dX11_grain_117 : decode cX11_grain 117 = .ok (.iconst 0, 1) := by decide +kernel
theorem dX11_grain_118 : decode cX11_grain 118 = .ok (.ireturn, 1) := by decide +kernel
theorem dX11_squares_0 : decode cX11_squares 0 = .ok (.aload_n 0, 1) := by decide +kernel
theorem dX11_squares_1 : decode cX11_squares 1 = .ok (.getfield 23, 3) := by decide +kernel
theorem dX11_squares_4 : decode cX11_squares 4 = .ok (.iload_n 1, 1) := by decide +kernel
theorem dX11_squares_5 : decode cX11_squares 5 = .ok (.invokevirtual 93, 3) := by decide +kernel
theorem dX11_squares_8 : decode cX11_squares 8 = .ok (.astore 7, 2) := by decide +kernel
theorem dX11_squares_10 : decode cX11_squares 10 = .ok (.aload 7, 2) := by decide +kernel
theorem dX11_squares_12 : decode cX11_squares 12 = .ok (.ifnull 29, 3) := by decide +kernel
theorem dX11_squares_15 : decode cX11_squares 15 = .ok (.iload 4, 2) := by decide +kernel
theorem dX11_squares_17 : decode cX11_squares 17 = .ok (.iconst 4, 1) := by decide +kernel
theorem dX11_squares_18 : decode cX11_squares 18 = .ok (.if_icmp .lt 23, 3) := by decide +kernel
theorem dX11_squares_21 : decode cX11_squares 21 = .ok (.iload 5, 2) := by decide +kernel
theorem dX11_squares_23 : decode cX11_squares 23 = .ok (.iconst 4, 1) := by decide +kernel
theorem dX11_squares_24 : decode cX11_squares 24 = .ok (.if_icmp .lt 17, 3) := by decide +kernel
theorem dX11_squares_27 : decode cX11_squares 27 = .ok (.aload 7, 2) := by decide +kernel
theorem dX11_squares_29 : decode cX11_squares 29 = .ok (.iload_n 2, 1) := by decide +kernel
theorem dX11_squares_30 : decode cX11_squares 30 = .ok (.iload_n 3, 1) := by decide +kernel
theorem dX11_squares_31 : decode cX11_squares 31 = .ok (.iload 4, 2) := by decide +kernel
theorem dX11_squares_33 : decode cX11_squares 33 = .ok (.iload 5, 2) := by decide +kernel
theorem dX11_squares_35 : decode cX11_squares 35 = .ok (.invokevirtual 193, 3) := by decide +kernel
theorem dX11_squares_38 : decode cX11_squares 38 = .ok (.ifCond .ne 5, 3) := by decide +kernel
theorem dX11_squares_41 : decode cX11_squares 41 = .ok (.iconst (-1), 1) := by decide +kernel
theorem dX11_squares_42 : decode cX11_squares 42 = .ok (.ireturn, 1) := by decide +kernel
theorem dX11_squares_43 : decode cX11_squares 43 = .ok (.aload_n 0, 1) := by decide +kernel
theorem dX11_squares_44 : decode cX11_squares 44 = .ok (.getfield 47, 3) := by decide +kernel
theorem dX11_squares_47 : decode cX11_squares 47 = .ok (.aload 7, 2) := by decide +kernel
theorem dX11_squares_49 : decode cX11_squares 49 = .ok (.iload_n 2, 1) := by decide +kernel
theorem dX11_squares_50 : decode cX11_squares 50 = .ok (.iload_n 3, 1) := by decide +kernel
theorem dX11_squares_51 : decode cX11_squares 51 = .ok (.iload 4, 2) := by decide +kernel
theorem dX11_squares_53 : decode cX11_squares 53 = .ok (.iload 5, 2) := by decide +kernel
theorem dX11_squares_55 : decode cX11_squares 55 = .ok (.iload 6, 2) := by decide +kernel
theorem dX11_squares_57 : decode cX11_squares 57 = .ok (.invokevirtual 216, 3) := by decide +kernel
theorem dX11_squares_60 : decode cX11_squares 60 = .ok (.ireturn, 1) := by decide +kernel
theorem dX11_twice_0 : decode cX11_twice 0 = .ok (.aload_n 0, 1) := by decide +kernel
theorem dX11_twice_1 : decode cX11_twice 1 = .ok (.getfield 23, 3) := by decide +kernel
theorem dX11_twice_4 : decode cX11_twice 4 = .ok (.iload_n 1, 1) := by decide +kernel
theorem dX11_twice_5 : decode cX11_twice 5 = .ok (.invokevirtual 93, 3) := by decide +kernel
theorem dX11_twice_8 : decode cX11_twice 8 = .ok (.astore 5, 2) := by decide +kernel
theorem dX11_twice_10 : decode cX11_twice 10 = .ok (.aload 5, 2) := by decide +kernel
theorem dX11_twice_12 : decode cX11_twice 12 = .ok (.ifnull 21, 3) := by decide +kernel
theorem dX11_twice_15 : decode cX11_twice 15 = .ok (.iload_n 2, 1) := by decide +kernel
theorem dX11_twice_16 : decode cX11_twice 16 = .ok (.iload_n 3, 1) := by decide +kernel
theorem dX11_twice_17 : decode cX11_twice 17 = .ok (.invokestatic 220, 3) := by decide +kernel
theorem dX11_twice_20 : decode cX11_twice 20 = .ok (.ifCond .eq 13, 3) := by decide +kernel
theorem dX11_twice_23 : decode cX11_twice 23 = .ok (.iload 4, 2) := by decide +kernel
theorem dX11_twice_25 : decode cX11_twice 25 = .ok (.iconst 0, 1) := by decide +kernel
theorem dX11_twice_26 : decode cX11_twice 26 = .ok (.iconst 4, 1) := by decide +kernel
theorem dX11_twice_27 : decode cX11_twice 27 = .ok (.invokestatic 103, 3) := by decide +kernel
theorem dX11_twice_30 : decode cX11_twice 30 = .ok (.ifCond .ne 5, 3) := by decide +kernel
theorem dX11_twice_33 : decode cX11_twice 33 = .ok (.iconst (-1), 1) := by decide +kernel
theorem dX11_twice_34 : decode cX11_twice 34 = .ok (.ireturn, 1) := by decide +kernel
theorem dX11_twice_35 : decode cX11_twice 35 = .ok (.aload_n 0, 1) := by decide +kernel
theorem dX11_twice_36 : decode cX11_twice 36 = .ok (.getfield 54, 3) := by decide +kernel
theorem dX11_twice_39 : decode cX11_twice 39 = .ok (.aload 5, 2) := by decide +kernel
theorem dX11_twice_41 : decode cX11_twice 41 = .ok (.iload_n 2, 1) := by decide +kernel
theorem dX11_twice_42 : decode cX11_twice 42 = .ok (.iload_n 3, 1) := by decide +kernel
theorem dX11_twice_43 : decode cX11_twice 43 = .ok (.invokevirtual 223, 3) := by decide +kernel
theorem dX11_twice_46 : decode cX11_twice 46 = .ok (.iload 4, 2) := by decide +kernel
theorem dX11_twice_48 : decode cX11_twice 48 = .ok (.ifCond .ne 13, 3) := by decide +kernel
theorem dX11_twice_51 : decode cX11_twice 51 = .ok (.aload_n 0, 1) := by decide +kernel
theorem dX11_twice_52 : decode cX11_twice 52 = .ok (.getfield 54, 3) := by decide +kernel
theorem dX11_twice_55 : decode cX11_twice 55 = .ok (.getfield 227, 3) := by decide +kernel
theorem dX11_twice_58 : decode cX11_twice 58 = .ok (.goto 12, 3) := by decide +kernel
theorem dX11_twice_61 : decode cX11_twice 61 = .ok (.aload_n 0, 1) := by decide +kernel
theorem dX11_twice_62 : decode cX11_twice 62 = .ok (.getfield 54, 3) := by decide +kernel
theorem dX11_twice_65 : decode cX11_twice 65 = .ok (.iload 4, 2) := by decide +kernel
theorem dX11_twice_67 : decode cX11_twice 67 = .ok (.invokevirtual 230, 3) := by decide +kernel
theorem dX11_twice_70 : decode cX11_twice 70 = .ok (.ireturn, 1) := by decide +kernel
theorem dX11_two_0 : decode cX11_two 0 = .ok (.aload_n 0, 1) := by decide +kernel
theorem dX11_two_1 : decode cX11_two 1 = .ok (.getfield 23, 3) := by decide +kernel
theorem dX11_two_4 : decode cX11_two 4 = .ok (.iload_n 1, 1) := by decide +kernel
theorem dX11_two_5 : decode cX11_two 5 = .ok (.invokevirtual 93, 3) := by decide +kernel
theorem dX11_two_8 : decode cX11_two 8 = .ok (.astore 4, 2) := by decide +kernel
theorem dX11_two_10 : decode cX11_two 10 = .ok (.aload_n 0, 1) := by decide +kernel
theorem dX11_two_11 : decode cX11_two 11 = .ok (.getfield 23, 3) := by decide +kernel
theorem dX11_two_14 : decode cX11_two 14 = .ok (.iload_n 2, 1) := by decide +kernel
theorem dX11_two_15 : decode cX11_two 15 = .ok (.invokevirtual 93, 3) := by decide +kernel
theorem dX11_two_18 : decode cX11_two 18 = .ok (.astore 5, 2) := by decide +kernel
theorem dX11_two_20 : decode cX11_two 20 = .ok (.iload_n 3, 1) := by decide +kernel
theorem dX11_two_21 : decode cX11_two 21 = .ok (.bipush 100, 2) := by decide +kernel
theorem dX11_two_23 : decode cX11_two 23 = .ok (.sipush 199, 3) := by decide +kernel
theorem dX11_two_26 : decode cX11_two 26 = .ok (.invokestatic 103, 3) := by decide +kernel
theorem dX11_two_29 : decode cX11_two 29 = .ok (.istore 6, 2) := by decide +kernel
theorem dX11_two_31 : decode cX11_two 31 = .ok (.aload 4, 2) := by decide +kernel
theorem dX11_two_33 : decode cX11_two 33 = .ok (.ifnull 22, 3) := by decide +kernel
theorem dX11_two_36 : decode cX11_two 36 = .ok (.aload 5, 2) := by decide +kernel
theorem dX11_two_38 : decode cX11_two 38 = .ok (.ifnull 17, 3) := by decide +kernel
theorem dX11_two_41 : decode cX11_two 41 = .ok (.iload 6, 2) := by decide +kernel
theorem dX11_two_43 : decode cX11_two 43 = .ok (.ifCond .ne 16, 3) := by decide +kernel
theorem dX11_two_46 : decode cX11_two 46 = .ok (.iload_n 3, 1) := by decide +kernel
theorem dX11_two_47 : decode cX11_two 47 = .ok (.iconst 0, 1) := by decide +kernel
theorem dX11_two_48 : decode cX11_two 48 = .ok (.iconst 3, 1) := by decide +kernel
theorem dX11_two_49 : decode cX11_two 49 = .ok (.invokestatic 103, 3) := by decide +kernel
theorem dX11_two_52 : decode cX11_two 52 = .ok (.ifCond .ne 7, 3) := by decide +kernel
theorem dX11_two_55 : decode cX11_two 55 = .ok (.sipush (-1000), 3) := by decide +kernel
theorem dX11_two_58 : decode cX11_two 58 = .ok (.ireturn, 1) := by decide +kernel
theorem dX11_two_59 : decode cX11_two 59 = .ok (.aload_n 0, 1) := by decide +kernel
theorem dX11_two_60 : decode cX11_two 60 = .ok (.getfield 61, 3) := by decide +kernel
theorem dX11_two_63 : decode cX11_two 63 = .ok (.aload 4, 2) := by decide +kernel
theorem dX11_two_65 : decode cX11_two 65 = .ok (.aload 5, 2) := by decide +kernel
theorem dX11_two_67 : decode cX11_two 67 = .ok (.invokevirtual 233, 3) := by decide +kernel
theorem dX11_two_70 : decode cX11_two 70 = .ok (.iload_n 3, 1) := by decide +kernel
theorem dX11_two_71 : decode cX11_two 71 = .ok (.ifCond .ne 11, 3) := by decide +kernel
theorem dX11_two_74 : decode cX11_two 74 = .ok (.aload_n 0, 1) := by decide +kernel
theorem dX11_two_75 : decode cX11_two 75 = .ok (.getfield 61, 3) := by decide +kernel
theorem dX11_two_78 : decode cX11_two 78 = .ok (.getfield 237, 3) := by decide +kernel
theorem dX11_two_81 : decode cX11_two 81 = .ok (.ireturn, 1) := by decide +kernel
theorem dX11_two_82 : decode cX11_two 82 = .ok (.iload_n 3, 1) := by decide +kernel
theorem dX11_two_83 : decode cX11_two 83 = .ok (.iconst 1, 1) := by decide +kernel
theorem dX11_two_84 : decode cX11_two 84 = .ok (.if_icmp .ne 11, 3) := by decide +kernel
theorem dX11_two_87 : decode cX11_two 87 = .ok (.aload_n 0, 1) := by decide +kernel
theorem dX11_two_88 : decode cX11_two 88 = .ok (.getfield 61, 3) := by decide +kernel
theorem dX11_two_91 : decode cX11_two 91 = .ok (.getfield 240, 3) := by decide +kernel
theorem dX11_two_94 : decode cX11_two 94 = .ok (.ireturn, 1) := by decide +kernel
theorem dX11_two_95 : decode cX11_two 95 = .ok (.iload_n 3, 1) := by decide +kernel
theorem dX11_two_96 : decode cX11_two 96 = .ok (.iconst 2, 1) := by decide +kernel
theorem dX11_two_97 : decode cX11_two 97 = .ok (.if_icmp .ne 11, 3) := by decide +kernel
theorem dX11_two_100 : decode cX11_two 100 = .ok (.aload_n 0, 1) := by decide +kernel
theorem dX11_two_101 : decode cX11_two 101 = .ok (.getfield 61, 3) := by decide +kernel
theorem dX11_two_104 : decode cX11_two 104 = .ok (.getfield 243, 3) := by decide +kernel
theorem dX11_two_107 : decode cX11_two 107 = .ok (.ireturn, 1) := by decide +kernel
theorem dX11_two_108 : decode cX11_two 108 = .ok (.iload_n 3, 1) := by decide +kernel
theorem dX11_two_109 : decode cX11_two 109 = .ok (.iconst 3, 1) := by decide +kernel
theorem dX11_two_110 : decode cX11_two 110 = .ok (.if_icmp .ne 13, 3) := by decide +kernel
theorem dX11_two_113 : decode cX11_two 113 = .ok (.aload_n 0, 1) := by decide +kernel
theorem dX11_two_114 : decode cX11_two 114 = .ok (.getfield 61, 3) := by decide +kernel
theorem dX11_two_117 : decode cX11_two 117 = .ok (.getfield 246, 3) := by decide +kernel
theorem dX11_two_120 : decode cX11_two 120 = .ok (.goto 18, 3) := by decide +kernel
theorem dX11_two_123 : decode cX11_two 123 = .ok (.aload_n 0, 1) := by decide +kernel
theorem dX11_two_124 : decode cX11_two 124 = .ok (.getfield 61, 3) := by decide +kernel
theorem dX11_two_127 : decode cX11_two 127 = .ok (.aload 4, 2) := by decide +kernel
theorem dX11_two_129 : decode cX11_two 129 = .ok (.aload 5, 2) := by decide +kernel
theorem dX11_two_131 : decode cX11_two 131 = .ok (.iload_n 3, 1) := by decide +kernel
theorem dX11_two_132 : decode cX11_two 132 = .ok (.bipush 100, 2) := by decide +kernel
theorem dX11_two_134 : decode cX11_two 134 = .ok (.isub, 1) := by decide +kernel
theorem dX11_two_135 : decode cX11_two 135 = .ok (.invokevirtual 249, 3) := by decide +kernel
theorem dX11_two_138 : decode cX11_two 138 = .ok (.ireturn, 1) := by decide +kernel
theorem dX11_feed_0 : decode cX11_feed 0 = .ok (.aload_n 0, 1) := by decide +kernel
theorem dX11_feed_1 : decode cX11_feed 1 = .ok (.getfield 68, 3) := by decide +kernel
theorem dX11_feed_4 : decode cX11_feed 4 = .ok (.getfield 253, 3) := by decide +kernel
theorem dX11_feed_7 : decode cX11_feed 7 = .ok (.bipush 20, 2) := by decide +kernel
theorem dX11_feed_9 : decode cX11_feed 9 = .ok (.iadd, 1) := by decide +kernel
theorem dX11_feed_10 : decode cX11_feed 10 = .ok (.sipush 300, 3) := by decide +kernel
theorem dX11_feed_13 : decode cX11_feed 13 = .ok (.if_icmp .le 5, 3) := by decide +kernel
theorem dX11_feed_16 : decode cX11_feed 16 = .ok (.iconst (-1), 1) := by decide +kernel
theorem dX11_feed_17 : decode cX11_feed 17 = .ok (.ireturn, 1) := by decide +kernel
theorem dX11_feed_18 : decode cX11_feed 18 = .ok (.aload_n 0, 1) := by decide +kernel
theorem dX11_feed_19 : decode cX11_feed 19 = .ok (.getfield 68, 3) := by decide +kernel
theorem dX11_feed_22 : decode cX11_feed 22 = .ok (.iload_n 1, 1) := by decide +kernel
theorem dX11_feed_23 : decode cX11_feed 23 = .ok (.invokevirtual 256, 3) := by decide +kernel
theorem dX11_feed_26 : decode cX11_feed 26 = .ok (.aload_n 0, 1) := by decide +kernel
theorem dX11_feed_27 : decode cX11_feed 27 = .ok (.getfield 68, 3) := by decide +kernel
theorem dX11_feed_30 : decode cX11_feed 30 = .ok (.iload_n 2, 1) := by decide +kernel
theorem dX11_feed_31 : decode cX11_feed 31 = .ok (.invokevirtual 256, 3) := by decide +kernel
theorem dX11_feed_34 : decode cX11_feed 34 = .ok (.aload_n 0, 1) := by decide +kernel
theorem dX11_feed_35 : decode cX11_feed 35 = .ok (.getfield 68, 3) := by decide +kernel
theorem dX11_feed_38 : decode cX11_feed 38 = .ok (.iload_n 3, 1) := by decide +kernel
theorem dX11_feed_39 : decode cX11_feed 39 = .ok (.invokevirtual 256, 3) := by decide +kernel
theorem dX11_feed_42 : decode cX11_feed 42 = .ok (.aload_n 0, 1) := by decide +kernel
theorem dX11_feed_43 : decode cX11_feed 43 = .ok (.getfield 68, 3) := by decide +kernel
theorem dX11_feed_46 : decode cX11_feed 46 = .ok (.iload 4, 2) := by decide +kernel
theorem dX11_feed_48 : decode cX11_feed 48 = .ok (.invokevirtual 256, 3) := by decide +kernel
theorem dX11_feed_51 : decode cX11_feed 51 = .ok (.aload_n 0, 1) := by decide +kernel
theorem dX11_feed_52 : decode cX11_feed 52 = .ok (.getfield 68, 3) := by decide +kernel
theorem dX11_feed_55 : decode cX11_feed 55 = .ok (.iload 5, 2) := by decide +kernel
theorem dX11_feed_57 : decode cX11_feed 57 = .ok (.invokevirtual 256, 3) := by decide +kernel
theorem dX11_feed_60 : decode cX11_feed 60 = .ok (.aload_n 0, 1) := by decide +kernel
theorem dX11_feed_61 : decode cX11_feed 61 = .ok (.getfield 68, 3) := by decide +kernel
theorem dX11_feed_64 : decode cX11_feed 64 = .ok (.getfield 253, 3) := by decide +kernel
theorem dX11_feed_67 : decode cX11_feed 67 = .ok (.ireturn, 1) := by decide +kernel
theorem dX11_end_0 : decode cX11_end 0 = .ok (.iload_n 1, 1) := by decide +kernel
theorem dX11_end_1 : decode cX11_end 1 = .ok (.iconst 0, 1) := by decide +kernel
theorem dX11_end_2 : decode cX11_end 2 = .ok (.aload_n 0, 1) := by decide +kernel
theorem dX11_end_3 : decode cX11_end 3 = .ok (.getfield 68, 3) := by decide +kernel
theorem dX11_end_6 : decode cX11_end 6 = .ok (.getfield 253, 3) := by decide +kernel
theorem dX11_end_9 : decode cX11_end 9 = .ok (.invokestatic 103, 3) := by decide +kernel
theorem dX11_end_12 : decode cX11_end 12 = .ok (.ifCond .ne 5, 3) := by decide +kernel
theorem dX11_end_15 : decode cX11_end 15 = .ok (.iconst (-1), 1) := by decide +kernel
theorem dX11_end_16 : decode cX11_end 16 = .ok (.ireturn, 1) := by decide +kernel
theorem dX11_end_17 : decode cX11_end 17 = .ok (.aload_n 0, 1) := by decide +kernel
theorem dX11_end_18 : decode cX11_end 18 = .ok (.getfield 68, 3) := by decide +kernel
theorem dX11_end_21 : decode cX11_end 21 = .ok (.iload_n 1, 1) := by decide +kernel
theorem dX11_end_22 : decode cX11_end 22 = .ok (.putfield 253, 3) := by decide +kernel
theorem dX11_end_25 : decode cX11_end 25 = .ok (.iload_n 1, 1) := by decide +kernel
theorem dX11_end_26 : decode cX11_end 26 = .ok (.ireturn, 1) := by decide +kernel
theorem dX11_text_0 : decode cX11_text 0 = .ok (.aload_n 0, 1) := by decide +kernel
theorem dX11_text_1 : decode cX11_text 1 = .ok (.getfield 23, 3) := by decide +kernel
theorem dX11_text_4 : decode cX11_text 4 = .ok (.getfield 260, 3) := by decide +kernel
theorem dX11_text_7 : decode cX11_text 7 = .ok (.iconst 0, 1) := by decide +kernel
theorem dX11_text_8 : decode cX11_text 8 = .ok (.aload_n 0, 1) := by decide +kernel
theorem dX11_text_9 : decode cX11_text 9 = .ok (.getfield 88, 3) := by decide +kernel
theorem dX11_text_12 : decode cX11_text 12 = .ok (.arraylength, 1) := by decide +kernel
theorem dX11_text_13 : decode cX11_text 13 = .ok (.iconst 1, 1) := by decide +kernel
theorem dX11_text_14 : decode cX11_text 14 = .ok (.isub, 1) := by decide +kernel
theorem dX11_text_15 : decode cX11_text 15 = .ok (.invokestatic 103, 3) := by decide +kernel
theorem dX11_text_18 : decode cX11_text 18 = .ok (.ifCond .eq 18, 3) := by decide +kernel
theorem dX11_text_21 : decode cX11_text 21 = .ok (.aload_n 0, 1) := by decide +kernel
theorem dX11_text_22 : decode cX11_text 22 = .ok (.getfield 88, 3) := by decide +kernel
theorem dX11_text_25 : decode cX11_text 25 = .ok (.aload_n 0, 1) := by decide +kernel
theorem dX11_text_26 : decode cX11_text 26 = .ok (.getfield 23, 3) := by decide +kernel
theorem dX11_text_29 : decode cX11_text 29 = .ok (.getfield 260, 3) := by decide +kernel
theorem dX11_text_32 : decode cX11_text 32 = .ok (.aaload, 1) := by decide +kernel
theorem dX11_text_33 : decode cX11_text 33 = .ok (.ifnonnull 5, 3) := by decide +kernel
theorem dX11_text_36 : decode cX11_text 36 = .ok (.iconst (-1), 1) := by decide +kernel
theorem dX11_text_37 : decode cX11_text 37 = .ok (.ireturn, 1) := by decide +kernel
theorem dX11_text_38 : decode cX11_text 38 = .ok (.aload_n 0, 1) := by decide +kernel
theorem dX11_text_39 : decode cX11_text 39 = .ok (.getfield 68, 3) := by decide +kernel
theorem dX11_text_42 : decode cX11_text 42 = .ok (.aload_n 0, 1) := by decide +kernel
theorem dX11_text_43 : decode cX11_text 43 = .ok (.getfield 88, 3) := by decide +kernel
theorem dX11_text_46 : decode cX11_text 46 = .ok (.aload_n 0, 1) := by decide +kernel
theorem dX11_text_47 : decode cX11_text 47 = .ok (.getfield 23, 3) := by decide +kernel
theorem dX11_text_50 : decode cX11_text 50 = .ok (.getfield 260, 3) := by decide +kernel
theorem dX11_text_53 : decode cX11_text 53 = .ok (.aaload, 1) := by decide +kernel
theorem dX11_text_54 : decode cX11_text 54 = .ok (.invokevirtual 263, 3) := by decide +kernel
theorem dX11_text_57 : decode cX11_text 57 = .ok (.aload_n 0, 1) := by decide +kernel
theorem dX11_text_58 : decode cX11_text 58 = .ok (.getfield 68, 3) := by decide +kernel
theorem dX11_text_61 : decode cX11_text 61 = .ok (.iconst 0, 1) := by decide +kernel
theorem dX11_text_62 : decode cX11_text 62 = .ok (.putfield 253, 3) := by decide +kernel
theorem dX11_text_65 : decode cX11_text 65 = .ok (.aload_n 0, 1) := by decide +kernel
theorem dX11_text_66 : decode cX11_text 66 = .ok (.getfield 68, 3) := by decide +kernel
theorem dX11_text_69 : decode cX11_text 69 = .ok (.getfield 267, 3) := by decide +kernel
theorem dX11_text_72 : decode cX11_text 72 = .ok (.ifCond .eq 5, 3) := by decide +kernel
theorem dX11_text_75 : decode cX11_text 75 = .ok (.iconst (-1), 1) := by decide +kernel
theorem dX11_text_76 : decode cX11_text 76 = .ok (.ireturn, 1) := by decide +kernel
theorem dX11_text_77 : decode cX11_text 77 = .ok (.aload_n 0, 1) := by decide +kernel
theorem dX11_text_78 : decode cX11_text 78 = .ok (.getfield 23, 3) := by decide +kernel
theorem dX11_text_81 : decode cX11_text 81 = .ok (.dup, 1) := by decide +kernel
theorem dX11_text_82 : decode cX11_text 82 = .ok (.getfield 260, 3) := by decide +kernel
theorem dX11_text_85 : decode cX11_text 85 = .ok (.iconst 1, 1) := by decide +kernel
theorem dX11_text_86 : decode cX11_text 86 = .ok (.iadd, 1) := by decide +kernel
theorem dX11_text_87 : decode cX11_text 87 = .ok (.putfield 260, 3) := by decide +kernel
theorem dX11_text_90 : decode cX11_text 90 = .ok (.aload_n 0, 1) := by decide +kernel
theorem dX11_text_91 : decode cX11_text 91 = .ok (.getfield 23, 3) := by decide +kernel
theorem dX11_text_94 : decode cX11_text 94 = .ok (.getfield 260, 3) := by decide +kernel
theorem dX11_text_97 : decode cX11_text 97 = .ok (.iconst 1, 1) := by decide +kernel
theorem dX11_text_98 : decode cX11_text 98 = .ok (.isub, 1) := by decide +kernel
theorem dX11_text_99 : decode cX11_text 99 = .ok (.ireturn, 1) := by decide +kernel
theorem dX11_fault_0 : decode cX11_fault 0 = .ok (.aload_n 0, 1) := by decide +kernel
theorem dX11_fault_1 : decode cX11_fault 1 = .ok (.getfield 68, 3) := by decide +kernel
theorem dX11_fault_4 : decode cX11_fault 4 = .ok (.getfield 270, 3) := by decide +kernel
theorem dX11_fault_7 : decode cX11_fault 7 = .ok (.ifCond .eq 12, 3) := by decide +kernel
theorem dX11_fault_10 : decode cX11_fault 10 = .ok (.iload_n 1, 1) := by decide +kernel
theorem dX11_fault_11 : decode cX11_fault 11 = .ok (.iconst 0, 1) := by decide +kernel
theorem dX11_fault_12 : decode cX11_fault 12 = .ok (.iconst 1, 1) := by decide +kernel
theorem dX11_fault_13 : decode cX11_fault 13 = .ok (.invokestatic 103, 3) := by decide +kernel
theorem dX11_fault_16 : decode cX11_fault 16 = .ok (.ifCond .ne 5, 3) := by decide +kernel
theorem dX11_fault_19 : decode cX11_fault 19 = .ok (.iconst (-1), 1) := by decide +kernel
theorem dX11_fault_20 : decode cX11_fault 20 = .ok (.ireturn, 1) := by decide +kernel
theorem dX11_fault_21 : decode cX11_fault 21 = .ok (.iload_n 1, 1) := by decide +kernel
theorem dX11_fault_22 : decode cX11_fault 22 = .ok (.ifCond .ne 13, 3) := by decide +kernel
theorem dX11_fault_25 : decode cX11_fault 25 = .ok (.aload_n 0, 1) := by decide +kernel
theorem dX11_fault_26 : decode cX11_fault 26 = .ok (.getfield 68, 3) := by decide +kernel
theorem dX11_fault_29 : decode cX11_fault 29 = .ok (.getfield 267, 3) := by decide +kernel
theorem dX11_fault_32 : decode cX11_fault 32 = .ok (.goto 10, 3) := by decide +kernel
theorem dX11_fault_35 : decode cX11_fault 35 = .ok (.aload_n 0, 1) := by decide +kernel
theorem dX11_fault_36 : decode cX11_fault 36 = .ok (.getfield 68, 3) := by decide +kernel
theorem dX11_fault_39 : decode cX11_fault 39 = .ok (.getfield 274, 3) := by decide +kernel
theorem dX11_fault_42 : decode cX11_fault 42 = .ok (.ireturn, 1) := by decide +kernel
theorem dX11_act_0 : decode cX11_act 0 = .ok (.aload_n 0, 1) := by decide +kernel
theorem dX11_act_1 : decode cX11_act 1 = .ok (.getfield 23, 3) := by decide +kernel
theorem dX11_act_4 : decode cX11_act 4 = .ok (.iload_n 2, 1) := by decide +kernel
theorem dX11_act_5 : decode cX11_act 5 = .ok (.invokevirtual 93, 3) := by decide +kernel
theorem dX11_act_8 : decode cX11_act 8 = .ok (.astore_n 3, 1) := by decide +kernel
theorem dX11_act_9 : decode cX11_act 9 = .ok (.aload_n 3, 1) := by decide +kernel
theorem dX11_act_10 : decode cX11_act 10 = .ok (.ifnull 29, 3) := by decide +kernel
theorem dX11_act_13 : decode cX11_act 13 = .ok (.iload_n 1, 1) := by decide +kernel
theorem dX11_act_14 : decode cX11_act 14 = .ok (.iconst 0, 1) := by decide +kernel
theorem dX11_act_15 : decode cX11_act 15 = .ok (.aload_n 0, 1) := by decide +kernel
theorem dX11_act_16 : decode cX11_act 16 = .ok (.getfield 23, 3) := by decide +kernel
theorem dX11_act_19 : decode cX11_act 19 = .ok (.getfield 260, 3) := by decide +kernel
theorem dX11_act_22 : decode cX11_act 22 = .ok (.iconst 1, 1) := by decide +kernel
theorem dX11_act_23 : decode cX11_act 23 = .ok (.isub, 1) := by decide +kernel
theorem dX11_act_24 : decode cX11_act 24 = .ok (.invokestatic 103, 3) := by decide +kernel
theorem dX11_act_27 : decode cX11_act 27 = .ok (.ifCond .eq 12, 3) := by decide +kernel
theorem dX11_act_30 : decode cX11_act 30 = .ok (.iload_n 1, 1) := by decide +kernel
theorem dX11_act_31 : decode cX11_act 31 = .ok (.aload_n 0, 1) := by decide +kernel
theorem dX11_act_32 : decode cX11_act 32 = .ok (.getfield 88, 3) := by decide +kernel
theorem dX11_act_35 : decode cX11_act 35 = .ok (.arraylength, 1) := by decide +kernel
theorem dX11_act_36 : decode cX11_act 36 = .ok (.if_icmp .lt 5, 3) := by decide +kernel
theorem dX11_act_39 : decode cX11_act 39 = .ok (.iconst (-1), 1) := by decide +kernel
theorem dX11_act_40 : decode cX11_act 40 = .ok (.ireturn, 1) := by decide +kernel
theorem dX11_act_41 : decode cX11_act 41 = .ok (.aload_n 0, 1) := by decide +kernel
theorem dX11_act_42 : decode cX11_act 42 = .ok (.getfield 75, 3) := by decide +kernel
theorem dX11_act_45 : decode cX11_act 45 = .ok (.aload_n 0, 1) := by decide +kernel
theorem dX11_act_46 : decode cX11_act 46 = .ok (.getfield 88, 3) := by decide +kernel
theorem dX11_act_49 : decode cX11_act 49 = .ok (.iload_n 1, 1) := by decide +kernel
theorem dX11_act_50 : decode cX11_act 50 = .ok (.aaload, 1) := by decide +kernel
theorem dX11_act_51 : decode cX11_act 51 = .ok (.aload_n 3, 1) := by decide +kernel
theorem dX11_act_52 : decode cX11_act 52 = .ok (.aload_n 0, 1) := by decide +kernel
theorem dX11_act_53 : decode cX11_act 53 = .ok (.getfield 23, 3) := by decide +kernel
theorem dX11_act_56 : decode cX11_act 56 = .ok (.invokevirtual 277, 3) := by decide +kernel
theorem dX11_act_59 : decode cX11_act 59 = .ok (.ireturn, 1) := by decide +kernel
theorem dX11_story_0 : decode cX11_story 0 = .ok (.aload_n 0, 1) := by decide +kernel
theorem dX11_story_1 : decode cX11_story 1 = .ok (.getfield 23, 3) := by decide +kernel
theorem dX11_story_4 : decode cX11_story 4 = .ok (.iload_n 1, 1) := by decide +kernel
theorem dX11_story_5 : decode cX11_story 5 = .ok (.invokevirtual 93, 3) := by decide +kernel
theorem dX11_story_8 : decode cX11_story 8 = .ok (.astore 4, 2) := by decide +kernel
theorem dX11_story_10 : decode cX11_story 10 = .ok (.aload_n 0, 1) := by decide +kernel
theorem dX11_story_11 : decode cX11_story 11 = .ok (.getfield 23, 3) := by decide +kernel
theorem dX11_story_14 : decode cX11_story 14 = .ok (.iload_n 2, 1) := by decide +kernel
theorem dX11_story_15 : decode cX11_story 15 = .ok (.invokevirtual 93, 3) := by decide +kernel
theorem dX11_story_18 : decode cX11_story 18 = .ok (.astore 5, 2) := by decide +kernel
theorem dX11_story_20 : decode cX11_story 20 = .ok (.aload 4, 2) := by decide +kernel
theorem dX11_story_22 : decode cX11_story 22 = .ok (.ifnull 14, 3) := by decide +kernel
theorem dX11_story_25 : decode cX11_story 25 = .ok (.aload 5, 2) := by decide +kernel
theorem dX11_story_27 : decode cX11_story 27 = .ok (.ifnull 9, 3) := by decide +kernel
theorem dX11_story_30 : decode cX11_story 30 = .ok (.iload_n 3, 1) := by decide +kernel
theorem dX11_story_31 : decode cX11_story 31 = .ok (.bipush (-2), 2) := by decide +kernel
theorem dX11_story_33 : decode cX11_story 33 = .ok (.if_icmp .ge 5, 3) := by decide +kernel
theorem dX11_story_36 : decode cX11_story 36 = .ok (.iconst (-1), 1) := by decide +kernel
theorem dX11_story_37 : decode cX11_story 37 = .ok (.ireturn, 1) := by decide +kernel
theorem dX11_story_38 : decode cX11_story 38 = .ok (.aload_n 0, 1) := by decide +kernel
theorem dX11_story_39 : decode cX11_story 39 = .ok (.getfield 82, 3) := by decide +kernel
theorem dX11_story_42 : decode cX11_story 42 = .ok (.aload 4, 2) := by decide +kernel
theorem dX11_story_44 : decode cX11_story 44 = .ok (.aload 5, 2) := by decide +kernel
theorem dX11_story_46 : decode cX11_story 46 = .ok (.aload_n 0, 1) := by decide +kernel
theorem dX11_story_47 : decode cX11_story 47 = .ok (.getfield 23, 3) := by decide +kernel
theorem dX11_story_50 : decode cX11_story 50 = .ok (.aload_n 0, 1) := by decide +kernel
theorem dX11_story_51 : decode cX11_story 51 = .ok (.getfield 88, 3) := by decide +kernel
theorem dX11_story_54 : decode cX11_story 54 = .ok (.aload_n 0, 1) := by decide +kernel
theorem dX11_story_55 : decode cX11_story 55 = .ok (.getfield 75, 3) := by decide +kernel
theorem dX11_story_58 : decode cX11_story 58 = .ok (.invokevirtual 281, 3) := by decide +kernel
theorem dX11_story_61 : decode cX11_story 61 = .ok (.aload_n 0, 1) := by decide +kernel
theorem dX11_story_62 : decode cX11_story 62 = .ok (.getfield 82, 3) := by decide +kernel
theorem dX11_story_65 : decode cX11_story 65 = .ok (.getfield 285, 3) := by decide +kernel
theorem dX11_story_68 : decode cX11_story 68 = .ok (.iconst (-1), 1) := by decide +kernel
theorem dX11_story_69 : decode cX11_story 69 = .ok (.if_icmp .ne 5, 3) := by decide +kernel
theorem dX11_story_72 : decode cX11_story 72 = .ok (.iconst (-1), 1) := by decide +kernel
theorem dX11_story_73 : decode cX11_story 73 = .ok (.ireturn, 1) := by decide +kernel
theorem dX11_story_74 : decode cX11_story 74 = .ok (.iload_n 3, 1) := by decide +kernel
theorem dX11_story_75 : decode cX11_story 75 = .ok (.bipush (-2), 2) := by decide +kernel
theorem dX11_story_77 : decode cX11_story 77 = .ok (.if_icmp .ne 11, 3) := by decide +kernel
theorem dX11_story_80 : decode cX11_story 80 = .ok (.aload_n 0, 1) := by decide +kernel
theorem dX11_story_81 : decode cX11_story 81 = .ok (.getfield 82, 3) := by decide +kernel
theorem dX11_story_84 : decode cX11_story 84 = .ok (.getfield 286, 3) := by decide +kernel
theorem dX11_story_87 : decode cX11_story 87 = .ok (.ireturn, 1) := by decide +kernel
theorem dX11_story_88 : decode cX11_story 88 = .ok (.iload_n 3, 1) := by decide +kernel
theorem dX11_story_89 : decode cX11_story 89 = .ok (.iconst (-1), 1) := by decide +kernel
theorem dX11_story_90 : decode cX11_story 90 = .ok (.if_icmp .ne 13, 3) := by decide +kernel
theorem dX11_story_93 : decode cX11_story 93 = .ok (.aload_n 0, 1) := by decide +kernel
theorem dX11_story_94 : decode cX11_story 94 = .ok (.getfield 82, 3) := by decide +kernel
theorem dX11_story_97 : decode cX11_story 97 = .ok (.getfield 285, 3) := by decide +kernel
theorem dX11_story_100 : decode cX11_story 100 = .ok (.goto 11, 3) := by decide +kernel
theorem dX11_story_103 : decode cX11_story 103 = .ok (.aload_n 0, 1) := by decide +kernel
theorem dX11_story_104 : decode cX11_story 104 = .ok (.getfield 82, 3) := by decide +kernel
theorem dX11_story_107 : decode cX11_story 107 = .ok (.iload_n 3, 1) := by decide +kernel
theorem dX11_story_108 : decode cX11_story 108 = .ok (.invokevirtual 287, 3) := by decide +kernel
theorem dX11_story_111 : decode cX11_story 111 = .ok (.ireturn, 1) := by decide +kernel
theorem dX11_maker_0 : decode cX11_maker 0 = .ok (.iload_n 1, 1) := by decide +kernel
theorem dX11_maker_1 : decode cX11_maker 1 = .ok (.invokestatic 290, 3) := by decide +kernel
theorem dX11_maker_4 : decode cX11_maker 4 = .ok (.ifCond .eq 13, 3) := by decide +kernel
theorem dX11_maker_7 : decode cX11_maker 7 = .ok (.iload_n 2, 1) := by decide +kernel
theorem dX11_maker_8 : decode cX11_maker 8 = .ok (.iconst 0, 1) := by decide +kernel
theorem dX11_maker_9 : decode cX11_maker 9 = .ok (.bipush 9, 2) := by decide +kernel
theorem dX11_maker_11 : decode cX11_maker 11 = .ok (.invokestatic 103, 3) := by decide +kernel
theorem dX11_maker_14 : decode cX11_maker 14 = .ok (.ifCond .ne 5, 3) := by decide +kernel
theorem dX11_maker_17 : decode cX11_maker 17 = .ok (.iconst 0, 1) := by decide +kernel
theorem dX11_maker_18 : decode cX11_maker 18 = .ok (.ireturn, 1) := by decide +kernel
theorem dX11_maker_19 : decode cX11_maker 19 = .ok (.aload_n 0, 1) := by decide +kernel
theorem dX11_maker_20 : decode cX11_maker 20 = .ok (.getfield 23, 3) := by decide +kernel
theorem dX11_maker_23 : decode cX11_maker 23 = .ok (.getfield 293, 3) := by decide +kernel
theorem dX11_maker_26 : decode cX11_maker 26 = .ok (.iload_n 1, 1) := by decide +kernel
theorem dX11_maker_27 : decode cX11_maker 27 = .ok (.iload_n 2, 1) := by decide +kernel
theorem dX11_maker_28 : decode cX11_maker 28 = .ok (.iastore, 1) := by decide +kernel
theorem dX11_maker_29 : decode cX11_maker 29 = .ok (.iconst 1, 1) := by decide +kernel
theorem dX11_maker_30 : decode cX11_maker 30 = .ok (.ireturn, 1) := by decide +kernel
theorem dX11_habit_0 : decode cX11_habit 0 = .ok (.iload_n 1, 1) := by decide +kernel
theorem dX11_habit_1 : decode cX11_habit 1 = .ok (.invokestatic 290, 3) := by decide +kernel
theorem dX11_habit_4 : decode cX11_habit 4 = .ok (.ifCond .eq 22, 3) := by decide +kernel
theorem dX11_habit_7 : decode cX11_habit 7 = .ok (.iload_n 2, 1) := by decide +kernel
theorem dX11_habit_8 : decode cX11_habit 8 = .ok (.iconst 0, 1) := by decide +kernel
theorem dX11_habit_9 : decode cX11_habit 9 = .ok (.iconst 5, 1) := by decide +kernel
theorem dX11_habit_10 : decode cX11_habit 10 = .ok (.invokestatic 103, 3) := by decide +kernel
theorem dX11_habit_13 : decode cX11_habit 13 = .ok (.ifCond .eq 13, 3) := by decide +kernel
theorem dX11_habit_16 : decode cX11_habit 16 = .ok (.iload_n 3, 1) := by decide +kernel
theorem dX11_habit_17 : decode cX11_habit 17 = .ok (.iconst 1, 1) := by decide +kernel
theorem dX11_habit_18 : decode cX11_habit 18 = .ok (.bipush 99, 2) := by decide +kernel
theorem dX11_habit_20 : decode cX11_habit 20 = .ok (.invokestatic 103, 3) := by decide +kernel
theorem dX11_habit_23 : decode cX11_habit 23 = .ok (.ifCond .ne 5, 3) := by decide +kernel
theorem dX11_habit_26 : decode cX11_habit 26 = .ok (.iconst 0, 1) := by decide +kernel
theorem dX11_habit_27 : decode cX11_habit 27 = .ok (.ireturn, 1) := by decide +kernel
theorem dX11_habit_28 : decode cX11_habit 28 = .ok (.aload_n 0, 1) := by decide +kernel
theorem dX11_habit_29 : decode cX11_habit 29 = .ok (.getfield 23, 3) := by decide +kernel
theorem dX11_habit_32 : decode cX11_habit 32 = .ok (.getfield 297, 3) := by decide +kernel
theorem dX11_habit_35 : decode cX11_habit 35 = .ok (.iload_n 1, 1) := by decide +kernel
theorem dX11_habit_36 : decode cX11_habit 36 = .ok (.bipush 6, 2) := by decide +kernel
theorem dX11_habit_38 : decode cX11_habit 38 = .ok (.imul, 1) := by decide +kernel
theorem dX11_habit_39 : decode cX11_habit 39 = .ok (.iload_n 2, 1) := by decide +kernel
theorem dX11_habit_40 : decode cX11_habit 40 = .ok (.iadd, 1) := by decide +kernel
theorem dX11_habit_41 : decode cX11_habit 41 = .ok (.iload_n 3, 1) := by decide +kernel
theorem dX11_habit_42 : decode cX11_habit 42 = .ok (.iastore, 1) := by decide +kernel
theorem dX11_habit_43 : decode cX11_habit 43 = .ok (.iconst 1, 1) := by decide +kernel
theorem dX11_habit_44 : decode cX11_habit 44 = .ok (.ireturn, 1) := by decide +kernel
theorem dX11_wane_0 : decode cX11_wane 0 = .ok (.iload_n 1, 1) := by decide +kernel
theorem dX11_wane_1 : decode cX11_wane 1 = .ok (.iconst 0, 1) := by decide +kernel
theorem dX11_wane_2 : decode cX11_wane 2 = .ok (.bipush 100, 2) := by decide +kernel
theorem dX11_wane_4 : decode cX11_wane 4 = .ok (.invokestatic 103, 3) := by decide +kernel
theorem dX11_wane_7 : decode cX11_wane 7 = .ok (.ifCond .ne 5, 3) := by decide +kernel
theorem dX11_wane_10 : decode cX11_wane 10 = .ok (.iconst 0, 1) := by decide +kernel
theorem dX11_wane_11 : decode cX11_wane 11 = .ok (.ireturn, 1) := by decide +kernel
theorem dX11_wane_12 : decode cX11_wane 12 = .ok (.aload_n 0, 1) := by decide +kernel
theorem dX11_wane_13 : decode cX11_wane 13 = .ok (.getfield 23, 3) := by decide +kernel
theorem dX11_wane_16 : decode cX11_wane 16 = .ok (.iload_n 1, 1) := by decide +kernel
theorem dX11_wane_17 : decode cX11_wane 17 = .ok (.putfield 300, 3) := by decide +kernel
theorem dX11_wane_20 : decode cX11_wane 20 = .ok (.iconst 1, 1) := by decide +kernel
theorem dX11_wane_21 : decode cX11_wane 21 = .ok (.ireturn, 1) := by decide +kernel
theorem dX11_odds_0 : decode cX11_odds 0 = .ok (.iload_n 1, 1) := by decide +kernel
theorem dX11_odds_1 : decode cX11_odds 1 = .ok (.invokestatic 290, 3) := by decide +kernel
theorem dX11_odds_4 : decode cX11_odds 4 = .ok (.ifCond .eq 23, 3) := by decide +kernel
theorem dX11_odds_7 : decode cX11_odds 7 = .ok (.iload_n 2, 1) := by decide +kernel
theorem dX11_odds_8 : decode cX11_odds 8 = .ok (.iconst 0, 1) := by decide +kernel
theorem dX11_odds_9 : decode cX11_odds 9 = .ok (.bipush 50, 2) := by decide +kernel
theorem dX11_odds_11 : decode cX11_odds 11 = .ok (.invokestatic 103, 3) := by decide +kernel
theorem dX11_odds_14 : decode cX11_odds 14 = .ok (.ifCond .eq 13, 3) := by decide +kernel
theorem dX11_odds_17 : decode cX11_odds 17 = .ok (.iload_n 3, 1) := by decide +kernel
theorem dX11_odds_18 : decode cX11_odds 18 = .ok (.iconst 0, 1) := by decide +kernel
theorem dX11_odds_19 : decode cX11_odds 19 = .ok (.bipush 63, 2) := by decide +kernel
theorem dX11_odds_21 : decode cX11_odds 21 = .ok (.invokestatic 103, 3) := by decide +kernel
theorem dX11_odds_24 : decode cX11_odds 24 = .ok (.ifCond .ne 5, 3) := by decide +kernel
theorem dX11_odds_27 : decode cX11_odds 27 = .ok (.iconst (-1), 1) := by decide +kernel
theorem dX11_odds_28 : decode cX11_odds 28 = .ok (.ireturn, 1) := by decide +kernel
theorem dX11_odds_29 : decode cX11_odds 29 = .ok (.lconst 0, 1) := by decide +kernel
theorem dX11_odds_30 : decode cX11_odds 30 = .ok (.lstore 4, 2) := by decide +kernel
theorem dX11_odds_32 : decode cX11_odds 32 = .ok (.iconst 0, 1) := by decide +kernel
theorem dX11_odds_33 : decode cX11_odds 33 = .ok (.istore 6, 2) := by decide +kernel
theorem dX11_odds_35 : decode cX11_odds 35 = .ok (.iload 6, 2) := by decide +kernel
theorem dX11_odds_37 : decode cX11_odds 37 = .ok (.iconst 4, 1) := by decide +kernel
theorem dX11_odds_38 : decode cX11_odds 38 = .ok (.if_icmp .ge 25, 3) := by decide +kernel
theorem dX11_odds_41 : decode cX11_odds 41 = .ok (.lload 4, 2) := by decide +kernel
theorem dX11_odds_43 : decode cX11_odds 43 = .ok (.aload_n 0, 1) := by decide +kernel
theorem dX11_odds_44 : decode cX11_odds 44 = .ok (.getfield 23, 3) := by decide +kernel
theorem dX11_odds_47 : decode cX11_odds 47 = .ok (.iload 6, 2) := by decide +kernel
theorem dX11_odds_49 : decode cX11_odds 49 = .ok (.iload_n 2, 1) := by decide +kernel
theorem dX11_odds_50 : decode cX11_odds 50 = .ok (.iload_n 3, 1) := by decide +kernel
theorem dX11_odds_51 : decode cX11_odds 51 = .ok (.invokevirtual 303, 3) := by decide +kernel
theorem dX11_odds_54 : decode cX11_odds 54 = .ok (.ladd, 1) := by decide +kernel
theorem dX11_odds_55 : decode cX11_odds 55 = .ok (.lstore 4, 2) := by decide +kernel
theorem dX11_odds_57 : decode cX11_odds 57 = .ok (.iinc 6 1, 3) := by decide +kernel
theorem dX11_odds_60 : decode cX11_odds 60 = .ok (.goto (-25), 3) := by decide +kernel
theorem dX11_odds_63 : decode cX11_odds 63 = .ok (.lload 4, 2) := by decide +kernel
theorem dX11_odds_65 : decode cX11_odds 65 = .ok (.lconst 0, 1) := by decide +kernel
theorem dX11_odds_66 : decode cX11_odds 66 = .ok (.lcmp, 1) := by decide +kernel
theorem dX11_odds_67 : decode cX11_odds 67 = .ok (.ifCond .gt 5, 3) := by decide +kernel
theorem dX11_odds_70 : decode cX11_odds 70 = .ok (.iconst (-1), 1) := by decide +kernel
theorem dX11_odds_71 : decode cX11_odds 71 = .ok (.ireturn, 1) := by decide +kernel
theorem dX11_odds_72 : decode cX11_odds 72 = .ok (.ldc2_w 307, 3) := by decide +kernel
theorem dX11_odds_75 : decode cX11_odds 75 = .ok (.aload_n 0, 1) := by decide +kernel
theorem dX11_odds_76 : decode cX11_odds 76 = .ok (.getfield 23, 3) := by decide +kernel
theorem dX11_odds_79 : decode cX11_odds 79 = .ok (.iload_n 1, 1) := by decide +kernel
theorem dX11_odds_80 : decode cX11_odds 80 = .ok (.iload_n 2, 1) := by decide +kernel
theorem dX11_odds_81 : decode cX11_odds 81 = .ok (.iload_n 3, 1) := by decide +kernel
theorem dX11_odds_82 : decode cX11_odds 82 = .ok (.invokevirtual 303, 3) := by decide +kernel
theorem dX11_odds_85 : decode cX11_odds 85 = .ok (.lmul, 1) := by decide +kernel
theorem dX11_odds_86 : decode cX11_odds 86 = .ok (.lload 4, 2) := by decide +kernel
theorem dX11_odds_88 : decode cX11_odds 88 = .ok (.ldiv, 1) := by decide +kernel
theorem dX11_odds_89 : decode cX11_odds 89 = .ok (.l2i, 1) := by decide +kernel
theorem dX11_odds_90 : decode cX11_odds 90 = .ok (.ireturn, 1) := by decide +kernel
theorem dX11_say_0 : decode cX11_say 0 = .ok (.aload_n 0, 1) := by decide +kernel
theorem dX11_say_1 : decode cX11_say 1 = .ok (.getfield 23, 3) := by decide +kernel
theorem dX11_say_4 : decode cX11_say 4 = .ok (.iload_n 1, 1) := by decide +kernel
theorem dX11_say_5 : decode cX11_say 5 = .ok (.invokevirtual 93, 3) := by decide +kernel
theorem dX11_say_8 : decode cX11_say 8 = .ok (.astore 5, 2) := by decide +kernel
theorem dX11_say_10 : decode cX11_say 10 = .ok (.aload 5, 2) := by decide +kernel
theorem dX11_say_12 : decode cX11_say 12 = .ok (.ifnull 12, 3) := by decide +kernel
theorem dX11_say_15 : decode cX11_say 15 = .ok (.iload_n 3, 1) := by decide +kernel
theorem dX11_say_16 : decode cX11_say 16 = .ok (.iload 4, 2) := by decide +kernel
theorem dX11_say_18 : decode cX11_say 18 = .ok (.invokestatic 220, 3) := by decide +kernel
theorem dX11_say_21 : decode cX11_say 21 = .ok (.ifCond .ne 5, 3) := by decide +kernel
theorem dX11_say_24 : decode cX11_say 24 = .ok (.iconst (-1), 1) := by decide +kernel
theorem dX11_say_25 : decode cX11_say 25 = .ok (.ireturn, 1) := by decide +kernel
theorem dX11_say_26 : decode cX11_say 26 = .ok (.aload_n 0, 1) := by decide +kernel
theorem dX11_say_27 : decode cX11_say 27 = .ok (.getfield 47, 3) := by decide +kernel
theorem dX11_say_30 : decode cX11_say 30 = .ok (.aload 5, 2) := by decide +kernel
theorem dX11_say_32 : decode cX11_say 32 = .ok (.invokevirtual 201, 3) := by decide +kernel
theorem dX11_say_35 : decode cX11_say 35 = .ok (.iload_n 2, 1) := by decide +kernel
theorem dX11_say_36 : decode cX11_say 36 = .ok (.iconst 0, 1) := by decide +kernel
theorem dX11_say_37 : decode cX11_say 37 = .ok (.aload_n 0, 1) := by decide +kernel
theorem dX11_say_38 : decode cX11_say 38 = .ok (.getfield 47, 3) := by decide +kernel
theorem dX11_say_41 : decode cX11_say 41 = .ok (.getfield 204, 3) := by decide +kernel
theorem dX11_say_44 : decode cX11_say 44 = .ok (.iconst 1, 1) := by decide +kernel
theorem dX11_say_45 : decode cX11_say 45 = .ok (.isub, 1) := by decide +kernel
theorem dX11_say_46 : decode cX11_say 46 = .ok (.invokestatic 103, 3) := by decide +kernel
theorem dX11_say_49 : decode cX11_say 49 = .ok (.ifCond .ne 5, 3) := by decide +kernel
theorem dX11_say_52 : decode cX11_say 52 = .ok (.iconst (-1), 1) := by decide +kernel
theorem dX11_say_53 : decode cX11_say 53 = .ok (.ireturn, 1) := by decide +kernel
theorem dX11_say_54 : decode cX11_say 54 = .ok (.aload_n 0, 1) := by decide +kernel
theorem dX11_say_55 : decode cX11_say 55 = .ok (.getfield 54, 3) := by decide +kernel
theorem dX11_say_58 : decode cX11_say 58 = .ok (.aload 5, 2) := by decide +kernel
theorem dX11_say_60 : decode cX11_say 60 = .ok (.iload_n 3, 1) := by decide +kernel
theorem dX11_say_61 : decode cX11_say 61 = .ok (.iload 4, 2) := by decide +kernel
theorem dX11_say_63 : decode cX11_say 63 = .ok (.invokevirtual 223, 3) := by decide +kernel
theorem dX11_say_66 : decode cX11_say 66 = .ok (.aload_n 0, 1) := by decide +kernel
theorem dX11_say_67 : decode cX11_say 67 = .ok (.getfield 54, 3) := by decide +kernel
theorem dX11_say_70 : decode cX11_say 70 = .ok (.aload_n 0, 1) := by decide +kernel
theorem dX11_say_71 : decode cX11_say 71 = .ok (.getfield 47, 3) := by decide +kernel
theorem dX11_say_74 : decode cX11_say 74 = .ok (.iload_n 2, 1) := by decide +kernel
theorem dX11_say_75 : decode cX11_say 75 = .ok (.invokevirtual 309, 3) := by decide +kernel
theorem dX11_say_78 : decode cX11_say 78 = .ok (.aload_n 0, 1) := by decide +kernel
theorem dX11_say_79 : decode cX11_say 79 = .ok (.getfield 47, 3) := by decide +kernel
theorem dX11_say_82 : decode cX11_say 82 = .ok (.iload_n 2, 1) := by decide +kernel
theorem dX11_say_83 : decode cX11_say 83 = .ok (.invokevirtual 312, 3) := by decide +kernel
theorem dX11_say_86 : decode cX11_say 86 = .ok (.invokevirtual 315, 3) := by decide +kernel
theorem dX11_say_89 : decode cX11_say 89 = .ok (.ifCond .eq 5, 3) := by decide +kernel
theorem dX11_say_92 : decode cX11_say 92 = .ok (.iconst 2, 1) := by decide +kernel
theorem dX11_say_93 : decode cX11_say 93 = .ok (.ireturn, 1) := by decide +kernel
theorem dX11_say_94 : decode cX11_say 94 = .ok (.aload_n 0, 1) := by decide +kernel
theorem dX11_say_95 : decode cX11_say 95 = .ok (.getfield 47, 3) := by decide +kernel
theorem dX11_say_98 : decode cX11_say 98 = .ok (.iload_n 2, 1) := by decide +kernel
theorem dX11_say_99 : decode cX11_say 99 = .ok (.iconst 3, 1) := by decide +kernel
theorem dX11_say_100 : decode cX11_say 100 = .ok (.invokevirtual 213, 3) := by decide +kernel
theorem dX11_say_103 : decode cX11_say 103 = .ok (.ifCond .eq 7, 3) := by decide +kernel
theorem dX11_say_106 : decode cX11_say 106 = .ok (.iconst 1, 1) := by decide +kernel
theorem dX11_say_107 : decode cX11_say 107 = .ok (.goto 4, 3) := by decide +kernel
theorem dX11_say_110 : decode cX11_say 110 = .ok (.iconst 0, 1) := by decide +kernel
theorem dX11_say_111 : decode cX11_say 111 = .ok (.ireturn, 1) := by decide +kernel
theorem dX11_image_0 : decode cX11_image 0 = .ok (.aload_n 0, 1) := by decide +kernel
theorem dX11_image_1 : decode cX11_image 1 = .ok (.getfield 27, 3) := by decide +kernel
theorem dX11_image_4 : decode cX11_image 4 = .ok (.aload_n 0, 1) := by decide +kernel
theorem dX11_image_5 : decode cX11_image 5 = .ok (.getfield 23, 3) := by decide +kernel
theorem dX11_image_8 : decode cX11_image 8 = .ok (.invokevirtual 318, 3) := by decide +kernel
theorem dX11_image_11 : decode cX11_image 11 = .ok (.aload_n 0, 1) := by decide +kernel
theorem dX11_image_12 : decode cX11_image 12 = .ok (.getfield 23, 3) := by decide +kernel
theorem dX11_image_15 : decode cX11_image 15 = .ok (.getfield 260, 3) := by decide +kernel
theorem dX11_image_18 : decode cX11_image 18 = .ok (.ireturn, 1) := by decide +kernel
theorem dX11_back_0 : decode cX11_back 0 = .ok (.aload_n 0, 1) := by decide +kernel
theorem dX11_back_1 : decode cX11_back 1 = .ok (.getfield 23, 3) := by decide +kernel
theorem dX11_back_4 : decode cX11_back 4 = .ok (.aload_n 0, 1) := by decide +kernel
theorem dX11_back_5 : decode cX11_back 5 = .ok (.getfield 27, 3) := by decide +kernel
theorem dX11_back_8 : decode cX11_back 8 = .ok (.invokevirtual 318, 3) := by decide +kernel
theorem dX11_back_11 : decode cX11_back 11 = .ok (.aload_n 0, 1) := by decide +kernel
theorem dX11_back_12 : decode cX11_back 12 = .ok (.getfield 23, 3) := by decide +kernel
theorem dX11_back_15 : decode cX11_back 15 = .ok (.getfield 260, 3) := by decide +kernel
theorem dX11_back_18 : decode cX11_back 18 = .ok (.ireturn, 1) := by decide +kernel
theorem dX11_about_0 : decode cX11_about 0 = .ok (.iload_n 1, 1) := by decide +kernel
theorem dX11_about_1 : decode cX11_about 1 = .ok (.tableswitch 111 0 7 #[47, 55, 63, 71, 79, 87, 95, 103], 47) := by decide +kernel
theorem dX11_about_48 : decode cX11_about 48 = .ok (.aload_n 0, 1) := by decide +kernel
theorem dX11_about_49 : decode cX11_about 49 = .ok (.getfield 23, 3) := by decide +kernel
theorem dX11_about_52 : decode cX11_about 52 = .ok (.getfield 321, 3) := by decide +kernel
theorem dX11_about_55 : decode cX11_about 55 = .ok (.ireturn, 1) := by decide +kernel
theorem dX11_about_56 : decode cX11_about 56 = .ok (.aload_n 0, 1) := by decide +kernel
theorem dX11_about_57 : decode cX11_about 57 = .ok (.getfield 23, 3) := by decide +kernel
theorem dX11_about_60 : decode cX11_about 60 = .ok (.getfield 322, 3) := by decide +kernel
theorem dX11_about_63 : decode cX11_about 63 = .ok (.ireturn, 1) := by decide +kernel
theorem dX11_about_64 : decode cX11_about 64 = .ok (.aload_n 0, 1) := by decide +kernel
theorem dX11_about_65 : decode cX11_about 65 = .ok (.getfield 23, 3) := by decide +kernel
theorem dX11_about_68 : decode cX11_about 68 = .ok (.getfield 129, 3) := by decide +kernel
theorem dX11_about_71 : decode cX11_about 71 = .ok (.ireturn, 1) := by decide +kernel
theorem dX11_about_72 : decode cX11_about 72 = .ok (.aload_n 0, 1) := by decide +kernel
theorem dX11_about_73 : decode cX11_about 73 = .ok (.getfield 23, 3) := by decide +kernel
theorem dX11_about_76 : decode cX11_about 76 = .ok (.getfield 136, 3) := by decide +kernel
theorem dX11_about_79 : decode cX11_about 79 = .ok (.ireturn, 1) := by decide +kernel
theorem dX11_about_80 : decode cX11_about 80 = .ok (.aload_n 0, 1) := by decide +kernel
theorem dX11_about_81 : decode cX11_about 81 = .ok (.getfield 23, 3) := by decide +kernel
theorem dX11_about_84 : decode cX11_about 84 = .ok (.getfield 173, 3) := by decide +kernel
theorem dX11_about_87 : decode cX11_about 87 = .ok (.ireturn, 1) := by decide +kernel
theorem dX11_about_88 : decode cX11_about 88 = .ok (.aload_n 0, 1) := by decide +kernel
theorem dX11_about_89 : decode cX11_about 89 = .ok (.getfield 23, 3) := by decide +kernel
theorem dX11_about_92 : decode cX11_about 92 = .ok (.getfield 260, 3) := by decide +kernel
theorem dX11_about_95 : decode cX11_about 95 = .ok (.ireturn, 1) := by decide +kernel
theorem dX11_about_96 : decode cX11_about 96 = .ok (.aload_n 0, 1) := by decide +kernel
theorem dX11_about_97 : decode cX11_about 97 = .ok (.getfield 68, 3) := by decide +kernel
theorem dX11_about_100 : decode cX11_about 100 = .ok (.getfield 253, 3) := by decide +kernel
theorem dX11_about_103 : decode cX11_about 103 = .ok (.ireturn, 1) := by decide +kernel
theorem dX11_about_104 : decode cX11_about 104 = .ok (.aload_n 0, 1) := by decide +kernel
theorem dX11_about_105 : decode cX11_about 105 = .ok (.getfield 23, 3) := by decide +kernel
theorem dX11_about_108 : decode cX11_about 108 = .ok (.getfield 300, 3) := by decide +kernel
theorem dX11_about_111 : decode cX11_about 111 = .ok (.ireturn, 1) := by decide +kernel
theorem dX11_about_112 : decode cX11_about 112 = .ok (.iload_n 1, 1) := by decide +kernel
theorem dX11_about_113 : decode cX11_about 113 = .ok (.bipush 10, 2) := by decide +kernel
theorem dX11_about_115 : decode cX11_about 115 = .ok (.isub, 1) := by decide +kernel
theorem dX11_about_116 : decode cX11_about 116 = .ok (.invokestatic 290, 3) := by decide +kernel
theorem dX11_about_119 : decode cX11_about 119 = .ok (.ifCond .eq 18, 3) := by decide +kernel
theorem dX11_about_122 : decode cX11_about 122 = .ok (.aload_n 0, 1) := by decide +kernel
theorem dX11_about_123 : decode cX11_about 123 = .ok (.getfield 23, 3) := by decide +kernel
theorem dX11_about_126 : decode cX11_about 126 = .ok (.getfield 293, 3) := by decide +kernel
theorem dX11_about_129 : decode cX11_about 129 = .ok (.iload_n 1, 1) := by decide +kernel
theorem dX11_about_130 : decode cX11_about 130 = .ok (.bipush 10, 2) := by decide +kernel
theorem dX11_about_132 : decode cX11_about 132 = .ok (.isub, 1) := by decide +kernel
theorem dX11_about_133 : decode cX11_about 133 = .ok (.iaload, 1) := by decide +kernel
theorem dX11_about_134 : decode cX11_about 134 = .ok (.goto 4, 3) := by decide +kernel
theorem dX11_about_137 : decode cX11_about 137 = .ok (.iconst (-1), 1) := by decide +kernel
theorem dX11_about_138 : decode cX11_about 138 = .ok (.ireturn, 1) := by decide +kernel
theorem dX11_within_0 : decode cX11_within 0 = .ok (.iload_n 0, 1) := by decide +kernel
theorem dX11_within_1 : decode cX11_within 1 = .ok (.iload_n 1, 1) := by decide +kernel
theorem dX11_within_2 : decode cX11_within 2 = .ok (.if_icmp .lt 12, 3) := by decide +kernel
theorem dX11_within_5 : decode cX11_within 5 = .ok (.iload_n 0, 1) := by decide +kernel
theorem dX11_within_6 : decode cX11_within 6 = .ok (.iload_n 2, 1) := by decide +kernel
theorem dX11_within_7 : decode cX11_within 7 = .ok (.if_icmp .gt 7, 3) := by decide +kernel
theorem dX11_within_10 : decode cX11_within 10 = .ok (.iconst 1, 1) := by decide +kernel
theorem dX11_within_11 : decode cX11_within 11 = .ok (.goto 4, 3) := by decide +kernel
theorem dX11_within_14 : decode cX11_within 14 = .ok (.iconst 0, 1) := by decide +kernel
theorem dX11_within_15 : decode cX11_within 15 = .ok (.ireturn, 1) := by decide +kernel
theorem dX11_isPoint_0 : decode cX11_isPoint 0 = .ok (.iload_n 0, 1) := by decide +kernel
theorem dX11_isPoint_1 : decode cX11_isPoint 1 = .ok (.bipush (-99), 2) := by decide +kernel
theorem dX11_isPoint_3 : decode cX11_isPoint 3 = .ok (.bipush 99, 2) := by decide +kernel
theorem dX11_isPoint_5 : decode cX11_isPoint 5 = .ok (.invokestatic 103, 3) := by decide +kernel
theorem dX11_isPoint_8 : decode cX11_isPoint 8 = .ok (.ifCond .eq 18, 3) := by decide +kernel
theorem dX11_isPoint_11 : decode cX11_isPoint 11 = .ok (.iload_n 1, 1) := by decide +kernel
theorem dX11_isPoint_12 : decode cX11_isPoint 12 = .ok (.bipush (-99), 2) := by decide +kernel
theorem dX11_isPoint_14 : decode cX11_isPoint 14 = .ok (.bipush 99, 2) := by decide +kernel
theorem dX11_isPoint_16 : decode cX11_isPoint 16 = .ok (.invokestatic 103, 3) := by decide +kernel
theorem dX11_isPoint_19 : decode cX11_isPoint 19 = .ok (.ifCond .eq 7, 3) := by decide +kernel
theorem dX11_isPoint_22 : decode cX11_isPoint 22 = .ok (.iconst 1, 1) := by decide +kernel
theorem dX11_isPoint_23 : decode cX11_isPoint 23 = .ok (.goto 4, 3) := by decide +kernel
theorem dX11_isPoint_26 : decode cX11_isPoint 26 = .ok (.iconst 0, 1) := by decide +kernel
theorem dX11_isPoint_27 : decode cX11_isPoint 27 = .ok (.ireturn, 1) := by decide +kernel
theorem dX11_isPiece_0 : decode cX11_isPiece 0 = .ok (.iload_n 0, 1) := by decide +kernel
theorem dX11_isPiece_1 : decode cX11_isPiece 1 = .ok (.iconst 2, 1) := by decide +kernel
theorem dX11_isPiece_2 : decode cX11_isPiece 2 = .ok (.bipush 6, 2) := by decide +kernel
theorem dX11_isPiece_4 : decode cX11_isPiece 4 = .ok (.invokestatic 103, 3) := by decide +kernel
theorem dX11_isPiece_7 : decode cX11_isPiece 7 = .ok (.ifCond .eq 17, 3) := by decide +kernel
theorem dX11_isPiece_10 : decode cX11_isPiece 10 = .ok (.iload_n 1, 1) := by decide +kernel
theorem dX11_isPiece_11 : decode cX11_isPiece 11 = .ok (.iconst 0, 1) := by decide +kernel
theorem dX11_isPiece_12 : decode cX11_isPiece 12 = .ok (.bipush 9, 2) := by decide +kernel
theorem dX11_isPiece_14 : decode cX11_isPiece 14 = .ok (.invokestatic 103, 3) := by decide +kernel
theorem dX11_isPiece_17 : decode cX11_isPiece 17 = .ok (.ifCond .eq 7, 3) := by decide +kernel
theorem dX11_isPiece_20 : decode cX11_isPiece 20 = .ok (.iconst 1, 1) := by decide +kernel
theorem dX11_isPiece_21 : decode cX11_isPiece 21 = .ok (.goto 4, 3) := by decide +kernel
theorem dX11_isPiece_24 : decode cX11_isPiece 24 = .ok (.iconst 0, 1) := by decide +kernel
theorem dX11_isPiece_25 : decode cX11_isPiece 25 = .ok (.ireturn, 1) := by decide +kernel
theorem dX11_isMaker_0 : decode cX11_isMaker 0 = .ok (.iload_n 0, 1) := by decide +kernel
theorem dX11_isMaker_1 : decode cX11_isMaker 1 = .ok (.iconst 0, 1) := by decide +kernel
theorem dX11_isMaker_2 : decode cX11_isMaker 2 = .ok (.iconst 3, 1) := by decide +kernel
theorem dX11_isMaker_3 : decode cX11_isMaker 3 = .ok (.invokestatic 103, 3) := by decide +kernel
theorem dX11_isMaker_6 : decode cX11_isMaker 6 = .ok (.ireturn, 1) := by decide +kernel
theorem dX11_areTold_0 : decode cX11_areTold 0 = .ok (.iconst 1, 1) := by decide +kernel
theorem dX11_areTold_1 : decode cX11_areTold 1 = .ok (.aload_n 0, 1) := by decide +kernel
theorem dX11_areTold_2 : decode cX11_areTold 2 = .ok (.getfield 23, 3) := by decide +kernel
theorem dX11_areTold_5 : decode cX11_areTold 5 = .ok (.getfield 129, 3) := by decide +kernel
theorem dX11_areTold_8 : decode cX11_areTold 8 = .ok (.ishl, 1) := by decide +kernel
theorem dX11_areTold_9 : decode cX11_areTold 9 = .ok (.iconst 1, 1) := by decide +kernel
theorem dX11_areTold_10 : decode cX11_areTold 10 = .ok (.isub, 1) := by decide +kernel
theorem dX11_areTold_11 : decode cX11_areTold 11 = .ok (.istore_n 2, 1) := by decide +kernel
theorem dX11_areTold_12 : decode cX11_areTold 12 = .ok (.iconst 1, 1) := by decide +kernel
theorem dX11_areTold_13 : decode cX11_areTold 13 = .ok (.aload_n 0, 1) := by decide +kernel
theorem dX11_areTold_14 : decode cX11_areTold 14 = .ok (.getfield 23, 3) := by decide +kernel
theorem dX11_areTold_17 : decode cX11_areTold 17 = .ok (.getfield 136, 3) := by decide +kernel
theorem dX11_areTold_20 : decode cX11_areTold 20 = .ok (.ishl, 1) := by decide +kernel
theorem dX11_areTold_21 : decode cX11_areTold 21 = .ok (.iconst 1, 1) := by decide +kernel
theorem dX11_areTold_22 : decode cX11_areTold 22 = .ok (.isub, 1) := by decide +kernel
theorem dX11_areTold_23 : decode cX11_areTold 23 = .ok (.bipush 12, 2) := by decide +kernel
theorem dX11_areTold_25 : decode cX11_areTold 25 = .ok (.ishl, 1) := by decide +kernel
theorem dX11_areTold_26 : decode cX11_areTold 26 = .ok (.istore_n 3, 1) := by decide +kernel
theorem dX11_areTold_27 : decode cX11_areTold 27 = .ok (.iload_n 1, 1) := by decide +kernel
theorem dX11_areTold_28 : decode cX11_areTold 28 = .ok (.iload_n 2, 1) := by decide +kernel
theorem dX11_areTold_29 : decode cX11_areTold 29 = .ok (.iload_n 3, 1) := by decide +kernel
theorem dX11_areTold_30 : decode cX11_areTold 30 = .ok (.ior, 1) := by decide +kernel
theorem dX11_areTold_31 : decode cX11_areTold 31 = .ok (.iconst (-1), 1) := by decide +kernel
theorem dX11_areTold_32 : decode cX11_areTold 32 = .ok (.ixor, 1) := by decide +kernel
theorem dX11_areTold_33 : decode cX11_areTold 33 = .ok (.iand, 1) := by decide +kernel
theorem dX11_areTold_34 : decode cX11_areTold 34 = .ok (.ifCond .ne 7, 3) := by decide +kernel
theorem dX11_areTold_37 : decode cX11_areTold 37 = .ok (.iconst 1, 1) := by decide +kernel
theorem dX11_areTold_38 : decode cX11_areTold 38 = .ok (.goto 4, 3) := by decide +kernel
theorem dX11_areTold_41 : decode cX11_areTold 41 = .ok (.iconst 0, 1) := by decide +kernel
theorem dX11_areTold_42 : decode cX11_areTold 42 = .ok (.ireturn, 1) := by decide +kernel
theorem dX11_leastNear_0 : decode cX11_leastNear 0 = .ok (.iload_n 1, 1) := by decide +kernel
theorem dX11_leastNear_1 : decode cX11_leastNear 1 = .ok (.ifCond .ne 19, 3) := by decide +kernel
theorem dX11_leastNear_4 : decode cX11_leastNear 4 = .ok (.iload_n 0, 1) := by decide +kernel
theorem dX11_leastNear_5 : decode cX11_leastNear 5 = .ok (.invokestatic 325, 3) := by decide +kernel
theorem dX11_leastNear_8 : decode cX11_leastNear 8 = .ok (.iload_n 2, 1) := by decide +kernel
theorem dX11_leastNear_9 : decode cX11_leastNear 9 = .ok (.if_icmp .gt 7, 3) := by decide +kernel
theorem dX11_leastNear_12 : decode cX11_leastNear 12 = .ok (.iload_n 3, 1) := by decide +kernel
theorem dX11_leastNear_13 : decode cX11_leastNear 13 = .ok (.goto 6, 3) := by decide +kernel
theorem dX11_leastNear_16 : decode cX11_leastNear 16 = .ok (.ldc_w 328, 3) := by decide +kernel
theorem dX11_leastNear_19 : decode cX11_leastNear 19 = .ok (.ireturn, 1) := by decide +kernel
theorem dX11_leastNear_20 : decode cX11_leastNear 20 = .ok (.iload_n 1, 1) := by decide +kernel
theorem dX11_leastNear_21 : decode cX11_leastNear 21 = .ok (.ifCond .ge 8, 3) := by decide +kernel
theorem dX11_leastNear_24 : decode cX11_leastNear 24 = .ok (.iload_n 0, 1) := by decide +kernel
theorem dX11_leastNear_25 : decode cX11_leastNear 25 = .ok (.ineg, 1) := by decide +kernel
theorem dX11_leastNear_26 : decode cX11_leastNear 26 = .ok (.goto 4, 3) := by decide +kernel
theorem dX11_leastNear_29 : decode cX11_leastNear 29 = .ok (.iload_n 0, 1) := by decide +kernel
theorem dX11_leastNear_30 : decode cX11_leastNear 30 = .ok (.istore 4, 2) := by decide +kernel
theorem dX11_leastNear_32 : decode cX11_leastNear 32 = .ok (.iload_n 3, 1) := by decide +kernel
theorem dX11_leastNear_33 : decode cX11_leastNear 33 = .ok (.iload_n 2, 1) := by decide +kernel
theorem dX11_leastNear_34 : decode cX11_leastNear 34 = .ok (.iload 4, 2) := by decide +kernel
theorem dX11_leastNear_36 : decode cX11_leastNear 36 = .ok (.iadd, 1) := by decide +kernel
theorem dX11_leastNear_37 : decode cX11_leastNear 37 = .ok (.iload_n 1, 1) := by decide +kernel
theorem dX11_leastNear_38 : decode cX11_leastNear 38 = .ok (.invokestatic 325, 3) := by decide +kernel
theorem dX11_leastNear_41 : decode cX11_leastNear 41 = .ok (.invokestatic 329, 3) := by decide +kernel
theorem dX11_leastNear_44 : decode cX11_leastNear 44 = .ok (.ineg, 1) := by decide +kernel
theorem dX11_leastNear_45 : decode cX11_leastNear 45 = .ok (.invokestatic 15, 3) := by decide +kernel
theorem dX11_leastNear_48 : decode cX11_leastNear 48 = .ok (.ireturn, 1) := by decide +kernel
theorem dX11_greatestNear_0 : decode cX11_greatestNear 0 = .ok (.iload_n 1, 1) := by decide +kernel
theorem dX11_greatestNear_1 : decode cX11_greatestNear 1 = .ok (.ifCond .ne 5, 3) := by decide +kernel
theorem dX11_greatestNear_4 : decode cX11_greatestNear 4 = .ok (.iload_n 3, 1) := by decide +kernel
theorem dX11_greatestNear_5 : decode cX11_greatestNear 5 = .ok (.ireturn, 1) := by decide +kernel
theorem dX11_greatestNear_6 : decode cX11_greatestNear 6 = .ok (.iload_n 1, 1) := by decide +kernel
theorem dX11_greatestNear_7 : decode cX11_greatestNear 7 = .ok (.ifCond .ge 8, 3) := by decide +kernel
theorem dX11_greatestNear_10 : decode cX11_greatestNear 10 = .ok (.iload_n 0, 1) := by decide +kernel
theorem dX11_greatestNear_11 : decode cX11_greatestNear 11 = .ok (.ineg, 1) := by decide +kernel
theorem dX11_greatestNear_12 : decode cX11_greatestNear 12 = .ok (.goto 4, 3) := by decide +kernel
theorem dX11_greatestNear_15 : decode cX11_greatestNear 15 = .ok (.iload_n 0, 1) := by decide +kernel
theorem dX11_greatestNear_16 : decode cX11_greatestNear 16 = .ok (.istore 4, 2) := by decide +kernel
theorem dX11_greatestNear_18 : decode cX11_greatestNear 18 = .ok (.iload_n 3, 1) := by decide +kernel
theorem dX11_greatestNear_19 : decode cX11_greatestNear 19 = .ok (.iload_n 2, 1) := by decide +kernel
theorem dX11_greatestNear_20 : decode cX11_greatestNear 20 = .ok (.iload 4, 2) := by decide +kernel
theorem dX11_greatestNear_22 : decode cX11_greatestNear 22 = .ok (.isub, 1) := by decide +kernel
theorem dX11_greatestNear_23 : decode cX11_greatestNear 23 = .ok (.iload_n 1, 1) := by decide +kernel
theorem dX11_greatestNear_24 : decode cX11_greatestNear 24 = .ok (.invokestatic 325, 3) := by decide +kernel
theorem dX11_greatestNear_27 : decode cX11_greatestNear 27 = .ok (.invokestatic 329, 3) := by decide +kernel
theorem dX11_greatestNear_30 : decode cX11_greatestNear 30 = .ok (.invokestatic 9, 3) := by decide +kernel
theorem dX11_greatestNear_33 : decode cX11_greatestNear 33 = .ok (.ireturn, 1) := by decide +kernel
