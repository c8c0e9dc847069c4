theorem dX12_squares_0 : decode cX12_squares 0 = .ok (.iload_n 1, 1) := by decide +kernel
theorem dX12_squares_1 : decode cX12_squares 1 = .ok (.invokestatic 87, 3) := by decide +kernel
theorem dX12_squares_4 : decode cX12_squares 4 = .ok (.ifCond .eq 28, 3) := by decide +kernel
theorem dX12_squares_7 : decode cX12_squares 7 = .ok (.aload_n 0, 1) := by decide +kernel
theorem dX12_squares_8 : decode cX12_squares 8 = .ok (.iload_n 2, 1) := by decide +kernel
theorem dX12_squares_9 : decode cX12_squares 9 = .ok (.iload_n 3, 1) := by decide +kernel
theorem dX12_squares_10 : decode cX12_squares 10 = .ok (.iload 4, 2) := by decide +kernel
theorem dX12_squares_12 : decode cX12_squares 12 = .ok (.iload 5, 2) := by decide +kernel
theorem dX12_squares_14 : decode cX12_squares 14 = .ok (.invokevirtual 148, 3) := by decide +kernel
theorem dX12_squares_17 : decode cX12_squares 17 = .ok (.ifCond .eq 15, 3) := by decide +kernel
theorem dX12_squares_20 : decode cX12_squares 20 = .ok (.iload 4, 2) := by decide +kernel
theorem dX12_squares_22 : decode cX12_squares 22 = .ok (.iconst 4, 1) := by decide +kernel
theorem dX12_squares_23 : decode cX12_squares 23 = .ok (.if_icmp .lt 9, 3) := by decide +kernel
theorem dX12_squares_26 : decode cX12_squares 26 = .ok (.iload 5, 2) := by decide +kernel
theorem dX12_squares_28 : decode cX12_squares 28 = .ok (.iconst 4, 1) := by decide +kernel
theorem dX12_squares_29 : decode cX12_squares 29 = .ok (.if_icmp .ge 5, 3) := by decide +kernel
theorem dX12_squares_32 : decode cX12_squares 32 = .ok (.iconst (-1), 1) := by decide +kernel
theorem dX12_squares_33 : decode cX12_squares 33 = .ok (.ireturn, 1) := by decide +kernel
theorem dX12_squares_34 : decode cX12_squares 34 = .ok (.iconst (-1), 1) := by decide +kernel
theorem dX12_squares_35 : decode cX12_squares 35 = .ok (.istore 7, 2) := by decide +kernel
theorem dX12_squares_37 : decode cX12_squares 37 = .ok (.iconst 0, 1) := by decide +kernel
theorem dX12_squares_38 : decode cX12_squares 38 = .ok (.istore 8, 2) := by decide +kernel
theorem dX12_squares_40 : decode cX12_squares 40 = .ok (.iconst 1, 1) := by decide +kernel
theorem dX12_squares_41 : decode cX12_squares 41 = .ok (.istore 9, 2) := by decide +kernel
theorem dX12_squares_43 : decode cX12_squares 43 = .ok (.iconst 0, 1) := by decide +kernel
theorem dX12_squares_44 : decode cX12_squares 44 = .ok (.istore 10, 2) := by decide +kernel
theorem dX12_squares_46 : decode cX12_squares 46 = .ok (.iload 10, 2) := by decide +kernel
theorem dX12_squares_48 : decode cX12_squares 48 = .ok (.iconst 4, 1) := by decide +kernel
theorem dX12_squares_49 : decode cX12_squares 49 = .ok (.if_icmp .ge 198, 3) := by decide +kernel
theorem dX12_squares_52 : decode cX12_squares 52 = .ok (.iconst 0, 1) := by decide +kernel
theorem dX12_squares_53 : decode cX12_squares 53 = .ok (.istore 11, 2) := by decide +kernel
theorem dX12_squares_55 : decode cX12_squares 55 = .ok (.iconst 0, 1) := by decide +kernel
theorem dX12_squares_56 : decode cX12_squares 56 = .ok (.istore 12, 2) := by decide +kernel
theorem dX12_squares_58 : decode cX12_squares 58 = .ok (.iload_n 3, 1) := by decide +kernel
theorem dX12_squares_59 : decode cX12_squares 59 = .ok (.istore 13, 2) := by decide +kernel
theorem dX12_squares_61 : decode cX12_squares 61 = .ok (.iload 13, 2) := by decide +kernel
theorem dX12_squares_63 : decode cX12_squares 63 = .ok (.iload_n 3, 1) := by decide +kernel
theorem dX12_squares_64 : decode cX12_squares 64 = .ok (.iload 5, 2) := by decide +kernel
theorem dX12_squares_66 : decode cX12_squares 66 = .ok (.iadd, 1) := by decide +kernel
theorem dX12_squares_67 : decode cX12_squares 67 = .ok (.if_icmp .ge 136, 3) := by decide +kernel
theorem dX12_squares_70 : decode cX12_squares 70 = .ok (.iload_n 2, 1) := by decide +kernel
theorem dX12_squares_71 : decode cX12_squares 71 = .ok (.istore 14, 2) := by decide +kernel
theorem dX12_squares_73 : decode cX12_squares 73 = .ok (.iload 14, 2) := by decide +kernel
theorem dX12_squares_75 : decode cX12_squares 75 = .ok (.iload_n 2, 1) := by decide +kernel
theorem dX12_squares_76 : decode cX12_squares 76 = .ok (.iload 4, 2) := by decide +kernel
theorem dX12_squares_78 : decode cX12_squares 78 = .ok (.iadd, 1) := by decide +kernel
theorem dX12_squares_79 : decode cX12_squares 79 = .ok (.if_icmp .ge 118, 3) := by decide +kernel
theorem dX12_squares_82 : decode cX12_squares 82 = .ok (.iload 6, 2) := by decide +kernel
theorem dX12_squares_84 : decode cX12_squares 84 = .ok (.ifCond .eq 26, 3) := by decide +kernel
theorem dX12_squares_87 : decode cX12_squares 87 = .ok (.iload 13, 2) := by decide +kernel
theorem dX12_squares_89 : decode cX12_squares 89 = .ok (.iload_n 3, 1) := by decide +kernel
theorem dX12_squares_90 : decode cX12_squares 90 = .ok (.if_icmp .le 16, 3) := by decide +kernel
theorem dX12_squares_93 : decode cX12_squares 93 = .ok (.iload 13, 2) := by decide +kernel
theorem dX12_squares_95 : decode cX12_squares 95 = .ok (.iconst 4, 1) := by decide +kernel
theorem dX12_squares_96 : decode cX12_squares 96 = .ok (.irem, 1) := by decide +kernel
theorem dX12_squares_97 : decode cX12_squares 97 = .ok (.iload 10, 2) := by decide +kernel
theorem dX12_squares_99 : decode cX12_squares 99 = .ok (.if_icmp .ne 7, 3) := by decide +kernel
theorem dX12_squares_102 : decode cX12_squares 102 = .ok (.iconst 1, 1) := by decide +kernel
theorem dX12_squares_103 : decode cX12_squares 103 = .ok (.goto 27, 3) := by decide +kernel
theorem dX12_squares_106 : decode cX12_squares 106 = .ok (.iconst 0, 1) := by decide +kernel
theorem dX12_squares_107 : decode cX12_squares 107 = .ok (.goto 23, 3) := by decide +kernel
theorem dX12_squares_110 : decode cX12_squares 110 = .ok (.iload 14, 2) := by decide +kernel
theorem dX12_squares_112 : decode cX12_squares 112 = .ok (.iload_n 2, 1) := by decide +kernel
theorem dX12_squares_113 : decode cX12_squares 113 = .ok (.if_icmp .le 16, 3) := by decide +kernel
theorem dX12_squares_116 : decode cX12_squares 116 = .ok (.iload 14, 2) := by decide +kernel
theorem dX12_squares_118 : decode cX12_squares 118 = .ok (.iconst 4, 1) := by decide +kernel
theorem dX12_squares_119 : decode cX12_squares 119 = .ok (.irem, 1) := by decide +kernel
theorem dX12_squares_120 : decode cX12_squares 120 = .ok (.iload 10, 2) := by decide +kernel
theorem dX12_squares_122 : decode cX12_squares 122 = .ok (.if_icmp .ne 7, 3) := by decide +kernel
theorem dX12_squares_125 : decode cX12_squares 125 = .ok (.iconst 1, 1) := by decide +kernel
theorem dX12_squares_126 : decode cX12_squares 126 = .ok (.goto 4, 3) := by decide +kernel
theorem dX12_squares_129 : decode cX12_squares 129 = .ok (.iconst 0, 1) := by decide +kernel
theorem dX12_squares_130 : decode cX12_squares 130 = .ok (.istore 15, 2) := by decide +kernel
theorem dX12_squares_132 : decode cX12_squares 132 = .ok (.iload 15, 2) := by decide +kernel
theorem dX12_squares_134 : decode cX12_squares 134 = .ok (.ifCond .ne 6, 3) := by decide +kernel
theorem dX12_squares_137 : decode cX12_squares 137 = .ok (.goto 54, 3) := by decide +kernel
theorem dX12_squares_140 : decode cX12_squares 140 = .ok (.iinc 12 1, 3) := by decide +kernel
theorem dX12_squares_143 : decode cX12_squares 143 = .ok (.iload 11, 2) := by decide +kernel
theorem dX12_squares_145 : decode cX12_squares 145 = .ok (.aload_n 0, 1) := by decide +kernel
theorem dX12_squares_146 : decode cX12_squares 146 = .ok (.iload_n 1, 1) := by decide +kernel
theorem dX12_squares_147 : decode cX12_squares 147 = .ok (.iload 14, 2) := by decide +kernel
theorem dX12_squares_149 : decode cX12_squares 149 = .ok (.iload 13, 2) := by decide +kernel
theorem dX12_squares_151 : decode cX12_squares 151 = .ok (.invokevirtual 99, 3) := by decide +kernel
theorem dX12_squares_154 : decode cX12_squares 154 = .ok (.iload 6, 2) := by decide +kernel
theorem dX12_squares_156 : decode cX12_squares 156 = .ok (.ifCond .eq 17, 3) := by decide +kernel
theorem dX12_squares_159 : decode cX12_squares 159 = .ok (.aload_n 0, 1) := by decide +kernel
theorem dX12_squares_160 : decode cX12_squares 160 = .ok (.iload_n 1, 1) := by decide +kernel
theorem dX12_squares_161 : decode cX12_squares 161 = .ok (.iload 14, 2) := by decide +kernel
theorem dX12_squares_163 : decode cX12_squares 163 = .ok (.iload 13, 2) := by decide +kernel
theorem dX12_squares_165 : decode cX12_squares 165 = .ok (.iconst 1, 1) := by decide +kernel
theorem dX12_squares_166 : decode cX12_squares 166 = .ok (.isub, 1) := by decide +kernel
theorem dX12_squares_167 : decode cX12_squares 167 = .ok (.invokevirtual 99, 3) := by decide +kernel
theorem dX12_squares_170 : decode cX12_squares 170 = .ok (.goto 14, 3) := by decide +kernel
theorem dX12_squares_173 : decode cX12_squares 173 = .ok (.aload_n 0, 1) := by decide +kernel
theorem dX12_squares_174 : decode cX12_squares 174 = .ok (.iload_n 1, 1) := by decide +kernel
theorem dX12_squares_175 : decode cX12_squares 175 = .ok (.iload 14, 2) := by decide +kernel
theorem dX12_squares_177 : decode cX12_squares 177 = .ok (.iconst 1, 1) := by decide +kernel
theorem dX12_squares_178 : decode cX12_squares 178 = .ok (.isub, 1) := by decide +kernel
theorem dX12_squares_179 : decode cX12_squares 179 = .ok (.iload 13, 2) := by decide +kernel
theorem dX12_squares_181 : decode cX12_squares 181 = .ok (.invokevirtual 99, 3) := by decide +kernel
theorem dX12_squares_184 : decode cX12_squares 184 = .ok (.isub, 1) := by decide +kernel
theorem dX12_squares_185 : decode cX12_squares 185 = .ok (.invokestatic 102, 3) := by decide +kernel
theorem dX12_squares_188 : decode cX12_squares 188 = .ok (.iadd, 1) := by decide +kernel
theorem dX12_squares_189 : decode cX12_squares 189 = .ok (.istore 11, 2) := by decide +kernel
theorem dX12_squares_191 : decode cX12_squares 191 = .ok (.iinc 14 1, 3) := by decide +kernel
theorem dX12_squares_194 : decode cX12_squares 194 = .ok (.goto (-121), 3) := by decide +kernel
theorem dX12_squares_197 : decode cX12_squares 197 = .ok (.iinc 13 1, 3) := by decide +kernel
theorem dX12_squares_200 : decode cX12_squares 200 = .ok (.goto (-139), 3) := by decide +kernel
theorem dX12_squares_203 : decode cX12_squares 203 = .ok (.iload 12, 2) := by decide +kernel
theorem dX12_squares_205 : decode cX12_squares 205 = .ok (.ifCond .eq 36, 3) := by decide +kernel
theorem dX12_squares_208 : decode cX12_squares 208 = .ok (.iload 7, 2) := by decide +kernel
theorem dX12_squares_210 : decode cX12_squares 210 = .ok (.ifCond .lt 19, 3) := by decide +kernel
theorem dX12_squares_213 : decode cX12_squares 213 = .ok (.iload 11, 2) := by decide +kernel
theorem dX12_squares_215 : decode cX12_squares 215 = .ok (.iload 9, 2) := by decide +kernel
theorem dX12_squares_217 : decode cX12_squares 217 = .ok (.imul, 1) := by decide +kernel
theorem dX12_squares_218 : decode cX12_squares 218 = .ok (.iload 8, 2) := by decide +kernel
theorem dX12_squares_220 : decode cX12_squares 220 = .ok (.iload 12, 2) := by decide +kernel
theorem dX12_squares_222 : decode cX12_squares 222 = .ok (.imul, 1) := by decide +kernel
theorem dX12_squares_223 : decode cX12_squares 223 = .ok (.if_icmp .gt 6, 3) := by decide +kernel
theorem dX12_squares_226 : decode cX12_squares 226 = .ok (.goto 15, 3) := by decide +kernel
theorem dX12_squares_229 : decode cX12_squares 229 = .ok (.iload 10, 2) := by decide +kernel
theorem dX12_squares_231 : decode cX12_squares 231 = .ok (.istore 7, 2) := by decide +kernel
theorem dX12_squares_233 : decode cX12_squares 233 = .ok (.iload 11, 2) := by decide +kernel
theorem dX12_squares_235 : decode cX12_squares 235 = .ok (.istore 8, 2) := by decide +kernel
theorem dX12_squares_237 : decode cX12_squares 237 = .ok (.iload 12, 2) := by decide +kernel
theorem dX12_squares_239 : decode cX12_squares 239 = .ok (.istore 9, 2) := by decide +kernel
theorem dX12_squares_241 : decode cX12_squares 241 = .ok (.iinc 10 1, 3) := by decide +kernel
theorem dX12_squares_244 : decode cX12_squares 244 = .ok (.goto (-198), 3) := by decide +kernel
theorem dX12_squares_247 : decode cX12_squares 247 = .ok (.iload 7, 2) := by decide +kernel
theorem dX12_squares_249 : decode cX12_squares 249 = .ok (.ireturn, 1) := by decide +kernel
theorem dX12_isPlain_0 : decode cX12_isPlain 0 = .ok (.iconst 1, 1) := by decide +kernel
theorem dX12_isPlain_1 : decode cX12_isPlain 1 = .ok (.istore 5, 2) := by decide +kernel
theorem dX12_isPlain_3 : decode cX12_isPlain 3 = .ok (.iload 5, 2) := by decide +kernel
theorem dX12_isPlain_5 : decode cX12_isPlain 5 = .ok (.iload_n 2, 1) := by decide +kernel
theorem dX12_isPlain_6 : decode cX12_isPlain 6 = .ok (.iload_n 2, 1) := by decide +kernel
theorem dX12_isPlain_7 : decode cX12_isPlain 7 = .ok (.imul, 1) := by decide +kernel
theorem dX12_isPlain_8 : decode cX12_isPlain 8 = .ok (.if_icmp .ge 40, 3) := by decide +kernel
theorem dX12_isPlain_11 : decode cX12_isPlain 11 = .ok (.aload_n 0, 1) := by decide +kernel
theorem dX12_isPlain_12 : decode cX12_isPlain 12 = .ok (.iload_n 1, 1) := by decide +kernel
theorem dX12_isPlain_13 : decode cX12_isPlain 13 = .ok (.iload_n 3, 1) := by decide +kernel
theorem dX12_isPlain_14 : decode cX12_isPlain 14 = .ok (.iload 5, 2) := by decide +kernel
theorem dX12_isPlain_16 : decode cX12_isPlain 16 = .ok (.iload_n 2, 1) := by decide +kernel
theorem dX12_isPlain_17 : decode cX12_isPlain 17 = .ok (.irem, 1) := by decide +kernel
theorem dX12_isPlain_18 : decode cX12_isPlain 18 = .ok (.iadd, 1) := by decide +kernel
theorem dX12_isPlain_19 : decode cX12_isPlain 19 = .ok (.iload 4, 2) := by decide +kernel
theorem dX12_isPlain_21 : decode cX12_isPlain 21 = .ok (.iload 5, 2) := by decide +kernel
theorem dX12_isPlain_23 : decode cX12_isPlain 23 = .ok (.iload_n 2, 1) := by decide +kernel
theorem dX12_isPlain_24 : decode cX12_isPlain 24 = .ok (.idiv, 1) := by decide +kernel
theorem dX12_isPlain_25 : decode cX12_isPlain 25 = .ok (.iadd, 1) := by decide +kernel
theorem dX12_isPlain_26 : decode cX12_isPlain 26 = .ok (.invokevirtual 99, 3) := by decide +kernel
theorem dX12_isPlain_29 : decode cX12_isPlain 29 = .ok (.aload_n 0, 1) := by decide +kernel
theorem dX12_isPlain_30 : decode cX12_isPlain 30 = .ok (.iload_n 1, 1) := by decide +kernel
theorem dX12_isPlain_31 : decode cX12_isPlain 31 = .ok (.iload_n 3, 1) := by decide +kernel
theorem dX12_isPlain_32 : decode cX12_isPlain 32 = .ok (.iload 4, 2) := by decide +kernel
theorem dX12_isPlain_34 : decode cX12_isPlain 34 = .ok (.invokevirtual 99, 3) := by decide +kernel
theorem dX12_isPlain_37 : decode cX12_isPlain 37 = .ok (.if_icmp .eq 5, 3) := by decide +kernel
theorem dX12_isPlain_40 : decode cX12_isPlain 40 = .ok (.iconst 0, 1) := by decide +kernel
theorem dX12_isPlain_41 : decode cX12_isPlain 41 = .ok (.ireturn, 1) := by decide +kernel
theorem dX12_isPlain_42 : decode cX12_isPlain 42 = .ok (.iinc 5 1, 3) := by decide +kernel
theorem dX12_isPlain_45 : decode cX12_isPlain 45 = .ok (.goto (-42), 3) := by decide +kernel
theorem dX12_isPlain_48 : decode cX12_isPlain 48 = .ok (.iconst 1, 1) := by decide +kernel
theorem dX12_isPlain_49 : decode cX12_isPlain 49 = .ok (.ireturn, 1) := by decide +kernel
theorem dX12_isTwice_0 : decode cX12_isTwice 0 = .ok (.iload 6, 2) := by decide +kernel
theorem dX12_isTwice_2 : decode cX12_isTwice 2 = .ok (.iload 4, 2) := by decide +kernel
theorem dX12_isTwice_4 : decode cX12_isTwice 4 = .ok (.isub, 1) := by decide +kernel
theorem dX12_isTwice_5 : decode cX12_isTwice 5 = .ok (.invokestatic 102, 3) := by decide +kernel
theorem dX12_isTwice_8 : decode cX12_isTwice 8 = .ok (.iload_n 2, 1) := by decide +kernel
theorem dX12_isTwice_9 : decode cX12_isTwice 9 = .ok (.if_icmp .ge 17, 3) := by decide +kernel
theorem dX12_isTwice_12 : decode cX12_isTwice 12 = .ok (.iload 7, 2) := by decide +kernel
theorem dX12_isTwice_14 : decode cX12_isTwice 14 = .ok (.iload 5, 2) := by decide +kernel
theorem dX12_isTwice_16 : decode cX12_isTwice 16 = .ok (.isub, 1) := by decide +kernel
theorem dX12_isTwice_17 : decode cX12_isTwice 17 = .ok (.invokestatic 102, 3) := by decide +kernel
theorem dX12_isTwice_20 : decode cX12_isTwice 20 = .ok (.iload_n 2, 1) := by decide +kernel
theorem dX12_isTwice_21 : decode cX12_isTwice 21 = .ok (.if_icmp .ge 5, 3) := by decide +kernel
theorem dX12_isTwice_24 : decode cX12_isTwice 24 = .ok (.iconst 0, 1) := by decide +kernel
theorem dX12_isTwice_25 : decode cX12_isTwice 25 = .ok (.ireturn, 1) := by decide +kernel
theorem dX12_isTwice_26 : decode cX12_isTwice 26 = .ok (.iconst 0, 1) := by decide +kernel
theorem dX12_isTwice_27 : decode cX12_isTwice 27 = .ok (.istore 8, 2) := by decide +kernel
theorem dX12_isTwice_29 : decode cX12_isTwice 29 = .ok (.iload 8, 2) := by decide +kernel
theorem dX12_isTwice_31 : decode cX12_isTwice 31 = .ok (.iload_n 2, 1) := by decide +kernel
theorem dX12_isTwice_32 : decode cX12_isTwice 32 = .ok (.iload_n 2, 1) := by decide +kernel
theorem dX12_isTwice_33 : decode cX12_isTwice 33 = .ok (.imul, 1) := by decide +kernel
theorem dX12_isTwice_34 : decode cX12_isTwice 34 = .ok (.if_icmp .ge 57, 3) := by decide +kernel
theorem dX12_isTwice_37 : decode cX12_isTwice 37 = .ok (.aload_n 0, 1) := by decide +kernel
theorem dX12_isTwice_38 : decode cX12_isTwice 38 = .ok (.iload_n 1, 1) := by decide +kernel
theorem dX12_isTwice_39 : decode cX12_isTwice 39 = .ok (.iload 4, 2) := by decide +kernel
theorem dX12_isTwice_41 : decode cX12_isTwice 41 = .ok (.iload 8, 2) := by decide +kernel
theorem dX12_isTwice_43 : decode cX12_isTwice 43 = .ok (.iload_n 2, 1) := by decide +kernel
theorem dX12_isTwice_44 : decode cX12_isTwice 44 = .ok (.irem, 1) := by decide +kernel
theorem dX12_isTwice_45 : decode cX12_isTwice 45 = .ok (.iadd, 1) := by decide +kernel
theorem dX12_isTwice_46 : decode cX12_isTwice 46 = .ok (.iload 5, 2) := by decide +kernel
theorem dX12_isTwice_48 : decode cX12_isTwice 48 = .ok (.iload 8, 2) := by decide +kernel
theorem dX12_isTwice_50 : decode cX12_isTwice 50 = .ok (.iload_n 2, 1) := by decide +kernel
theorem dX12_isTwice_51 : decode cX12_isTwice 51 = .ok (.idiv, 1) := by decide +kernel
theorem dX12_isTwice_52 : decode cX12_isTwice 52 = .ok (.iadd, 1) := by decide +kernel
theorem dX12_isTwice_53 : decode cX12_isTwice 53 = .ok (.invokevirtual 99, 3) := by decide +kernel
theorem dX12_isTwice_56 : decode cX12_isTwice 56 = .ok (.aload_n 0, 1) := by decide +kernel
theorem dX12_isTwice_57 : decode cX12_isTwice 57 = .ok (.iload_n 1, 1) := by decide +kernel
theorem dX12_isTwice_58 : decode cX12_isTwice 58 = .ok (.iload 6, 2) := by decide +kernel
theorem dX12_isTwice_60 : decode cX12_isTwice 60 = .ok (.iload 8, 2) := by decide +kernel
theorem dX12_isTwice_62 : decode cX12_isTwice 62 = .ok (.iload_n 2, 1) := by decide +kernel
theorem dX12_isTwice_63 : decode cX12_isTwice 63 = .ok (.irem, 1) := by decide +kernel
theorem dX12_isTwice_64 : decode cX12_isTwice 64 = .ok (.iadd, 1) := by decide +kernel
theorem dX12_isTwice_65 : decode cX12_isTwice 65 = .ok (.iload 7, 2) := by decide +kernel
theorem dX12_isTwice_67 : decode cX12_isTwice 67 = .ok (.iload 8, 2) := by decide +kernel
theorem dX12_isTwice_69 : decode cX12_isTwice 69 = .ok (.iload_n 2, 1) := by decide +kernel
theorem dX12_isTwice_70 : decode cX12_isTwice 70 = .ok (.idiv, 1) := by decide +kernel
theorem dX12_isTwice_71 : decode cX12_isTwice 71 = .ok (.iadd, 1) := by decide +kernel
theorem dX12_isTwice_72 : decode cX12_isTwice 72 = .ok (.invokevirtual 99, 3) := by decide +kernel
theorem dX12_isTwice_75 : decode cX12_isTwice 75 = .ok (.isub, 1) := by decide +kernel
theorem dX12_isTwice_76 : decode cX12_isTwice 76 = .ok (.invokestatic 102, 3) := by decide +kernel
theorem dX12_isTwice_79 : decode cX12_isTwice 79 = .ok (.iload_n 3, 1) := by decide +kernel
theorem dX12_isTwice_80 : decode cX12_isTwice 80 = .ok (.if_icmp .le 5, 3) := by decide +kernel
theorem dX12_isTwice_83 : decode cX12_isTwice 83 = .ok (.iconst 0, 1) := by decide +kernel
theorem dX12_isTwice_84 : decode cX12_isTwice 84 = .ok (.ireturn, 1) := by decide +kernel
theorem dX12_isTwice_85 : decode cX12_isTwice 85 = .ok (.iinc 8 1, 3) := by decide +kernel
theorem dX12_isTwice_88 : decode cX12_isTwice 88 = .ok (.goto (-59), 3) := by decide +kernel
theorem dX12_isTwice_91 : decode cX12_isTwice 91 = .ok (.aload_n 0, 1) := by decide +kernel
theorem dX12_isTwice_92 : decode cX12_isTwice 92 = .ok (.iload_n 1, 1) := by decide +kernel
theorem dX12_isTwice_93 : decode cX12_isTwice 93 = .ok (.iload_n 2, 1) := by decide +kernel
theorem dX12_isTwice_94 : decode cX12_isTwice 94 = .ok (.iload 4, 2) := by decide +kernel
theorem dX12_isTwice_96 : decode cX12_isTwice 96 = .ok (.iload 5, 2) := by decide +kernel
theorem dX12_isTwice_98 : decode cX12_isTwice 98 = .ok (.invokevirtual 168, 3) := by decide +kernel
theorem dX12_isTwice_101 : decode cX12_isTwice 101 = .ok (.ifCond .ne 7, 3) := by decide +kernel
theorem dX12_isTwice_104 : decode cX12_isTwice 104 = .ok (.iconst 1, 1) := by decide +kernel
theorem dX12_isTwice_105 : decode cX12_isTwice 105 = .ok (.goto 4, 3) := by decide +kernel
theorem dX12_isTwice_108 : decode cX12_isTwice 108 = .ok (.iconst 0, 1) := by decide +kernel
theorem dX12_isTwice_109 : decode cX12_isTwice 109 = .ok (.ireturn, 1) := by decide +kernel
theorem dX12_meets_0 : decode cX12_meets 0 = .ok (.iload_n 0, 1) := by decide +kernel
theorem dX12_meets_1 : decode cX12_meets 1 = .ok (.iload_n 2, 1) := by decide +kernel
theorem dX12_meets_2 : decode cX12_meets 2 = .ok (.iconst 4, 1) := by decide +kernel
theorem dX12_meets_3 : decode cX12_meets 3 = .ok (.iadd, 1) := by decide +kernel
theorem dX12_meets_4 : decode cX12_meets 4 = .ok (.if_icmp .ge 14, 3) := by decide +kernel
theorem dX12_meets_7 : decode cX12_meets 7 = .ok (.iload_n 0, 1) := by decide +kernel
theorem dX12_meets_8 : decode cX12_meets 8 = .ok (.iload_n 1, 1) := by decide +kernel
theorem dX12_meets_9 : decode cX12_meets 9 = .ok (.iadd, 1) := by decide +kernel
theorem dX12_meets_10 : decode cX12_meets 10 = .ok (.iload_n 2, 1) := by decide +kernel
theorem dX12_meets_11 : decode cX12_meets 11 = .ok (.if_icmp .le 7, 3) := by decide +kernel
theorem dX12_meets_14 : decode cX12_meets 14 = .ok (.iconst 1, 1) := by decide +kernel
theorem dX12_meets_15 : decode cX12_meets 15 = .ok (.goto 4, 3) := by decide +kernel
theorem dX12_meets_18 : decode cX12_meets 18 = .ok (.iconst 0, 1) := by decide +kernel
theorem dX12_meets_19 : decode cX12_meets 19 = .ok (.ireturn, 1) := by decide +kernel
theorem dX12_findTwice_0 : decode cX12_findTwice 0 = .ok (.iconst 0, 1) := by decide +kernel
theorem dX12_findTwice_1 : decode cX12_findTwice 1 = .ok (.istore 4, 2) := by decide +kernel
theorem dX12_findTwice_3 : decode cX12_findTwice 3 = .ok (.aload_n 0, 1) := by decide +kernel
theorem dX12_findTwice_4 : decode cX12_findTwice 4 = .ok (.iconst 0, 1) := by decide +kernel
theorem dX12_findTwice_5 : decode cX12_findTwice 5 = .ok (.putfield 171, 3) := by decide +kernel
theorem dX12_findTwice_8 : decode cX12_findTwice 8 = .ok (.aload_n 0, 1) := by decide +kernel
theorem dX12_findTwice_9 : decode cX12_findTwice 9 = .ok (.getfield 69, 3) := by decide +kernel
theorem dX12_findTwice_12 : decode cX12_findTwice 12 = .ok (.iload_n 2, 1) := by decide +kernel
theorem dX12_findTwice_13 : decode cX12_findTwice 13 = .ok (.isub, 1) := by decide +kernel
theorem dX12_findTwice_14 : decode cX12_findTwice 14 = .ok (.iconst 1, 1) := by decide +kernel
theorem dX12_findTwice_15 : decode cX12_findTwice 15 = .ok (.iadd, 1) := by decide +kernel
theorem dX12_findTwice_16 : decode cX12_findTwice 16 = .ok (.istore 5, 2) := by decide +kernel
theorem dX12_findTwice_18 : decode cX12_findTwice 18 = .ok (.iload 5, 2) := by decide +kernel
theorem dX12_findTwice_20 : decode cX12_findTwice 20 = .ok (.iconst 1, 1) := by decide +kernel
theorem dX12_findTwice_21 : decode cX12_findTwice 21 = .ok (.if_icmp .lt 11, 3) := by decide +kernel
theorem dX12_findTwice_24 : decode cX12_findTwice 24 = .ok (.aload_n 0, 1) := by decide +kernel
theorem dX12_findTwice_25 : decode cX12_findTwice 25 = .ok (.getfield 72, 3) := by decide +kernel
theorem dX12_findTwice_28 : decode cX12_findTwice 28 = .ok (.iload_n 2, 1) := by decide +kernel
theorem dX12_findTwice_29 : decode cX12_findTwice 29 = .ok (.if_icmp .ge 7, 3) := by decide +kernel
theorem dX12_findTwice_32 : decode cX12_findTwice 32 = .ok (.iconst 0, 1) := by decide +kernel
theorem dX12_findTwice_33 : decode cX12_findTwice 33 = .ok (.goto 14, 3) := by decide +kernel
theorem dX12_findTwice_36 : decode cX12_findTwice 36 = .ok (.iload 5, 2) := by decide +kernel
theorem dX12_findTwice_38 : decode cX12_findTwice 38 = .ok (.aload_n 0, 1) := by decide +kernel
theorem dX12_findTwice_39 : decode cX12_findTwice 39 = .ok (.getfield 72, 3) := by decide +kernel
theorem dX12_findTwice_42 : decode cX12_findTwice 42 = .ok (.iload_n 2, 1) := by decide +kernel
theorem dX12_findTwice_43 : decode cX12_findTwice 43 = .ok (.isub, 1) := by decide +kernel
theorem dX12_findTwice_44 : decode cX12_findTwice 44 = .ok (.iconst 1, 1) := by decide +kernel
theorem dX12_findTwice_45 : decode cX12_findTwice 45 = .ok (.iadd, 1) := by decide +kernel
theorem dX12_findTwice_46 : decode cX12_findTwice 46 = .ok (.imul, 1) := by decide +kernel
theorem dX12_findTwice_47 : decode cX12_findTwice 47 = .ok (.istore 6, 2) := by decide +kernel
theorem dX12_findTwice_49 : decode cX12_findTwice 49 = .ok (.iconst 0, 1) := by decide +kernel
theorem dX12_findTwice_50 : decode cX12_findTwice 50 = .ok (.istore 7, 2) := by decide +kernel
theorem dX12_findTwice_52 : decode cX12_findTwice 52 = .ok (.iload 7, 2) := by decide +kernel
theorem dX12_findTwice_54 : decode cX12_findTwice 54 = .ok (.iload 6, 2) := by decide +kernel
theorem dX12_findTwice_56 : decode cX12_findTwice 56 = .ok (.if_icmp .ge 185, 3) := by decide +kernel
theorem dX12_findTwice_59 : decode cX12_findTwice 59 = .ok (.iload 7, 2) := by decide +kernel
theorem dX12_findTwice_61 : decode cX12_findTwice 61 = .ok (.iconst 1, 1) := by decide +kernel
theorem dX12_findTwice_62 : decode cX12_findTwice 62 = .ok (.iadd, 1) := by decide +kernel
theorem dX12_findTwice_63 : decode cX12_findTwice 63 = .ok (.istore 8, 2) := by decide +kernel
theorem dX12_findTwice_65 : decode cX12_findTwice 65 = .ok (.iload 8, 2) := by decide +kernel
theorem dX12_findTwice_67 : decode cX12_findTwice 67 = .ok (.iload 6, 2) := by decide +kernel
theorem dX12_findTwice_69 : decode cX12_findTwice 69 = .ok (.if_icmp .ge 166, 3) := by decide +kernel
theorem dX12_findTwice_72 : decode cX12_findTwice 72 = .ok (.iload 7, 2) := by decide +kernel
theorem dX12_findTwice_74 : decode cX12_findTwice 74 = .ok (.iload 5, 2) := by decide +kernel
theorem dX12_findTwice_76 : decode cX12_findTwice 76 = .ok (.irem, 1) := by decide +kernel
theorem dX12_findTwice_77 : decode cX12_findTwice 77 = .ok (.istore 9, 2) := by decide +kernel
theorem dX12_findTwice_79 : decode cX12_findTwice 79 = .ok (.iload 7, 2) := by decide +kernel
theorem dX12_findTwice_81 : decode cX12_findTwice 81 = .ok (.iload 5, 2) := by decide +kernel
theorem dX12_findTwice_83 : decode cX12_findTwice 83 = .ok (.idiv, 1) := by decide +kernel
theorem dX12_findTwice_84 : decode cX12_findTwice 84 = .ok (.istore 10, 2) := by decide +kernel
theorem dX12_findTwice_86 : decode cX12_findTwice 86 = .ok (.iload 8, 2) := by decide +kernel
theorem dX12_findTwice_88 : decode cX12_findTwice 88 = .ok (.iload 5, 2) := by decide +kernel
theorem dX12_findTwice_90 : decode cX12_findTwice 90 = .ok (.irem, 1) := by decide +kernel
theorem dX12_findTwice_91 : decode cX12_findTwice 91 = .ok (.istore 11, 2) := by decide +kernel
theorem dX12_findTwice_93 : decode cX12_findTwice 93 = .ok (.iload 8, 2) := by decide +kernel
theorem dX12_findTwice_95 : decode cX12_findTwice 95 = .ok (.iload 5, 2) := by decide +kernel
theorem dX12_findTwice_97 : decode cX12_findTwice 97 = .ok (.idiv, 1) := by decide +kernel
theorem dX12_findTwice_98 : decode cX12_findTwice 98 = .ok (.istore 12, 2) := by decide +kernel
theorem dX12_findTwice_100 : decode cX12_findTwice 100 = .ok (.aload_n 0, 1) := by decide +kernel
theorem dX12_findTwice_101 : decode cX12_findTwice 101 = .ok (.iload_n 1, 1) := by decide +kernel
theorem dX12_findTwice_102 : decode cX12_findTwice 102 = .ok (.iload_n 2, 1) := by decide +kernel
theorem dX12_findTwice_103 : decode cX12_findTwice 103 = .ok (.iload_n 3, 1) := by decide +kernel
theorem dX12_findTwice_104 : decode cX12_findTwice 104 = .ok (.iload 9, 2) := by decide +kernel
theorem dX12_findTwice_106 : decode cX12_findTwice 106 = .ok (.iload 10, 2) := by decide +kernel
theorem dX12_findTwice_108 : decode cX12_findTwice 108 = .ok (.iload 11, 2) := by decide +kernel
theorem dX12_findTwice_110 : decode cX12_findTwice 110 = .ok (.iload 12, 2) := by decide +kernel
theorem dX12_findTwice_112 : decode cX12_findTwice 112 = .ok (.invokevirtual 175, 3) := by decide +kernel
theorem dX12_findTwice_115 : decode cX12_findTwice 115 = .ok (.ifCond .ne 6, 3) := by decide +kernel
theorem dX12_findTwice_118 : decode cX12_findTwice 118 = .ok (.goto 111, 3) := by decide +kernel
theorem dX12_findTwice_121 : decode cX12_findTwice 121 = .ok (.iload 4, 2) := by decide +kernel
theorem dX12_findTwice_123 : decode cX12_findTwice 123 = .ok (.ifCond .ne 35, 3) := by decide +kernel
theorem dX12_findTwice_126 : decode cX12_findTwice 126 = .ok (.aload_n 0, 1) := by decide +kernel
theorem dX12_findTwice_127 : decode cX12_findTwice 127 = .ok (.getfield 25, 3) := by decide +kernel
theorem dX12_findTwice_130 : decode cX12_findTwice 130 = .ok (.iconst 0, 1) := by decide +kernel
theorem dX12_findTwice_131 : decode cX12_findTwice 131 = .ok (.iload 9, 2) := by decide +kernel
theorem dX12_findTwice_133 : decode cX12_findTwice 133 = .ok (.iastore, 1) := by decide +kernel
theorem dX12_findTwice_134 : decode cX12_findTwice 134 = .ok (.aload_n 0, 1) := by decide +kernel
theorem dX12_findTwice_135 : decode cX12_findTwice 135 = .ok (.getfield 25, 3) := by decide +kernel
theorem dX12_findTwice_138 : decode cX12_findTwice 138 = .ok (.iconst 1, 1) := by decide +kernel
theorem dX12_findTwice_139 : decode cX12_findTwice 139 = .ok (.iload 10, 2) := by decide +kernel
theorem dX12_findTwice_141 : decode cX12_findTwice 141 = .ok (.iastore, 1) := by decide +kernel
theorem dX12_findTwice_142 : decode cX12_findTwice 142 = .ok (.aload_n 0, 1) := by decide +kernel
theorem dX12_findTwice_143 : decode cX12_findTwice 143 = .ok (.getfield 25, 3) := by decide +kernel
theorem dX12_findTwice_146 : decode cX12_findTwice 146 = .ok (.iconst 2, 1) := by decide +kernel
theorem dX12_findTwice_147 : decode cX12_findTwice 147 = .ok (.iload 11, 2) := by decide +kernel
theorem dX12_findTwice_149 : decode cX12_findTwice 149 = .ok (.iastore, 1) := by decide +kernel
theorem dX12_findTwice_150 : decode cX12_findTwice 150 = .ok (.aload_n 0, 1) := by decide +kernel
theorem dX12_findTwice_151 : decode cX12_findTwice 151 = .ok (.getfield 25, 3) := by decide +kernel
theorem dX12_findTwice_154 : decode cX12_findTwice 154 = .ok (.iconst 3, 1) := by decide +kernel
theorem dX12_findTwice_155 : decode cX12_findTwice 155 = .ok (.iload 12, 2) := by decide +kernel
theorem dX12_findTwice_157 : decode cX12_findTwice 157 = .ok (.iastore, 1) := by decide +kernel
theorem dX12_findTwice_158 : decode cX12_findTwice 158 = .ok (.aload_n 0, 1) := by decide +kernel
theorem dX12_findTwice_159 : decode cX12_findTwice 159 = .ok (.aload_n 0, 1) := by decide +kernel
theorem dX12_findTwice_160 : decode cX12_findTwice 160 = .ok (.getfield 171, 3) := by decide +kernel
theorem dX12_findTwice_163 : decode cX12_findTwice 163 = .ok (.ifCond .ne 55, 3) := by decide +kernel
theorem dX12_findTwice_166 : decode cX12_findTwice 166 = .ok (.iload 9, 2) := by decide +kernel
theorem dX12_findTwice_168 : decode cX12_findTwice 168 = .ok (.iload_n 2, 1) := by decide +kernel
theorem dX12_findTwice_169 : decode cX12_findTwice 169 = .ok (.aload_n 0, 1) := by decide +kernel
theorem dX12_findTwice_170 : decode cX12_findTwice 170 = .ok (.getfield 179, 3) := by decide +kernel
theorem dX12_findTwice_173 : decode cX12_findTwice 173 = .ok (.invokestatic 182, 3) := by decide +kernel
theorem dX12_findTwice_176 : decode cX12_findTwice 176 = .ok (.ifCond .eq 16, 3) := by decide +kernel
theorem dX12_findTwice_179 : decode cX12_findTwice 179 = .ok (.iload 10, 2) := by decide +kernel
theorem dX12_findTwice_181 : decode cX12_findTwice 181 = .ok (.iload_n 2, 1) := by decide +kernel
theorem dX12_findTwice_182 : decode cX12_findTwice 182 = .ok (.aload_n 0, 1) := by decide +kernel
theorem dX12_findTwice_183 : decode cX12_findTwice 183 = .ok (.getfield 185, 3) := by decide +kernel
theorem dX12_findTwice_186 : decode cX12_findTwice 186 = .ok (.invokestatic 182, 3) := by decide +kernel
theorem dX12_findTwice_189 : decode cX12_findTwice 189 = .ok (.ifCond .ne 29, 3) := by decide +kernel
theorem dX12_findTwice_192 : decode cX12_findTwice 192 = .ok (.iload 11, 2) := by decide +kernel
theorem dX12_findTwice_194 : decode cX12_findTwice 194 = .ok (.iload_n 2, 1) := by decide +kernel
theorem dX12_findTwice_195 : decode cX12_findTwice 195 = .ok (.aload_n 0, 1) := by decide +kernel
theorem dX12_findTwice_196 : decode cX12_findTwice 196 = .ok (.getfield 179, 3) := by decide +kernel
theorem dX12_findTwice_199 : decode cX12_findTwice 199 = .ok (.invokestatic 182, 3) := by decide +kernel
theorem dX12_findTwice_202 : decode cX12_findTwice 202 = .ok (.ifCond .eq 20, 3) := by decide +kernel
theorem dX12_findTwice_205 : decode cX12_findTwice 205 = .ok (.iload 12, 2) := by decide +kernel
theorem dX12_findTwice_207 : decode cX12_findTwice 207 = .ok (.iload_n 2, 1) := by decide +kernel
theorem dX12_findTwice_208 : decode cX12_findTwice 208 = .ok (.aload_n 0, 1) := by decide +kernel
theorem dX12_findTwice_209 : decode cX12_findTwice 209 = .ok (.getfield 185, 3) := by decide +kernel
theorem dX12_findTwice_212 : decode cX12_findTwice 212 = .ok (.invokestatic 182, 3) := by decide +kernel
theorem dX12_findTwice_215 : decode cX12_findTwice 215 = .ok (.ifCond .eq 7, 3) := by decide +kernel
theorem dX12_findTwice_218 : decode cX12_findTwice 218 = .ok (.iconst 1, 1) := by decide +kernel
theorem dX12_findTwice_219 : decode cX12_findTwice 219 = .ok (.goto 4, 3) := by decide +kernel
theorem dX12_findTwice_222 : decode cX12_findTwice 222 = .ok (.iconst 0, 1) := by decide +kernel
theorem dX12_findTwice_223 : decode cX12_findTwice 223 = .ok (.putfield 171, 3) := by decide +kernel
theorem dX12_findTwice_226 : decode cX12_findTwice 226 = .ok (.iinc 4 1, 3) := by decide +kernel
theorem dX12_findTwice_229 : decode cX12_findTwice 229 = .ok (.iinc 8 1, 3) := by decide +kernel
theorem dX12_findTwice_232 : decode cX12_findTwice 232 = .ok (.goto (-167), 3) := by decide +kernel
theorem dX12_findTwice_235 : decode cX12_findTwice 235 = .ok (.iinc 7 1, 3) := by decide +kernel
theorem dX12_findTwice_238 : decode cX12_findTwice 238 = .ok (.goto (-186), 3) := by decide +kernel
theorem dX12_findTwice_241 : decode cX12_findTwice 241 = .ok (.iload 4, 2) := by decide +kernel
theorem dX12_findTwice_243 : decode cX12_findTwice 243 = .ok (.ireturn, 1) := by decide +kernel
theorem dX12_isTwiceAsked_0 : decode cX12_isTwiceAsked 0 = .ok (.iload_n 0, 1) := by decide +kernel
theorem dX12_isTwiceAsked_1 : decode cX12_isTwiceAsked 1 = .ok (.iconst 2, 1) := by decide +kernel
theorem dX12_isTwiceAsked_2 : decode cX12_isTwiceAsked 2 = .ok (.bipush 6, 2) := by decide +kernel
theorem dX12_isTwiceAsked_4 : decode cX12_isTwiceAsked 4 = .ok (.invokestatic 79, 3) := by decide +kernel
theorem dX12_isTwiceAsked_7 : decode cX12_isTwiceAsked 7 = .ok (.ifCond .eq 17, 3) := by decide +kernel
theorem dX12_isTwiceAsked_10 : decode cX12_isTwiceAsked 10 = .ok (.iload_n 1, 1) := by decide +kernel
theorem dX12_isTwiceAsked_11 : decode cX12_isTwiceAsked 11 = .ok (.iconst 0, 1) := by decide +kernel
theorem dX12_isTwiceAsked_12 : decode cX12_isTwiceAsked 12 = .ok (.bipush 9, 2) := by decide +kernel
theorem dX12_isTwiceAsked_14 : decode cX12_isTwiceAsked 14 = .ok (.invokestatic 79, 3) := by decide +kernel
theorem dX12_isTwiceAsked_17 : decode cX12_isTwiceAsked 17 = .ok (.ifCond .eq 7, 3) := by decide +kernel
theorem dX12_isTwiceAsked_20 : decode cX12_isTwiceAsked 20 = .ok (.iconst 1, 1) := by decide +kernel
theorem dX12_isTwiceAsked_21 : decode cX12_isTwiceAsked 21 = .ok (.goto 4, 3) := by decide +kernel
theorem dX12_isTwiceAsked_24 : decode cX12_isTwiceAsked 24 = .ok (.iconst 0, 1) := by decide +kernel
theorem dX12_isTwiceAsked_25 : decode cX12_isTwiceAsked 25 = .ok (.ireturn, 1) := by decide +kernel
theorem dX12_twice_0 : decode cX12_twice 0 = .ok (.iload_n 1, 1) := by decide +kernel
theorem dX12_twice_1 : decode cX12_twice 1 = .ok (.invokestatic 87, 3) := by decide +kernel
theorem dX12_twice_4 : decode cX12_twice 4 = .ok (.ifCond .eq 21, 3) := by decide +kernel
theorem dX12_twice_7 : decode cX12_twice 7 = .ok (.iload_n 2, 1) := by decide +kernel
theorem dX12_twice_8 : decode cX12_twice 8 = .ok (.iload_n 3, 1) := by decide +kernel
theorem dX12_twice_9 : decode cX12_twice 9 = .ok (.invokestatic 188, 3) := by decide +kernel
theorem dX12_twice_12 : decode cX12_twice 12 = .ok (.ifCond .eq 13, 3) := by decide +kernel
theorem dX12_twice_15 : decode cX12_twice 15 = .ok (.iload 4, 2) := by decide +kernel
theorem dX12_twice_17 : decode cX12_twice 17 = .ok (.iconst 0, 1) := by decide +kernel
theorem dX12_twice_18 : decode cX12_twice 18 = .ok (.iconst 4, 1) := by decide +kernel
theorem dX12_twice_19 : decode cX12_twice 19 = .ok (.invokestatic 79, 3) := by decide +kernel
theorem dX12_twice_22 : decode cX12_twice 22 = .ok (.ifCond .ne 5, 3) := by decide +kernel
theorem dX12_twice_25 : decode cX12_twice 25 = .ok (.iconst (-1), 1) := by decide +kernel
theorem dX12_twice_26 : decode cX12_twice 26 = .ok (.ireturn, 1) := by decide +kernel
theorem dX12_twice_27 : decode cX12_twice 27 = .ok (.aload_n 0, 1) := by decide +kernel
theorem dX12_twice_28 : decode cX12_twice 28 = .ok (.iload_n 1, 1) := by decide +kernel
theorem dX12_twice_29 : decode cX12_twice 29 = .ok (.iload_n 2, 1) := by decide +kernel
theorem dX12_twice_30 : decode cX12_twice 30 = .ok (.iload_n 3, 1) := by decide +kernel
theorem dX12_twice_31 : decode cX12_twice 31 = .ok (.invokevirtual 191, 3) := by decide +kernel
theorem dX12_twice_34 : decode cX12_twice 34 = .ok (.istore 5, 2) := by decide +kernel
theorem dX12_twice_36 : decode cX12_twice 36 = .ok (.iload 4, 2) := by decide +kernel
theorem dX12_twice_38 : decode cX12_twice 38 = .ok (.ifCond .ne 8, 3) := by decide +kernel
theorem dX12_twice_41 : decode cX12_twice 41 = .ok (.iload 5, 2) := by decide +kernel
theorem dX12_twice_43 : decode cX12_twice 43 = .ok (.goto 21, 3) := by decide +kernel
theorem dX12_twice_46 : decode cX12_twice 46 = .ok (.iload 5, 2) := by decide +kernel
theorem dX12_twice_48 : decode cX12_twice 48 = .ok (.ifCond .ne 7, 3) := by decide +kernel
theorem dX12_twice_51 : decode cX12_twice 51 = .ok (.iconst (-1), 1) := by decide +kernel
theorem dX12_twice_52 : decode cX12_twice 52 = .ok (.goto 12, 3) := by decide +kernel
theorem dX12_twice_55 : decode cX12_twice 55 = .ok (.aload_n 0, 1) := by decide +kernel
theorem dX12_twice_56 : decode cX12_twice 56 = .ok (.getfield 25, 3) := by decide +kernel
theorem dX12_twice_59 : decode cX12_twice 59 = .ok (.iload 4, 2) := by decide +kernel
theorem dX12_twice_61 : decode cX12_twice 61 = .ok (.iconst 1, 1) := by decide +kernel
theorem dX12_twice_62 : decode cX12_twice 62 = .ok (.isub, 1) := by decide +kernel
theorem dX12_twice_63 : decode cX12_twice 63 = .ok (.iaload, 1) := by decide +kernel
theorem dX12_twice_64 : decode cX12_twice 64 = .ok (.ireturn, 1) := by decide +kernel
theorem dX12_shift_0 : decode cX12_shift 0 = .ok (.aload_n 0, 1) := by decide +kernel
theorem dX12_shift_1 : decode cX12_shift 1 = .ok (.iconst 0, 1) := by decide +kernel
theorem dX12_shift_2 : decode cX12_shift 2 = .ok (.putfield 194, 3) := by decide +kernel
theorem dX12_shift_5 : decode cX12_shift 5 = .ok (.bipush (-3), 2) := by decide +kernel
theorem dX12_shift_7 : decode cX12_shift 7 = .ok (.istore_n 3, 1) := by decide +kernel
theorem dX12_shift_8 : decode cX12_shift 8 = .ok (.iload_n 3, 1) := by decide +kernel
theorem dX12_shift_9 : decode cX12_shift 9 = .ok (.iconst 3, 1) := by decide +kernel
theorem dX12_shift_10 : decode cX12_shift 10 = .ok (.if_icmp .gt 176, 3) := by decide +kernel
theorem dX12_shift_13 : decode cX12_shift 13 = .ok (.bipush (-3), 2) := by decide +kernel
theorem dX12_shift_15 : decode cX12_shift 15 = .ok (.istore 4, 2) := by decide +kernel
theorem dX12_shift_17 : decode cX12_shift 17 = .ok (.iload 4, 2) := by decide +kernel
theorem dX12_shift_19 : decode cX12_shift 19 = .ok (.iconst 3, 1) := by decide +kernel
theorem dX12_shift_20 : decode cX12_shift 20 = .ok (.if_icmp .gt 160, 3) := by decide +kernel
theorem dX12_shift_23 : decode cX12_shift 23 = .ok (.iconst 0, 1) := by decide +kernel
theorem dX12_shift_24 : decode cX12_shift 24 = .ok (.istore 5, 2) := by decide +kernel
theorem dX12_shift_26 : decode cX12_shift 26 = .ok (.iconst 0, 1) := by decide +kernel
theorem dX12_shift_27 : decode cX12_shift 27 = .ok (.istore 6, 2) := by decide +kernel
theorem dX12_shift_29 : decode cX12_shift 29 = .ok (.iconst 0, 1) := by decide +kernel
theorem dX12_shift_30 : decode cX12_shift 30 = .ok (.istore 7, 2) := by decide +kernel
theorem dX12_shift_32 : decode cX12_shift 32 = .ok (.iload 7, 2) := by decide +kernel
theorem dX12_shift_34 : decode cX12_shift 34 = .ok (.aload_n 0, 1) := by decide +kernel
theorem dX12_shift_35 : decode cX12_shift 35 = .ok (.getfield 69, 3) := by decide +kernel
theorem dX12_shift_38 : decode cX12_shift 38 = .ok (.aload_n 0, 1) := by decide +kernel
theorem dX12_shift_39 : decode cX12_shift 39 = .ok (.getfield 72, 3) := by decide +kernel
theorem dX12_shift_42 : decode cX12_shift 42 = .ok (.imul, 1) := by decide +kernel
theorem dX12_shift_43 : decode cX12_shift 43 = .ok (.if_icmp .ge 81, 3) := by decide +kernel
theorem dX12_shift_46 : decode cX12_shift 46 = .ok (.iload 7, 2) := by decide +kernel
theorem dX12_shift_48 : decode cX12_shift 48 = .ok (.aload_n 0, 1) := by decide +kernel
theorem dX12_shift_49 : decode cX12_shift 49 = .ok (.getfield 69, 3) := by decide +kernel
theorem dX12_shift_52 : decode cX12_shift 52 = .ok (.irem, 1) := by decide +kernel
theorem dX12_shift_53 : decode cX12_shift 53 = .ok (.istore 8, 2) := by decide +kernel
theorem dX12_shift_55 : decode cX12_shift 55 = .ok (.iload 7, 2) := by decide +kernel
theorem dX12_shift_57 : decode cX12_shift 57 = .ok (.aload_n 0, 1) := by decide +kernel
theorem dX12_shift_58 : decode cX12_shift 58 = .ok (.getfield 69, 3) := by decide +kernel
theorem dX12_shift_61 : decode cX12_shift 61 = .ok (.idiv, 1) := by decide +kernel
theorem dX12_shift_62 : decode cX12_shift 62 = .ok (.istore 9, 2) := by decide +kernel
theorem dX12_shift_64 : decode cX12_shift 64 = .ok (.aload_n 0, 1) := by decide +kernel
theorem dX12_shift_65 : decode cX12_shift 65 = .ok (.iload 8, 2) := by decide +kernel
theorem dX12_shift_67 : decode cX12_shift 67 = .ok (.iload 4, 2) := by decide +kernel
theorem dX12_shift_69 : decode cX12_shift 69 = .ok (.iadd, 1) := by decide +kernel
theorem dX12_shift_70 : decode cX12_shift 70 = .ok (.iload 9, 2) := by decide +kernel
theorem dX12_shift_72 : decode cX12_shift 72 = .ok (.iload_n 3, 1) := by decide +kernel
theorem dX12_shift_73 : decode cX12_shift 73 = .ok (.iadd, 1) := by decide +kernel
theorem dX12_shift_74 : decode cX12_shift 74 = .ok (.invokevirtual 91, 3) := by decide +kernel
theorem dX12_shift_77 : decode cX12_shift 77 = .ok (.ifCond .ne 6, 3) := by decide +kernel
theorem dX12_shift_80 : decode cX12_shift 80 = .ok (.goto 38, 3) := by decide +kernel
theorem dX12_shift_83 : decode cX12_shift 83 = .ok (.iinc 6 1, 3) := by decide +kernel
theorem dX12_shift_86 : decode cX12_shift 86 = .ok (.iload 5, 2) := by decide +kernel
theorem dX12_shift_88 : decode cX12_shift 88 = .ok (.aload_n 0, 1) := by decide +kernel
theorem dX12_shift_89 : decode cX12_shift 89 = .ok (.iload_n 1, 1) := by decide +kernel
theorem dX12_shift_90 : decode cX12_shift 90 = .ok (.iload 8, 2) := by decide +kernel
theorem dX12_shift_92 : decode cX12_shift 92 = .ok (.iload 9, 2) := by decide +kernel
theorem dX12_shift_94 : decode cX12_shift 94 = .ok (.invokevirtual 99, 3) := by decide +kernel
theorem dX12_shift_97 : decode cX12_shift 97 = .ok (.aload_n 0, 1) := by decide +kernel
theorem dX12_shift_98 : decode cX12_shift 98 = .ok (.iload_n 2, 1) := by decide +kernel
theorem dX12_shift_99 : decode cX12_shift 99 = .ok (.iload 8, 2) := by decide +kernel
theorem dX12_shift_101 : decode cX12_shift 101 = .ok (.iload 4, 2) := by decide +kernel
theorem dX12_shift_103 : decode cX12_shift 103 = .ok (.iadd, 1) := by decide +kernel
theorem dX12_shift_104 : decode cX12_shift 104 = .ok (.iload 9, 2) := by decide +kernel
theorem dX12_shift_106 : decode cX12_shift 106 = .ok (.iload_n 3, 1) := by decide +kernel
theorem dX12_shift_107 : decode cX12_shift 107 = .ok (.iadd, 1) := by decide +kernel
theorem dX12_shift_108 : decode cX12_shift 108 = .ok (.invokevirtual 99, 3) := by decide +kernel
theorem dX12_shift_111 : decode cX12_shift 111 = .ok (.isub, 1) := by decide +kernel
theorem dX12_shift_112 : decode cX12_shift 112 = .ok (.invokestatic 102, 3) := by decide +kernel
theorem dX12_shift_115 : decode cX12_shift 115 = .ok (.iadd, 1) := by decide +kernel
theorem dX12_shift_116 : decode cX12_shift 116 = .ok (.istore 5, 2) := by decide +kernel
theorem dX12_shift_118 : decode cX12_shift 118 = .ok (.iinc 7 1, 3) := by decide +kernel
theorem dX12_shift_121 : decode cX12_shift 121 = .ok (.goto (-89), 3) := by decide +kernel
theorem dX12_shift_124 : decode cX12_shift 124 = .ok (.aload_n 0, 1) := by decide +kernel
theorem dX12_shift_125 : decode cX12_shift 125 = .ok (.getfield 194, 3) := by decide +kernel
theorem dX12_shift_128 : decode cX12_shift 128 = .ok (.ifCond .le 23, 3) := by decide +kernel
theorem dX12_shift_131 : decode cX12_shift 131 = .ok (.iload 5, 2) := by decide +kernel
theorem dX12_shift_133 : decode cX12_shift 133 = .ok (.aload_n 0, 1) := by decide +kernel
theorem dX12_shift_134 : decode cX12_shift 134 = .ok (.getfield 194, 3) := by decide +kernel
theorem dX12_shift_137 : decode cX12_shift 137 = .ok (.imul, 1) := by decide +kernel
theorem dX12_shift_138 : decode cX12_shift 138 = .ok (.aload_n 0, 1) := by decide +kernel
theorem dX12_shift_139 : decode cX12_shift 139 = .ok (.getfield 197, 3) := by decide +kernel
theorem dX12_shift_142 : decode cX12_shift 142 = .ok (.iload 6, 2) := by decide +kernel
theorem dX12_shift_144 : decode cX12_shift 144 = .ok (.imul, 1) := by decide +kernel
theorem dX12_shift_145 : decode cX12_shift 145 = .ok (.if_icmp .lt 6, 3) := by decide +kernel
theorem dX12_shift_148 : decode cX12_shift 148 = .ok (.goto 26, 3) := by decide +kernel
theorem dX12_shift_151 : decode cX12_shift 151 = .ok (.aload_n 0, 1) := by decide +kernel
theorem dX12_shift_152 : decode cX12_shift 152 = .ok (.iload 4, 2) := by decide +kernel
theorem dX12_shift_154 : decode cX12_shift 154 = .ok (.putfield 200, 3) := by decide +kernel
theorem dX12_shift_157 : decode cX12_shift 157 = .ok (.aload_n 0, 1) := by decide +kernel
theorem dX12_shift_158 : decode cX12_shift 158 = .ok (.iload_n 3, 1) := by decide +kernel
theorem dX12_shift_159 : decode cX12_shift 159 = .ok (.putfield 203, 3) := by decide +kernel
theorem dX12_shift_162 : decode cX12_shift 162 = .ok (.aload_n 0, 1) := by decide +kernel
theorem dX12_shift_163 : decode cX12_shift 163 = .ok (.iload 5, 2) := by decide +kernel
theorem dX12_shift_165 : decode cX12_shift 165 = .ok (.putfield 197, 3) := by decide +kernel
theorem dX12_shift_168 : decode cX12_shift 168 = .ok (.aload_n 0, 1) := by decide +kernel
theorem dX12_shift_169 : decode cX12_shift 169 = .ok (.iload 6, 2) := by decide +kernel
theorem dX12_shift_171 : decode cX12_shift 171 = .ok (.putfield 194, 3) := by decide +kernel
theorem dX12_shift_174 : decode cX12_shift 174 = .ok (.iinc 4 1, 3) := by decide +kernel
theorem dX12_shift_177 : decode cX12_shift 177 = .ok (.goto (-160), 3) := by decide +kernel
theorem dX12_shift_180 : decode cX12_shift 180 = .ok (.iinc 3 1, 3) := by decide +kernel
theorem dX12_shift_183 : decode cX12_shift 183 = .ok (.goto (-175), 3) := by decide +kernel
theorem dX12_shift_186 : decode cX12_shift 186 = .ok (.return_, 1) := by decide +kernel
theorem dX12_two_0 : decode cX12_two 0 = .ok (.iload_n 1, 1) := by decide +kernel
theorem dX12_two_1 : decode cX12_two 1 = .ok (.invokestatic 87, 3) := by decide +kernel
theorem dX12_two_4 : decode cX12_two 4 = .ok (.ifCond .eq 31, 3) := by decide +kernel
theorem dX12_two_7 : decode cX12_two 7 = .ok (.iload_n 2, 1) := by decide +kernel
theorem dX12_two_8 : decode cX12_two 8 = .ok (.invokestatic 87, 3) := by decide +kernel
theorem dX12_two_11 : decode cX12_two 11 = .ok (.ifCond .eq 24, 3) := by decide +kernel
theorem dX12_two_14 : decode cX12_two 14 = .ok (.iload_n 3, 1) := by decide +kernel
theorem dX12_two_15 : decode cX12_two 15 = .ok (.iconst 0, 1) := by decide +kernel
theorem dX12_two_16 : decode cX12_two 16 = .ok (.iconst 3, 1) := by decide +kernel
theorem dX12_two_17 : decode cX12_two 17 = .ok (.invokestatic 79, 3) := by decide +kernel
theorem dX12_two_20 : decode cX12_two 20 = .ok (.ifCond .ne 19, 3) := by decide +kernel
theorem dX12_two_23 : decode cX12_two 23 = .ok (.iload_n 3, 1) := by decide +kernel
theorem dX12_two_24 : decode cX12_two 24 = .ok (.bipush 100, 2) := by decide +kernel
theorem dX12_two_26 : decode cX12_two 26 = .ok (.sipush 199, 3) := by decide +kernel
theorem dX12_two_29 : decode cX12_two 29 = .ok (.invokestatic 79, 3) := by decide +kernel
theorem dX12_two_32 : decode cX12_two 32 = .ok (.ifCond .ne 7, 3) := by decide +kernel
theorem dX12_two_35 : decode cX12_two 35 = .ok (.sipush (-1000), 3) := by decide +kernel
theorem dX12_two_38 : decode cX12_two 38 = .ok (.ireturn, 1) := by decide +kernel
theorem dX12_two_39 : decode cX12_two 39 = .ok (.aload_n 0, 1) := by decide +kernel
theorem dX12_two_40 : decode cX12_two 40 = .ok (.iload_n 1, 1) := by decide +kernel
theorem dX12_two_41 : decode cX12_two 41 = .ok (.iload_n 2, 1) := by decide +kernel
theorem dX12_two_42 : decode cX12_two 42 = .ok (.invokevirtual 206, 3) := by decide +kernel
theorem dX12_two_45 : decode cX12_two 45 = .ok (.iload_n 3, 1) := by decide +kernel
theorem dX12_two_46 : decode cX12_two 46 = .ok (.iconst 4, 1) := by decide +kernel
theorem dX12_two_47 : decode cX12_two 47 = .ok (.if_icmp .ge 43, 3) := by decide +kernel
theorem dX12_two_50 : decode cX12_two 50 = .ok (.iload_n 3, 1) := by decide +kernel
theorem dX12_two_51 : decode cX12_two 51 = .ok (.ifCond .ne 10, 3) := by decide +kernel
theorem dX12_two_54 : decode cX12_two 54 = .ok (.aload_n 0, 1) := by decide +kernel
theorem dX12_two_55 : decode cX12_two 55 = .ok (.getfield 200, 3) := by decide +kernel
theorem dX12_two_58 : decode cX12_two 58 = .ok (.goto 31, 3) := by decide +kernel
theorem dX12_two_61 : decode cX12_two 61 = .ok (.iload_n 3, 1) := by decide +kernel
theorem dX12_two_62 : decode cX12_two 62 = .ok (.iconst 1, 1) := by decide +kernel
theorem dX12_two_63 : decode cX12_two 63 = .ok (.if_icmp .ne 10, 3) := by decide +kernel
theorem dX12_two_66 : decode cX12_two 66 = .ok (.aload_n 0, 1) := by decide +kernel
theorem dX12_two_67 : decode cX12_two 67 = .ok (.getfield 203, 3) := by decide +kernel
theorem dX12_two_70 : decode cX12_two 70 = .ok (.goto 19, 3) := by decide +kernel
theorem dX12_two_73 : decode cX12_two 73 = .ok (.iload_n 3, 1) := by decide +kernel
theorem dX12_two_74 : decode cX12_two 74 = .ok (.iconst 2, 1) := by decide +kernel
theorem dX12_two_75 : decode cX12_two 75 = .ok (.if_icmp .ne 10, 3) := by decide +kernel
theorem dX12_two_78 : decode cX12_two 78 = .ok (.aload_n 0, 1) := by decide +kernel
theorem dX12_two_79 : decode cX12_two 79 = .ok (.getfield 197, 3) := by decide +kernel
theorem dX12_two_82 : decode cX12_two 82 = .ok (.goto 7, 3) := by decide +kernel
theorem dX12_two_85 : decode cX12_two 85 = .ok (.aload_n 0, 1) := by decide +kernel
theorem dX12_two_86 : decode cX12_two 86 = .ok (.getfield 194, 3) := by decide +kernel
theorem dX12_two_89 : decode cX12_two 89 = .ok (.ireturn, 1) := by decide +kernel
theorem dX12_two_90 : decode cX12_two 90 = .ok (.iconst 0, 1) := by decide +kernel
theorem dX12_two_91 : decode cX12_two 91 = .ok (.istore 4, 2) := by decide +kernel
theorem dX12_two_93 : decode cX12_two 93 = .ok (.iconst 0, 1) := by decide +kernel
theorem dX12_two_94 : decode cX12_two 94 = .ok (.istore 5, 2) := by decide +kernel
theorem dX12_two_96 : decode cX12_two 96 = .ok (.iload 5, 2) := by decide +kernel
theorem dX12_two_98 : decode cX12_two 98 = .ok (.aload_n 0, 1) := by decide +kernel
theorem dX12_two_99 : decode cX12_two 99 = .ok (.getfield 69, 3) := by decide +kernel
theorem dX12_two_102 : decode cX12_two 102 = .ok (.aload_n 0, 1) := by decide +kernel
theorem dX12_two_103 : decode cX12_two 103 = .ok (.getfield 72, 3) := by decide +kernel
theorem dX12_two_106 : decode cX12_two 106 = .ok (.imul, 1) := by decide +kernel
theorem dX12_two_107 : decode cX12_two 107 = .ok (.if_icmp .ge 90, 3) := by decide +kernel
theorem dX12_two_110 : decode cX12_two 110 = .ok (.iload 5, 2) := by decide +kernel
theorem dX12_two_112 : decode cX12_two 112 = .ok (.aload_n 0, 1) := by decide +kernel
theorem dX12_two_113 : decode cX12_two 113 = .ok (.getfield 69, 3) := by decide +kernel
theorem dX12_two_116 : decode cX12_two 116 = .ok (.irem, 1) := by decide +kernel
theorem dX12_two_117 : decode cX12_two 117 = .ok (.istore 6, 2) := by decide +kernel
theorem dX12_two_119 : decode cX12_two 119 = .ok (.iload 5, 2) := by decide +kernel
theorem dX12_two_121 : decode cX12_two 121 = .ok (.aload_n 0, 1) := by decide +kernel
theorem dX12_two_122 : decode cX12_two 122 = .ok (.getfield 69, 3) := by decide +kernel
theorem dX12_two_125 : decode cX12_two 125 = .ok (.idiv, 1) := by decide +kernel
theorem dX12_two_126 : decode cX12_two 126 = .ok (.istore 7, 2) := by decide +kernel
theorem dX12_two_128 : decode cX12_two 128 = .ok (.aload_n 0, 1) := by decide +kernel
theorem dX12_two_129 : decode cX12_two 129 = .ok (.iload 6, 2) := by decide +kernel
theorem dX12_two_131 : decode cX12_two 131 = .ok (.aload_n 0, 1) := by decide +kernel
theorem dX12_two_132 : decode cX12_two 132 = .ok (.getfield 200, 3) := by decide +kernel
theorem dX12_two_135 : decode cX12_two 135 = .ok (.iadd, 1) := by decide +kernel
theorem dX12_two_136 : decode cX12_two 136 = .ok (.iload 7, 2) := by decide +kernel
theorem dX12_two_138 : decode cX12_two 138 = .ok (.aload_n 0, 1) := by decide +kernel
theorem dX12_two_139 : decode cX12_two 139 = .ok (.getfield 203, 3) := by decide +kernel
theorem dX12_two_142 : decode cX12_two 142 = .ok (.iadd, 1) := by decide +kernel
theorem dX12_two_143 : decode cX12_two 143 = .ok (.invokevirtual 91, 3) := by decide +kernel
theorem dX12_two_146 : decode cX12_two 146 = .ok (.ifCond .eq 45, 3) := by decide +kernel
theorem dX12_two_149 : decode cX12_two 149 = .ok (.aload_n 0, 1) := by decide +kernel
theorem dX12_two_150 : decode cX12_two 150 = .ok (.iload_n 1, 1) := by decide +kernel
theorem dX12_two_151 : decode cX12_two 151 = .ok (.iload 6, 2) := by decide +kernel
theorem dX12_two_153 : decode cX12_two 153 = .ok (.iload 7, 2) := by decide +kernel
theorem dX12_two_155 : decode cX12_two 155 = .ok (.invokevirtual 99, 3) := by decide +kernel
theorem dX12_two_158 : decode cX12_two 158 = .ok (.aload_n 0, 1) := by decide +kernel
theorem dX12_two_159 : decode cX12_two 159 = .ok (.iload_n 2, 1) := by decide +kernel
theorem dX12_two_160 : decode cX12_two 160 = .ok (.iload 6, 2) := by decide +kernel
theorem dX12_two_162 : decode cX12_two 162 = .ok (.aload_n 0, 1) := by decide +kernel
theorem dX12_two_163 : decode cX12_two 163 = .ok (.getfield 200, 3) := by decide +kernel
theorem dX12_two_166 : decode cX12_two 166 = .ok (.iadd, 1) := by decide +kernel
theorem dX12_two_167 : decode cX12_two 167 = .ok (.iload 7, 2) := by decide +kernel
theorem dX12_two_169 : decode cX12_two 169 = .ok (.aload_n 0, 1) := by decide +kernel
theorem dX12_two_170 : decode cX12_two 170 = .ok (.getfield 203, 3) := by decide +kernel
theorem dX12_two_173 : decode cX12_two 173 = .ok (.iadd, 1) := by decide +kernel
theorem dX12_two_174 : decode cX12_two 174 = .ok (.invokevirtual 99, 3) := by decide +kernel
theorem dX12_two_177 : decode cX12_two 177 = .ok (.isub, 1) := by decide +kernel
theorem dX12_two_178 : decode cX12_two 178 = .ok (.invokestatic 102, 3) := by decide +kernel
theorem dX12_two_181 : decode cX12_two 181 = .ok (.iload_n 3, 1) := by decide +kernel
theorem dX12_two_182 : decode cX12_two 182 = .ok (.bipush 100, 2) := by decide +kernel
theorem dX12_two_184 : decode cX12_two 184 = .ok (.isub, 1) := by decide +kernel
theorem dX12_two_185 : decode cX12_two 185 = .ok (.if_icmp .le 6, 3) := by decide +kernel
theorem dX12_two_188 : decode cX12_two 188 = .ok (.iinc 4 1, 3) := by decide +kernel
theorem dX12_two_191 : decode cX12_two 191 = .ok (.iinc 5 1, 3) := by decide +kernel
theorem dX12_two_194 : decode cX12_two 194 = .ok (.goto (-98), 3) := by decide +kernel
theorem dX12_two_197 : decode cX12_two 197 = .ok (.iload 4, 2) := by decide +kernel
theorem dX12_two_199 : decode cX12_two 199 = .ok (.ireturn, 1) := by decide +kernel
theorem dX12_four_0 : decode cX12_four 0 = .ok (.bipush 24, 2) := by decide +kernel
theorem dX12_four_2 : decode cX12_four 2 = .ok (.istore_n 2, 1) := by decide +kernel
theorem dX12_four_3 : decode cX12_four 3 = .ok (.iload_n 2, 1) := by decide +kernel
theorem dX12_four_4 : decode cX12_four 4 = .ok (.ifCond .lt 35, 3) := by decide +kernel
theorem dX12_four_7 : decode cX12_four 7 = .ok (.aload_n 0, 1) := by decide +kernel
theorem dX12_four_8 : decode cX12_four 8 = .ok (.getfield 28, 3) := by decide +kernel
theorem dX12_four_11 : decode cX12_four 11 = .ok (.aload_n 0, 1) := by decide +kernel
theorem dX12_four_12 : decode cX12_four 12 = .ok (.getfield 210, 3) := by decide +kernel
theorem dX12_four_15 : decode cX12_four 15 = .ok (.iload_n 1, 1) := by decide +kernel
theorem dX12_four_16 : decode cX12_four 16 = .ok (.iload_n 2, 1) := by decide +kernel
theorem dX12_four_17 : decode cX12_four 17 = .ok (.ishr, 1) := by decide +kernel
theorem dX12_four_18 : decode cX12_four 18 = .ok (.sipush 255, 3) := by decide +kernel
theorem dX12_four_21 : decode cX12_four 21 = .ok (.iand, 1) := by decide +kernel
theorem dX12_four_22 : decode cX12_four 22 = .ok (.iastore, 1) := by decide +kernel
theorem dX12_four_23 : decode cX12_four 23 = .ok (.aload_n 0, 1) := by decide +kernel
theorem dX12_four_24 : decode cX12_four 24 = .ok (.dup, 1) := by decide +kernel
theorem dX12_four_25 : decode cX12_four 25 = .ok (.getfield 210, 3) := by decide +kernel
theorem dX12_four_28 : decode cX12_four 28 = .ok (.iconst 1, 1) := by decide +kernel
theorem dX12_four_29 : decode cX12_four 29 = .ok (.iadd, 1) := by decide +kernel
theorem dX12_four_30 : decode cX12_four 30 = .ok (.putfield 210, 3) := by decide +kernel
theorem dX12_four_33 : decode cX12_four 33 = .ok (.iinc 2 (-8), 3) := by decide +kernel
theorem dX12_four_36 : decode cX12_four 36 = .ok (.goto (-33), 3) := by decide +kernel
theorem dX12_four_39 : decode cX12_four 39 = .ok (.return_, 1) := by decide +kernel
theorem dX12_feed_0 : decode cX12_feed 0 = .ok (.aload_n 0, 1) := by decide +kernel
theorem dX12_feed_1 : decode cX12_feed 1 = .ok (.getfield 210, 3) := by decide +kernel
theorem dX12_feed_4 : decode cX12_feed 4 = .ok (.bipush 20, 2) := by decide +kernel
theorem dX12_feed_6 : decode cX12_feed 6 = .ok (.iadd, 1) := by decide +kernel
theorem dX12_feed_7 : decode cX12_feed 7 = .ok (.sipush 300, 3) := by decide +kernel
theorem dX12_feed_10 : decode cX12_feed 10 = .ok (.if_icmp .le 5, 3) := by decide +kernel
theorem dX12_feed_13 : decode cX12_feed 13 = .ok (.iconst (-1), 1) := by decide +kernel
theorem dX12_feed_14 : decode cX12_feed 14 = .ok (.ireturn, 1) := by decide +kernel
theorem dX12_feed_15 : decode cX12_feed 15 = .ok (.aload_n 0, 1) := by decide +kernel
theorem dX12_feed_16 : decode cX12_feed 16 = .ok (.iload_n 1, 1) := by decide +kernel
theorem dX12_feed_17 : decode cX12_feed 17 = .ok (.invokevirtual 213, 3) := by decide +kernel
theorem dX12_feed_20 : decode cX12_feed 20 = .ok (.aload_n 0, 1) := by decide +kernel
theorem dX12_feed_21 : decode cX12_feed 21 = .ok (.iload_n 2, 1) := by decide +kernel
theorem dX12_feed_22 : decode cX12_feed 22 = .ok (.invokevirtual 213, 3) := by decide +kernel
theorem dX12_feed_25 : decode cX12_feed 25 = .ok (.aload_n 0, 1) := by decide +kernel
theorem dX12_feed_26 : decode cX12_feed 26 = .ok (.iload_n 3, 1) := by decide +kernel
theorem dX12_feed_27 : decode cX12_feed 27 = .ok (.invokevirtual 213, 3) := by decide +kernel
theorem dX12_feed_30 : decode cX12_feed 30 = .ok (.aload_n 0, 1) := by decide +kernel
theorem dX12_feed_31 : decode cX12_feed 31 = .ok (.iload 4, 2) := by decide +kernel
theorem dX12_feed_33 : decode cX12_feed 33 = .ok (.invokevirtual 213, 3) := by decide +kernel
theorem dX12_feed_36 : decode cX12_feed 36 = .ok (.aload_n 0, 1) := by decide +kernel
theorem dX12_feed_37 : decode cX12_feed 37 = .ok (.iload 5, 2) := by decide +kernel
theorem dX12_feed_39 : decode cX12_feed 39 = .ok (.invokevirtual 213, 3) := by decide +kernel
theorem dX12_feed_42 : decode cX12_feed 42 = .ok (.aload_n 0, 1) := by decide +kernel
theorem dX12_feed_43 : decode cX12_feed 43 = .ok (.getfield 210, 3) := by decide +kernel
theorem dX12_feed_46 : decode cX12_feed 46 = .ok (.ireturn, 1) := by decide +kernel
theorem dX12_end_0 : decode cX12_end 0 = .ok (.iload_n 1, 1) := by decide +kernel
theorem dX12_end_1 : decode cX12_end 1 = .ok (.iconst 0, 1) := by decide +kernel
theorem dX12_end_2 : decode cX12_end 2 = .ok (.aload_n 0, 1) := by decide +kernel
theorem dX12_end_3 : decode cX12_end 3 = .ok (.getfield 210, 3) := by decide +kernel
theorem dX12_end_6 : decode cX12_end 6 = .ok (.invokestatic 79, 3) := by decide +kernel
theorem dX12_end_9 : decode cX12_end 9 = .ok (.ifCond .ne 5, 3) := by decide +kernel
theorem dX12_end_12 : decode cX12_end 12 = .ok (.iconst (-1), 1) := by decide +kernel
theorem dX12_end_13 : decode cX12_end 13 = .ok (.ireturn, 1) := by decide +kernel
theorem dX12_end_14 : decode cX12_end 14 = .ok (.aload_n 0, 1) := by decide +kernel
theorem dX12_end_15 : decode cX12_end 15 = .ok (.iload_n 1, 1) := by decide +kernel
theorem dX12_end_16 : decode cX12_end 16 = .ok (.putfield 210, 3) := by decide +kernel
theorem dX12_end_19 : decode cX12_end 19 = .ok (.iload_n 1, 1) := by decide +kernel
theorem dX12_end_20 : decode cX12_end 20 = .ok (.ireturn, 1) := by decide +kernel
theorem dX12_byteAt_0 : decode cX12_byteAt 0 = .ok (.iload_n 1, 1) := by decide +kernel
theorem dX12_byteAt_1 : decode cX12_byteAt 1 = .ok (.aload_n 0, 1) := by decide +kernel
theorem dX12_byteAt_2 : decode cX12_byteAt 2 = .ok (.getfield 210, 3) := by decide +kernel
theorem dX12_byteAt_5 : decode cX12_byteAt 5 = .ok (.if_icmp .ge 12, 3) := by decide +kernel
theorem dX12_byteAt_8 : decode cX12_byteAt 8 = .ok (.aload_n 0, 1) := by decide +kernel
theorem dX12_byteAt_9 : decode cX12_byteAt 9 = .ok (.getfield 28, 3) := by decide +kernel
theorem dX12_byteAt_12 : decode cX12_byteAt 12 = .ok (.iload_n 1, 1) := by decide +kernel
theorem dX12_byteAt_13 : decode cX12_byteAt 13 = .ok (.iaload, 1) := by decide +kernel
theorem dX12_byteAt_14 : decode cX12_byteAt 14 = .ok (.goto 4, 3) := by decide +kernel
theorem dX12_byteAt_17 : decode cX12_byteAt 17 = .ok (.iconst (-1), 1) := by decide +kernel
theorem dX12_byteAt_18 : decode cX12_byteAt 18 = .ok (.ireturn, 1) := by decide +kernel
theorem dX12_isLetter_0 : decode cX12_isLetter 0 = .ok (.iload_n 0, 1) := by decide +kernel
theorem dX12_isLetter_1 : decode cX12_isLetter 1 = .ok (.bipush 97, 2) := by decide +kernel
theorem dX12_isLetter_3 : decode cX12_isLetter 3 = .ok (.bipush 122, 2) := by decide +kernel
theorem dX12_isLetter_5 : decode cX12_isLetter 5 = .ok (.invokestatic 79, 3) := by decide +kernel
theorem dX12_isLetter_8 : decode cX12_isLetter 8 = .ok (.ifCond .ne 14, 3) := by decide +kernel
theorem dX12_isLetter_11 : decode cX12_isLetter 11 = .ok (.iload_n 0, 1) := by decide +kernel
theorem dX12_isLetter_12 : decode cX12_isLetter 12 = .ok (.bipush 65, 2) := by decide +kernel
theorem dX12_isLetter_14 : decode cX12_isLetter 14 = .ok (.bipush 90, 2) := by decide +kernel
theorem dX12_isLetter_16 : decode cX12_isLetter 16 = .ok (.invokestatic 79, 3) := by decide +kernel
theorem dX12_isLetter_19 : decode cX12_isLetter 19 = .ok (.ifCond .eq 7, 3) := by decide +kernel
theorem dX12_isLetter_22 : decode cX12_isLetter 22 = .ok (.iconst 1, 1) := by decide +kernel
theorem dX12_isLetter_23 : decode cX12_isLetter 23 = .ok (.goto 4, 3) := by decide +kernel
theorem dX12_isLetter_26 : decode cX12_isLetter 26 = .ok (.iconst 0, 1) := by decide +kernel
theorem dX12_isLetter_27 : decode cX12_isLetter 27 = .ok (.ireturn, 1) := by decide +kernel
theorem dX12_isDigit_0 : decode cX12_isDigit 0 = .ok (.iload_n 0, 1) := by decide +kernel
theorem dX12_isDigit_1 : decode cX12_isDigit 1 = .ok (.bipush 48, 2) := by decide +kernel
theorem dX12_isDigit_3 : decode cX12_isDigit 3 = .ok (.bipush 57, 2) := by decide +kernel
theorem dX12_isDigit_5 : decode cX12_isDigit 5 = .ok (.invokestatic 79, 3) := by decide +kernel
theorem dX12_isDigit_8 : decode cX12_isDigit 8 = .ok (.ireturn, 1) := by decide +kernel
theorem dX12_nextToken_0 : decode cX12_nextToken 0 = .ok (.aload_n 0, 1) := by decide +kernel
theorem dX12_nextToken_1 : decode cX12_nextToken 1 = .ok (.aload_n 0, 1) := by decide +kernel
theorem dX12_nextToken_2 : decode cX12_nextToken 2 = .ok (.getfield 216, 3) := by decide +kernel
theorem dX12_nextToken_5 : decode cX12_nextToken 5 = .ok (.invokevirtual 219, 3) := by decide +kernel
theorem dX12_nextToken_8 : decode cX12_nextToken 8 = .ok (.bipush 32, 2) := by decide +kernel
theorem dX12_nextToken_10 : decode cX12_nextToken 10 = .ok (.if_icmp .eq 16, 3) := by decide +kernel
theorem dX12_nextToken_13 : decode cX12_nextToken 13 = .ok (.aload_n 0, 1) := by decide +kernel
theorem dX12_nextToken_14 : decode cX12_nextToken 14 = .ok (.aload_n 0, 1) := by decide +kernel
theorem dX12_nextToken_15 : decode cX12_nextToken 15 = .ok (.getfield 216, 3) := by decide +kernel
theorem dX12_nextToken_18 : decode cX12_nextToken 18 = .ok (.invokevirtual 219, 3) := by decide +kernel
theorem dX12_nextToken_21 : decode cX12_nextToken 21 = .ok (.bipush 10, 2) := by decide +kernel
theorem dX12_nextToken_23 : decode cX12_nextToken 23 = .ok (.if_icmp .ne 16, 3) := by decide +kernel
theorem dX12_nextToken_26 : decode cX12_nextToken 26 = .ok (.aload_n 0, 1) := by decide +kernel
theorem dX12_nextToken_27 : decode cX12_nextToken 27 = .ok (.dup, 1) := by decide +kernel
theorem dX12_nextToken_28 : decode cX12_nextToken 28 = .ok (.getfield 216, 3) := by decide +kernel
theorem dX12_nextToken_31 : decode cX12_nextToken 31 = .ok (.iconst 1, 1) := by decide +kernel
theorem dX12_nextToken_32 : decode cX12_nextToken 32 = .ok (.iadd, 1) := by decide +kernel
theorem dX12_nextToken_33 : decode cX12_nextToken 33 = .ok (.putfield 216, 3) := by decide +kernel
theorem dX12_nextToken_36 : decode cX12_nextToken 36 = .ok (.goto (-36), 3) := by decide +kernel
theorem dX12_nextToken_39 : decode cX12_nextToken 39 = .ok (.aload_n 0, 1) := by decide +kernel
theorem dX12_nextToken_40 : decode cX12_nextToken 40 = .ok (.aload_n 0, 1) := by decide +kernel
theorem dX12_nextToken_41 : decode cX12_nextToken 41 = .ok (.getfield 216, 3) := by decide +kernel
theorem dX12_nextToken_44 : decode cX12_nextToken 44 = .ok (.putfield 222, 3) := by decide +kernel
theorem dX12_nextToken_47 : decode cX12_nextToken 47 = .ok (.aload_n 0, 1) := by decide +kernel
theorem dX12_nextToken_48 : decode cX12_nextToken 48 = .ok (.aload_n 0, 1) := by decide +kernel
theorem dX12_nextToken_49 : decode cX12_nextToken 49 = .ok (.getfield 216, 3) := by decide +kernel
theorem dX12_nextToken_52 : decode cX12_nextToken 52 = .ok (.invokevirtual 219, 3) := by decide +kernel
theorem dX12_nextToken_55 : decode cX12_nextToken 55 = .ok (.istore_n 1, 1) := by decide +kernel
theorem dX12_nextToken_56 : decode cX12_nextToken 56 = .ok (.iload_n 1, 1) := by decide +kernel
theorem dX12_nextToken_57 : decode cX12_nextToken 57 = .ok (.ifCond .ge 11, 3) := by decide +kernel
theorem dX12_nextToken_60 : decode cX12_nextToken 60 = .ok (.aload_n 0, 1) := by decide +kernel
theorem dX12_nextToken_61 : decode cX12_nextToken 61 = .ok (.iconst 0, 1) := by decide +kernel
theorem dX12_nextToken_62 : decode cX12_nextToken 62 = .ok (.putfield 225, 3) := by decide +kernel
theorem dX12_nextToken_65 : decode cX12_nextToken 65 = .ok (.goto 263, 3) := by decide +kernel
theorem dX12_nextToken_68 : decode cX12_nextToken 68 = .ok (.iload_n 1, 1) := by decide +kernel
theorem dX12_nextToken_69 : decode cX12_nextToken 69 = .ok (.invokestatic 228, 3) := by decide +kernel
theorem dX12_nextToken_72 : decode cX12_nextToken 72 = .ok (.ifCond .eq 72, 3) := by decide +kernel
theorem dX12_nextToken_75 : decode cX12_nextToken 75 = .ok (.aload_n 0, 1) := by decide +kernel
theorem dX12_nextToken_76 : decode cX12_nextToken 76 = .ok (.iconst 1, 1) := by decide +kernel
theorem dX12_nextToken_77 : decode cX12_nextToken 77 = .ok (.putfield 225, 3) := by decide +kernel
theorem dX12_nextToken_80 : decode cX12_nextToken 80 = .ok (.aload_n 0, 1) := by decide +kernel
theorem dX12_nextToken_81 : decode cX12_nextToken 81 = .ok (.iconst 0, 1) := by decide +kernel
theorem dX12_nextToken_82 : decode cX12_nextToken 82 = .ok (.putfield 231, 3) := by decide +kernel
theorem dX12_nextToken_85 : decode cX12_nextToken 85 = .ok (.aload_n 0, 1) := by decide +kernel
theorem dX12_nextToken_86 : decode cX12_nextToken 86 = .ok (.aload_n 0, 1) := by decide +kernel
theorem dX12_nextToken_87 : decode cX12_nextToken 87 = .ok (.getfield 216, 3) := by decide +kernel
theorem dX12_nextToken_90 : decode cX12_nextToken 90 = .ok (.invokevirtual 219, 3) := by decide +kernel
theorem dX12_nextToken_93 : decode cX12_nextToken 93 = .ok (.invokestatic 228, 3) := by decide +kernel
theorem dX12_nextToken_96 : decode cX12_nextToken 96 = .ok (.ifCond .eq 232, 3) := by decide +kernel
theorem dX12_nextToken_99 : decode cX12_nextToken 99 = .ok (.aload_n 0, 1) := by decide +kernel
theorem dX12_nextToken_100 : decode cX12_nextToken 100 = .ok (.getfield 231, 3) := by decide +kernel
theorem dX12_nextToken_103 : decode cX12_nextToken 103 = .ok (.ldc 234, 2) := by decide +kernel
theorem dX12_nextToken_105 : decode cX12_nextToken 105 = .ok (.if_icmp .ge 26, 3) := by decide +kernel
theorem dX12_nextToken_108 : decode cX12_nextToken 108 = .ok (.aload_n 0, 1) := by decide +kernel
theorem dX12_nextToken_109 : decode cX12_nextToken 109 = .ok (.bipush 10, 2) := by decide +kernel
theorem dX12_nextToken_111 : decode cX12_nextToken 111 = .ok (.aload_n 0, 1) := by decide +kernel
theorem dX12_nextToken_112 : decode cX12_nextToken 112 = .ok (.getfield 231, 3) := by decide +kernel
theorem dX12_nextToken_115 : decode cX12_nextToken 115 = .ok (.imul, 1) := by decide +kernel
theorem dX12_nextToken_116 : decode cX12_nextToken 116 = .ok (.aload_n 0, 1) := by decide +kernel
theorem dX12_nextToken_117 : decode cX12_nextToken 117 = .ok (.aload_n 0, 1) := by decide +kernel
theorem dX12_nextToken_118 : decode cX12_nextToken 118 = .ok (.getfield 216, 3) := by decide +kernel
theorem dX12_nextToken_121 : decode cX12_nextToken 121 = .ok (.invokevirtual 219, 3) := by decide +kernel
theorem dX12_nextToken_124 : decode cX12_nextToken 124 = .ok (.iadd, 1) := by decide +kernel
theorem dX12_nextToken_125 : decode cX12_nextToken 125 = .ok (.bipush 48, 2) := by decide +kernel
theorem dX12_nextToken_127 : decode cX12_nextToken 127 = .ok (.isub, 1) := by decide +kernel
theorem dX12_nextToken_128 : decode cX12_nextToken 128 = .ok (.putfield 231, 3) := by decide +kernel
theorem dX12_nextToken_131 : decode cX12_nextToken 131 = .ok (.aload_n 0, 1) := by decide +kernel
theorem dX12_nextToken_132 : decode cX12_nextToken 132 = .ok (.dup, 1) := by decide +kernel
theorem dX12_nextToken_133 : decode cX12_nextToken 133 = .ok (.getfield 216, 3) := by decide +kernel
theorem dX12_nextToken_136 : decode cX12_nextToken 136 = .ok (.iconst 1, 1) := by decide +kernel
theorem dX12_nextToken_137 : decode cX12_nextToken 137 = .ok (.iadd, 1) := by decide +kernel
theorem dX12_nextToken_138 : decode cX12_nextToken 138 = .ok (.putfield 216, 3) := by decide +kernel
theorem dX12_nextToken_141 : decode cX12_nextToken 141 = .ok (.goto (-56), 3) := by decide +kernel
theorem dX12_nextToken_144 : decode cX12_nextToken 144 = .ok (.iload_n 1, 1) := by decide +kernel
theorem dX12_nextToken_145 : decode cX12_nextToken 145 = .ok (.invokestatic 235, 3) := by decide +kernel
theorem dX12_nextToken_148 : decode cX12_nextToken 148 = .ok (.ifCond .eq 97, 3) := by decide +kernel
theorem dX12_nextToken_151 : decode cX12_nextToken 151 = .ok (.aload_n 0, 1) := by decide +kernel
theorem dX12_nextToken_152 : decode cX12_nextToken 152 = .ok (.iconst 2, 1) := by decide +kernel
theorem dX12_nextToken_153 : decode cX12_nextToken 153 = .ok (.putfield 225, 3) := by decide +kernel
theorem dX12_nextToken_156 : decode cX12_nextToken 156 = .ok (.aload_n 0, 1) := by decide +kernel
theorem dX12_nextToken_157 : decode cX12_nextToken 157 = .ok (.lconst 0, 1) := by decide +kernel
theorem dX12_nextToken_158 : decode cX12_nextToken 158 = .ok (.putfield 238, 3) := by decide +kernel
theorem dX12_nextToken_161 : decode cX12_nextToken 161 = .ok (.aload_n 0, 1) := by decide +kernel
theorem dX12_nextToken_162 : decode cX12_nextToken 162 = .ok (.aload_n 0, 1) := by decide +kernel
theorem dX12_nextToken_163 : decode cX12_nextToken 163 = .ok (.getfield 216, 3) := by decide +kernel
theorem dX12_nextToken_166 : decode cX12_nextToken 166 = .ok (.invokevirtual 219, 3) := by decide +kernel
theorem dX12_nextToken_169 : decode cX12_nextToken 169 = .ok (.invokestatic 235, 3) := by decide +kernel
theorem dX12_nextToken_172 : decode cX12_nextToken 172 = .ok (.ifCond .eq 51, 3) := by decide +kernel
theorem dX12_nextToken_175 : decode cX12_nextToken 175 = .ok (.aload_n 0, 1) := by decide +kernel
theorem dX12_nextToken_176 : decode cX12_nextToken 176 = .ok (.getfield 216, 3) := by decide +kernel
theorem dX12_nextToken_179 : decode cX12_nextToken 179 = .ok (.aload_n 0, 1) := by decide +kernel
theorem dX12_nextToken_180 : decode cX12_nextToken 180 = .ok (.getfield 222, 3) := by decide +kernel
theorem dX12_nextToken_183 : decode cX12_nextToken 183 = .ok (.isub, 1) := by decide +kernel
theorem dX12_nextToken_184 : decode cX12_nextToken 184 = .ok (.bipush 7, 2) := by decide +kernel
theorem dX12_nextToken_186 : decode cX12_nextToken 186 = .ok (.if_icmp .ge 24, 3) := by decide +kernel
theorem dX12_nextToken_189 : decode cX12_nextToken 189 = .ok (.aload_n 0, 1) := by decide +kernel
theorem dX12_nextToken_190 : decode cX12_nextToken 190 = .ok (.aload_n 0, 1) := by decide +kernel
theorem dX12_nextToken_191 : decode cX12_nextToken 191 = .ok (.getfield 238, 3) := by decide +kernel
theorem dX12_nextToken_194 : decode cX12_nextToken 194 = .ok (.bipush 8, 2) := by decide +kernel
theorem dX12_nextToken_196 : decode cX12_nextToken 196 = .ok (.lshl, 1) := by decide +kernel
theorem dX12_nextToken_197 : decode cX12_nextToken 197 = .ok (.aload_n 0, 1) := by decide +kernel
theorem dX12_nextToken_198 : decode cX12_nextToken 198 = .ok (.aload_n 0, 1) := by decide +kernel
theorem dX12_nextToken_199 : decode cX12_nextToken 199 = .ok (.getfield 216, 3) := by decide +kernel
theorem dX12_nextToken_202 : decode cX12_nextToken 202 = .ok (.invokevirtual 219, 3) := by decide +kernel
theorem dX12_nextToken_205 : decode cX12_nextToken 205 = .ok (.i2l, 1) := by decide +kernel
theorem dX12_nextToken_206 : decode cX12_nextToken 206 = .ok (.lor, 1) := by decide +kernel
theorem dX12_nextToken_207 : decode cX12_nextToken 207 = .ok (.putfield 238, 3) := by decide +kernel
theorem dX12_nextToken_210 : decode cX12_nextToken 210 = .ok (.aload_n 0, 1) := by decide +kernel
theorem dX12_nextToken_211 : decode cX12_nextToken 211 = .ok (.dup, 1) := by decide +kernel
theorem dX12_nextToken_212 : decode cX12_nextToken 212 = .ok (.getfield 216, 3) := by decide +kernel
theorem dX12_nextToken_215 : decode cX12_nextToken 215 = .ok (.iconst 1, 1) := by decide +kernel
theorem dX12_nextToken_216 : decode cX12_nextToken 216 = .ok (.iadd, 1) := by decide +kernel
theorem dX12_nextToken_217 : decode cX12_nextToken 217 = .ok (.putfield 216, 3) := by decide +kernel
theorem dX12_nextToken_220 : decode cX12_nextToken 220 = .ok (.goto (-59), 3) := by decide +kernel
theorem dX12_nextToken_223 : decode cX12_nextToken 223 = .ok (.aload_n 0, 1) := by decide +kernel
theorem dX12_nextToken_224 : decode cX12_nextToken 224 = .ok (.getfield 216, 3) := by decide +kernel
theorem dX12_nextToken_227 : decode cX12_nextToken 227 = .ok (.aload_n 0, 1) := by decide +kernel
theorem dX12_nextToken_228 : decode cX12_nextToken 228 = .ok (.getfield 222, 3) := by decide +kernel
theorem dX12_nextToken_231 : decode cX12_nextToken 231 = .ok (.isub, 1) := by decide +kernel
theorem dX12_nextToken_232 : decode cX12_nextToken 232 = .ok (.bipush 7, 2) := by decide +kernel
theorem dX12_nextToken_234 : decode cX12_nextToken 234 = .ok (.if_icmp .le 94, 3) := by decide +kernel
theorem dX12_nextToken_237 : decode cX12_nextToken 237 = .ok (.aload_n 0, 1) := by decide +kernel
theorem dX12_nextToken_238 : decode cX12_nextToken 238 = .ok (.lconst 0, 1) := by decide +kernel
theorem dX12_nextToken_239 : decode cX12_nextToken 239 = .ok (.putfield 238, 3) := by decide +kernel
theorem dX12_nextToken_242 : decode cX12_nextToken 242 = .ok (.goto 86, 3) := by decide +kernel
theorem dX12_nextToken_245 : decode cX12_nextToken 245 = .ok (.aload_n 0, 1) := by decide +kernel
theorem dX12_nextToken_246 : decode cX12_nextToken 246 = .ok (.dup, 1) := by decide +kernel
theorem dX12_nextToken_247 : decode cX12_nextToken 247 = .ok (.getfield 216, 3) := by decide +kernel
theorem dX12_nextToken_250 : decode cX12_nextToken 250 = .ok (.iconst 1, 1) := by decide +kernel
theorem dX12_nextToken_251 : decode cX12_nextToken 251 = .ok (.iadd, 1) := by decide +kernel
theorem dX12_nextToken_252 : decode cX12_nextToken 252 = .ok (.putfield 216, 3) := by decide +kernel
theorem dX12_nextToken_255 : decode cX12_nextToken 255 = .ok (.iload_n 1, 1) := by decide +kernel
theorem dX12_nextToken_256 : decode cX12_nextToken 256 = .ok (.bipush 43, 2) := by decide +kernel
theorem dX12_nextToken_258 : decode cX12_nextToken 258 = .ok (.if_icmp .eq 51, 3) := by decide +kernel
theorem dX12_nextToken_261 : decode cX12_nextToken 261 = .ok (.iload_n 1, 1) := by decide +kernel
theorem dX12_nextToken_262 : decode cX12_nextToken 262 = .ok (.bipush 45, 2) := by decide +kernel
theorem dX12_nextToken_264 : decode cX12_nextToken 264 = .ok (.if_icmp .eq 45, 3) := by decide +kernel
theorem dX12_nextToken_267 : decode cX12_nextToken 267 = .ok (.iload_n 1, 1) := by decide +kernel
theorem dX12_nextToken_268 : decode cX12_nextToken 268 = .ok (.bipush 42, 2) := by decide +kernel
theorem dX12_nextToken_270 : decode cX12_nextToken 270 = .ok (.if_icmp .eq 39, 3) := by decide +kernel
theorem dX12_nextToken_273 : decode cX12_nextToken 273 = .ok (.iload_n 1, 1) := by decide +kernel
theorem dX12_nextToken_274 : decode cX12_nextToken 274 = .ok (.bipush 47, 2) := by decide +kernel
theorem dX12_nextToken_276 : decode cX12_nextToken 276 = .ok (.if_icmp .eq 33, 3) := by decide +kernel
theorem dX12_nextToken_279 : decode cX12_nextToken 279 = .ok (.iload_n 1, 1) := by decide +kernel
theorem dX12_nextToken_280 : decode cX12_nextToken 280 = .ok (.bipush 40, 2) := by decide +kernel
theorem dX12_nextToken_282 : decode cX12_nextToken 282 = .ok (.if_icmp .eq 27, 3) := by decide +kernel
theorem dX12_nextToken_285 : decode cX12_nextToken 285 = .ok (.iload_n 1, 1) := by decide +kernel
theorem dX12_nextToken_286 : decode cX12_nextToken 286 = .ok (.bipush 41, 2) := by decide +kernel
theorem dX12_nextToken_288 : decode cX12_nextToken 288 = .ok (.if_icmp .eq 21, 3) := by decide +kernel
theorem dX12_nextToken_291 : decode cX12_nextToken 291 = .ok (.iload_n 1, 1) := by decide +kernel
theorem dX12_nextToken_292 : decode cX12_nextToken 292 = .ok (.bipush 123, 2) := by decide +kernel
theorem dX12_nextToken_294 : decode cX12_nextToken 294 = .ok (.if_icmp .eq 15, 3) := by decide +kernel
theorem dX12_nextToken_297 : decode cX12_nextToken 297 = .ok (.iload_n 1, 1) := by decide +kernel
theorem dX12_nextToken_298 : decode cX12_nextToken 298 = .ok (.bipush 125, 2) := by decide +kernel
theorem dX12_nextToken_300 : decode cX12_nextToken 300 = .ok (.if_icmp .eq 9, 3) := by decide +kernel
theorem dX12_nextToken_303 : decode cX12_nextToken 303 = .ok (.iload_n 1, 1) := by decide +kernel
theorem dX12_nextToken_304 : decode cX12_nextToken 304 = .ok (.bipush 59, 2) := by decide +kernel
theorem dX12_nextToken_306 : decode cX12_nextToken 306 = .ok (.if_icmp .ne 7, 3) := by decide +kernel
theorem dX12_nextToken_309 : decode cX12_nextToken 309 = .ok (.iconst 1, 1) := by decide +kernel
theorem dX12_nextToken_310 : decode cX12_nextToken 310 = .ok (.goto 4, 3) := by decide +kernel
theorem dX12_nextToken_313 : decode cX12_nextToken 313 = .ok (.iconst 0, 1) := by decide +kernel
theorem dX12_nextToken_314 : decode cX12_nextToken 314 = .ok (.istore_n 2, 1) := by decide +kernel
theorem dX12_nextToken_315 : decode cX12_nextToken 315 = .ok (.aload_n 0, 1) := by decide +kernel
theorem dX12_nextToken_316 : decode cX12_nextToken 316 = .ok (.iload_n 2, 1) := by decide +kernel
theorem dX12_nextToken_317 : decode cX12_nextToken 317 = .ok (.ifCond .eq 7, 3) := by decide +kernel
theorem dX12_nextToken_320 : decode cX12_nextToken 320 = .ok (.iload_n 1, 1) := by decide +kernel
theorem dX12_nextToken_321 : decode cX12_nextToken 321 = .ok (.goto 4, 3) := by decide +kernel
theorem dX12_nextToken_324 : decode cX12_nextToken 324 = .ok (.iconst 3, 1) := by decide +kernel
theorem dX12_nextToken_325 : decode cX12_nextToken 325 = .ok (.putfield 225, 3) := by decide +kernel
theorem dX12_nextToken_328 : decode cX12_nextToken 328 = .ok (.return_, 1) := by decide +kernel
theorem dX12_w3_0 : decode cX12_w3 0 = .ok (.iload_n 0, 1) := by decide +kernel
theorem dX12_w3_1 : decode cX12_w3 1 = .ok (.i2l, 1) := by decide +kernel
theorem dX12_w3_2 : decode cX12_w3 2 = .ok (.bipush 8, 2) := by decide +kernel
theorem dX12_w3_4 : decode cX12_w3 4 = .ok (.lshl, 1) := by decide +kernel
theorem dX12_w3_5 : decode cX12_w3 5 = .ok (.iload_n 1, 1) := by decide +kernel
theorem dX12_w3_6 : decode cX12_w3 6 = .ok (.i2l, 1) := by decide +kernel
theorem dX12_w3_7 : decode cX12_w3 7 = .ok (.lor, 1) := by decide +kernel
theorem dX12_w3_8 : decode cX12_w3 8 = .ok (.bipush 8, 2) := by decide +kernel
theorem dX12_w3_10 : decode cX12_w3 10 = .ok (.lshl, 1) := by decide +kernel
theorem dX12_w3_11 : decode cX12_w3 11 = .ok (.iload_n 2, 1) := by decide +kernel
theorem dX12_w3_12 : decode cX12_w3 12 = .ok (.i2l, 1) := by decide +kernel
theorem dX12_w3_13 : decode cX12_w3 13 = .ok (.lor, 1) := by decide +kernel
theorem dX12_w3_14 : decode cX12_w3 14 = .ok (.lreturn, 1) := by decide +kernel
theorem dX12_w5_0 : decode cX12_w5 0 = .ok (.iload_n 0, 1) := by decide +kernel
theorem dX12_w5_1 : decode cX12_w5 1 = .ok (.iload_n 1, 1) := by decide +kernel
theorem dX12_w5_2 : decode cX12_w5 2 = .ok (.iload_n 2, 1) := by decide +kernel
theorem dX12_w5_3 : decode cX12_w5 3 = .ok (.invokestatic 242, 3) := by decide +kernel
theorem dX12_w5_6 : decode cX12_w5 6 = .ok (.bipush 8, 2) := by decide +kernel
theorem dX12_w5_8 : decode cX12_w5 8 = .ok (.lshl, 1) := by decide +kernel
theorem dX12_w5_9 : decode cX12_w5 9 = .ok (.iload_n 3, 1) := by decide +kernel
theorem dX12_w5_10 : decode cX12_w5 10 = .ok (.i2l, 1) := by decide +kernel
theorem dX12_w5_11 : decode cX12_w5 11 = .ok (.lor, 1) := by decide +kernel
theorem dX12_w5_12 : decode cX12_w5 12 = .ok (.bipush 8, 2) := by decide +kernel
theorem dX12_w5_14 : decode cX12_w5 14 = .ok (.lshl, 1) := by decide +kernel
theorem dX12_w5_15 : decode cX12_w5 15 = .ok (.iload 4, 2) := by decide +kernel
theorem dX12_w5_17 : decode cX12_w5 17 = .ok (.i2l, 1) := by decide +kernel
theorem dX12_w5_18 : decode cX12_w5 18 = .ok (.lor, 1) := by decide +kernel
theorem dX12_w5_19 : decode cX12_w5 19 = .ok (.lreturn, 1) := by decide +kernel
theorem dX12_w4_0 : decode cX12_w4 0 = .ok (.iload_n 0, 1) := by decide +kernel
theorem dX12_w4_1 : decode cX12_w4 1 = .ok (.iload_n 1, 1) := by decide +kernel
theorem dX12_w4_2 : decode cX12_w4 2 = .ok (.iload_n 2, 1) := by decide +kernel
theorem dX12_w4_3 : decode cX12_w4 3 = .ok (.invokestatic 242, 3) := by decide +kernel
theorem dX12_w4_6 : decode cX12_w4 6 = .ok (.bipush 8, 2) := by decide +kernel
theorem dX12_w4_8 : decode cX12_w4 8 = .ok (.lshl, 1) := by decide +kernel
theorem dX12_w4_9 : decode cX12_w4 9 = .ok (.iload_n 3, 1) := by decide +kernel
theorem dX12_w4_10 : decode cX12_w4 10 = .ok (.i2l, 1) := by decide +kernel
theorem dX12_w4_11 : decode cX12_w4 11 = .ok (.lor, 1) := by decide +kernel
theorem dX12_w4_12 : decode cX12_w4 12 = .ok (.lreturn, 1) := by decide +kernel
theorem dX12_w6_0 : decode cX12_w6 0 = .ok (.iload_n 0, 1) := by decide +kernel
theorem dX12_w6_1 : decode cX12_w6 1 = .ok (.iload_n 1, 1) := by decide +kernel
theorem dX12_w6_2 : decode cX12_w6 2 = .ok (.iload_n 2, 1) := by decide +kernel
theorem dX12_w6_3 : decode cX12_w6 3 = .ok (.iload_n 3, 1) := by decide +kernel
theorem dX12_w6_4 : decode cX12_w6 4 = .ok (.iload 4, 2) := by decide +kernel
theorem dX12_w6_6 : decode cX12_w6 6 = .ok (.invokestatic 246, 3) := by decide +kernel
theorem dX12_w6_9 : decode cX12_w6 9 = .ok (.bipush 8, 2) := by decide +kernel
theorem dX12_w6_11 : decode cX12_w6 11 = .ok (.lshl, 1) := by decide +kernel
theorem dX12_w6_12 : decode cX12_w6 12 = .ok (.iload 5, 2) := by decide +kernel
theorem dX12_w6_14 : decode cX12_w6 14 = .ok (.i2l, 1) := by decide +kernel
theorem dX12_w6_15 : decode cX12_w6 15 = .ok (.lor, 1) := by decide +kernel
theorem dX12_w6_16 : decode cX12_w6 16 = .ok (.lreturn, 1) := by decide +kernel
theorem dX12_isWord_0 : decode cX12_isWord 0 = .ok (.aload_n 0, 1) := by decide +kernel
theorem dX12_isWord_1 : decode cX12_isWord 1 = .ok (.getfield 225, 3) := by decide +kernel
theorem dX12_isWord_4 : decode cX12_isWord 4 = .ok (.iconst 2, 1) := by decide +kernel
theorem dX12_isWord_5 : decode cX12_isWord 5 = .ok (.if_icmp .ne 16, 3) := by decide +kernel
theorem dX12_isWord_8 : decode cX12_isWord 8 = .ok (.aload_n 0, 1) := by decide +kernel
theorem dX12_isWord_9 : decode cX12_isWord 9 = .ok (.getfield 238, 3) := by decide +kernel
theorem dX12_isWord_12 : decode cX12_isWord 12 = .ok (.lload_n 1, 1) := by decide +kernel
theorem dX12_isWord_13 : decode cX12_isWord 13 = .ok (.lcmp, 1) := by decide +kernel
theorem dX12_isWord_14 : decode cX12_isWord 14 = .ok (.ifCond .ne 7, 3) := by decide +kernel
theorem dX12_isWord_17 : decode cX12_isWord 17 = .ok (.iconst 1, 1) := by decide +kernel
theorem dX12_isWord_18 : decode cX12_isWord 18 = .ok (.goto 4, 3) := by decide +kernel
theorem dX12_isWord_21 : decode cX12_isWord 21 = .ok (.iconst 0, 1) := by decide +kernel
theorem dX12_isWord_22 : decode cX12_isWord 22 = .ok (.ireturn, 1) := by decide +kernel
theorem dX12_emit_0 : decode cX12_emit 0 = .ok (.aload_n 0, 1) := by decide +kernel
theorem dX12_emit_1 : decode cX12_emit 1 = .ok (.getfield 16, 3) := by decide +kernel
theorem dX12_emit_4 : decode cX12_emit 4 = .ok (.aload_n 0, 1) := by decide +kernel
theorem dX12_emit_5 : decode cX12_emit 5 = .ok (.getfield 250, 3) := by decide +kernel
theorem dX12_emit_8 : decode cX12_emit 8 = .ok (.sipush 200, 3) := by decide +kernel
theorem dX12_emit_11 : decode cX12_emit 11 = .ok (.iadd, 1) := by decide +kernel
theorem dX12_emit_12 : decode cX12_emit 12 = .ok (.iconst 2, 1) := by decide +kernel
theorem dX12_emit_13 : decode cX12_emit 13 = .ok (.aload_n 0, 1) := by decide +kernel
theorem dX12_emit_14 : decode cX12_emit 14 = .ok (.getfield 253, 3) := by decide +kernel
theorem dX12_emit_17 : decode cX12_emit 17 = .ok (.imul, 1) := by decide +kernel
theorem dX12_emit_18 : decode cX12_emit 18 = .ok (.iadd, 1) := by decide +kernel
theorem dX12_emit_19 : decode cX12_emit 19 = .ok (.iload_n 1, 1) := by decide +kernel
theorem dX12_emit_20 : decode cX12_emit 20 = .ok (.iastore, 1) := by decide +kernel
theorem dX12_emit_21 : decode cX12_emit 21 = .ok (.aload_n 0, 1) := by decide +kernel
theorem dX12_emit_22 : decode cX12_emit 22 = .ok (.getfield 16, 3) := by decide +kernel
theorem dX12_emit_25 : decode cX12_emit 25 = .ok (.aload_n 0, 1) := by decide +kernel
theorem dX12_emit_26 : decode cX12_emit 26 = .ok (.getfield 250, 3) := by decide +kernel
theorem dX12_emit_29 : decode cX12_emit 29 = .ok (.sipush 200, 3) := by decide +kernel
theorem dX12_emit_32 : decode cX12_emit 32 = .ok (.iadd, 1) := by decide +kernel
theorem dX12_emit_33 : decode cX12_emit 33 = .ok (.iconst 2, 1) := by decide +kernel
theorem dX12_emit_34 : decode cX12_emit 34 = .ok (.aload_n 0, 1) := by decide +kernel
theorem dX12_emit_35 : decode cX12_emit 35 = .ok (.getfield 253, 3) := by decide +kernel
theorem dX12_emit_38 : decode cX12_emit 38 = .ok (.imul, 1) := by decide +kernel
theorem dX12_emit_39 : decode cX12_emit 39 = .ok (.iadd, 1) := by decide +kernel
theorem dX12_emit_40 : decode cX12_emit 40 = .ok (.iconst 1, 1) := by decide +kernel
theorem dX12_emit_41 : decode cX12_emit 41 = .ok (.iadd, 1) := by decide +kernel
theorem dX12_emit_42 : decode cX12_emit 42 = .ok (.iload_n 2, 1) := by decide +kernel
theorem dX12_emit_43 : decode cX12_emit 43 = .ok (.iastore, 1) := by decide +kernel
theorem dX12_emit_44 : decode cX12_emit 44 = .ok (.aload_n 0, 1) := by decide +kernel
theorem dX12_emit_45 : decode cX12_emit 45 = .ok (.dup, 1) := by decide +kernel
theorem dX12_emit_46 : decode cX12_emit 46 = .ok (.getfield 253, 3) := by decide +kernel
theorem dX12_emit_49 : decode cX12_emit 49 = .ok (.iconst 1, 1) := by decide +kernel
theorem dX12_emit_50 : decode cX12_emit 50 = .ok (.iadd, 1) := by decide +kernel
theorem dX12_emit_51 : decode cX12_emit 51 = .ok (.putfield 253, 3) := by decide +kernel
theorem dX12_emit_54 : decode cX12_emit 54 = .ok (.return_, 1) := by decide +kernel
theorem dX12_push_0 : decode cX12_push 0 = .ok (.aload_n 0, 1) := by decide +kernel
theorem dX12_push_1 : decode cX12_push 1 = .ok (.getfield 38, 3) := by decide +kernel
theorem dX12_push_4 : decode cX12_push 4 = .ok (.aload_n 0, 1) := by decide +kernel
theorem dX12_push_5 : decode cX12_push 5 = .ok (.getfield 256, 3) := by decide +kernel
theorem dX12_push_8 : decode cX12_push 8 = .ok (.iload_n 1, 1) := by decide +kernel
theorem dX12_push_9 : decode cX12_push 9 = .ok (.iastore, 1) := by decide +kernel
theorem dX12_push_10 : decode cX12_push 10 = .ok (.aload_n 0, 1) := by decide +kernel
theorem dX12_push_11 : decode cX12_push 11 = .ok (.dup, 1) := by decide +kernel
theorem dX12_push_12 : decode cX12_push 12 = .ok (.getfield 256, 3) := by decide +kernel
theorem dX12_push_15 : decode cX12_push 15 = .ok (.iconst 1, 1) := by decide +kernel
theorem dX12_push_16 : decode cX12_push 16 = .ok (.iadd, 1) := by decide +kernel
theorem dX12_push_17 : decode cX12_push 17 = .ok (.putfield 256, 3) := by decide +kernel
theorem dX12_push_20 : decode cX12_push 20 = .ok (.return_, 1) := by decide +kernel
theorem dX12_whole_0 : decode cX12_whole 0 = .ok (.aload_n 0, 1) := by decide +kernel
theorem dX12_whole_1 : decode cX12_whole 1 = .ok (.iconst 1, 1) := by decide +kernel
theorem dX12_whole_2 : decode cX12_whole 2 = .ok (.putfield 259, 3) := by decide +kernel
theorem dX12_whole_5 : decode cX12_whole 5 = .ok (.aload_n 0, 1) := by decide +kernel
theorem dX12_whole_6 : decode cX12_whole 6 = .ok (.getfield 256, 3) := by decide +kernel
theorem dX12_whole_9 : decode cX12_whole 9 = .ok (.ifCond .le 47, 3) := by decide +kernel
theorem dX12_whole_12 : decode cX12_whole 12 = .ok (.aload_n 0, 1) := by decide +kernel
theorem dX12_whole_13 : decode cX12_whole 13 = .ok (.getfield 38, 3) := by decide +kernel
theorem dX12_whole_16 : decode cX12_whole 16 = .ok (.aload_n 0, 1) := by decide +kernel
theorem dX12_whole_17 : decode cX12_whole 17 = .ok (.getfield 256, 3) := by decide +kernel
theorem dX12_whole_20 : decode cX12_whole 20 = .ok (.iconst 1, 1) := by decide +kernel
theorem dX12_whole_21 : decode cX12_whole 21 = .ok (.isub, 1) := by decide +kernel
theorem dX12_whole_22 : decode cX12_whole 22 = .ok (.iaload, 1) := by decide +kernel
theorem dX12_whole_23 : decode cX12_whole 23 = .ok (.iconst 2, 1) := by decide +kernel
theorem dX12_whole_24 : decode cX12_whole 24 = .ok (.if_icmp .ne 32, 3) := by decide +kernel
theorem dX12_whole_27 : decode cX12_whole 27 = .ok (.aload_n 0, 1) := by decide +kernel
theorem dX12_whole_28 : decode cX12_whole 28 = .ok (.dup, 1) := by decide +kernel
theorem dX12_whole_29 : decode cX12_whole 29 = .ok (.getfield 256, 3) := by decide +kernel
theorem dX12_whole_32 : decode cX12_whole 32 = .ok (.iconst 1, 1) := by decide +kernel
theorem dX12_whole_33 : decode cX12_whole 33 = .ok (.isub, 1) := by decide +kernel
theorem dX12_whole_34 : decode cX12_whole 34 = .ok (.putfield 256, 3) := by decide +kernel
theorem dX12_whole_37 : decode cX12_whole 37 = .ok (.aload_n 0, 1) := by decide +kernel
theorem dX12_whole_38 : decode cX12_whole 38 = .ok (.dup, 1) := by decide +kernel
theorem dX12_whole_39 : decode cX12_whole 39 = .ok (.getfield 262, 3) := by decide +kernel
theorem dX12_whole_42 : decode cX12_whole 42 = .ok (.iconst 1, 1) := by decide +kernel
theorem dX12_whole_43 : decode cX12_whole 43 = .ok (.isub, 1) := by decide +kernel
theorem dX12_whole_44 : decode cX12_whole 44 = .ok (.putfield 262, 3) := by decide +kernel
theorem dX12_whole_47 : decode cX12_whole 47 = .ok (.aload_n 0, 1) := by decide +kernel
theorem dX12_whole_48 : decode cX12_whole 48 = .ok (.iconst 2, 1) := by decide +kernel
theorem dX12_whole_49 : decode cX12_whole 49 = .ok (.iconst 0, 1) := by decide +kernel
theorem dX12_whole_50 : decode cX12_whole 50 = .ok (.invokevirtual 265, 3) := by decide +kernel
theorem dX12_whole_53 : decode cX12_whole 53 = .ok (.goto (-48), 3) := by decide +kernel
theorem dX12_whole_56 : decode cX12_whole 56 = .ok (.return_, 1) := by decide +kernel
theorem dX12_settle_0 : decode cX12_settle 0 = .ok (.aload_n 0, 1) := by decide +kernel
theorem dX12_settle_1 : decode cX12_settle 1 = .ok (.getfield 256, 3) := by decide +kernel
theorem dX12_settle_4 : decode cX12_settle 4 = .ok (.ifCond .le 61, 3) := by decide +kernel
theorem dX12_settle_7 : decode cX12_settle 7 = .ok (.aload_n 0, 1) := by decide +kernel
theorem dX12_settle_8 : decode cX12_settle 8 = .ok (.getfield 38, 3) := by decide +kernel
theorem dX12_settle_11 : decode cX12_settle 11 = .ok (.aload_n 0, 1) := by decide +kernel
theorem dX12_settle_12 : decode cX12_settle 12 = .ok (.getfield 256, 3) := by decide +kernel
theorem dX12_settle_15 : decode cX12_settle 15 = .ok (.iconst 1, 1) := by decide +kernel
theorem dX12_settle_16 : decode cX12_settle 16 = .ok (.isub, 1) := by decide +kernel
theorem dX12_settle_17 : decode cX12_settle 17 = .ok (.iaload, 1) := by decide +kernel
theorem dX12_settle_18 : decode cX12_settle 18 = .ok (.bipush 40, 2) := by decide +kernel
theorem dX12_settle_20 : decode cX12_settle 20 = .ok (.if_icmp .ge 45, 3) := by decide +kernel
theorem dX12_settle_23 : decode cX12_settle 23 = .ok (.aload_n 0, 1) := by decide +kernel
theorem dX12_settle_24 : decode cX12_settle 24 = .ok (.getfield 38, 3) := by decide +kernel
theorem dX12_settle_27 : decode cX12_settle 27 = .ok (.aload_n 0, 1) := by decide +kernel
theorem dX12_settle_28 : decode cX12_settle 28 = .ok (.getfield 256, 3) := by decide +kernel
theorem dX12_settle_31 : decode cX12_settle 31 = .ok (.iconst 1, 1) := by decide +kernel
theorem dX12_settle_32 : decode cX12_settle 32 = .ok (.isub, 1) := by decide +kernel
theorem dX12_settle_33 : decode cX12_settle 33 = .ok (.iaload, 1) := by decide +kernel
theorem dX12_settle_34 : decode cX12_settle 34 = .ok (.iload_n 1, 1) := by decide +kernel
theorem dX12_settle_35 : decode cX12_settle 35 = .ok (.if_icmp .lt 30, 3) := by decide +kernel
theorem dX12_settle_38 : decode cX12_settle 38 = .ok (.aload_n 0, 1) := by decide +kernel
theorem dX12_settle_39 : decode cX12_settle 39 = .ok (.dup, 1) := by decide +kernel
theorem dX12_settle_40 : decode cX12_settle 40 = .ok (.getfield 256, 3) := by decide +kernel
theorem dX12_settle_43 : decode cX12_settle 43 = .ok (.iconst 1, 1) := by decide +kernel
theorem dX12_settle_44 : decode cX12_settle 44 = .ok (.isub, 1) := by decide +kernel
theorem dX12_settle_45 : decode cX12_settle 45 = .ok (.putfield 256, 3) := by decide +kernel
theorem dX12_settle_48 : decode cX12_settle 48 = .ok (.aload_n 0, 1) := by decide +kernel
theorem dX12_settle_49 : decode cX12_settle 49 = .ok (.aload_n 0, 1) := by decide +kernel
theorem dX12_settle_50 : decode cX12_settle 50 = .ok (.getfield 38, 3) := by decide +kernel
theorem dX12_settle_53 : decode cX12_settle 53 = .ok (.aload_n 0, 1) := by decide +kernel
theorem dX12_settle_54 : decode cX12_settle 54 = .ok (.getfield 256, 3) := by decide +kernel
theorem dX12_settle_57 : decode cX12_settle 57 = .ok (.iaload, 1) := by decide +kernel
theorem dX12_settle_58 : decode cX12_settle 58 = .ok (.iconst 0, 1) := by decide +kernel
theorem dX12_settle_59 : decode cX12_settle 59 = .ok (.invokevirtual 265, 3) := by decide +kernel
theorem dX12_settle_62 : decode cX12_settle 62 = .ok (.goto (-62), 3) := by decide +kernel
theorem dX12_settle_65 : decode cX12_settle 65 = .ok (.return_, 1) := by decide +kernel
theorem dX12_nameOf_0 : decode cX12_nameOf 0 = .ok (.aload_n 0, 1) := by decide +kernel
theorem dX12_nameOf_1 : decode cX12_nameOf 1 = .ok (.getfield 225, 3) := by decide +kernel
theorem dX12_nameOf_4 : decode cX12_nameOf 4 = .ok (.iconst 2, 1) := by decide +kernel
theorem dX12_nameOf_5 : decode cX12_nameOf 5 = .ok (.if_icmp .eq 5, 3) := by decide +kernel
theorem dX12_nameOf_8 : decode cX12_nameOf 8 = .ok (.iconst (-1), 1) := by decide +kernel
theorem dX12_nameOf_9 : decode cX12_nameOf 9 = .ok (.ireturn, 1) := by decide +kernel
theorem dX12_nameOf_10 : decode cX12_nameOf 10 = .ok (.aload_n 0, 1) := by decide +kernel
theorem dX12_nameOf_11 : decode cX12_nameOf 11 = .ok (.getfield 238, 3) := by decide +kernel
theorem dX12_nameOf_14 : decode cX12_nameOf 14 = .ok (.bipush 108, 2) := by decide +kernel
theorem dX12_nameOf_16 : decode cX12_nameOf 16 = .ok (.bipush 105, 2) := by decide +kernel
theorem dX12_nameOf_18 : decode cX12_nameOf 18 = .ok (.bipush 103, 2) := by decide +kernel
theorem dX12_nameOf_20 : decode cX12_nameOf 20 = .ok (.bipush 104, 2) := by decide +kernel
theorem dX12_nameOf_22 : decode cX12_nameOf 22 = .ok (.bipush 116, 2) := by decide +kernel
theorem dX12_nameOf_24 : decode cX12_nameOf 24 = .ok (.invokestatic 246, 3) := by decide +kernel
theorem dX12_nameOf_27 : decode cX12_nameOf 27 = .ok (.lcmp, 1) := by decide +kernel
theorem dX12_nameOf_28 : decode cX12_nameOf 28 = .ok (.ifCond .ne 5, 3) := by decide +kernel
theorem dX12_nameOf_31 : decode cX12_nameOf 31 = .ok (.iconst 0, 1) := by decide +kernel
theorem dX12_nameOf_32 : decode cX12_nameOf 32 = .ok (.ireturn, 1) := by decide +kernel
theorem dX12_nameOf_33 : decode cX12_nameOf 33 = .ok (.aload_n 0, 1) := by decide +kernel
theorem dX12_nameOf_34 : decode cX12_nameOf 34 = .ok (.getfield 238, 3) := by decide +kernel
theorem dX12_nameOf_37 : decode cX12_nameOf 37 = .ok (.ldc2_w 268, 3) := by decide +kernel
theorem dX12_nameOf_40 : decode cX12_nameOf 40 = .ok (.lcmp, 1) := by decide +kernel
theorem dX12_nameOf_41 : decode cX12_nameOf 41 = .ok (.ifCond .ne 5, 3) := by decide +kernel
theorem dX12_nameOf_44 : decode cX12_nameOf 44 = .ok (.iconst 1, 1) := by decide +kernel
theorem dX12_nameOf_45 : decode cX12_nameOf 45 = .ok (.ireturn, 1) := by decide +kernel
theorem dX12_nameOf_46 : decode cX12_nameOf 46 = .ok (.aload_n 0, 1) := by decide +kernel
theorem dX12_nameOf_47 : decode cX12_nameOf 47 = .ok (.getfield 238, 3) := by decide +kernel
theorem dX12_nameOf_50 : decode cX12_nameOf 50 = .ok (.ldc2_w 270, 3) := by decide +kernel
theorem dX12_nameOf_53 : decode cX12_nameOf 53 = .ok (.lcmp, 1) := by decide +kernel
theorem dX12_nameOf_54 : decode cX12_nameOf 54 = .ok (.ifCond .ne 5, 3) := by decide +kernel
theorem dX12_nameOf_57 : decode cX12_nameOf 57 = .ok (.iconst 2, 1) := by decide +kernel
theorem dX12_nameOf_58 : decode cX12_nameOf 58 = .ok (.ireturn, 1) := by decide +kernel
theorem dX12_nameOf_59 : decode cX12_nameOf 59 = .ok (.aload_n 0, 1) := by decide +kernel
theorem dX12_nameOf_60 : decode cX12_nameOf 60 = .ok (.getfield 238, 3) := by decide +kernel
theorem dX12_nameOf_63 : decode cX12_nameOf 63 = .ok (.bipush 108, 2) := by decide +kernel
theorem dX12_nameOf_65 : decode cX12_nameOf 65 = .ok (.bipush 101, 2) := by decide +kernel
theorem dX12_nameOf_67 : decode cX12_nameOf 67 = .ok (.bipush 102, 2) := by decide +kernel
theorem dX12_nameOf_69 : decode cX12_nameOf 69 = .ok (.bipush 116, 2) := by decide +kernel
theorem dX12_nameOf_71 : decode cX12_nameOf 71 = .ok (.invokestatic 272, 3) := by decide +kernel
theorem dX12_nameOf_74 : decode cX12_nameOf 74 = .ok (.lcmp, 1) := by decide +kernel
theorem dX12_nameOf_75 : decode cX12_nameOf 75 = .ok (.ifCond .ne 5, 3) := by decide +kernel
theorem dX12_nameOf_78 : decode cX12_nameOf 78 = .ok (.iconst 3, 1) := by decide +kernel
theorem dX12_nameOf_79 : decode cX12_nameOf 79 = .ok (.ireturn, 1) := by decide +kernel
theorem dX12_nameOf_80 : decode cX12_nameOf 80 = .ok (.aload_n 0, 1) := by decide +kernel
theorem dX12_nameOf_81 : decode cX12_nameOf 81 = .ok (.getfield 238, 3) := by decide +kernel
theorem dX12_nameOf_84 : decode cX12_nameOf 84 = .ok (.ldc2_w 276, 3) := by decide +kernel
theorem dX12_nameOf_87 : decode cX12_nameOf 87 = .ok (.lcmp, 1) := by decide +kernel
theorem dX12_nameOf_88 : decode cX12_nameOf 88 = .ok (.ifCond .ne 7, 3) := by decide +kernel
theorem dX12_nameOf_91 : decode cX12_nameOf 91 = .ok (.iconst 4, 1) := by decide +kernel
theorem dX12_nameOf_92 : decode cX12_nameOf 92 = .ok (.goto 29, 3) := by decide +kernel
theorem dX12_nameOf_95 : decode cX12_nameOf 95 = .ok (.aload_n 0, 1) := by decide +kernel
theorem dX12_nameOf_96 : decode cX12_nameOf 96 = .ok (.getfield 238, 3) := by decide +kernel
theorem dX12_nameOf_99 : decode cX12_nameOf 99 = .ok (.bipush 114, 2) := by decide +kernel
theorem dX12_nameOf_101 : decode cX12_nameOf 101 = .ok (.bipush 111, 2) := by decide +kernel
theorem dX12_nameOf_103 : decode cX12_nameOf 103 = .ok (.bipush 117, 2) := by decide +kernel
theorem dX12_nameOf_105 : decode cX12_nameOf 105 = .ok (.bipush 110, 2) := by decide +kernel
theorem dX12_nameOf_107 : decode cX12_nameOf 107 = .ok (.bipush 100, 2) := by decide +kernel
theorem dX12_nameOf_109 : decode cX12_nameOf 109 = .ok (.invokestatic 246, 3) := by decide +kernel
theorem dX12_nameOf_112 : decode cX12_nameOf 112 = .ok (.lcmp, 1) := by decide +kernel
theorem dX12_nameOf_113 : decode cX12_nameOf 113 = .ok (.ifCond .ne 7, 3) := by decide +kernel
theorem dX12_nameOf_116 : decode cX12_nameOf 116 = .ok (.iconst 5, 1) := by decide +kernel
theorem dX12_nameOf_117 : decode cX12_nameOf 117 = .ok (.goto 4, 3) := by decide +kernel
theorem dX12_nameOf_120 : decode cX12_nameOf 120 = .ok (.iconst (-1), 1) := by decide +kernel
theorem dX12_nameOf_121 : decode cX12_nameOf 121 = .ok (.ireturn, 1) := by decide +kernel
theorem dX12_beginOne_0 : decode cX12_beginOne 0 = .ok (.aload_n 0, 1) := by decide +kernel
theorem dX12_beginOne_1 : decode cX12_beginOne 1 = .ok (.getfield 225, 3) := by decide +kernel
theorem dX12_beginOne_4 : decode cX12_beginOne 4 = .ok (.iconst 1, 1) := by decide +kernel
theorem dX12_beginOne_5 : decode cX12_beginOne 5 = .ok (.if_icmp .ne 34, 3) := by decide +kernel
theorem dX12_beginOne_8 : decode cX12_beginOne 8 = .ok (.aload_n 0, 1) := by decide +kernel
theorem dX12_beginOne_9 : decode cX12_beginOne 9 = .ok (.getfield 231, 3) := by decide +kernel
theorem dX12_beginOne_12 : decode cX12_beginOne 12 = .ok (.sipush 999, 3) := by decide +kernel
theorem dX12_beginOne_15 : decode cX12_beginOne 15 = .ok (.if_icmp .le 5, 3) := by decide +kernel
theorem dX12_beginOne_18 : decode cX12_beginOne 18 = .ok (.iconst 2, 1) := by decide +kernel
theorem dX12_beginOne_19 : decode cX12_beginOne 19 = .ok (.ireturn, 1) := by decide +kernel
theorem dX12_beginOne_20 : decode cX12_beginOne 20 = .ok (.aload_n 0, 1) := by decide +kernel
theorem dX12_beginOne_21 : decode cX12_beginOne 21 = .ok (.iconst 0, 1) := by decide +kernel
theorem dX12_beginOne_22 : decode cX12_beginOne 22 = .ok (.aload_n 0, 1) := by decide +kernel
theorem dX12_beginOne_23 : decode cX12_beginOne 23 = .ok (.getfield 231, 3) := by decide +kernel
theorem dX12_beginOne_26 : decode cX12_beginOne 26 = .ok (.invokevirtual 265, 3) := by decide +kernel
theorem dX12_beginOne_29 : decode cX12_beginOne 29 = .ok (.aload_n 0, 1) := by decide +kernel
theorem dX12_beginOne_30 : decode cX12_beginOne 30 = .ok (.invokevirtual 278, 3) := by decide +kernel
theorem dX12_beginOne_33 : decode cX12_beginOne 33 = .ok (.aload_n 0, 1) := by decide +kernel
theorem dX12_beginOne_34 : decode cX12_beginOne 34 = .ok (.invokevirtual 281, 3) := by decide +kernel
theorem dX12_beginOne_37 : decode cX12_beginOne 37 = .ok (.iconst 0, 1) := by decide +kernel
theorem dX12_beginOne_38 : decode cX12_beginOne 38 = .ok (.ireturn, 1) := by decide +kernel
theorem dX12_beginOne_39 : decode cX12_beginOne 39 = .ok (.aload_n 0, 1) := by decide +kernel
theorem dX12_beginOne_40 : decode cX12_beginOne 40 = .ok (.invokevirtual 284, 3) := by decide +kernel
theorem dX12_beginOne_43 : decode cX12_beginOne 43 = .ok (.ifCond .lt 22, 3) := by decide +kernel
theorem dX12_beginOne_46 : decode cX12_beginOne 46 = .ok (.aload_n 0, 1) := by decide +kernel
theorem dX12_beginOne_47 : decode cX12_beginOne 47 = .ok (.iconst 1, 1) := by decide +kernel
theorem dX12_beginOne_48 : decode cX12_beginOne 48 = .ok (.aload_n 0, 1) := by decide +kernel
theorem dX12_beginOne_49 : decode cX12_beginOne 49 = .ok (.invokevirtual 284, 3) := by decide +kernel
theorem dX12_beginOne_52 : decode cX12_beginOne 52 = .ok (.invokevirtual 265, 3) := by decide +kernel
theorem dX12_beginOne_55 : decode cX12_beginOne 55 = .ok (.aload_n 0, 1) := by decide +kernel
theorem dX12_beginOne_56 : decode cX12_beginOne 56 = .ok (.invokevirtual 278, 3) := by decide +kernel
theorem dX12_beginOne_59 : decode cX12_beginOne 59 = .ok (.aload_n 0, 1) := by decide +kernel
theorem dX12_beginOne_60 : decode cX12_beginOne 60 = .ok (.invokevirtual 281, 3) := by decide +kernel
theorem dX12_beginOne_63 : decode cX12_beginOne 63 = .ok (.iconst 0, 1) := by decide +kernel
theorem dX12_beginOne_64 : decode cX12_beginOne 64 = .ok (.ireturn, 1) := by decide +kernel
theorem dX12_beginOne_65 : decode cX12_beginOne 65 = .ok (.aload_n 0, 1) := by decide +kernel
theorem dX12_beginOne_66 : decode cX12_beginOne 66 = .ok (.getfield 225, 3) := by decide +kernel
theorem dX12_beginOne_69 : decode cX12_beginOne 69 = .ok (.bipush 40, 2) := by decide +kernel
theorem dX12_beginOne_71 : decode cX12_beginOne 71 = .ok (.if_icmp .ne 8, 3) := by decide +kernel
theorem dX12_beginOne_74 : decode cX12_beginOne 74 = .ok (.bipush 40, 2) := by decide +kernel
theorem dX12_beginOne_76 : decode cX12_beginOne 76 = .ok (.goto 17, 3) := by decide +kernel
theorem dX12_beginOne_79 : decode cX12_beginOne 79 = .ok (.aload_n 0, 1) := by decide +kernel
theorem dX12_beginOne_80 : decode cX12_beginOne 80 = .ok (.getfield 225, 3) := by decide +kernel
theorem dX12_beginOne_83 : decode cX12_beginOne 83 = .ok (.bipush 45, 2) := by decide +kernel
theorem dX12_beginOne_85 : decode cX12_beginOne 85 = .ok (.if_icmp .ne 7, 3) := by decide +kernel
theorem dX12_beginOne_88 : decode cX12_beginOne 88 = .ok (.iconst 2, 1) := by decide +kernel
theorem dX12_beginOne_89 : decode cX12_beginOne 89 = .ok (.goto 4, 3) := by decide +kernel
theorem dX12_beginOne_92 : decode cX12_beginOne 92 = .ok (.iconst 0, 1) := by decide +kernel
theorem dX12_beginOne_93 : decode cX12_beginOne 93 = .ok (.istore_n 1, 1) := by decide +kernel
theorem dX12_beginOne_94 : decode cX12_beginOne 94 = .ok (.iload_n 1, 1) := by decide +kernel
theorem dX12_beginOne_95 : decode cX12_beginOne 95 = .ok (.ifCond .ne 5, 3) := by decide +kernel
theorem dX12_beginOne_98 : decode cX12_beginOne 98 = .ok (.iconst 1, 1) := by decide +kernel
theorem dX12_beginOne_99 : decode cX12_beginOne 99 = .ok (.ireturn, 1) := by decide +kernel
theorem dX12_beginOne_100 : decode cX12_beginOne 100 = .ok (.aload_n 0, 1) := by decide +kernel
theorem dX12_beginOne_101 : decode cX12_beginOne 101 = .ok (.getfield 262, 3) := by decide +kernel
theorem dX12_beginOne_104 : decode cX12_beginOne 104 = .ok (.bipush 8, 2) := by decide +kernel
theorem dX12_beginOne_106 : decode cX12_beginOne 106 = .ok (.if_icmp .ne 5, 3) := by decide +kernel
theorem dX12_beginOne_109 : decode cX12_beginOne 109 = .ok (.iconst 3, 1) := by decide +kernel
theorem dX12_beginOne_110 : decode cX12_beginOne 110 = .ok (.ireturn, 1) := by decide +kernel
theorem dX12_beginOne_111 : decode cX12_beginOne 111 = .ok (.aload_n 0, 1) := by decide +kernel
theorem dX12_beginOne_112 : decode cX12_beginOne 112 = .ok (.dup, 1) := by decide +kernel
theorem dX12_beginOne_113 : decode cX12_beginOne 113 = .ok (.getfield 262, 3) := by decide +kernel
theorem dX12_beginOne_116 : decode cX12_beginOne 116 = .ok (.iconst 1, 1) := by decide +kernel
theorem dX12_beginOne_117 : decode cX12_beginOne 117 = .ok (.iadd, 1) := by decide +kernel
theorem dX12_beginOne_118 : decode cX12_beginOne 118 = .ok (.putfield 262, 3) := by decide +kernel
theorem dX12_beginOne_121 : decode cX12_beginOne 121 = .ok (.aload_n 0, 1) := by decide +kernel
theorem dX12_beginOne_122 : decode cX12_beginOne 122 = .ok (.iload_n 1, 1) := by decide +kernel
theorem dX12_beginOne_123 : decode cX12_beginOne 123 = .ok (.invokevirtual 287, 3) := by decide +kernel
theorem dX12_beginOne_126 : decode cX12_beginOne 126 = .ok (.aload_n 0, 1) := by decide +kernel
theorem dX12_beginOne_127 : decode cX12_beginOne 127 = .ok (.invokevirtual 278, 3) := by decide +kernel
theorem dX12_beginOne_130 : decode cX12_beginOne 130 = .ok (.iconst 0, 1) := by decide +kernel
theorem dX12_beginOne_131 : decode cX12_beginOne 131 = .ok (.ireturn, 1) := by decide +kernel
theorem dX12_hasParen_0 : decode cX12_hasParen 0 = .ok (.iconst 0, 1) := by decide +kernel
theorem dX12_hasParen_1 : decode cX12_hasParen 1 = .ok (.istore_n 1, 1) := by decide +kernel
theorem dX12_hasParen_2 : decode cX12_hasParen 2 = .ok (.iload_n 1, 1) := by decide +kernel
theorem dX12_hasParen_3 : decode cX12_hasParen 3 = .ok (.aload_n 0, 1) := by decide +kernel
theorem dX12_hasParen_4 : decode cX12_hasParen 4 = .ok (.getfield 256, 3) := by decide +kernel
theorem dX12_hasParen_7 : decode cX12_hasParen 7 = .ok (.if_icmp .ge 22, 3) := by decide +kernel
theorem dX12_hasParen_10 : decode cX12_hasParen 10 = .ok (.aload_n 0, 1) := by decide +kernel
theorem dX12_hasParen_11 : decode cX12_hasParen 11 = .ok (.getfield 38, 3) := by decide +kernel
theorem dX12_hasParen_14 : decode cX12_hasParen 14 = .ok (.iload_n 1, 1) := by decide +kernel
theorem dX12_hasParen_15 : decode cX12_hasParen 15 = .ok (.iaload, 1) := by decide +kernel
theorem dX12_hasParen_16 : decode cX12_hasParen 16 = .ok (.bipush 40, 2) := by decide +kernel
theorem dX12_hasParen_18 : decode cX12_hasParen 18 = .ok (.if_icmp .ne 5, 3) := by decide +kernel
theorem dX12_hasParen_21 : decode cX12_hasParen 21 = .ok (.iconst 1, 1) := by decide +kernel
theorem dX12_hasParen_22 : decode cX12_hasParen 22 = .ok (.ireturn, 1) := by decide +kernel
theorem dX12_hasParen_23 : decode cX12_hasParen 23 = .ok (.iinc 1 1, 3) := by decide +kernel
theorem dX12_hasParen_26 : decode cX12_hasParen 26 = .ok (.goto (-24), 3) := by decide +kernel
theorem dX12_hasParen_29 : decode cX12_hasParen 29 = .ok (.iconst 0, 1) := by decide +kernel
theorem dX12_hasParen_30 : decode cX12_hasParen 30 = .ok (.ireturn, 1) := by decide +kernel
theorem dX12_goesOn_0 : decode cX12_goesOn 0 = .ok (.aload_n 0, 1) := by decide +kernel
theorem dX12_goesOn_1 : decode cX12_goesOn 1 = .ok (.getfield 225, 3) := by decide +kernel
theorem dX12_goesOn_4 : decode cX12_goesOn 4 = .ok (.bipush 43, 2) := by decide +kernel
theorem dX12_goesOn_6 : decode cX12_goesOn 6 = .ok (.if_icmp .eq 46, 3) := by decide +kernel
theorem dX12_goesOn_9 : decode cX12_goesOn 9 = .ok (.aload_n 0, 1) := by decide +kernel
theorem dX12_goesOn_10 : decode cX12_goesOn 10 = .ok (.getfield 225, 3) := by decide +kernel
theorem dX12_goesOn_13 : decode cX12_goesOn 13 = .ok (.bipush 45, 2) := by decide +kernel
theorem dX12_goesOn_15 : decode cX12_goesOn 15 = .ok (.if_icmp .eq 37, 3) := by decide +kernel
theorem dX12_goesOn_18 : decode cX12_goesOn 18 = .ok (.aload_n 0, 1) := by decide +kernel
theorem dX12_goesOn_19 : decode cX12_goesOn 19 = .ok (.getfield 225, 3) := by decide +kernel
theorem dX12_goesOn_22 : decode cX12_goesOn 22 = .ok (.bipush 42, 2) := by decide +kernel
theorem dX12_goesOn_24 : decode cX12_goesOn 24 = .ok (.if_icmp .eq 28, 3) := by decide +kernel
theorem dX12_goesOn_27 : decode cX12_goesOn 27 = .ok (.aload_n 0, 1) := by decide +kernel
theorem dX12_goesOn_28 : decode cX12_goesOn 28 = .ok (.getfield 225, 3) := by decide +kernel
theorem dX12_goesOn_31 : decode cX12_goesOn 31 = .ok (.bipush 47, 2) := by decide +kernel
theorem dX12_goesOn_33 : decode cX12_goesOn 33 = .ok (.if_icmp .eq 19, 3) := by decide +kernel
theorem dX12_goesOn_36 : decode cX12_goesOn 36 = .ok (.aload_n 0, 1) := by decide +kernel
theorem dX12_goesOn_37 : decode cX12_goesOn 37 = .ok (.getfield 225, 3) := by decide +kernel
theorem dX12_goesOn_40 : decode cX12_goesOn 40 = .ok (.bipush 41, 2) := by decide +kernel
theorem dX12_goesOn_42 : decode cX12_goesOn 42 = .ok (.if_icmp .ne 14, 3) := by decide +kernel
theorem dX12_goesOn_45 : decode cX12_goesOn 45 = .ok (.aload_n 0, 1) := by decide +kernel
theorem dX12_goesOn_46 : decode cX12_goesOn 46 = .ok (.invokevirtual 290, 3) := by decide +kernel
theorem dX12_goesOn_49 : decode cX12_goesOn 49 = .ok (.ifCond .eq 7, 3) := by decide +kernel
theorem dX12_goesOn_52 : decode cX12_goesOn 52 = .ok (.iconst 1, 1) := by decide +kernel
theorem dX12_goesOn_53 : decode cX12_goesOn 53 = .ok (.goto 4, 3) := by decide +kernel
theorem dX12_goesOn_56 : decode cX12_goesOn 56 = .ok (.iconst 0, 1) := by decide +kernel
theorem dX12_goesOn_57 : decode cX12_goesOn 57 = .ok (.ireturn, 1) := by decide +kernel
theorem dX12_behindOne_0 : decode cX12_behindOne 0 = .ok (.aload_n 0, 1) := by decide +kernel
theorem dX12_behindOne_1 : decode cX12_behindOne 1 = .ok (.getfield 225, 3) := by decide +kernel
theorem dX12_behindOne_4 : decode cX12_behindOne 4 = .ok (.istore_n 1, 1) := by decide +kernel
theorem dX12_behindOne_5 : decode cX12_behindOne 5 = .ok (.iload_n 1, 1) := by decide +kernel
theorem dX12_behindOne_6 : decode cX12_behindOne 6 = .ok (.bipush 43, 2) := by decide +kernel
theorem dX12_behindOne_8 : decode cX12_behindOne 8 = .ok (.if_icmp .eq 9, 3) := by decide +kernel
theorem dX12_behindOne_11 : decode cX12_behindOne 11 = .ok (.iload_n 1, 1) := by decide +kernel
theorem dX12_behindOne_12 : decode cX12_behindOne 12 = .ok (.bipush 45, 2) := by decide +kernel
theorem dX12_behindOne_14 : decode cX12_behindOne 14 = .ok (.if_icmp .ne 31, 3) := by decide +kernel
theorem dX12_behindOne_17 : decode cX12_behindOne 17 = .ok (.aload_n 0, 1) := by decide +kernel
theorem dX12_behindOne_18 : decode cX12_behindOne 18 = .ok (.iconst 3, 1) := by decide +kernel
theorem dX12_behindOne_19 : decode cX12_behindOne 19 = .ok (.invokevirtual 294, 3) := by decide +kernel
theorem dX12_behindOne_22 : decode cX12_behindOne 22 = .ok (.aload_n 0, 1) := by decide +kernel
theorem dX12_behindOne_23 : decode cX12_behindOne 23 = .ok (.iload_n 1, 1) := by decide +kernel
theorem dX12_behindOne_24 : decode cX12_behindOne 24 = .ok (.bipush 43, 2) := by decide +kernel
theorem dX12_behindOne_26 : decode cX12_behindOne 26 = .ok (.if_icmp .ne 7, 3) := by decide +kernel
theorem dX12_behindOne_29 : decode cX12_behindOne 29 = .ok (.iconst 3, 1) := by decide +kernel
theorem dX12_behindOne_30 : decode cX12_behindOne 30 = .ok (.goto 4, 3) := by decide +kernel
theorem dX12_behindOne_33 : decode cX12_behindOne 33 = .ok (.iconst 4, 1) := by decide +kernel
theorem dX12_behindOne_34 : decode cX12_behindOne 34 = .ok (.invokevirtual 287, 3) := by decide +kernel
theorem dX12_behindOne_37 : decode cX12_behindOne 37 = .ok (.aload_n 0, 1) := by decide +kernel
theorem dX12_behindOne_38 : decode cX12_behindOne 38 = .ok (.iconst 0, 1) := by decide +kernel
theorem dX12_behindOne_39 : decode cX12_behindOne 39 = .ok (.putfield 259, 3) := by decide +kernel
theorem dX12_behindOne_42 : decode cX12_behindOne 42 = .ok (.goto 73, 3) := by decide +kernel
theorem dX12_behindOne_45 : decode cX12_behindOne 45 = .ok (.iload_n 1, 1) := by decide +kernel
theorem dX12_behindOne_46 : decode cX12_behindOne 46 = .ok (.bipush 42, 2) := by decide +kernel
theorem dX12_behindOne_48 : decode cX12_behindOne 48 = .ok (.if_icmp .eq 9, 3) := by decide +kernel
theorem dX12_behindOne_51 : decode cX12_behindOne 51 = .ok (.iload_n 1, 1) := by decide +kernel
theorem dX12_behindOne_52 : decode cX12_behindOne 52 = .ok (.bipush 47, 2) := by decide +kernel
theorem dX12_behindOne_54 : decode cX12_behindOne 54 = .ok (.if_icmp .ne 32, 3) := by decide +kernel
theorem dX12_behindOne_57 : decode cX12_behindOne 57 = .ok (.aload_n 0, 1) := by decide +kernel
theorem dX12_behindOne_58 : decode cX12_behindOne 58 = .ok (.iconst 5, 1) := by decide +kernel
theorem dX12_behindOne_59 : decode cX12_behindOne 59 = .ok (.invokevirtual 294, 3) := by decide +kernel
theorem dX12_behindOne_62 : decode cX12_behindOne 62 = .ok (.aload_n 0, 1) := by decide +kernel
theorem dX12_behindOne_63 : decode cX12_behindOne 63 = .ok (.iload_n 1, 1) := by decide +kernel
theorem dX12_behindOne_64 : decode cX12_behindOne 64 = .ok (.bipush 42, 2) := by decide +kernel
theorem dX12_behindOne_66 : decode cX12_behindOne 66 = .ok (.if_icmp .ne 7, 3) := by decide +kernel
theorem dX12_behindOne_69 : decode cX12_behindOne 69 = .ok (.iconst 5, 1) := by decide +kernel
theorem dX12_behindOne_70 : decode cX12_behindOne 70 = .ok (.goto 5, 3) := by decide +kernel
theorem dX12_behindOne_73 : decode cX12_behindOne 73 = .ok (.bipush 6, 2) := by decide +kernel
theorem dX12_behindOne_75 : decode cX12_behindOne 75 = .ok (.invokevirtual 287, 3) := by decide +kernel
theorem dX12_behindOne_78 : decode cX12_behindOne 78 = .ok (.aload_n 0, 1) := by decide +kernel
theorem dX12_behindOne_79 : decode cX12_behindOne 79 = .ok (.iconst 0, 1) := by decide +kernel
theorem dX12_behindOne_80 : decode cX12_behindOne 80 = .ok (.putfield 259, 3) := by decide +kernel
theorem dX12_behindOne_83 : decode cX12_behindOne 83 = .ok (.goto 32, 3) := by decide +kernel
theorem dX12_behindOne_86 : decode cX12_behindOne 86 = .ok (.aload_n 0, 1) := by decide +kernel
theorem dX12_behindOne_87 : decode cX12_behindOne 87 = .ok (.iconst 3, 1) := by decide +kernel
theorem dX12_behindOne_88 : decode cX12_behindOne 88 = .ok (.invokevirtual 294, 3) := by decide +kernel
theorem dX12_behindOne_91 : decode cX12_behindOne 91 = .ok (.aload_n 0, 1) := by decide +kernel
theorem dX12_behindOne_92 : decode cX12_behindOne 92 = .ok (.dup, 1) := by decide +kernel
theorem dX12_behindOne_93 : decode cX12_behindOne 93 = .ok (.getfield 256, 3) := by decide +kernel
theorem dX12_behindOne_96 : decode cX12_behindOne 96 = .ok (.iconst 1, 1) := by decide +kernel
theorem dX12_behindOne_97 : decode cX12_behindOne 97 = .ok (.isub, 1) := by decide +kernel
theorem dX12_behindOne_98 : decode cX12_behindOne 98 = .ok (.putfield 256, 3) := by decide +kernel
theorem dX12_behindOne_101 : decode cX12_behindOne 101 = .ok (.aload_n 0, 1) := by decide +kernel
theorem dX12_behindOne_102 : decode cX12_behindOne 102 = .ok (.dup, 1) := by decide +kernel
theorem dX12_behindOne_103 : decode cX12_behindOne 103 = .ok (.getfield 262, 3) := by decide +kernel
theorem dX12_behindOne_106 : decode cX12_behindOne 106 = .ok (.iconst 1, 1) := by decide +kernel
theorem dX12_behindOne_107 : decode cX12_behindOne 107 = .ok (.isub, 1) := by decide +kernel
theorem dX12_behindOne_108 : decode cX12_behindOne 108 = .ok (.putfield 262, 3) := by decide +kernel
theorem dX12_behindOne_111 : decode cX12_behindOne 111 = .ok (.aload_n 0, 1) := by decide +kernel
theorem dX12_behindOne_112 : decode cX12_behindOne 112 = .ok (.invokevirtual 281, 3) := by decide +kernel
theorem dX12_behindOne_115 : decode cX12_behindOne 115 = .ok (.aload_n 0, 1) := by decide +kernel
theorem dX12_behindOne_116 : decode cX12_behindOne 116 = .ok (.invokevirtual 278, 3) := by decide +kernel
theorem dX12_behindOne_119 : decode cX12_behindOne 119 = .ok (.iconst 0, 1) := by decide +kernel
theorem dX12_behindOne_120 : decode cX12_behindOne 120 = .ok (.ireturn, 1) := by decide +kernel
theorem dX12_summed_0 : decode cX12_summed 0 = .ok (.aload_n 0, 1) := by decide +kernel
theorem dX12_summed_1 : decode cX12_summed 1 = .ok (.iconst 0, 1) := by decide +kernel
theorem dX12_summed_2 : decode cX12_summed 2 = .ok (.putfield 256, 3) := by decide +kernel
theorem dX12_summed_5 : decode cX12_summed 5 = .ok (.aload_n 0, 1) := by decide +kernel
theorem dX12_summed_6 : decode cX12_summed 6 = .ok (.iconst 0, 1) := by decide +kernel
theorem dX12_summed_7 : decode cX12_summed 7 = .ok (.putfield 259, 3) := by decide +kernel
theorem dX12_summed_10 : decode cX12_summed 10 = .ok (.aload_n 0, 1) := by decide +kernel
theorem dX12_summed_11 : decode cX12_summed 11 = .ok (.getfield 259, 3) := by decide +kernel
theorem dX12_summed_14 : decode cX12_summed 14 = .ok (.ifCond .eq 10, 3) := by decide +kernel
theorem dX12_summed_17 : decode cX12_summed 17 = .ok (.aload_n 0, 1) := by decide +kernel
theorem dX12_summed_18 : decode cX12_summed 18 = .ok (.invokevirtual 297, 3) := by decide +kernel
theorem dX12_summed_21 : decode cX12_summed 21 = .ok (.ifCond .eq 31, 3) := by decide +kernel
theorem dX12_summed_24 : decode cX12_summed 24 = .ok (.aload_n 0, 1) := by decide +kernel
theorem dX12_summed_25 : decode cX12_summed 25 = .ok (.getfield 259, 3) := by decide +kernel
theorem dX12_summed_28 : decode cX12_summed 28 = .ok (.ifCond .eq 10, 3) := by decide +kernel
theorem dX12_summed_31 : decode cX12_summed 31 = .ok (.aload_n 0, 1) := by decide +kernel
theorem dX12_summed_32 : decode cX12_summed 32 = .ok (.invokevirtual 300, 3) := by decide +kernel
theorem dX12_summed_35 : decode cX12_summed 35 = .ok (.goto 7, 3) := by decide +kernel
theorem dX12_summed_38 : decode cX12_summed 38 = .ok (.aload_n 0, 1) := by decide +kernel
theorem dX12_summed_39 : decode cX12_summed 39 = .ok (.invokevirtual 303, 3) := by decide +kernel
theorem dX12_summed_42 : decode cX12_summed 42 = .ok (.istore_n 1, 1) := by decide +kernel
theorem dX12_summed_43 : decode cX12_summed 43 = .ok (.iload_n 1, 1) := by decide +kernel
theorem dX12_summed_44 : decode cX12_summed 44 = .ok (.ifCond .eq 5, 3) := by decide +kernel
theorem dX12_summed_47 : decode cX12_summed 47 = .ok (.iload_n 1, 1) := by decide +kernel
theorem dX12_summed_48 : decode cX12_summed 48 = .ok (.ireturn, 1) := by decide +kernel
theorem dX12_summed_49 : decode cX12_summed 49 = .ok (.goto (-39), 3) := by decide +kernel
theorem dX12_summed_52 : decode cX12_summed 52 = .ok (.aload_n 0, 1) := by decide +kernel
theorem dX12_summed_53 : decode cX12_summed 53 = .ok (.iconst 3, 1) := by decide +kernel
theorem dX12_summed_54 : decode cX12_summed 54 = .ok (.invokevirtual 294, 3) := by decide +kernel
theorem dX12_summed_57 : decode cX12_summed 57 = .ok (.aload_n 0, 1) := by decide +kernel
theorem dX12_summed_58 : decode cX12_summed 58 = .ok (.getfield 256, 3) := by decide +kernel
theorem dX12_summed_61 : decode cX12_summed 61 = .ok (.ifCond .le 7, 3) := by decide +kernel
theorem dX12_summed_64 : decode cX12_summed 64 = .ok (.iconst 1, 1) := by decide +kernel
theorem dX12_summed_65 : decode cX12_summed 65 = .ok (.goto 4, 3) := by decide +kernel
theorem dX12_summed_68 : decode cX12_summed 68 = .ok (.iconst 0, 1) := by decide +kernel
theorem dX12_summed_69 : decode cX12_summed 69 = .ok (.ireturn, 1) := by decide +kernel
theorem dX12_kindOf_0 : decode cX12_kindOf 0 = .ok (.aload_n 0, 1) := by decide +kernel
theorem dX12_kindOf_1 : decode cX12_kindOf 1 = .ok (.bipush 112, 2) := by decide +kernel
theorem dX12_kindOf_3 : decode cX12_kindOf 3 = .ok (.bipush 97, 2) := by decide +kernel
theorem dX12_kindOf_5 : decode cX12_kindOf 5 = .ok (.bipush 115, 2) := by decide +kernel
theorem dX12_kindOf_7 : decode cX12_kindOf 7 = .ok (.bipush 116, 2) := by decide +kernel
theorem dX12_kindOf_9 : decode cX12_kindOf 9 = .ok (.bipush 101, 2) := by decide +kernel
theorem dX12_kindOf_11 : decode cX12_kindOf 11 = .ok (.invokestatic 246, 3) := by decide +kernel
theorem dX12_kindOf_14 : decode cX12_kindOf 14 = .ok (.invokevirtual 306, 3) := by decide +kernel
theorem dX12_kindOf_17 : decode cX12_kindOf 17 = .ok (.ifCond .eq 5, 3) := by decide +kernel
theorem dX12_kindOf_20 : decode cX12_kindOf 20 = .ok (.iconst 0, 1) := by decide +kernel
theorem dX12_kindOf_21 : decode cX12_kindOf 21 = .ok (.ireturn, 1) := by decide +kernel
theorem dX12_kindOf_22 : decode cX12_kindOf 22 = .ok (.aload_n 0, 1) := by decide +kernel
theorem dX12_kindOf_23 : decode cX12_kindOf 23 = .ok (.bipush 112, 2) := by decide +kernel
theorem dX12_kindOf_25 : decode cX12_kindOf 25 = .ok (.bipush 97, 2) := by decide +kernel
theorem dX12_kindOf_27 : decode cX12_kindOf 27 = .ok (.bipush 105, 2) := by decide +kernel
theorem dX12_kindOf_29 : decode cX12_kindOf 29 = .ok (.bipush 110, 2) := by decide +kernel
theorem dX12_kindOf_31 : decode cX12_kindOf 31 = .ok (.bipush 116, 2) := by decide +kernel
theorem dX12_kindOf_33 : decode cX12_kindOf 33 = .ok (.invokestatic 246, 3) := by decide +kernel
theorem dX12_kindOf_36 : decode cX12_kindOf 36 = .ok (.invokevirtual 306, 3) := by decide +kernel
theorem dX12_kindOf_39 : decode cX12_kindOf 39 = .ok (.ifCond .eq 5, 3) := by decide +kernel
theorem dX12_kindOf_42 : decode cX12_kindOf 42 = .ok (.iconst 1, 1) := by decide +kernel
theorem dX12_kindOf_43 : decode cX12_kindOf 43 = .ok (.ireturn, 1) := by decide +kernel
theorem dX12_kindOf_44 : decode cX12_kindOf 44 = .ok (.aload_n 0, 1) := by decide +kernel
theorem dX12_kindOf_45 : decode cX12_kindOf 45 = .ok (.bipush 107, 2) := by decide +kernel
theorem dX12_kindOf_47 : decode cX12_kindOf 47 = .ok (.bipush 101, 2) := by decide +kernel
theorem dX12_kindOf_49 : decode cX12_kindOf 49 = .ok (.bipush 101, 2) := by decide +kernel
theorem dX12_kindOf_51 : decode cX12_kindOf 51 = .ok (.bipush 112, 2) := by decide +kernel
theorem dX12_kindOf_53 : decode cX12_kindOf 53 = .ok (.invokestatic 272, 3) := by decide +kernel
theorem dX12_kindOf_56 : decode cX12_kindOf 56 = .ok (.invokevirtual 306, 3) := by decide +kernel
theorem dX12_kindOf_59 : decode cX12_kindOf 59 = .ok (.ifCond .eq 5, 3) := by decide +kernel
theorem dX12_kindOf_62 : decode cX12_kindOf 62 = .ok (.iconst 2, 1) := by decide +kernel
theorem dX12_kindOf_63 : decode cX12_kindOf 63 = .ok (.ireturn, 1) := by decide +kernel
theorem dX12_kindOf_64 : decode cX12_kindOf 64 = .ok (.aload_n 0, 1) := by decide +kernel
theorem dX12_kindOf_65 : decode cX12_kindOf 65 = .ok (.bipush 102, 2) := by decide +kernel
theorem dX12_kindOf_67 : decode cX12_kindOf 67 = .ok (.bipush 108, 2) := by decide +kernel
theorem dX12_kindOf_69 : decode cX12_kindOf 69 = .ok (.bipush 105, 2) := by decide +kernel
theorem dX12_kindOf_71 : decode cX12_kindOf 71 = .ok (.bipush 112, 2) := by decide +kernel
theorem dX12_kindOf_73 : decode cX12_kindOf 73 = .ok (.invokestatic 272, 3) := by decide +kernel
theorem dX12_kindOf_76 : decode cX12_kindOf 76 = .ok (.invokevirtual 306, 3) := by decide +kernel
theorem dX12_kindOf_79 : decode cX12_kindOf 79 = .ok (.ifCond .eq 7, 3) := by decide +kernel
theorem dX12_kindOf_82 : decode cX12_kindOf 82 = .ok (.iconst 3, 1) := by decide +kernel
theorem dX12_kindOf_83 : decode cX12_kindOf 83 = .ok (.goto 30, 3) := by decide +kernel
theorem dX12_kindOf_86 : decode cX12_kindOf 86 = .ok (.aload_n 0, 1) := by decide +kernel
theorem dX12_kindOf_87 : decode cX12_kindOf 87 = .ok (.bipush 114, 2) := by decide +kernel
theorem dX12_kindOf_89 : decode cX12_kindOf 89 = .ok (.bipush 101, 2) := by decide +kernel
theorem dX12_kindOf_91 : decode cX12_kindOf 91 = .ok (.bipush 112, 2) := by decide +kernel
theorem dX12_kindOf_93 : decode cX12_kindOf 93 = .ok (.bipush 101, 2) := by decide +kernel
theorem dX12_kindOf_95 : decode cX12_kindOf 95 = .ok (.bipush 97, 2) := by decide +kernel
theorem dX12_kindOf_97 : decode cX12_kindOf 97 = .ok (.bipush 116, 2) := by decide +kernel
theorem dX12_kindOf_99 : decode cX12_kindOf 99 = .ok (.invokestatic 310, 3) := by decide +kernel
theorem dX12_kindOf_102 : decode cX12_kindOf 102 = .ok (.invokevirtual 306, 3) := by decide +kernel
theorem dX12_kindOf_105 : decode cX12_kindOf 105 = .ok (.ifCond .eq 7, 3) := by decide +kernel
theorem dX12_kindOf_108 : decode cX12_kindOf 108 = .ok (.iconst 4, 1) := by decide +kernel
theorem dX12_kindOf_109 : decode cX12_kindOf 109 = .ok (.goto 4, 3) := by decide +kernel
theorem dX12_kindOf_112 : decode cX12_kindOf 112 = .ok (.iconst (-1), 1) := by decide +kernel
theorem dX12_kindOf_113 : decode cX12_kindOf 113 = .ok (.ireturn, 1) := by decide +kernel
theorem dX12_number_0 : decode cX12_number 0 = .ok (.aload_n 0, 1) := by decide +kernel
theorem dX12_number_1 : decode cX12_number 1 = .ok (.getfield 225, 3) := by decide +kernel
theorem dX12_number_4 : decode cX12_number 4 = .ok (.iconst 1, 1) := by decide +kernel
theorem dX12_number_5 : decode cX12_number 5 = .ok (.if_icmp .eq 5, 3) := by decide +kernel
theorem dX12_number_8 : decode cX12_number 8 = .ok (.iconst 1, 1) := by decide +kernel
theorem dX12_number_9 : decode cX12_number 9 = .ok (.ireturn, 1) := by decide +kernel
theorem dX12_number_10 : decode cX12_number 10 = .ok (.aload_n 0, 1) := by decide +kernel
theorem dX12_number_11 : decode cX12_number 11 = .ok (.getfield 231, 3) := by decide +kernel
theorem dX12_number_14 : decode cX12_number 14 = .ok (.iload_n 1, 1) := by decide +kernel
theorem dX12_number_15 : decode cX12_number 15 = .ok (.iload_n 2, 1) := by decide +kernel
theorem dX12_number_16 : decode cX12_number 16 = .ok (.invokestatic 79, 3) := by decide +kernel
theorem dX12_number_19 : decode cX12_number 19 = .ok (.ifCond .ne 5, 3) := by decide +kernel
theorem dX12_number_22 : decode cX12_number 22 = .ok (.iconst 2, 1) := by decide +kernel
theorem dX12_number_23 : decode cX12_number 23 = .ok (.ireturn, 1) := by decide +kernel
theorem dX12_number_24 : decode cX12_number 24 = .ok (.aload_n 0, 1) := by decide +kernel
theorem dX12_number_25 : decode cX12_number 25 = .ok (.dup, 1) := by decide +kernel
theorem dX12_number_26 : decode cX12_number 26 = .ok (.getfield 314, 3) := by decide +kernel
theorem dX12_number_29 : decode cX12_number 29 = .ok (.iconst 1, 1) := by decide +kernel
theorem dX12_number_30 : decode cX12_number 30 = .ok (.iadd, 1) := by decide +kernel
theorem dX12_number_31 : decode cX12_number 31 = .ok (.putfield 314, 3) := by decide +kernel
theorem dX12_number_34 : decode cX12_number 34 = .ok (.aload_n 0, 1) := by decide +kernel
theorem dX12_number_35 : decode cX12_number 35 = .ok (.getfield 16, 3) := by decide +kernel
theorem dX12_number_38 : decode cX12_number 38 = .ok (.aload_n 0, 1) := by decide +kernel
theorem dX12_number_39 : decode cX12_number 39 = .ok (.getfield 317, 3) := by decide +kernel
theorem dX12_number_42 : decode cX12_number 42 = .ok (.aload_n 0, 1) := by decide +kernel
theorem dX12_number_43 : decode cX12_number 43 = .ok (.getfield 314, 3) := by decide +kernel
theorem dX12_number_46 : decode cX12_number 46 = .ok (.iadd, 1) := by decide +kernel
theorem dX12_number_47 : decode cX12_number 47 = .ok (.aload_n 0, 1) := by decide +kernel
theorem dX12_number_48 : decode cX12_number 48 = .ok (.getfield 231, 3) := by decide +kernel
theorem dX12_number_51 : decode cX12_number 51 = .ok (.iastore, 1) := by decide +kernel
theorem dX12_number_52 : decode cX12_number 52 = .ok (.aload_n 0, 1) := by decide +kernel
theorem dX12_number_53 : decode cX12_number 53 = .ok (.invokevirtual 278, 3) := by decide +kernel
theorem dX12_number_56 : decode cX12_number 56 = .ok (.iconst 0, 1) := by decide +kernel
theorem dX12_number_57 : decode cX12_number 57 = .ok (.ireturn, 1) := by decide +kernel
theorem dX12_field_0 : decode cX12_field 0 = .ok (.aload_n 0, 1) := by decide +kernel
theorem dX12_field_1 : decode cX12_field 1 = .ok (.iconst 0, 1) := by decide +kernel
theorem dX12_field_2 : decode cX12_field 2 = .ok (.bipush 99, 2) := by decide +kernel
theorem dX12_field_4 : decode cX12_field 4 = .ok (.invokevirtual 320, 3) := by decide +kernel
theorem dX12_field_7 : decode cX12_field 7 = .ok (.istore_n 1, 1) := by decide +kernel
theorem dX12_field_8 : decode cX12_field 8 = .ok (.iload_n 1, 1) := by decide +kernel
theorem dX12_field_9 : decode cX12_field 9 = .ok (.ifCond .eq 7, 3) := by decide +kernel
theorem dX12_field_12 : decode cX12_field 12 = .ok (.iload_n 1, 1) := by decide +kernel
theorem dX12_field_13 : decode cX12_field 13 = .ok (.goto 10, 3) := by decide +kernel
theorem dX12_field_16 : decode cX12_field 16 = .ok (.aload_n 0, 1) := by decide +kernel
theorem dX12_field_17 : decode cX12_field 17 = .ok (.iconst 0, 1) := by decide +kernel
theorem dX12_field_18 : decode cX12_field 18 = .ok (.bipush 99, 2) := by decide +kernel
theorem dX12_field_20 : decode cX12_field 20 = .ok (.invokevirtual 320, 3) := by decide +kernel
theorem dX12_field_23 : decode cX12_field 23 = .ok (.istore_n 1, 1) := by decide +kernel
theorem dX12_field_24 : decode cX12_field 24 = .ok (.iload_n 1, 1) := by decide +kernel
theorem dX12_field_25 : decode cX12_field 25 = .ok (.ifCond .eq 7, 3) := by decide +kernel
theorem dX12_field_28 : decode cX12_field 28 = .ok (.iload_n 1, 1) := by decide +kernel
theorem dX12_field_29 : decode cX12_field 29 = .ok (.goto 10, 3) := by decide +kernel
theorem dX12_field_32 : decode cX12_field 32 = .ok (.aload_n 0, 1) := by decide +kernel
theorem dX12_field_33 : decode cX12_field 33 = .ok (.iconst 1, 1) := by decide +kernel
theorem dX12_field_34 : decode cX12_field 34 = .ok (.bipush 99, 2) := by decide +kernel
theorem dX12_field_36 : decode cX12_field 36 = .ok (.invokevirtual 320, 3) := by decide +kernel
theorem dX12_field_39 : decode cX12_field 39 = .ok (.istore_n 1, 1) := by decide +kernel
theorem dX12_field_40 : decode cX12_field 40 = .ok (.iload_n 1, 1) := by decide +kernel
theorem dX12_field_41 : decode cX12_field 41 = .ok (.ifCond .eq 7, 3) := by decide +kernel
theorem dX12_field_44 : decode cX12_field 44 = .ok (.iload_n 1, 1) := by decide +kernel
theorem dX12_field_45 : decode cX12_field 45 = .ok (.goto 10, 3) := by decide +kernel
theorem dX12_field_48 : decode cX12_field 48 = .ok (.aload_n 0, 1) := by decide +kernel
theorem dX12_field_49 : decode cX12_field 49 = .ok (.iconst 1, 1) := by decide +kernel
theorem dX12_field_50 : decode cX12_field 50 = .ok (.bipush 99, 2) := by decide +kernel
theorem dX12_field_52 : decode cX12_field 52 = .ok (.invokevirtual 320, 3) := by decide +kernel
theorem dX12_field_55 : decode cX12_field 55 = .ok (.ireturn, 1) := by decide +kernel
theorem dX12_corner_0 : decode cX12_corner 0 = .ok (.aload_n 0, 1) := by decide +kernel
theorem dX12_corner_1 : decode cX12_corner 1 = .ok (.iconst 0, 1) := by decide +kernel
theorem dX12_corner_2 : decode cX12_corner 2 = .ok (.bipush 99, 2) := by decide +kernel
theorem dX12_corner_4 : decode cX12_corner 4 = .ok (.invokevirtual 320, 3) := by decide +kernel
theorem dX12_corner_7 : decode cX12_corner 7 = .ok (.istore_n 1, 1) := by decide +kernel
theorem dX12_corner_8 : decode cX12_corner 8 = .ok (.iload_n 1, 1) := by decide +kernel
theorem dX12_corner_9 : decode cX12_corner 9 = .ok (.ifCond .eq 7, 3) := by decide +kernel
theorem dX12_corner_12 : decode cX12_corner 12 = .ok (.iload_n 1, 1) := by decide +kernel
theorem dX12_corner_13 : decode cX12_corner 13 = .ok (.goto 10, 3) := by decide +kernel
theorem dX12_corner_16 : decode cX12_corner 16 = .ok (.aload_n 0, 1) := by decide +kernel
theorem dX12_corner_17 : decode cX12_corner 17 = .ok (.iconst 0, 1) := by decide +kernel
theorem dX12_corner_18 : decode cX12_corner 18 = .ok (.bipush 99, 2) := by decide +kernel
theorem dX12_corner_20 : decode cX12_corner 20 = .ok (.invokevirtual 320, 3) := by decide +kernel
theorem dX12_corner_23 : decode cX12_corner 23 = .ok (.ireturn, 1) := by decide +kernel
theorem dX12_pasted_0 : decode cX12_pasted 0 = .ok (.aload_n 0, 1) := by decide +kernel
theorem dX12_pasted_1 : decode cX12_pasted 1 = .ok (.iconst 0, 1) := by decide +kernel
theorem dX12_pasted_2 : decode cX12_pasted 2 = .ok (.iconst 4, 1) := by decide +kernel
theorem dX12_pasted_3 : decode cX12_pasted 3 = .ok (.invokevirtual 320, 3) := by decide +kernel
theorem dX12_pasted_6 : decode cX12_pasted 6 = .ok (.istore_n 1, 1) := by decide +kernel
theorem dX12_pasted_7 : decode cX12_pasted 7 = .ok (.iload_n 1, 1) := by decide +kernel
theorem dX12_pasted_8 : decode cX12_pasted 8 = .ok (.ifCond .eq 7, 3) := by decide +kernel
theorem dX12_pasted_11 : decode cX12_pasted 11 = .ok (.iload_n 1, 1) := by decide +kernel
theorem dX12_pasted_12 : decode cX12_pasted 12 = .ok (.goto 7, 3) := by decide +kernel
theorem dX12_pasted_15 : decode cX12_pasted 15 = .ok (.aload_n 0, 1) := by decide +kernel
theorem dX12_pasted_16 : decode cX12_pasted 16 = .ok (.invokevirtual 322, 3) := by decide +kernel
theorem dX12_pasted_19 : decode cX12_pasted 19 = .ok (.istore_n 1, 1) := by decide +kernel
theorem dX12_pasted_20 : decode cX12_pasted 20 = .ok (.iload_n 1, 1) := by decide +kernel
theorem dX12_pasted_21 : decode cX12_pasted 21 = .ok (.ifCond .eq 5, 3) := by decide +kernel
theorem dX12_pasted_24 : decode cX12_pasted 24 = .ok (.iload_n 1, 1) := by decide +kernel
theorem dX12_pasted_25 : decode cX12_pasted 25 = .ok (.ireturn, 1) := by decide +kernel
theorem dX12_pasted_26 : decode cX12_pasted 26 = .ok (.aload_n 0, 1) := by decide +kernel
theorem dX12_pasted_27 : decode cX12_pasted 27 = .ok (.ldc2_w 325, 3) := by decide +kernel
theorem dX12_pasted_30 : decode cX12_pasted 30 = .ok (.invokevirtual 306, 3) := by decide +kernel
theorem dX12_pasted_33 : decode cX12_pasted 33 = .ok (.ifCond .ne 5, 3) := by decide +kernel
theorem dX12_pasted_36 : decode cX12_pasted 36 = .ok (.iconst 1, 1) := by decide +kernel
theorem dX12_pasted_37 : decode cX12_pasted 37 = .ok (.ireturn, 1) := by decide +kernel
theorem dX12_pasted_38 : decode cX12_pasted 38 = .ok (.aload_n 0, 1) := by decide +kernel
theorem dX12_pasted_39 : decode cX12_pasted 39 = .ok (.invokevirtual 278, 3) := by decide +kernel
theorem dX12_pasted_42 : decode cX12_pasted 42 = .ok (.aload_n 0, 1) := by decide +kernel
theorem dX12_pasted_43 : decode cX12_pasted 43 = .ok (.invokevirtual 327, 3) := by decide +kernel
theorem dX12_pasted_46 : decode cX12_pasted 46 = .ok (.ireturn, 1) := by decide +kernel
theorem dX12_painted_0 : decode cX12_painted 0 = .ok (.aload_n 0, 1) := by decide +kernel
theorem dX12_painted_1 : decode cX12_painted 1 = .ok (.invokevirtual 322, 3) := by decide +kernel
theorem dX12_painted_4 : decode cX12_painted 4 = .ok (.istore_n 1, 1) := by decide +kernel
theorem dX12_painted_5 : decode cX12_painted 5 = .ok (.iload_n 1, 1) := by decide +kernel
theorem dX12_painted_6 : decode cX12_painted 6 = .ok (.ifCond .eq 5, 3) := by decide +kernel
theorem dX12_painted_9 : decode cX12_painted 9 = .ok (.iload_n 1, 1) := by decide +kernel
theorem dX12_painted_10 : decode cX12_painted 10 = .ok (.ireturn, 1) := by decide +kernel
theorem dX12_painted_11 : decode cX12_painted 11 = .ok (.aload_n 0, 1) := by decide +kernel
theorem dX12_painted_12 : decode cX12_painted 12 = .ok (.getfield 16, 3) := by decide +kernel
theorem dX12_painted_15 : decode cX12_painted 15 = .ok (.aload_n 0, 1) := by decide +kernel
theorem dX12_painted_16 : decode cX12_painted 16 = .ok (.getfield 317, 3) := by decide +kernel
theorem dX12_painted_19 : decode cX12_painted 19 = .ok (.bipush 8, 2) := by decide +kernel
theorem dX12_painted_21 : decode cX12_painted 21 = .ok (.iadd, 1) := by decide +kernel
theorem dX12_painted_22 : decode cX12_painted 22 = .ok (.aload_n 0, 1) := by decide +kernel
theorem dX12_painted_23 : decode cX12_painted 23 = .ok (.getfield 253, 3) := by decide +kernel
theorem dX12_painted_26 : decode cX12_painted 26 = .ok (.iastore, 1) := by decide +kernel
theorem dX12_painted_27 : decode cX12_painted 27 = .ok (.aload_n 0, 1) := by decide +kernel
theorem dX12_painted_28 : decode cX12_painted 28 = .ok (.invokevirtual 330, 3) := by decide +kernel
theorem dX12_painted_31 : decode cX12_painted 31 = .ok (.istore_n 1, 1) := by decide +kernel
theorem dX12_painted_32 : decode cX12_painted 32 = .ok (.aload_n 0, 1) := by decide +kernel
theorem dX12_painted_33 : decode cX12_painted 33 = .ok (.getfield 16, 3) := by decide +kernel
theorem dX12_painted_36 : decode cX12_painted 36 = .ok (.aload_n 0, 1) := by decide +kernel
theorem dX12_painted_37 : decode cX12_painted 37 = .ok (.getfield 317, 3) := by decide +kernel
theorem dX12_painted_40 : decode cX12_painted 40 = .ok (.bipush 9, 2) := by decide +kernel
theorem dX12_painted_42 : decode cX12_painted 42 = .ok (.iadd, 1) := by decide +kernel
theorem dX12_painted_43 : decode cX12_painted 43 = .ok (.aload_n 0, 1) := by decide +kernel
theorem dX12_painted_44 : decode cX12_painted 44 = .ok (.getfield 253, 3) := by decide +kernel
theorem dX12_painted_47 : decode cX12_painted 47 = .ok (.iastore, 1) := by decide +kernel
theorem dX12_painted_48 : decode cX12_painted 48 = .ok (.iload_n 1, 1) := by decide +kernel
theorem dX12_painted_49 : decode cX12_painted 49 = .ok (.ireturn, 1) := by decide +kernel
theorem dX12_kept_0 : decode cX12_kept 0 = .ok (.aload_n 0, 1) := by decide +kernel
theorem dX12_kept_1 : decode cX12_kept 1 = .ok (.iconst 2, 1) := by decide +kernel
theorem dX12_kept_2 : decode cX12_kept 2 = .ok (.bipush 50, 2) := by decide +kernel
theorem dX12_kept_4 : decode cX12_kept 4 = .ok (.invokevirtual 320, 3) := by decide +kernel
theorem dX12_kept_7 : decode cX12_kept 7 = .ok (.istore_n 1, 1) := by decide +kernel
theorem dX12_kept_8 : decode cX12_kept 8 = .ok (.iload_n 1, 1) := by decide +kernel
theorem dX12_kept_9 : decode cX12_kept 9 = .ok (.ifCond .eq 7, 3) := by decide +kernel
theorem dX12_kept_12 : decode cX12_kept 12 = .ok (.iload_n 1, 1) := by decide +kernel
theorem dX12_kept_13 : decode cX12_kept 13 = .ok (.goto 7, 3) := by decide +kernel
theorem dX12_kept_16 : decode cX12_kept 16 = .ok (.aload_n 0, 1) := by decide +kernel
theorem dX12_kept_17 : decode cX12_kept 17 = .ok (.invokevirtual 327, 3) := by decide +kernel
theorem dX12_kept_20 : decode cX12_kept 20 = .ok (.ireturn, 1) := by decide +kernel
theorem dX12_oneAct_0 : decode cX12_oneAct 0 = .ok (.aload_n 0, 1) := by decide +kernel
theorem dX12_oneAct_1 : decode cX12_oneAct 1 = .ok (.invokevirtual 333, 3) := by decide +kernel
theorem dX12_oneAct_4 : decode cX12_oneAct 4 = .ok (.istore_n 1, 1) := by decide +kernel
theorem dX12_oneAct_5 : decode cX12_oneAct 5 = .ok (.iload_n 1, 1) := by decide +kernel
theorem dX12_oneAct_6 : decode cX12_oneAct 6 = .ok (.ifCond .ge 5, 3) := by decide +kernel
theorem dX12_oneAct_9 : decode cX12_oneAct 9 = .ok (.iconst 1, 1) := by decide +kernel
theorem dX12_oneAct_10 : decode cX12_oneAct 10 = .ok (.ireturn, 1) := by decide +kernel
theorem dX12_oneAct_11 : decode cX12_oneAct 11 = .ok (.aload_n 0, 1) := by decide +kernel
theorem dX12_oneAct_12 : decode cX12_oneAct 12 = .ok (.getfield 16, 3) := by decide +kernel
theorem dX12_oneAct_15 : decode cX12_oneAct 15 = .ok (.aload_n 0, 1) := by decide +kernel
theorem dX12_oneAct_16 : decode cX12_oneAct 16 = .ok (.getfield 250, 3) := by decide +kernel
theorem dX12_oneAct_19 : decode cX12_oneAct 19 = .ok (.iaload, 1) := by decide +kernel
theorem dX12_oneAct_20 : decode cX12_oneAct 20 = .ok (.istore_n 2, 1) := by decide +kernel
theorem dX12_oneAct_21 : decode cX12_oneAct 21 = .ok (.iload_n 2, 1) := by decide +kernel
theorem dX12_oneAct_22 : decode cX12_oneAct 22 = .ok (.bipush 16, 2) := by decide +kernel
theorem dX12_oneAct_24 : decode cX12_oneAct 24 = .ok (.if_icmp .ne 5, 3) := by decide +kernel
theorem dX12_oneAct_27 : decode cX12_oneAct 27 = .ok (.iconst 4, 1) := by decide +kernel
theorem dX12_oneAct_28 : decode cX12_oneAct 28 = .ok (.ireturn, 1) := by decide +kernel
theorem dX12_oneAct_29 : decode cX12_oneAct 29 = .ok (.aload_n 0, 1) := by decide +kernel
theorem dX12_oneAct_30 : decode cX12_oneAct 30 = .ok (.aload_n 0, 1) := by decide +kernel
theorem dX12_oneAct_31 : decode cX12_oneAct 31 = .ok (.getfield 250, 3) := by decide +kernel
theorem dX12_oneAct_34 : decode cX12_oneAct 34 = .ok (.iconst 1, 1) := by decide +kernel
theorem dX12_oneAct_35 : decode cX12_oneAct 35 = .ok (.iadd, 1) := by decide +kernel
theorem dX12_oneAct_36 : decode cX12_oneAct 36 = .ok (.bipush 12, 2) := by decide +kernel
theorem dX12_oneAct_38 : decode cX12_oneAct 38 = .ok (.iload_n 2, 1) := by decide +kernel
theorem dX12_oneAct_39 : decode cX12_oneAct 39 = .ok (.imul, 1) := by decide +kernel
theorem dX12_oneAct_40 : decode cX12_oneAct 40 = .ok (.iadd, 1) := by decide +kernel
theorem dX12_oneAct_41 : decode cX12_oneAct 41 = .ok (.putfield 317, 3) := by decide +kernel
theorem dX12_oneAct_44 : decode cX12_oneAct 44 = .ok (.aload_n 0, 1) := by decide +kernel
theorem dX12_oneAct_45 : decode cX12_oneAct 45 = .ok (.getfield 16, 3) := by decide +kernel
theorem dX12_oneAct_48 : decode cX12_oneAct 48 = .ok (.aload_n 0, 1) := by decide +kernel
theorem dX12_oneAct_49 : decode cX12_oneAct 49 = .ok (.getfield 317, 3) := by decide +kernel
theorem dX12_oneAct_52 : decode cX12_oneAct 52 = .ok (.iload_n 1, 1) := by decide +kernel
theorem dX12_oneAct_53 : decode cX12_oneAct 53 = .ok (.iastore, 1) := by decide +kernel
theorem dX12_oneAct_54 : decode cX12_oneAct 54 = .ok (.aload_n 0, 1) := by decide +kernel
theorem dX12_oneAct_55 : decode cX12_oneAct 55 = .ok (.getfield 16, 3) := by decide +kernel
theorem dX12_oneAct_58 : decode cX12_oneAct 58 = .ok (.aload_n 0, 1) := by decide +kernel
theorem dX12_oneAct_59 : decode cX12_oneAct 59 = .ok (.getfield 250, 3) := by decide +kernel
theorem dX12_oneAct_62 : decode cX12_oneAct 62 = .ok (.dup2, 1) := by decide +kernel
theorem dX12_oneAct_63 : decode cX12_oneAct 63 = .ok (.iaload, 1) := by decide +kernel
theorem dX12_oneAct_64 : decode cX12_oneAct 64 = .ok (.iconst 1, 1) := by decide +kernel
theorem dX12_oneAct_65 : decode cX12_oneAct 65 = .ok (.iadd, 1) := by decide +kernel
theorem dX12_oneAct_66 : decode cX12_oneAct 66 = .ok (.iastore, 1) := by decide +kernel
theorem dX12_oneAct_67 : decode cX12_oneAct 67 = .ok (.aload_n 0, 1) := by decide +kernel
theorem dX12_oneAct_68 : decode cX12_oneAct 68 = .ok (.iconst 0, 1) := by decide +kernel
theorem dX12_oneAct_69 : decode cX12_oneAct 69 = .ok (.putfield 314, 3) := by decide +kernel
theorem dX12_oneAct_72 : decode cX12_oneAct 72 = .ok (.aload_n 0, 1) := by decide +kernel
theorem dX12_oneAct_73 : decode cX12_oneAct 73 = .ok (.invokevirtual 278, 3) := by decide +kernel
theorem dX12_oneAct_76 : decode cX12_oneAct 76 = .ok (.iload_n 1, 1) := by decide +kernel
theorem dX12_oneAct_77 : decode cX12_oneAct 77 = .ok (.iconst 4, 1) := by decide +kernel
theorem dX12_oneAct_78 : decode cX12_oneAct 78 = .ok (.if_icmp .ne 78, 3) := by decide +kernel
theorem dX12_oneAct_81 : decode cX12_oneAct 81 = .ok (.aload_n 0, 1) := by decide +kernel
theorem dX12_oneAct_82 : decode cX12_oneAct 82 = .ok (.iconst 1, 1) := by decide +kernel
theorem dX12_oneAct_83 : decode cX12_oneAct 83 = .ok (.bipush 9, 2) := by decide +kernel
theorem dX12_oneAct_85 : decode cX12_oneAct 85 = .ok (.invokevirtual 320, 3) := by decide +kernel
theorem dX12_oneAct_88 : decode cX12_oneAct 88 = .ok (.istore_n 3, 1) := by decide +kernel
theorem dX12_oneAct_89 : decode cX12_oneAct 89 = .ok (.iload_n 3, 1) := by decide +kernel
theorem dX12_oneAct_90 : decode cX12_oneAct 90 = .ok (.ifCond .eq 5, 3) := by decide +kernel
theorem dX12_oneAct_93 : decode cX12_oneAct 93 = .ok (.iload_n 3, 1) := by decide +kernel
theorem dX12_oneAct_94 : decode cX12_oneAct 94 = .ok (.ireturn, 1) := by decide +kernel
theorem dX12_oneAct_95 : decode cX12_oneAct 95 = .ok (.aload_n 0, 1) := by decide +kernel
theorem dX12_oneAct_96 : decode cX12_oneAct 96 = .ok (.getfield 225, 3) := by decide +kernel
theorem dX12_oneAct_99 : decode cX12_oneAct 99 = .ok (.bipush 123, 2) := by decide +kernel
theorem dX12_oneAct_101 : decode cX12_oneAct 101 = .ok (.if_icmp .eq 5, 3) := by decide +kernel
theorem dX12_oneAct_104 : decode cX12_oneAct 104 = .ok (.iconst 1, 1) := by decide +kernel
theorem dX12_oneAct_105 : decode cX12_oneAct 105 = .ok (.ireturn, 1) := by decide +kernel
theorem dX12_oneAct_106 : decode cX12_oneAct 106 = .ok (.aload_n 0, 1) := by decide +kernel
theorem dX12_oneAct_107 : decode cX12_oneAct 107 = .ok (.getfield 262, 3) := by decide +kernel
theorem dX12_oneAct_110 : decode cX12_oneAct 110 = .ok (.bipush 8, 2) := by decide +kernel
theorem dX12_oneAct_112 : decode cX12_oneAct 112 = .ok (.if_icmp .ne 5, 3) := by decide +kernel
theorem dX12_oneAct_115 : decode cX12_oneAct 115 = .ok (.iconst 3, 1) := by decide +kernel
theorem dX12_oneAct_116 : decode cX12_oneAct 116 = .ok (.ireturn, 1) := by decide +kernel
theorem dX12_oneAct_117 : decode cX12_oneAct 117 = .ok (.aload_n 0, 1) := by decide +kernel
theorem dX12_oneAct_118 : decode cX12_oneAct 118 = .ok (.dup, 1) := by decide +kernel
theorem dX12_oneAct_119 : decode cX12_oneAct 119 = .ok (.getfield 262, 3) := by decide +kernel
theorem dX12_oneAct_122 : decode cX12_oneAct 122 = .ok (.iconst 1, 1) := by decide +kernel
theorem dX12_oneAct_123 : decode cX12_oneAct 123 = .ok (.iadd, 1) := by decide +kernel
theorem dX12_oneAct_124 : decode cX12_oneAct 124 = .ok (.putfield 262, 3) := by decide +kernel
theorem dX12_oneAct_127 : decode cX12_oneAct 127 = .ok (.aload_n 0, 1) := by decide +kernel
theorem dX12_oneAct_128 : decode cX12_oneAct 128 = .ok (.getfield 41, 3) := by decide +kernel
theorem dX12_oneAct_131 : decode cX12_oneAct 131 = .ok (.aload_n 0, 1) := by decide +kernel
theorem dX12_oneAct_132 : decode cX12_oneAct 132 = .ok (.getfield 336, 3) := by decide +kernel
theorem dX12_oneAct_135 : decode cX12_oneAct 135 = .ok (.aload_n 0, 1) := by decide +kernel
theorem dX12_oneAct_136 : decode cX12_oneAct 136 = .ok (.getfield 317, 3) := by decide +kernel
theorem dX12_oneAct_139 : decode cX12_oneAct 139 = .ok (.iastore, 1) := by decide +kernel
theorem dX12_oneAct_140 : decode cX12_oneAct 140 = .ok (.aload_n 0, 1) := by decide +kernel
theorem dX12_oneAct_141 : decode cX12_oneAct 141 = .ok (.dup, 1) := by decide +kernel
theorem dX12_oneAct_142 : decode cX12_oneAct 142 = .ok (.getfield 336, 3) := by decide +kernel
theorem dX12_oneAct_145 : decode cX12_oneAct 145 = .ok (.iconst 1, 1) := by decide +kernel
theorem dX12_oneAct_146 : decode cX12_oneAct 146 = .ok (.iadd, 1) := by decide +kernel
theorem dX12_oneAct_147 : decode cX12_oneAct 147 = .ok (.putfield 336, 3) := by decide +kernel
theorem dX12_oneAct_150 : decode cX12_oneAct 150 = .ok (.aload_n 0, 1) := by decide +kernel
theorem dX12_oneAct_151 : decode cX12_oneAct 151 = .ok (.invokevirtual 278, 3) := by decide +kernel
theorem dX12_oneAct_154 : decode cX12_oneAct 154 = .ok (.iconst 0, 1) := by decide +kernel
theorem dX12_oneAct_155 : decode cX12_oneAct 155 = .ok (.ireturn, 1) := by decide +kernel
theorem dX12_oneAct_156 : decode cX12_oneAct 156 = .ok (.iload_n 1, 1) := by decide +kernel
theorem dX12_oneAct_157 : decode cX12_oneAct 157 = .ok (.ifCond .ne 10, 3) := by decide +kernel
theorem dX12_oneAct_160 : decode cX12_oneAct 160 = .ok (.aload_n 0, 1) := by decide +kernel
theorem dX12_oneAct_161 : decode cX12_oneAct 161 = .ok (.invokevirtual 339, 3) := by decide +kernel
theorem dX12_oneAct_164 : decode cX12_oneAct 164 = .ok (.goto 31, 3) := by decide +kernel
theorem dX12_oneAct_167 : decode cX12_oneAct 167 = .ok (.iload_n 1, 1) := by decide +kernel
theorem dX12_oneAct_168 : decode cX12_oneAct 168 = .ok (.iconst 1, 1) := by decide +kernel
theorem dX12_oneAct_169 : decode cX12_oneAct 169 = .ok (.if_icmp .ne 10, 3) := by decide +kernel
theorem dX12_oneAct_172 : decode cX12_oneAct 172 = .ok (.aload_n 0, 1) := by decide +kernel
theorem dX12_oneAct_173 : decode cX12_oneAct 173 = .ok (.invokevirtual 342, 3) := by decide +kernel
theorem dX12_oneAct_176 : decode cX12_oneAct 176 = .ok (.goto 19, 3) := by decide +kernel
theorem dX12_oneAct_179 : decode cX12_oneAct 179 = .ok (.iload_n 1, 1) := by decide +kernel
theorem dX12_oneAct_180 : decode cX12_oneAct 180 = .ok (.iconst 2, 1) := by decide +kernel
theorem dX12_oneAct_181 : decode cX12_oneAct 181 = .ok (.if_icmp .ne 10, 3) := by decide +kernel
theorem dX12_oneAct_184 : decode cX12_oneAct 184 = .ok (.aload_n 0, 1) := by decide +kernel
theorem dX12_oneAct_185 : decode cX12_oneAct 185 = .ok (.invokevirtual 345, 3) := by decide +kernel
theorem dX12_oneAct_188 : decode cX12_oneAct 188 = .ok (.goto 7, 3) := by decide +kernel
theorem dX12_oneAct_191 : decode cX12_oneAct 191 = .ok (.aload_n 0, 1) := by decide +kernel
theorem dX12_oneAct_192 : decode cX12_oneAct 192 = .ok (.invokevirtual 322, 3) := by decide +kernel
theorem dX12_oneAct_195 : decode cX12_oneAct 195 = .ok (.istore_n 3, 1) := by decide +kernel
theorem dX12_oneAct_196 : decode cX12_oneAct 196 = .ok (.iload_n 3, 1) := by decide +kernel
theorem dX12_oneAct_197 : decode cX12_oneAct 197 = .ok (.ifCond .eq 5, 3) := by decide +kernel
theorem dX12_oneAct_200 : decode cX12_oneAct 200 = .ok (.iload_n 3, 1) := by decide +kernel
theorem dX12_oneAct_201 : decode cX12_oneAct 201 = .ok (.ireturn, 1) := by decide +kernel
theorem dX12_oneAct_202 : decode cX12_oneAct 202 = .ok (.aload_n 0, 1) := by decide +kernel
theorem dX12_oneAct_203 : decode cX12_oneAct 203 = .ok (.getfield 225, 3) := by decide +kernel
theorem dX12_oneAct_206 : decode cX12_oneAct 206 = .ok (.bipush 59, 2) := by decide +kernel
theorem dX12_oneAct_208 : decode cX12_oneAct 208 = .ok (.if_icmp .eq 5, 3) := by decide +kernel
theorem dX12_oneAct_211 : decode cX12_oneAct 211 = .ok (.iconst 1, 1) := by decide +kernel
theorem dX12_oneAct_212 : decode cX12_oneAct 212 = .ok (.ireturn, 1) := by decide +kernel
theorem dX12_oneAct_213 : decode cX12_oneAct 213 = .ok (.aload_n 0, 1) := by decide +kernel
theorem dX12_oneAct_214 : decode cX12_oneAct 214 = .ok (.invokevirtual 278, 3) := by decide +kernel
theorem dX12_oneAct_217 : decode cX12_oneAct 217 = .ok (.iconst 0, 1) := by decide +kernel
theorem dX12_oneAct_218 : decode cX12_oneAct 218 = .ok (.ireturn, 1) := by decide +kernel
