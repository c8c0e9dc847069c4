theorem dX12_init_0 : decode cX12_init 0 = .ok (.aload_n 0, 1) := by decide +kernel
theorem dX12_init_1 : decode cX12_init 1 = .ok (.invokespecial 1, 3) := by decide +kernel
theorem dX12_init_4 : decode cX12_init 4 = .ok (.aload_n 0, 1) := by decide +kernel
theorem dX12_init_5 : decode cX12_init 5 = .ok (.sipush 920, 3) := by decide +kernel
theorem dX12_init_8 : decode cX12_init 8 = .ok (.newarray .int, 2) := by decide +kernel
theorem dX12_init_10 : decode cX12_init 10 = .ok (.putfield 7, 3) := by decide +kernel
theorem dX12_init_13 : decode cX12_init 13 = .ok (.aload_n 0, 1) := by decide +kernel
theorem dX12_init_14 : decode cX12_init 14 = .ok (.sipush 920, 3) := by decide +kernel
theorem dX12_init_17 : decode cX12_init 17 = .ok (.newarray .int, 2) := by decide +kernel
theorem dX12_init_19 : decode cX12_init 19 = .ok (.putfield 13, 3) := by decide +kernel
theorem dX12_init_22 : decode cX12_init 22 = .ok (.aload_n 0, 1) := by decide +kernel
theorem dX12_init_23 : decode cX12_init 23 = .ok (.sipush 6000, 3) := by decide +kernel
theorem dX12_init_26 : decode cX12_init 26 = .ok (.newarray .int, 2) := by decide +kernel
theorem dX12_init_28 : decode cX12_init 28 = .ok (.putfield 16, 3) := by decide +kernel
theorem dX12_init_31 : decode cX12_init 31 = .ok (.aload_n 0, 1) := by decide +kernel
theorem dX12_init_32 : decode cX12_init 32 = .ok (.sipush 726, 3) := by decide +kernel
theorem dX12_init_35 : decode cX12_init 35 = .ok (.newarray .int, 2) := by decide +kernel
theorem dX12_init_37 : decode cX12_init 37 = .ok (.putfield 19, 3) := by decide +kernel
theorem dX12_init_40 : decode cX12_init 40 = .ok (.aload_n 0, 1) := by decide +kernel
theorem dX12_init_41 : decode cX12_init 41 = .ok (.iconst 3, 1) := by decide +kernel
theorem dX12_init_42 : decode cX12_init 42 = .ok (.newarray .int, 2) := by decide +kernel
theorem dX12_init_44 : decode cX12_init 44 = .ok (.putfield 22, 3) := by decide +kernel
theorem dX12_init_47 : decode cX12_init 47 = .ok (.aload_n 0, 1) := by decide +kernel
theorem dX12_init_48 : decode cX12_init 48 = .ok (.iconst 4, 1) := by decide +kernel
theorem dX12_init_49 : decode cX12_init 49 = .ok (.newarray .int, 2) := by decide +kernel
theorem dX12_init_51 : decode cX12_init 51 = .ok (.putfield 25, 3) := by decide +kernel
theorem dX12_init_54 : decode cX12_init 54 = .ok (.aload_n 0, 1) := by decide +kernel
theorem dX12_init_55 : decode cX12_init 55 = .ok (.sipush 300, 3) := by decide +kernel
theorem dX12_init_58 : decode cX12_init 58 = .ok (.newarray .int, 2) := by decide +kernel
theorem dX12_init_60 : decode cX12_init 60 = .ok (.putfield 28, 3) := by decide +kernel
theorem dX12_init_63 : decode cX12_init 63 = .ok (.aload_n 0, 1) := by decide +kernel
theorem dX12_init_64 : decode cX12_init 64 = .ok (.iconst (-1), 1) := by decide +kernel
theorem dX12_init_65 : decode cX12_init 65 = .ok (.putfield 31, 3) := by decide +kernel
theorem dX12_init_68 : decode cX12_init 68 = .ok (.aload_n 0, 1) := by decide +kernel
theorem dX12_init_69 : decode cX12_init 69 = .ok (.iconst (-1), 1) := by decide +kernel
theorem dX12_init_70 : decode cX12_init 70 = .ok (.putfield 35, 3) := by decide +kernel
theorem dX12_init_73 : decode cX12_init 73 = .ok (.aload_n 0, 1) := by decide +kernel
theorem dX12_init_74 : decode cX12_init 74 = .ok (.sipush 160, 3) := by decide +kernel
theorem dX12_init_77 : decode cX12_init 77 = .ok (.newarray .int, 2) := by decide +kernel
theorem dX12_init_79 : decode cX12_init 79 = .ok (.putfield 38, 3) := by decide +kernel
theorem dX12_init_82 : decode cX12_init 82 = .ok (.aload_n 0, 1) := by decide +kernel
theorem dX12_init_83 : decode cX12_init 83 = .ok (.bipush 16, 2) := by decide +kernel
theorem dX12_init_85 : decode cX12_init 85 = .ok (.newarray .int, 2) := by decide +kernel
theorem dX12_init_87 : decode cX12_init 87 = .ok (.putfield 41, 3) := by decide +kernel
theorem dX12_init_90 : decode cX12_init 90 = .ok (.aload_n 0, 1) := by decide +kernel
theorem dX12_init_91 : decode cX12_init 91 = .ok (.bipush 6, 2) := by decide +kernel
theorem dX12_init_93 : decode cX12_init 93 = .ok (.newarray .int, 2) := by decide +kernel
theorem dX12_init_95 : decode cX12_init 95 = .ok (.putfield 44, 3) := by decide +kernel
theorem dX12_init_98 : decode cX12_init 98 = .ok (.aload_n 0, 1) := by decide +kernel
theorem dX12_init_99 : decode cX12_init 99 = .ok (.sipush 330, 3) := by decide +kernel
theorem dX12_init_102 : decode cX12_init 102 = .ok (.newarray .long, 2) := by decide +kernel
theorem dX12_init_104 : decode cX12_init 104 = .ok (.putfield 47, 3) := by decide +kernel
theorem dX12_init_107 : decode cX12_init 107 = .ok (.aload_n 0, 1) := by decide +kernel
theorem dX12_init_108 : decode cX12_init 108 = .ok (.sipush 144, 3) := by decide +kernel
theorem dX12_init_111 : decode cX12_init 111 = .ok (.newarray .int, 2) := by decide +kernel
theorem dX12_init_113 : decode cX12_init 113 = .ok (.putfield 51, 3) := by decide +kernel
theorem dX12_init_116 : decode cX12_init 116 = .ok (.aload_n 0, 1) := by decide +kernel
theorem dX12_init_117 : decode cX12_init 117 = .ok (.bipush 16, 2) := by decide +kernel
theorem dX12_init_119 : decode cX12_init 119 = .ok (.newarray .int, 2) := by decide +kernel
theorem dX12_init_121 : decode cX12_init 121 = .ok (.putfield 54, 3) := by decide +kernel
theorem dX12_init_124 : decode cX12_init 124 = .ok (.aload_n 0, 1) := by decide +kernel
theorem dX12_init_125 : decode cX12_init 125 = .ok (.bipush 16, 2) := by decide +kernel
theorem dX12_init_127 : decode cX12_init 127 = .ok (.newarray .int, 2) := by decide +kernel
theorem dX12_init_129 : decode cX12_init 129 = .ok (.putfield 57, 3) := by decide +kernel
theorem dX12_init_132 : decode cX12_init 132 = .ok (.aload_n 0, 1) := by decide +kernel
theorem dX12_init_133 : decode cX12_init 133 = .ok (.sipush 144, 3) := by decide +kernel
theorem dX12_init_136 : decode cX12_init 136 = .ok (.newarray .int, 2) := by decide +kernel
theorem dX12_init_138 : decode cX12_init 138 = .ok (.putfield 60, 3) := by decide +kernel
theorem dX12_init_141 : decode cX12_init 141 = .ok (.aload_n 0, 1) := by decide +kernel
theorem dX12_init_142 : decode cX12_init 142 = .ok (.sipush 144, 3) := by decide +kernel
theorem dX12_init_145 : decode cX12_init 145 = .ok (.newarray .int, 2) := by decide +kernel
theorem dX12_init_147 : decode cX12_init 147 = .ok (.putfield 63, 3) := by decide +kernel
theorem dX12_init_150 : decode cX12_init 150 = .ok (.aload_n 0, 1) := by decide +kernel
theorem dX12_init_151 : decode cX12_init 151 = .ok (.iconst 3, 1) := by decide +kernel
theorem dX12_init_152 : decode cX12_init 152 = .ok (.newarray .int, 2) := by decide +kernel
theorem dX12_init_154 : decode cX12_init 154 = .ok (.putfield 66, 3) := by decide +kernel
theorem dX12_init_157 : decode cX12_init 157 = .ok (.aload_n 0, 1) := by decide +kernel
theorem dX12_init_158 : decode cX12_init 158 = .ok (.iload_n 1, 1) := by decide +kernel
theorem dX12_init_159 : decode cX12_init 159 = .ok (.iconst 4, 1) := by decide +kernel
theorem dX12_init_160 : decode cX12_init 160 = .ok (.if_icmp .ge 7, 3) := by decide +kernel
theorem dX12_init_163 : decode cX12_init 163 = .ok (.iconst 4, 1) := by decide +kernel
theorem dX12_init_164 : decode cX12_init 164 = .ok (.goto 15, 3) := by decide +kernel
theorem dX12_init_167 : decode cX12_init 167 = .ok (.iload_n 1, 1) := by decide +kernel
theorem dX12_init_168 : decode cX12_init 168 = .ok (.bipush 12, 2) := by decide +kernel
theorem dX12_init_170 : decode cX12_init 170 = .ok (.if_icmp .le 8, 3) := by decide +kernel
theorem dX12_init_173 : decode cX12_init 173 = .ok (.bipush 12, 2) := by decide +kernel
theorem dX12_init_175 : decode cX12_init 175 = .ok (.goto 4, 3) := by decide +kernel
theorem dX12_init_178 : decode cX12_init 178 = .ok (.iload_n 1, 1) := by decide +kernel
theorem dX12_init_179 : decode cX12_init 179 = .ok (.putfield 69, 3) := by decide +kernel
theorem dX12_init_182 : decode cX12_init 182 = .ok (.aload_n 0, 1) := by decide +kernel
theorem dX12_init_183 : decode cX12_init 183 = .ok (.iload_n 2, 1) := by decide +kernel
theorem dX12_init_184 : decode cX12_init 184 = .ok (.iconst 4, 1) := by decide +kernel
theorem dX12_init_185 : decode cX12_init 185 = .ok (.if_icmp .ge 7, 3) := by decide +kernel
theorem dX12_init_188 : decode cX12_init 188 = .ok (.iconst 4, 1) := by decide +kernel
theorem dX12_init_189 : decode cX12_init 189 = .ok (.goto 15, 3) := by decide +kernel
theorem dX12_init_192 : decode cX12_init 192 = .ok (.iload_n 2, 1) := by decide +kernel
theorem dX12_init_193 : decode cX12_init 193 = .ok (.bipush 12, 2) := by decide +kernel
theorem dX12_init_195 : decode cX12_init 195 = .ok (.if_icmp .le 8, 3) := by decide +kernel
theorem dX12_init_198 : decode cX12_init 198 = .ok (.bipush 12, 2) := by decide +kernel
theorem dX12_init_200 : decode cX12_init 200 = .ok (.goto 4, 3) := by decide +kernel
theorem dX12_init_203 : decode cX12_init 203 = .ok (.iload_n 2, 1) := by decide +kernel
theorem dX12_init_204 : decode cX12_init 204 = .ok (.putfield 72, 3) := by decide +kernel
theorem dX12_init_207 : decode cX12_init 207 = .ok (.aload_n 0, 1) := by decide +kernel
theorem dX12_init_208 : decode cX12_init 208 = .ok (.getfield 7, 3) := by decide +kernel
theorem dX12_init_211 : decode cX12_init 211 = .ok (.iconst 4, 1) := by decide +kernel
theorem dX12_init_212 : decode cX12_init 212 = .ok (.bipush 90, 2) := by decide +kernel
theorem dX12_init_214 : decode cX12_init 214 = .ok (.iastore, 1) := by decide +kernel
theorem dX12_init_215 : decode cX12_init 215 = .ok (.iconst 0, 1) := by decide +kernel
theorem dX12_init_216 : decode cX12_init 216 = .ok (.istore_n 3, 1) := by decide +kernel
theorem dX12_init_217 : decode cX12_init 217 = .ok (.iload_n 3, 1) := by decide +kernel
theorem dX12_init_218 : decode cX12_init 218 = .ok (.bipush 24, 2) := by decide +kernel
theorem dX12_init_220 : decode cX12_init 220 = .ok (.if_icmp .ge 21, 3) := by decide +kernel
theorem dX12_init_223 : decode cX12_init 223 = .ok (.aload_n 0, 1) := by decide +kernel
theorem dX12_init_224 : decode cX12_init 224 = .ok (.getfield 7, 3) := by decide +kernel
theorem dX12_init_227 : decode cX12_init 227 = .ok (.sipush 890, 3) := by decide +kernel
theorem dX12_init_230 : decode cX12_init 230 = .ok (.iload_n 3, 1) := by decide +kernel
theorem dX12_init_231 : decode cX12_init 231 = .ok (.iadd, 1) := by decide +kernel
theorem dX12_init_232 : decode cX12_init 232 = .ok (.bipush 50, 2) := by decide +kernel
theorem dX12_init_234 : decode cX12_init 234 = .ok (.iastore, 1) := by decide +kernel
theorem dX12_init_235 : decode cX12_init 235 = .ok (.iinc 3 1, 3) := by decide +kernel
theorem dX12_init_238 : decode cX12_init 238 = .ok (.goto (-21), 3) := by decide +kernel
theorem dX12_init_241 : decode cX12_init 241 = .ok (.aload_n 0, 1) := by decide +kernel
theorem dX12_init_242 : decode cX12_init 242 = .ok (.getfield 7, 3) := by decide +kernel
theorem dX12_init_245 : decode cX12_init 245 = .ok (.aload_n 0, 1) := by decide +kernel
theorem dX12_init_246 : decode cX12_init 246 = .ok (.getfield 13, 3) := by decide +kernel
theorem dX12_init_249 : decode cX12_init 249 = .ok (.invokestatic 75, 3) := by decide +kernel
theorem dX12_init_252 : decode cX12_init 252 = .ok (.return_, 1) := by decide +kernel
theorem dX12_copyRow_0 : decode cX12_copyRow 0 = .ok (.iconst 0, 1) := by decide +kernel
theorem dX12_copyRow_1 : decode cX12_copyRow 1 = .ok (.istore_n 2, 1) := by decide +kernel
theorem dX12_copyRow_2 : decode cX12_copyRow 2 = .ok (.iload_n 2, 1) := by decide +kernel
theorem dX12_copyRow_3 : decode cX12_copyRow 3 = .ok (.sipush 920, 3) := by decide +kernel
theorem dX12_copyRow_6 : decode cX12_copyRow 6 = .ok (.if_icmp .ge 15, 3) := by decide +kernel
theorem dX12_copyRow_9 : decode cX12_copyRow 9 = .ok (.aload_n 1, 1) := by decide +kernel
theorem dX12_copyRow_10 : decode cX12_copyRow 10 = .ok (.iload_n 2, 1) := by decide +kernel
theorem dX12_copyRow_11 : decode cX12_copyRow 11 = .ok (.aload_n 0, 1) := by decide +kernel
theorem dX12_copyRow_12 : decode cX12_copyRow 12 = .ok (.iload_n 2, 1) := by decide +kernel
theorem dX12_copyRow_13 : decode cX12_copyRow 13 = .ok (.iaload, 1) := by decide +kernel
theorem dX12_copyRow_14 : decode cX12_copyRow 14 = .ok (.iastore, 1) := by decide +kernel
theorem dX12_copyRow_15 : decode cX12_copyRow 15 = .ok (.iinc 2 1, 3) := by decide +kernel
theorem dX12_copyRow_18 : decode cX12_copyRow 18 = .ok (.goto (-16), 3) := by decide +kernel
theorem dX12_copyRow_21 : decode cX12_copyRow 21 = .ok (.return_, 1) := by decide +kernel
theorem dX12_isIn_0 : decode cX12_isIn 0 = .ok (.iload_n 0, 1) := by decide +kernel
theorem dX12_isIn_1 : decode cX12_isIn 1 = .ok (.iload_n 1, 1) := by decide +kernel
theorem dX12_isIn_2 : decode cX12_isIn 2 = .ok (.if_icmp .lt 12, 3) := by decide +kernel
theorem dX12_isIn_5 : decode cX12_isIn 5 = .ok (.iload_n 0, 1) := by decide +kernel
theorem dX12_isIn_6 : decode cX12_isIn 6 = .ok (.iload_n 2, 1) := by decide +kernel
theorem dX12_isIn_7 : decode cX12_isIn 7 = .ok (.if_icmp .gt 7, 3) := by decide +kernel
theorem dX12_isIn_10 : decode cX12_isIn 10 = .ok (.iconst 1, 1) := by decide +kernel
theorem dX12_isIn_11 : decode cX12_isIn 11 = .ok (.goto 4, 3) := by decide +kernel
theorem dX12_isIn_14 : decode cX12_isIn 14 = .ok (.iconst 0, 1) := by decide +kernel
theorem dX12_isIn_15 : decode cX12_isIn 15 = .ok (.ireturn, 1) := by decide +kernel
theorem dX12_abs_0 : decode cX12_abs 0 = .ok (.iload_n 0, 1) := by decide +kernel
theorem dX12_abs_1 : decode cX12_abs 1 = .ok (.ifCond .ge 8, 3) := by decide +kernel
theorem dX12_abs_4 : decode cX12_abs 4 = .ok (.iload_n 0, 1) := by decide +kernel
theorem dX12_abs_5 : decode cX12_abs 5 = .ok (.ineg, 1) := by decide +kernel
theorem dX12_abs_6 : decode cX12_abs 6 = .ok (.goto 4, 3) := by decide +kernel
theorem dX12_abs_9 : decode cX12_abs 9 = .ok (.iload_n 0, 1) := by decide +kernel
theorem dX12_abs_10 : decode cX12_abs 10 = .ok (.ireturn, 1) := by decide +kernel
theorem dX12_isPicture_0 : decode cX12_isPicture 0 = .ok (.iload_n 0, 1) := by decide +kernel
theorem dX12_isPicture_1 : decode cX12_isPicture 1 = .ok (.iconst 0, 1) := by decide +kernel
theorem dX12_isPicture_2 : decode cX12_isPicture 2 = .ok (.iconst 4, 1) := by decide +kernel
theorem dX12_isPicture_3 : decode cX12_isPicture 3 = .ok (.invokestatic 79, 3) := by decide +kernel
theorem dX12_isPicture_6 : decode cX12_isPicture 6 = .ok (.ireturn, 1) := by decide +kernel
theorem dX12_isCell_0 : decode cX12_isCell 0 = .ok (.iload_n 1, 1) := by decide +kernel
theorem dX12_isCell_1 : decode cX12_isCell 1 = .ok (.iconst 0, 1) := by decide +kernel
theorem dX12_isCell_2 : decode cX12_isCell 2 = .ok (.aload_n 0, 1) := by decide +kernel
theorem dX12_isCell_3 : decode cX12_isCell 3 = .ok (.getfield 69, 3) := by decide +kernel
theorem dX12_isCell_6 : decode cX12_isCell 6 = .ok (.iconst 1, 1) := by decide +kernel
theorem dX12_isCell_7 : decode cX12_isCell 7 = .ok (.isub, 1) := by decide +kernel
theorem dX12_isCell_8 : decode cX12_isCell 8 = .ok (.invokestatic 79, 3) := by decide +kernel
theorem dX12_isCell_11 : decode cX12_isCell 11 = .ok (.ifCond .eq 21, 3) := by decide +kernel
theorem dX12_isCell_14 : decode cX12_isCell 14 = .ok (.iload_n 2, 1) := by decide +kernel
theorem dX12_isCell_15 : decode cX12_isCell 15 = .ok (.iconst 0, 1) := by decide +kernel
theorem dX12_isCell_16 : decode cX12_isCell 16 = .ok (.aload_n 0, 1) := by decide +kernel
theorem dX12_isCell_17 : decode cX12_isCell 17 = .ok (.getfield 72, 3) := by decide +kernel
theorem dX12_isCell_20 : decode cX12_isCell 20 = .ok (.iconst 1, 1) := by decide +kernel
theorem dX12_isCell_21 : decode cX12_isCell 21 = .ok (.isub, 1) := by decide +kernel
theorem dX12_isCell_22 : decode cX12_isCell 22 = .ok (.invokestatic 79, 3) := by decide +kernel
theorem dX12_isCell_25 : decode cX12_isCell 25 = .ok (.ifCond .eq 7, 3) := by decide +kernel
theorem dX12_isCell_28 : decode cX12_isCell 28 = .ok (.iconst 1, 1) := by decide +kernel
theorem dX12_isCell_29 : decode cX12_isCell 29 = .ok (.goto 4, 3) := by decide +kernel
theorem dX12_isCell_32 : decode cX12_isCell 32 = .ok (.iconst 0, 1) := by decide +kernel
theorem dX12_isCell_33 : decode cX12_isCell 33 = .ok (.ireturn, 1) := by decide +kernel
theorem dX12_spot_0 : decode cX12_spot 0 = .ok (.bipush 10, 2) := by decide +kernel
theorem dX12_spot_2 : decode cX12_spot 2 = .ok (.sipush 144, 3) := by decide +kernel
theorem dX12_spot_5 : decode cX12_spot 5 = .ok (.iload_n 0, 1) := by decide +kernel
theorem dX12_spot_6 : decode cX12_spot 6 = .ok (.imul, 1) := by decide +kernel
theorem dX12_spot_7 : decode cX12_spot 7 = .ok (.iadd, 1) := by decide +kernel
theorem dX12_spot_8 : decode cX12_spot 8 = .ok (.bipush 12, 2) := by decide +kernel
theorem dX12_spot_10 : decode cX12_spot 10 = .ok (.iload_n 2, 1) := by decide +kernel
theorem dX12_spot_11 : decode cX12_spot 11 = .ok (.imul, 1) := by decide +kernel
theorem dX12_spot_12 : decode cX12_spot 12 = .ok (.iadd, 1) := by decide +kernel
theorem dX12_spot_13 : decode cX12_spot 13 = .ok (.iload_n 1, 1) := by decide +kernel
theorem dX12_spot_14 : decode cX12_spot 14 = .ok (.iadd, 1) := by decide +kernel
theorem dX12_spot_15 : decode cX12_spot 15 = .ok (.ireturn, 1) := by decide +kernel
theorem dX12_lightAt_0 : decode cX12_lightAt 0 = .ok (.aload_n 0, 1) := by decide +kernel
theorem dX12_lightAt_1 : decode cX12_lightAt 1 = .ok (.getfield 7, 3) := by decide +kernel
theorem dX12_lightAt_4 : decode cX12_lightAt 4 = .ok (.iload_n 1, 1) := by decide +kernel
theorem dX12_lightAt_5 : decode cX12_lightAt 5 = .ok (.iload_n 2, 1) := by decide +kernel
theorem dX12_lightAt_6 : decode cX12_lightAt 6 = .ok (.iload_n 3, 1) := by decide +kernel
theorem dX12_lightAt_7 : decode cX12_lightAt 7 = .ok (.invokestatic 83, 3) := by decide +kernel
theorem dX12_lightAt_10 : decode cX12_lightAt 10 = .ok (.iaload, 1) := by decide +kernel
theorem dX12_lightAt_11 : decode cX12_lightAt 11 = .ok (.ireturn, 1) := by decide +kernel
theorem dX12_countBits_0 : decode cX12_countBits 0 = .ok (.iconst 0, 1) := by decide +kernel
theorem dX12_countBits_1 : decode cX12_countBits 1 = .ok (.istore_n 1, 1) := by decide +kernel
theorem dX12_countBits_2 : decode cX12_countBits 2 = .ok (.iconst 0, 1) := by decide +kernel
theorem dX12_countBits_3 : decode cX12_countBits 3 = .ok (.istore_n 2, 1) := by decide +kernel
theorem dX12_countBits_4 : decode cX12_countBits 4 = .ok (.iload_n 2, 1) := by decide +kernel
theorem dX12_countBits_5 : decode cX12_countBits 5 = .ok (.bipush 20, 2) := by decide +kernel
theorem dX12_countBits_7 : decode cX12_countBits 7 = .ok (.if_icmp .ge 17, 3) := by decide +kernel
theorem dX12_countBits_10 : decode cX12_countBits 10 = .ok (.iload_n 1, 1) := by decide +kernel
theorem dX12_countBits_11 : decode cX12_countBits 11 = .ok (.iload_n 0, 1) := by decide +kernel
theorem dX12_countBits_12 : decode cX12_countBits 12 = .ok (.iload_n 2, 1) := by decide +kernel
theorem dX12_countBits_13 : decode cX12_countBits 13 = .ok (.ishr, 1) := by decide +kernel
theorem dX12_countBits_14 : decode cX12_countBits 14 = .ok (.iconst 1, 1) := by decide +kernel
theorem dX12_countBits_15 : decode cX12_countBits 15 = .ok (.iand, 1) := by decide +kernel
theorem dX12_countBits_16 : decode cX12_countBits 16 = .ok (.iadd, 1) := by decide +kernel
theorem dX12_countBits_17 : decode cX12_countBits 17 = .ok (.istore_n 1, 1) := by decide +kernel
theorem dX12_countBits_18 : decode cX12_countBits 18 = .ok (.iinc 2 1, 3) := by decide +kernel
theorem dX12_countBits_21 : decode cX12_countBits 21 = .ok (.goto (-17), 3) := by decide +kernel
theorem dX12_countBits_24 : decode cX12_countBits 24 = .ok (.iload_n 1, 1) := by decide +kernel
theorem dX12_countBits_25 : decode cX12_countBits 25 = .ok (.ireturn, 1) := by decide +kernel
theorem dX12_light_0 : decode cX12_light 0 = .ok (.iload_n 1, 1) := by decide +kernel
theorem dX12_light_1 : decode cX12_light 1 = .ok (.invokestatic 87, 3) := by decide +kernel
theorem dX12_light_4 : decode cX12_light 4 = .ok (.ifCond .eq 23, 3) := by decide +kernel
theorem dX12_light_7 : decode cX12_light 7 = .ok (.aload_n 0, 1) := by decide +kernel
theorem dX12_light_8 : decode cX12_light 8 = .ok (.iload_n 2, 1) := by decide +kernel
theorem dX12_light_9 : decode cX12_light 9 = .ok (.iload_n 3, 1) := by decide +kernel
theorem dX12_light_10 : decode cX12_light 10 = .ok (.invokevirtual 91, 3) := by decide +kernel
theorem dX12_light_13 : decode cX12_light 13 = .ok (.ifCond .eq 14, 3) := by decide +kernel
theorem dX12_light_16 : decode cX12_light 16 = .ok (.iload 4, 2) := by decide +kernel
theorem dX12_light_18 : decode cX12_light 18 = .ok (.iconst 0, 1) := by decide +kernel
theorem dX12_light_19 : decode cX12_light 19 = .ok (.bipush 99, 2) := by decide +kernel
theorem dX12_light_21 : decode cX12_light 21 = .ok (.invokestatic 79, 3) := by decide +kernel
theorem dX12_light_24 : decode cX12_light 24 = .ok (.ifCond .ne 5, 3) := by decide +kernel
theorem dX12_light_27 : decode cX12_light 27 = .ok (.iconst 0, 1) := by decide +kernel
theorem dX12_light_28 : decode cX12_light 28 = .ok (.ireturn, 1) := by decide +kernel
theorem dX12_light_29 : decode cX12_light 29 = .ok (.aload_n 0, 1) := by decide +kernel
theorem dX12_light_30 : decode cX12_light 30 = .ok (.getfield 7, 3) := by decide +kernel
theorem dX12_light_33 : decode cX12_light 33 = .ok (.iload_n 1, 1) := by decide +kernel
theorem dX12_light_34 : decode cX12_light 34 = .ok (.iload_n 2, 1) := by decide +kernel
theorem dX12_light_35 : decode cX12_light 35 = .ok (.iload_n 3, 1) := by decide +kernel
theorem dX12_light_36 : decode cX12_light 36 = .ok (.invokestatic 83, 3) := by decide +kernel
theorem dX12_light_39 : decode cX12_light 39 = .ok (.iload 4, 2) := by decide +kernel
theorem dX12_light_41 : decode cX12_light 41 = .ok (.iastore, 1) := by decide +kernel
theorem dX12_light_42 : decode cX12_light 42 = .ok (.iconst 1, 1) := by decide +kernel
theorem dX12_light_43 : decode cX12_light 43 = .ok (.ireturn, 1) := by decide +kernel
theorem dX12_row_0 : decode cX12_row 0 = .ok (.iload_n 1, 1) := by decide +kernel
theorem dX12_row_1 : decode cX12_row 1 = .ok (.invokestatic 87, 3) := by decide +kernel
theorem dX12_row_4 : decode cX12_row 4 = .ok (.ifCond .eq 28, 3) := by decide +kernel
theorem dX12_row_7 : decode cX12_row 7 = .ok (.aload_n 0, 1) := by decide +kernel
theorem dX12_row_8 : decode cX12_row 8 = .ok (.iload_n 2, 1) := by decide +kernel
theorem dX12_row_9 : decode cX12_row 9 = .ok (.iload_n 3, 1) := by decide +kernel
theorem dX12_row_10 : decode cX12_row 10 = .ok (.invokevirtual 91, 3) := by decide +kernel
theorem dX12_row_13 : decode cX12_row 13 = .ok (.ifCond .eq 19, 3) := by decide +kernel
theorem dX12_row_16 : decode cX12_row 16 = .ok (.lload 4, 2) := by decide +kernel
theorem dX12_row_18 : decode cX12_row 18 = .ok (.lconst 0, 1) := by decide +kernel
theorem dX12_row_19 : decode cX12_row 19 = .ok (.lcmp, 1) := by decide +kernel
theorem dX12_row_20 : decode cX12_row 20 = .ok (.ifCond .lt 12, 3) := by decide +kernel
theorem dX12_row_23 : decode cX12_row 23 = .ok (.lload 4, 2) := by decide +kernel
theorem dX12_row_25 : decode cX12_row 25 = .ok (.ldc2_w 95, 3) := by decide +kernel
theorem dX12_row_28 : decode cX12_row 28 = .ok (.lcmp, 1) := by decide +kernel
theorem dX12_row_29 : decode cX12_row 29 = .ok (.ifCond .le 5, 3) := by decide +kernel
theorem dX12_row_32 : decode cX12_row 32 = .ok (.iconst (-1), 1) := by decide +kernel
theorem dX12_row_33 : decode cX12_row 33 = .ok (.ireturn, 1) := by decide +kernel
theorem dX12_row_34 : decode cX12_row 34 = .ok (.lload 4, 2) := by decide +kernel
theorem dX12_row_36 : decode cX12_row 36 = .ok (.lstore 6, 2) := by decide +kernel
theorem dX12_row_38 : decode cX12_row 38 = .ok (.iconst 0, 1) := by decide +kernel
theorem dX12_row_39 : decode cX12_row 39 = .ok (.istore 8, 2) := by decide +kernel
theorem dX12_row_41 : decode cX12_row 41 = .ok (.iload 8, 2) := by decide +kernel
theorem dX12_row_43 : decode cX12_row 43 = .ok (.bipush 8, 2) := by decide +kernel
theorem dX12_row_45 : decode cX12_row 45 = .ok (.if_icmp .ge 49, 3) := by decide +kernel
theorem dX12_row_48 : decode cX12_row 48 = .ok (.iload_n 2, 1) := by decide +kernel
theorem dX12_row_49 : decode cX12_row 49 = .ok (.iload 8, 2) := by decide +kernel
theorem dX12_row_51 : decode cX12_row 51 = .ok (.iadd, 1) := by decide +kernel
theorem dX12_row_52 : decode cX12_row 52 = .ok (.aload_n 0, 1) := by decide +kernel
theorem dX12_row_53 : decode cX12_row 53 = .ok (.getfield 69, 3) := by decide +kernel
theorem dX12_row_56 : decode cX12_row 56 = .ok (.if_icmp .ge 38, 3) := by decide +kernel
theorem dX12_row_59 : decode cX12_row 59 = .ok (.aload_n 0, 1) := by decide +kernel
theorem dX12_row_60 : decode cX12_row 60 = .ok (.getfield 7, 3) := by decide +kernel
theorem dX12_row_63 : decode cX12_row 63 = .ok (.iload_n 1, 1) := by decide +kernel
theorem dX12_row_64 : decode cX12_row 64 = .ok (.iload_n 2, 1) := by decide +kernel
theorem dX12_row_65 : decode cX12_row 65 = .ok (.iload 8, 2) := by decide +kernel
theorem dX12_row_67 : decode cX12_row 67 = .ok (.iadd, 1) := by decide +kernel
theorem dX12_row_68 : decode cX12_row 68 = .ok (.iload_n 3, 1) := by decide +kernel
theorem dX12_row_69 : decode cX12_row 69 = .ok (.invokestatic 83, 3) := by decide +kernel
theorem dX12_row_72 : decode cX12_row 72 = .ok (.lload 6, 2) := by decide +kernel
theorem dX12_row_74 : decode cX12_row 74 = .ok (.ldc2_w 97, 3) := by decide +kernel
theorem dX12_row_77 : decode cX12_row 77 = .ok (.lrem, 1) := by decide +kernel
theorem dX12_row_78 : decode cX12_row 78 = .ok (.l2i, 1) := by decide +kernel
theorem dX12_row_79 : decode cX12_row 79 = .ok (.iastore, 1) := by decide +kernel
theorem dX12_row_80 : decode cX12_row 80 = .ok (.lload 6, 2) := by decide +kernel
theorem dX12_row_82 : decode cX12_row 82 = .ok (.ldc2_w 97, 3) := by decide +kernel
theorem dX12_row_85 : decode cX12_row 85 = .ok (.ldiv, 1) := by decide +kernel
theorem dX12_row_86 : decode cX12_row 86 = .ok (.lstore 6, 2) := by decide +kernel
theorem dX12_row_88 : decode cX12_row 88 = .ok (.iinc 8 1, 3) := by decide +kernel
theorem dX12_row_91 : decode cX12_row 91 = .ok (.goto (-50), 3) := by decide +kernel
theorem dX12_row_94 : decode cX12_row 94 = .ok (.iload 8, 2) := by decide +kernel
theorem dX12_row_96 : decode cX12_row 96 = .ok (.ireturn, 1) := by decide +kernel
theorem dX12_at_0 : decode cX12_at 0 = .ok (.iload_n 1, 1) := by decide +kernel
theorem dX12_at_1 : decode cX12_at 1 = .ok (.invokestatic 87, 3) := by decide +kernel
theorem dX12_at_4 : decode cX12_at 4 = .ok (.ifCond .eq 22, 3) := by decide +kernel
theorem dX12_at_7 : decode cX12_at 7 = .ok (.aload_n 0, 1) := by decide +kernel
theorem dX12_at_8 : decode cX12_at 8 = .ok (.iload_n 2, 1) := by decide +kernel
theorem dX12_at_9 : decode cX12_at 9 = .ok (.iload_n 3, 1) := by decide +kernel
theorem dX12_at_10 : decode cX12_at 10 = .ok (.invokevirtual 91, 3) := by decide +kernel
theorem dX12_at_13 : decode cX12_at 13 = .ok (.ifCond .eq 13, 3) := by decide +kernel
theorem dX12_at_16 : decode cX12_at 16 = .ok (.aload_n 0, 1) := by decide +kernel
theorem dX12_at_17 : decode cX12_at 17 = .ok (.iload_n 1, 1) := by decide +kernel
theorem dX12_at_18 : decode cX12_at 18 = .ok (.iload_n 2, 1) := by decide +kernel
theorem dX12_at_19 : decode cX12_at 19 = .ok (.iload_n 3, 1) := by decide +kernel
theorem dX12_at_20 : decode cX12_at 20 = .ok (.invokevirtual 99, 3) := by decide +kernel
theorem dX12_at_23 : decode cX12_at 23 = .ok (.goto 4, 3) := by decide +kernel
theorem dX12_at_26 : decode cX12_at 26 = .ok (.iconst (-1), 1) := by decide +kernel
theorem dX12_at_27 : decode cX12_at 27 = .ok (.ireturn, 1) := by decide +kernel
theorem dX12_copy_0 : decode cX12_copy 0 = .ok (.iload_n 1, 1) := by decide +kernel
theorem dX12_copy_1 : decode cX12_copy 1 = .ok (.invokestatic 87, 3) := by decide +kernel
theorem dX12_copy_4 : decode cX12_copy 4 = .ok (.ifCond .eq 10, 3) := by decide +kernel
theorem dX12_copy_7 : decode cX12_copy 7 = .ok (.iload_n 2, 1) := by decide +kernel
theorem dX12_copy_8 : decode cX12_copy 8 = .ok (.invokestatic 87, 3) := by decide +kernel
theorem dX12_copy_11 : decode cX12_copy 11 = .ok (.ifCond .ne 5, 3) := by decide +kernel
theorem dX12_copy_14 : decode cX12_copy 14 = .ok (.iconst 0, 1) := by decide +kernel
theorem dX12_copy_15 : decode cX12_copy 15 = .ok (.ireturn, 1) := by decide +kernel
theorem dX12_copy_16 : decode cX12_copy 16 = .ok (.iconst 0, 1) := by decide +kernel
theorem dX12_copy_17 : decode cX12_copy 17 = .ok (.istore_n 3, 1) := by decide +kernel
theorem dX12_copy_18 : decode cX12_copy 18 = .ok (.iload_n 3, 1) := by decide +kernel
theorem dX12_copy_19 : decode cX12_copy 19 = .ok (.sipush 144, 3) := by decide +kernel
theorem dX12_copy_22 : decode cX12_copy 22 = .ok (.if_icmp .ge 39, 3) := by decide +kernel
theorem dX12_copy_25 : decode cX12_copy 25 = .ok (.aload_n 0, 1) := by decide +kernel
theorem dX12_copy_26 : decode cX12_copy 26 = .ok (.getfield 7, 3) := by decide +kernel
theorem dX12_copy_29 : decode cX12_copy 29 = .ok (.bipush 10, 2) := by decide +kernel
theorem dX12_copy_31 : decode cX12_copy 31 = .ok (.sipush 144, 3) := by decide +kernel
theorem dX12_copy_34 : decode cX12_copy 34 = .ok (.iload_n 2, 1) := by decide +kernel
theorem dX12_copy_35 : decode cX12_copy 35 = .ok (.imul, 1) := by decide +kernel
theorem dX12_copy_36 : decode cX12_copy 36 = .ok (.iadd, 1) := by decide +kernel
theorem dX12_copy_37 : decode cX12_copy 37 = .ok (.iload_n 3, 1) := by decide +kernel
theorem dX12_copy_38 : decode cX12_copy 38 = .ok (.iadd, 1) := by decide +kernel
theorem dX12_copy_39 : decode cX12_copy 39 = .ok (.aload_n 0, 1) := by decide +kernel
theorem dX12_copy_40 : decode cX12_copy 40 = .ok (.getfield 7, 3) := by decide +kernel
theorem dX12_copy_43 : decode cX12_copy 43 = .ok (.bipush 10, 2) := by decide +kernel
theorem dX12_copy_45 : decode cX12_copy 45 = .ok (.sipush 144, 3) := by decide +kernel
theorem dX12_copy_48 : decode cX12_copy 48 = .ok (.iload_n 1, 1) := by decide +kernel
theorem dX12_copy_49 : decode cX12_copy 49 = .ok (.imul, 1) := by decide +kernel
theorem dX12_copy_50 : decode cX12_copy 50 = .ok (.iadd, 1) := by decide +kernel
theorem dX12_copy_51 : decode cX12_copy 51 = .ok (.iload_n 3, 1) := by decide +kernel
theorem dX12_copy_52 : decode cX12_copy 52 = .ok (.iadd, 1) := by decide +kernel
theorem dX12_copy_53 : decode cX12_copy 53 = .ok (.iaload, 1) := by decide +kernel
theorem dX12_copy_54 : decode cX12_copy 54 = .ok (.iastore, 1) := by decide +kernel
theorem dX12_copy_55 : decode cX12_copy 55 = .ok (.iinc 3 1, 3) := by decide +kernel
theorem dX12_copy_58 : decode cX12_copy 58 = .ok (.goto (-40), 3) := by decide +kernel
theorem dX12_copy_61 : decode cX12_copy 61 = .ok (.iconst 1, 1) := by decide +kernel
theorem dX12_copy_62 : decode cX12_copy 62 = .ok (.ireturn, 1) := by decide +kernel
theorem dX12_shadow_0 : decode cX12_shadow 0 = .ok (.iload_n 1, 1) := by decide +kernel
theorem dX12_shadow_1 : decode cX12_shadow 1 = .ok (.iconst 1, 1) := by decide +kernel
theorem dX12_shadow_2 : decode cX12_shadow 2 = .ok (.bipush 99, 2) := by decide +kernel
theorem dX12_shadow_4 : decode cX12_shadow 4 = .ok (.invokestatic 79, 3) := by decide +kernel
theorem dX12_shadow_7 : decode cX12_shadow 7 = .ok (.ifCond .eq 65, 3) := by decide +kernel
theorem dX12_shadow_10 : decode cX12_shadow 10 = .ok (.iload_n 2, 1) := by decide +kernel
theorem dX12_shadow_11 : decode cX12_shadow 11 = .ok (.bipush (-99), 2) := by decide +kernel
theorem dX12_shadow_13 : decode cX12_shadow 13 = .ok (.bipush 99, 2) := by decide +kernel
theorem dX12_shadow_15 : decode cX12_shadow 15 = .ok (.invokestatic 79, 3) := by decide +kernel
theorem dX12_shadow_18 : decode cX12_shadow 18 = .ok (.ifCond .eq 54, 3) := by decide +kernel
theorem dX12_shadow_21 : decode cX12_shadow 21 = .ok (.iload_n 3, 1) := by decide +kernel
theorem dX12_shadow_22 : decode cX12_shadow 22 = .ok (.bipush (-99), 2) := by decide +kernel
theorem dX12_shadow_24 : decode cX12_shadow 24 = .ok (.bipush 99, 2) := by decide +kernel
theorem dX12_shadow_26 : decode cX12_shadow 26 = .ok (.invokestatic 79, 3) := by decide +kernel
theorem dX12_shadow_29 : decode cX12_shadow 29 = .ok (.ifCond .eq 43, 3) := by decide +kernel
theorem dX12_shadow_32 : decode cX12_shadow 32 = .ok (.iload 4, 2) := by decide +kernel
theorem dX12_shadow_34 : decode cX12_shadow 34 = .ok (.iconst 1, 1) := by decide +kernel
theorem dX12_shadow_35 : decode cX12_shadow 35 = .ok (.sipush 300, 3) := by decide +kernel
theorem dX12_shadow_38 : decode cX12_shadow 38 = .ok (.invokestatic 79, 3) := by decide +kernel
theorem dX12_shadow_41 : decode cX12_shadow 41 = .ok (.ifCond .eq 31, 3) := by decide +kernel
theorem dX12_shadow_44 : decode cX12_shadow 44 = .ok (.iload 5, 2) := by decide +kernel
theorem dX12_shadow_46 : decode cX12_shadow 46 = .ok (.iload 4, 2) := by decide +kernel
theorem dX12_shadow_48 : decode cX12_shadow 48 = .ok (.sipush 300, 3) := by decide +kernel
theorem dX12_shadow_51 : decode cX12_shadow 51 = .ok (.invokestatic 79, 3) := by decide +kernel
theorem dX12_shadow_54 : decode cX12_shadow 54 = .ok (.ifCond .eq 18, 3) := by decide +kernel
theorem dX12_shadow_57 : decode cX12_shadow 57 = .ok (.iload 6, 2) := by decide +kernel
theorem dX12_shadow_59 : decode cX12_shadow 59 = .ok (.iconst 0, 1) := by decide +kernel
theorem dX12_shadow_60 : decode cX12_shadow 60 = .ok (.bipush 20, 2) := by decide +kernel
theorem dX12_shadow_62 : decode cX12_shadow 62 = .ok (.invokestatic 79, 3) := by decide +kernel
theorem dX12_shadow_65 : decode cX12_shadow 65 = .ok (.ifCond .eq 7, 3) := by decide +kernel
theorem dX12_shadow_68 : decode cX12_shadow 68 = .ok (.iconst 1, 1) := by decide +kernel
theorem dX12_shadow_69 : decode cX12_shadow 69 = .ok (.goto 4, 3) := by decide +kernel
theorem dX12_shadow_72 : decode cX12_shadow 72 = .ok (.iconst 0, 1) := by decide +kernel
theorem dX12_shadow_73 : decode cX12_shadow 73 = .ok (.istore 7, 2) := by decide +kernel
theorem dX12_shadow_75 : decode cX12_shadow 75 = .ok (.iload 7, 2) := by decide +kernel
theorem dX12_shadow_77 : decode cX12_shadow 77 = .ok (.ifCond .eq 14, 3) := by decide +kernel
theorem dX12_shadow_80 : decode cX12_shadow 80 = .ok (.aload_n 0, 1) := by decide +kernel
theorem dX12_shadow_81 : decode cX12_shadow 81 = .ok (.getfield 7, 3) := by decide +kernel
theorem dX12_shadow_84 : decode cX12_shadow 84 = .ok (.iconst 0, 1) := by decide +kernel
theorem dX12_shadow_85 : decode cX12_shadow 85 = .ok (.iaload, 1) := by decide +kernel
theorem dX12_shadow_86 : decode cX12_shadow 86 = .ok (.bipush 12, 2) := by decide +kernel
theorem dX12_shadow_88 : decode cX12_shadow 88 = .ok (.if_icmp .ne 5, 3) := by decide +kernel
theorem dX12_shadow_91 : decode cX12_shadow 91 = .ok (.iconst (-1), 1) := by decide +kernel
theorem dX12_shadow_92 : decode cX12_shadow 92 = .ok (.ireturn, 1) := by decide +kernel
theorem dX12_shadow_93 : decode cX12_shadow 93 = .ok (.sipush 740, 3) := by decide +kernel
theorem dX12_shadow_96 : decode cX12_shadow 96 = .ok (.bipush 6, 2) := by decide +kernel
theorem dX12_shadow_98 : decode cX12_shadow 98 = .ok (.aload_n 0, 1) := by decide +kernel
theorem dX12_shadow_99 : decode cX12_shadow 99 = .ok (.getfield 7, 3) := by decide +kernel
theorem dX12_shadow_102 : decode cX12_shadow 102 = .ok (.iconst 0, 1) := by decide +kernel
theorem dX12_shadow_103 : decode cX12_shadow 103 = .ok (.iaload, 1) := by decide +kernel
theorem dX12_shadow_104 : decode cX12_shadow 104 = .ok (.imul, 1) := by decide +kernel
theorem dX12_shadow_105 : decode cX12_shadow 105 = .ok (.iadd, 1) := by decide +kernel
theorem dX12_shadow_106 : decode cX12_shadow 106 = .ok (.istore 8, 2) := by decide +kernel
theorem dX12_shadow_108 : decode cX12_shadow 108 = .ok (.aload_n 0, 1) := by decide +kernel
theorem dX12_shadow_109 : decode cX12_shadow 109 = .ok (.getfield 7, 3) := by decide +kernel
theorem dX12_shadow_112 : decode cX12_shadow 112 = .ok (.iload 8, 2) := by decide +kernel
theorem dX12_shadow_114 : decode cX12_shadow 114 = .ok (.iload_n 1, 1) := by decide +kernel
theorem dX12_shadow_115 : decode cX12_shadow 115 = .ok (.iastore, 1) := by decide +kernel
theorem dX12_shadow_116 : decode cX12_shadow 116 = .ok (.aload_n 0, 1) := by decide +kernel
theorem dX12_shadow_117 : decode cX12_shadow 117 = .ok (.getfield 7, 3) := by decide +kernel
theorem dX12_shadow_120 : decode cX12_shadow 120 = .ok (.iload 8, 2) := by decide +kernel
theorem dX12_shadow_122 : decode cX12_shadow 122 = .ok (.iconst 1, 1) := by decide +kernel
theorem dX12_shadow_123 : decode cX12_shadow 123 = .ok (.iadd, 1) := by decide +kernel
theorem dX12_shadow_124 : decode cX12_shadow 124 = .ok (.iload_n 2, 1) := by decide +kernel
theorem dX12_shadow_125 : decode cX12_shadow 125 = .ok (.iastore, 1) := by decide +kernel
theorem dX12_shadow_126 : decode cX12_shadow 126 = .ok (.aload_n 0, 1) := by decide +kernel
theorem dX12_shadow_127 : decode cX12_shadow 127 = .ok (.getfield 7, 3) := by decide +kernel
theorem dX12_shadow_130 : decode cX12_shadow 130 = .ok (.iload 8, 2) := by decide +kernel
theorem dX12_shadow_132 : decode cX12_shadow 132 = .ok (.iconst 2, 1) := by decide +kernel
theorem dX12_shadow_133 : decode cX12_shadow 133 = .ok (.iadd, 1) := by decide +kernel
theorem dX12_shadow_134 : decode cX12_shadow 134 = .ok (.iload_n 3, 1) := by decide +kernel
theorem dX12_shadow_135 : decode cX12_shadow 135 = .ok (.iastore, 1) := by decide +kernel
theorem dX12_shadow_136 : decode cX12_shadow 136 = .ok (.aload_n 0, 1) := by decide +kernel
theorem dX12_shadow_137 : decode cX12_shadow 137 = .ok (.getfield 7, 3) := by decide +kernel
theorem dX12_shadow_140 : decode cX12_shadow 140 = .ok (.iload 8, 2) := by decide +kernel
theorem dX12_shadow_142 : decode cX12_shadow 142 = .ok (.iconst 3, 1) := by decide +kernel
theorem dX12_shadow_143 : decode cX12_shadow 143 = .ok (.iadd, 1) := by decide +kernel
theorem dX12_shadow_144 : decode cX12_shadow 144 = .ok (.iload 4, 2) := by decide +kernel
theorem dX12_shadow_146 : decode cX12_shadow 146 = .ok (.iastore, 1) := by decide +kernel
theorem dX12_shadow_147 : decode cX12_shadow 147 = .ok (.aload_n 0, 1) := by decide +kernel
theorem dX12_shadow_148 : decode cX12_shadow 148 = .ok (.getfield 7, 3) := by decide +kernel
theorem dX12_shadow_151 : decode cX12_shadow 151 = .ok (.iload 8, 2) := by decide +kernel
theorem dX12_shadow_153 : decode cX12_shadow 153 = .ok (.iconst 4, 1) := by decide +kernel
theorem dX12_shadow_154 : decode cX12_shadow 154 = .ok (.iadd, 1) := by decide +kernel
theorem dX12_shadow_155 : decode cX12_shadow 155 = .ok (.iload 5, 2) := by decide +kernel
theorem dX12_shadow_157 : decode cX12_shadow 157 = .ok (.iastore, 1) := by decide +kernel
theorem dX12_shadow_158 : decode cX12_shadow 158 = .ok (.aload_n 0, 1) := by decide +kernel
theorem dX12_shadow_159 : decode cX12_shadow 159 = .ok (.getfield 7, 3) := by decide +kernel
theorem dX12_shadow_162 : decode cX12_shadow 162 = .ok (.iload 8, 2) := by decide +kernel
theorem dX12_shadow_164 : decode cX12_shadow 164 = .ok (.iconst 5, 1) := by decide +kernel
theorem dX12_shadow_165 : decode cX12_shadow 165 = .ok (.iadd, 1) := by decide +kernel
theorem dX12_shadow_166 : decode cX12_shadow 166 = .ok (.iload 6, 2) := by decide +kernel
theorem dX12_shadow_168 : decode cX12_shadow 168 = .ok (.iastore, 1) := by decide +kernel
theorem dX12_shadow_169 : decode cX12_shadow 169 = .ok (.aload_n 0, 1) := by decide +kernel
theorem dX12_shadow_170 : decode cX12_shadow 170 = .ok (.getfield 7, 3) := by decide +kernel
theorem dX12_shadow_173 : decode cX12_shadow 173 = .ok (.iconst 0, 1) := by decide +kernel
theorem dX12_shadow_174 : decode cX12_shadow 174 = .ok (.dup2, 1) := by decide +kernel
theorem dX12_shadow_175 : decode cX12_shadow 175 = .ok (.iaload, 1) := by decide +kernel
theorem dX12_shadow_176 : decode cX12_shadow 176 = .ok (.iconst 1, 1) := by decide +kernel
theorem dX12_shadow_177 : decode cX12_shadow 177 = .ok (.iadd, 1) := by decide +kernel
theorem dX12_shadow_178 : decode cX12_shadow 178 = .ok (.iastore, 1) := by decide +kernel
theorem dX12_shadow_179 : decode cX12_shadow 179 = .ok (.aload_n 0, 1) := by decide +kernel
theorem dX12_shadow_180 : decode cX12_shadow 180 = .ok (.getfield 7, 3) := by decide +kernel
theorem dX12_shadow_183 : decode cX12_shadow 183 = .ok (.iconst 0, 1) := by decide +kernel
theorem dX12_shadow_184 : decode cX12_shadow 184 = .ok (.iaload, 1) := by decide +kernel
theorem dX12_shadow_185 : decode cX12_shadow 185 = .ok (.iconst 1, 1) := by decide +kernel
theorem dX12_shadow_186 : decode cX12_shadow 186 = .ok (.isub, 1) := by decide +kernel
theorem dX12_shadow_187 : decode cX12_shadow 187 = .ok (.ireturn, 1) := by decide +kernel
theorem dX12_shine_0 : decode cX12_shine 0 = .ok (.iload_n 1, 1) := by decide +kernel
theorem dX12_shine_1 : decode cX12_shine 1 = .ok (.iconst 0, 1) := by decide +kernel
theorem dX12_shine_2 : decode cX12_shine 2 = .ok (.bipush 7, 2) := by decide +kernel
theorem dX12_shine_4 : decode cX12_shine 4 = .ok (.invokestatic 79, 3) := by decide +kernel
theorem dX12_shine_7 : decode cX12_shine 7 = .ok (.ifCond .eq 14, 3) := by decide +kernel
theorem dX12_shine_10 : decode cX12_shine 10 = .ok (.aload_n 0, 1) := by decide +kernel
theorem dX12_shine_11 : decode cX12_shine 11 = .ok (.getfield 7, 3) := by decide +kernel
theorem dX12_shine_14 : decode cX12_shine 14 = .ok (.iconst 1, 1) := by decide +kernel
theorem dX12_shine_15 : decode cX12_shine 15 = .ok (.iaload, 1) := by decide +kernel
theorem dX12_shine_16 : decode cX12_shine 16 = .ok (.bipush 8, 2) := by decide +kernel
theorem dX12_shine_18 : decode cX12_shine 18 = .ok (.if_icmp .ne 5, 3) := by decide +kernel
theorem dX12_shine_21 : decode cX12_shine 21 = .ok (.iconst (-1), 1) := by decide +kernel
theorem dX12_shine_22 : decode cX12_shine 22 = .ok (.ireturn, 1) := by decide +kernel
theorem dX12_shine_23 : decode cX12_shine 23 = .ok (.aload_n 0, 1) := by decide +kernel
theorem dX12_shine_24 : decode cX12_shine 24 = .ok (.getfield 7, 3) := by decide +kernel
theorem dX12_shine_27 : decode cX12_shine 27 = .ok (.sipush 820, 3) := by decide +kernel
theorem dX12_shine_30 : decode cX12_shine 30 = .ok (.aload_n 0, 1) := by decide +kernel
theorem dX12_shine_31 : decode cX12_shine 31 = .ok (.getfield 7, 3) := by decide +kernel
theorem dX12_shine_34 : decode cX12_shine 34 = .ok (.iconst 1, 1) := by decide +kernel
theorem dX12_shine_35 : decode cX12_shine 35 = .ok (.iaload, 1) := by decide +kernel
theorem dX12_shine_36 : decode cX12_shine 36 = .ok (.iadd, 1) := by decide +kernel
theorem dX12_shine_37 : decode cX12_shine 37 = .ok (.iload_n 1, 1) := by decide +kernel
theorem dX12_shine_38 : decode cX12_shine 38 = .ok (.iastore, 1) := by decide +kernel
theorem dX12_shine_39 : decode cX12_shine 39 = .ok (.aload_n 0, 1) := by decide +kernel
theorem dX12_shine_40 : decode cX12_shine 40 = .ok (.getfield 7, 3) := by decide +kernel
theorem dX12_shine_43 : decode cX12_shine 43 = .ok (.iconst 1, 1) := by decide +kernel
theorem dX12_shine_44 : decode cX12_shine 44 = .ok (.dup2, 1) := by decide +kernel
theorem dX12_shine_45 : decode cX12_shine 45 = .ok (.iaload, 1) := by decide +kernel
theorem dX12_shine_46 : decode cX12_shine 46 = .ok (.iconst 1, 1) := by decide +kernel
theorem dX12_shine_47 : decode cX12_shine 47 = .ok (.iadd, 1) := by decide +kernel
theorem dX12_shine_48 : decode cX12_shine 48 = .ok (.iastore, 1) := by decide +kernel
theorem dX12_shine_49 : decode cX12_shine 49 = .ok (.aload_n 0, 1) := by decide +kernel
theorem dX12_shine_50 : decode cX12_shine 50 = .ok (.getfield 7, 3) := by decide +kernel
theorem dX12_shine_53 : decode cX12_shine 53 = .ok (.iconst 1, 1) := by decide +kernel
theorem dX12_shine_54 : decode cX12_shine 54 = .ok (.iaload, 1) := by decide +kernel
theorem dX12_shine_55 : decode cX12_shine 55 = .ok (.iconst 1, 1) := by decide +kernel
theorem dX12_shine_56 : decode cX12_shine 56 = .ok (.isub, 1) := by decide +kernel
theorem dX12_shine_57 : decode cX12_shine 57 = .ok (.ireturn, 1) := by decide +kernel
theorem dX12_shadowLets_0 : decode cX12_shadowLets 0 = .ok (.sipush 740, 3) := by decide +kernel
theorem dX12_shadowLets_3 : decode cX12_shadowLets 3 = .ok (.bipush 6, 2) := by decide +kernel
theorem dX12_shadowLets_5 : decode cX12_shadowLets 5 = .ok (.iload_n 1, 1) := by decide +kernel
theorem dX12_shadowLets_6 : decode cX12_shadowLets 6 = .ok (.imul, 1) := by decide +kernel
theorem dX12_shadowLets_7 : decode cX12_shadowLets 7 = .ok (.iadd, 1) := by decide +kernel
theorem dX12_shadowLets_8 : decode cX12_shadowLets 8 = .ok (.istore 5, 2) := by decide +kernel
theorem dX12_shadowLets_10 : decode cX12_shadowLets 10 = .ok (.bipush 100, 2) := by decide +kernel
theorem dX12_shadowLets_12 : decode cX12_shadowLets 12 = .ok (.iload 4, 2) := by decide +kernel
theorem dX12_shadowLets_14 : decode cX12_shadowLets 14 = .ok (.imul, 1) := by decide +kernel
theorem dX12_shadowLets_15 : decode cX12_shadowLets 15 = .ok (.aload_n 0, 1) := by decide +kernel
theorem dX12_shadowLets_16 : decode cX12_shadowLets 16 = .ok (.getfield 7, 3) := by decide +kernel
theorem dX12_shadowLets_19 : decode cX12_shadowLets 19 = .ok (.iload 5, 2) := by decide +kernel
theorem dX12_shadowLets_21 : decode cX12_shadowLets 21 = .ok (.iconst 5, 1) := by decide +kernel
theorem dX12_shadowLets_22 : decode cX12_shadowLets 22 = .ok (.iadd, 1) := by decide +kernel
theorem dX12_shadowLets_23 : decode cX12_shadowLets 23 = .ok (.iaload, 1) := by decide +kernel
theorem dX12_shadowLets_24 : decode cX12_shadowLets 24 = .ok (.imul, 1) := by decide +kernel
theorem dX12_shadowLets_25 : decode cX12_shadowLets 25 = .ok (.istore 6, 2) := by decide +kernel
theorem dX12_shadowLets_27 : decode cX12_shadowLets 27 = .ok (.aload_n 0, 1) := by decide +kernel
theorem dX12_shadowLets_28 : decode cX12_shadowLets 28 = .ok (.getfield 7, 3) := by decide +kernel
theorem dX12_shadowLets_31 : decode cX12_shadowLets 31 = .ok (.iload 5, 2) := by decide +kernel
theorem dX12_shadowLets_33 : decode cX12_shadowLets 33 = .ok (.iconst 3, 1) := by decide +kernel
theorem dX12_shadowLets_34 : decode cX12_shadowLets 34 = .ok (.iadd, 1) := by decide +kernel
theorem dX12_shadowLets_35 : decode cX12_shadowLets 35 = .ok (.iaload, 1) := by decide +kernel
theorem dX12_shadowLets_36 : decode cX12_shadowLets 36 = .ok (.istore 7, 2) := by decide +kernel
theorem dX12_shadowLets_38 : decode cX12_shadowLets 38 = .ok (.iload 7, 2) := by decide +kernel
theorem dX12_shadowLets_40 : decode cX12_shadowLets 40 = .ok (.aload_n 0, 1) := by decide +kernel
theorem dX12_shadowLets_41 : decode cX12_shadowLets 41 = .ok (.getfield 7, 3) := by decide +kernel
theorem dX12_shadowLets_44 : decode cX12_shadowLets 44 = .ok (.iload 5, 2) := by decide +kernel
theorem dX12_shadowLets_46 : decode cX12_shadowLets 46 = .ok (.iconst 4, 1) := by decide +kernel
theorem dX12_shadowLets_47 : decode cX12_shadowLets 47 = .ok (.iadd, 1) := by decide +kernel
theorem dX12_shadowLets_48 : decode cX12_shadowLets 48 = .ok (.iaload, 1) := by decide +kernel
theorem dX12_shadowLets_49 : decode cX12_shadowLets 49 = .ok (.if_icmp .gt 83, 3) := by decide +kernel
theorem dX12_shadowLets_52 : decode cX12_shadowLets 52 = .ok (.bipush 100, 2) := by decide +kernel
theorem dX12_shadowLets_54 : decode cX12_shadowLets 54 = .ok (.iload 4, 2) := by decide +kernel
theorem dX12_shadowLets_56 : decode cX12_shadowLets 56 = .ok (.imul, 1) := by decide +kernel
theorem dX12_shadowLets_57 : decode cX12_shadowLets 57 = .ok (.aload_n 0, 1) := by decide +kernel
theorem dX12_shadowLets_58 : decode cX12_shadowLets 58 = .ok (.getfield 7, 3) := by decide +kernel
theorem dX12_shadowLets_61 : decode cX12_shadowLets 61 = .ok (.iload 5, 2) := by decide +kernel
theorem dX12_shadowLets_63 : decode cX12_shadowLets 63 = .ok (.iconst 1, 1) := by decide +kernel
theorem dX12_shadowLets_64 : decode cX12_shadowLets 64 = .ok (.iadd, 1) := by decide +kernel
theorem dX12_shadowLets_65 : decode cX12_shadowLets 65 = .ok (.iaload, 1) := by decide +kernel
theorem dX12_shadowLets_66 : decode cX12_shadowLets 66 = .ok (.imul, 1) := by decide +kernel
theorem dX12_shadowLets_67 : decode cX12_shadowLets 67 = .ok (.iload_n 2, 1) := by decide +kernel
theorem dX12_shadowLets_68 : decode cX12_shadowLets 68 = .ok (.aload_n 0, 1) := by decide +kernel
theorem dX12_shadowLets_69 : decode cX12_shadowLets 69 = .ok (.getfield 7, 3) := by decide +kernel
theorem dX12_shadowLets_72 : decode cX12_shadowLets 72 = .ok (.iload 5, 2) := by decide +kernel
theorem dX12_shadowLets_74 : decode cX12_shadowLets 74 = .ok (.iaload, 1) := by decide +kernel
theorem dX12_shadowLets_75 : decode cX12_shadowLets 75 = .ok (.imul, 1) := by decide +kernel
theorem dX12_shadowLets_76 : decode cX12_shadowLets 76 = .ok (.iload 7, 2) := by decide +kernel
theorem dX12_shadowLets_78 : decode cX12_shadowLets 78 = .ok (.imul, 1) := by decide +kernel
theorem dX12_shadowLets_79 : decode cX12_shadowLets 79 = .ok (.iadd, 1) := by decide +kernel
theorem dX12_shadowLets_80 : decode cX12_shadowLets 80 = .ok (.invokestatic 102, 3) := by decide +kernel
theorem dX12_shadowLets_83 : decode cX12_shadowLets 83 = .ok (.iload 6, 2) := by decide +kernel
theorem dX12_shadowLets_85 : decode cX12_shadowLets 85 = .ok (.if_icmp .gt 41, 3) := by decide +kernel
theorem dX12_shadowLets_88 : decode cX12_shadowLets 88 = .ok (.bipush 100, 2) := by decide +kernel
theorem dX12_shadowLets_90 : decode cX12_shadowLets 90 = .ok (.iload 4, 2) := by decide +kernel
theorem dX12_shadowLets_92 : decode cX12_shadowLets 92 = .ok (.imul, 1) := by decide +kernel
theorem dX12_shadowLets_93 : decode cX12_shadowLets 93 = .ok (.aload_n 0, 1) := by decide +kernel
theorem dX12_shadowLets_94 : decode cX12_shadowLets 94 = .ok (.getfield 7, 3) := by decide +kernel
theorem dX12_shadowLets_97 : decode cX12_shadowLets 97 = .ok (.iload 5, 2) := by decide +kernel
theorem dX12_shadowLets_99 : decode cX12_shadowLets 99 = .ok (.iconst 2, 1) := by decide +kernel
theorem dX12_shadowLets_100 : decode cX12_shadowLets 100 = .ok (.iadd, 1) := by decide +kernel
theorem dX12_shadowLets_101 : decode cX12_shadowLets 101 = .ok (.iaload, 1) := by decide +kernel
theorem dX12_shadowLets_102 : decode cX12_shadowLets 102 = .ok (.imul, 1) := by decide +kernel
theorem dX12_shadowLets_103 : decode cX12_shadowLets 103 = .ok (.iload_n 3, 1) := by decide +kernel
theorem dX12_shadowLets_104 : decode cX12_shadowLets 104 = .ok (.aload_n 0, 1) := by decide +kernel
theorem dX12_shadowLets_105 : decode cX12_shadowLets 105 = .ok (.getfield 7, 3) := by decide +kernel
theorem dX12_shadowLets_108 : decode cX12_shadowLets 108 = .ok (.iload 5, 2) := by decide +kernel
theorem dX12_shadowLets_110 : decode cX12_shadowLets 110 = .ok (.iaload, 1) := by decide +kernel
theorem dX12_shadowLets_111 : decode cX12_shadowLets 111 = .ok (.imul, 1) := by decide +kernel
theorem dX12_shadowLets_112 : decode cX12_shadowLets 112 = .ok (.iload 7, 2) := by decide +kernel
theorem dX12_shadowLets_114 : decode cX12_shadowLets 114 = .ok (.imul, 1) := by decide +kernel
theorem dX12_shadowLets_115 : decode cX12_shadowLets 115 = .ok (.iadd, 1) := by decide +kernel
theorem dX12_shadowLets_116 : decode cX12_shadowLets 116 = .ok (.invokestatic 102, 3) := by decide +kernel
theorem dX12_shadowLets_119 : decode cX12_shadowLets 119 = .ok (.iload 6, 2) := by decide +kernel
theorem dX12_shadowLets_121 : decode cX12_shadowLets 121 = .ok (.if_icmp .gt 5, 3) := by decide +kernel
theorem dX12_shadowLets_124 : decode cX12_shadowLets 124 = .ok (.iconst 1, 1) := by decide +kernel
theorem dX12_shadowLets_125 : decode cX12_shadowLets 125 = .ok (.ireturn, 1) := by decide +kernel
theorem dX12_shadowLets_126 : decode cX12_shadowLets 126 = .ok (.iinc 7 1, 3) := by decide +kernel
theorem dX12_shadowLets_129 : decode cX12_shadowLets 129 = .ok (.goto (-91), 3) := by decide +kernel
theorem dX12_shadowLets_132 : decode cX12_shadowLets 132 = .ok (.iconst 0, 1) := by decide +kernel
theorem dX12_shadowLets_133 : decode cX12_shadowLets 133 = .ok (.ireturn, 1) := by decide +kernel
theorem dX12_azimuth_0 : decode cX12_azimuth 0 = .ok (.iload_n 0, 1) := by decide +kernel
theorem dX12_azimuth_1 : decode cX12_azimuth 1 = .ok (.invokestatic 102, 3) := by decide +kernel
theorem dX12_azimuth_4 : decode cX12_azimuth 4 = .ok (.istore_n 2, 1) := by decide +kernel
theorem dX12_azimuth_5 : decode cX12_azimuth 5 = .ok (.iload_n 1, 1) := by decide +kernel
theorem dX12_azimuth_6 : decode cX12_azimuth 6 = .ok (.invokestatic 102, 3) := by decide +kernel
theorem dX12_azimuth_9 : decode cX12_azimuth 9 = .ok (.istore_n 3, 1) := by decide +kernel
theorem dX12_azimuth_10 : decode cX12_azimuth 10 = .ok (.iload_n 2, 1) := by decide +kernel
theorem dX12_azimuth_11 : decode cX12_azimuth 11 = .ok (.ifCond .ne 9, 3) := by decide +kernel
theorem dX12_azimuth_14 : decode cX12_azimuth 14 = .ok (.iload_n 3, 1) := by decide +kernel
theorem dX12_azimuth_15 : decode cX12_azimuth 15 = .ok (.ifCond .ne 5, 3) := by decide +kernel
theorem dX12_azimuth_18 : decode cX12_azimuth 18 = .ok (.iconst (-1), 1) := by decide +kernel
theorem dX12_azimuth_19 : decode cX12_azimuth 19 = .ok (.ireturn, 1) := by decide +kernel
theorem dX12_azimuth_20 : decode cX12_azimuth 20 = .ok (.iconst 2, 1) := by decide +kernel
theorem dX12_azimuth_21 : decode cX12_azimuth 21 = .ok (.iload_n 3, 1) := by decide +kernel
theorem dX12_azimuth_22 : decode cX12_azimuth 22 = .ok (.imul, 1) := by decide +kernel
theorem dX12_azimuth_23 : decode cX12_azimuth 23 = .ok (.iload_n 2, 1) := by decide +kernel
theorem dX12_azimuth_24 : decode cX12_azimuth 24 = .ok (.if_icmp .ge 13, 3) := by decide +kernel
theorem dX12_azimuth_27 : decode cX12_azimuth 27 = .ok (.iload_n 0, 1) := by decide +kernel
theorem dX12_azimuth_28 : decode cX12_azimuth 28 = .ok (.ifCond .le 7, 3) := by decide +kernel
theorem dX12_azimuth_31 : decode cX12_azimuth 31 = .ok (.iconst 0, 1) := by decide +kernel
theorem dX12_azimuth_32 : decode cX12_azimuth 32 = .ok (.goto 4, 3) := by decide +kernel
theorem dX12_azimuth_35 : decode cX12_azimuth 35 = .ok (.iconst 4, 1) := by decide +kernel
theorem dX12_azimuth_36 : decode cX12_azimuth 36 = .ok (.ireturn, 1) := by decide +kernel
theorem dX12_azimuth_37 : decode cX12_azimuth 37 = .ok (.iconst 2, 1) := by decide +kernel
theorem dX12_azimuth_38 : decode cX12_azimuth 38 = .ok (.iload_n 2, 1) := by decide +kernel
theorem dX12_azimuth_39 : decode cX12_azimuth 39 = .ok (.imul, 1) := by decide +kernel
theorem dX12_azimuth_40 : decode cX12_azimuth 40 = .ok (.iload_n 3, 1) := by decide +kernel
theorem dX12_azimuth_41 : decode cX12_azimuth 41 = .ok (.if_icmp .ge 14, 3) := by decide +kernel
theorem dX12_azimuth_44 : decode cX12_azimuth 44 = .ok (.iload_n 1, 1) := by decide +kernel
theorem dX12_azimuth_45 : decode cX12_azimuth 45 = .ok (.ifCond .ge 7, 3) := by decide +kernel
theorem dX12_azimuth_48 : decode cX12_azimuth 48 = .ok (.iconst 2, 1) := by decide +kernel
theorem dX12_azimuth_49 : decode cX12_azimuth 49 = .ok (.goto 5, 3) := by decide +kernel
theorem dX12_azimuth_52 : decode cX12_azimuth 52 = .ok (.bipush 6, 2) := by decide +kernel
theorem dX12_azimuth_54 : decode cX12_azimuth 54 = .ok (.ireturn, 1) := by decide +kernel
theorem dX12_azimuth_55 : decode cX12_azimuth 55 = .ok (.iload_n 0, 1) := by decide +kernel
theorem dX12_azimuth_56 : decode cX12_azimuth 56 = .ok (.ifCond .le 16, 3) := by decide +kernel
theorem dX12_azimuth_59 : decode cX12_azimuth 59 = .ok (.iload_n 1, 1) := by decide +kernel
theorem dX12_azimuth_60 : decode cX12_azimuth 60 = .ok (.ifCond .ge 7, 3) := by decide +kernel
theorem dX12_azimuth_63 : decode cX12_azimuth 63 = .ok (.iconst 1, 1) := by decide +kernel
theorem dX12_azimuth_64 : decode cX12_azimuth 64 = .ok (.goto 17, 3) := by decide +kernel
theorem dX12_azimuth_67 : decode cX12_azimuth 67 = .ok (.bipush 7, 2) := by decide +kernel
theorem dX12_azimuth_69 : decode cX12_azimuth 69 = .ok (.goto 12, 3) := by decide +kernel
theorem dX12_azimuth_72 : decode cX12_azimuth 72 = .ok (.iload_n 1, 1) := by decide +kernel
theorem dX12_azimuth_73 : decode cX12_azimuth 73 = .ok (.ifCond .ge 7, 3) := by decide +kernel
theorem dX12_azimuth_76 : decode cX12_azimuth 76 = .ok (.iconst 3, 1) := by decide +kernel
theorem dX12_azimuth_77 : decode cX12_azimuth 77 = .ok (.goto 4, 3) := by decide +kernel
theorem dX12_azimuth_80 : decode cX12_azimuth 80 = .ok (.iconst 5, 1) := by decide +kernel
theorem dX12_azimuth_81 : decode cX12_azimuth 81 = .ok (.ireturn, 1) := by decide +kernel
theorem dX12_shineLets_0 : decode cX12_shineLets 0 = .ok (.iload_n 2, 1) := by decide +kernel
theorem dX12_shineLets_1 : decode cX12_shineLets 1 = .ok (.iload_n 3, 1) := by decide +kernel
theorem dX12_shineLets_2 : decode cX12_shineLets 2 = .ok (.invokestatic 106, 3) := by decide +kernel
theorem dX12_shineLets_5 : decode cX12_shineLets 5 = .ok (.istore 4, 2) := by decide +kernel
theorem dX12_shineLets_7 : decode cX12_shineLets 7 = .ok (.iload 4, 2) := by decide +kernel
theorem dX12_shineLets_9 : decode cX12_shineLets 9 = .ok (.ifCond .ge 5, 3) := by decide +kernel
theorem dX12_shineLets_12 : decode cX12_shineLets 12 = .ok (.iconst 1, 1) := by decide +kernel
theorem dX12_shineLets_13 : decode cX12_shineLets 13 = .ok (.ireturn, 1) := by decide +kernel
theorem dX12_shineLets_14 : decode cX12_shineLets 14 = .ok (.iload 4, 2) := by decide +kernel
theorem dX12_shineLets_16 : decode cX12_shineLets 16 = .ok (.aload_n 0, 1) := by decide +kernel
theorem dX12_shineLets_17 : decode cX12_shineLets 17 = .ok (.getfield 7, 3) := by decide +kernel
theorem dX12_shineLets_20 : decode cX12_shineLets 20 = .ok (.sipush 820, 3) := by decide +kernel
theorem dX12_shineLets_23 : decode cX12_shineLets 23 = .ok (.iload_n 1, 1) := by decide +kernel
theorem dX12_shineLets_24 : decode cX12_shineLets 24 = .ok (.iadd, 1) := by decide +kernel
theorem dX12_shineLets_25 : decode cX12_shineLets 25 = .ok (.iaload, 1) := by decide +kernel
theorem dX12_shineLets_26 : decode cX12_shineLets 26 = .ok (.isub, 1) := by decide +kernel
theorem dX12_shineLets_27 : decode cX12_shineLets 27 = .ok (.invokestatic 102, 3) := by decide +kernel
theorem dX12_shineLets_30 : decode cX12_shineLets 30 = .ok (.istore 5, 2) := by decide +kernel
theorem dX12_shineLets_32 : decode cX12_shineLets 32 = .ok (.iload 5, 2) := by decide +kernel
theorem dX12_shineLets_34 : decode cX12_shineLets 34 = .ok (.iconst 1, 1) := by decide +kernel
theorem dX12_shineLets_35 : decode cX12_shineLets 35 = .ok (.if_icmp .le 10, 3) := by decide +kernel
theorem dX12_shineLets_38 : decode cX12_shineLets 38 = .ok (.iload 5, 2) := by decide +kernel
theorem dX12_shineLets_40 : decode cX12_shineLets 40 = .ok (.bipush 7, 2) := by decide +kernel
theorem dX12_shineLets_42 : decode cX12_shineLets 42 = .ok (.if_icmp .ne 7, 3) := by decide +kernel
theorem dX12_shineLets_45 : decode cX12_shineLets 45 = .ok (.iconst 1, 1) := by decide +kernel
theorem dX12_shineLets_46 : decode cX12_shineLets 46 = .ok (.goto 4, 3) := by decide +kernel
theorem dX12_shineLets_49 : decode cX12_shineLets 49 = .ok (.iconst 0, 1) := by decide +kernel
theorem dX12_shineLets_50 : decode cX12_shineLets 50 = .ok (.ireturn, 1) := by decide +kernel
theorem dX12_lampX_0 : decode cX12_lampX 0 = .ok (.iload_n 0, 1) := by decide +kernel
theorem dX12_lampX_1 : decode cX12_lampX 1 = .ok (.bipush 11, 2) := by decide +kernel
theorem dX12_lampX_3 : decode cX12_lampX 3 = .ok (.irem, 1) := by decide +kernel
theorem dX12_lampX_4 : decode cX12_lampX 4 = .ok (.iconst 5, 1) := by decide +kernel
theorem dX12_lampX_5 : decode cX12_lampX 5 = .ok (.isub, 1) := by decide +kernel
theorem dX12_lampX_6 : decode cX12_lampX 6 = .ok (.ireturn, 1) := by decide +kernel
theorem dX12_lampY_0 : decode cX12_lampY 0 = .ok (.iload_n 0, 1) := by decide +kernel
theorem dX12_lampY_1 : decode cX12_lampY 1 = .ok (.bipush 11, 2) := by decide +kernel
theorem dX12_lampY_3 : decode cX12_lampY 3 = .ok (.idiv, 1) := by decide +kernel
theorem dX12_lampY_4 : decode cX12_lampY 4 = .ok (.bipush 11, 2) := by decide +kernel
theorem dX12_lampY_6 : decode cX12_lampY 6 = .ok (.irem, 1) := by decide +kernel
theorem dX12_lampY_7 : decode cX12_lampY 7 = .ok (.iconst 5, 1) := by decide +kernel
theorem dX12_lampY_8 : decode cX12_lampY 8 = .ok (.isub, 1) := by decide +kernel
theorem dX12_lampY_9 : decode cX12_lampY 9 = .ok (.ireturn, 1) := by decide +kernel
theorem dX12_lampH_0 : decode cX12_lampH 0 = .ok (.iload_n 0, 1) := by decide +kernel
theorem dX12_lampH_1 : decode cX12_lampH 1 = .ok (.bipush 121, 2) := by decide +kernel
theorem dX12_lampH_3 : decode cX12_lampH 3 = .ok (.idiv, 1) := by decide +kernel
theorem dX12_lampH_4 : decode cX12_lampH 4 = .ok (.iconst 1, 1) := by decide +kernel
theorem dX12_lampH_5 : decode cX12_lampH 5 = .ok (.iadd, 1) := by decide +kernel
theorem dX12_lampH_6 : decode cX12_lampH 6 = .ok (.ireturn, 1) := by decide +kernel
theorem dX12_told_0 : decode cX12_told 0 = .ok (.sipush 10000, 3) := by decide +kernel
theorem dX12_told_3 : decode cX12_told 3 = .ok (.iload_n 0, 1) := by decide +kernel
theorem dX12_told_4 : decode cX12_told 4 = .ok (.invokestatic 110, 3) := by decide +kernel
theorem dX12_told_7 : decode cX12_told 7 = .ok (.imul, 1) := by decide +kernel
theorem dX12_told_8 : decode cX12_told 8 = .ok (.bipush 100, 2) := by decide +kernel
theorem dX12_told_10 : decode cX12_told 10 = .ok (.iload_n 0, 1) := by decide +kernel
theorem dX12_told_11 : decode cX12_told 11 = .ok (.invokestatic 113, 3) := by decide +kernel
theorem dX12_told_14 : decode cX12_told 14 = .ok (.iconst 5, 1) := by decide +kernel
theorem dX12_told_15 : decode cX12_told 15 = .ok (.iadd, 1) := by decide +kernel
theorem dX12_told_16 : decode cX12_told 16 = .ok (.imul, 1) := by decide +kernel
theorem dX12_told_17 : decode cX12_told 17 = .ok (.iadd, 1) := by decide +kernel
theorem dX12_told_18 : decode cX12_told 18 = .ok (.iload_n 0, 1) := by decide +kernel
theorem dX12_told_19 : decode cX12_told 19 = .ok (.invokestatic 116, 3) := by decide +kernel
theorem dX12_told_22 : decode cX12_told 22 = .ok (.iadd, 1) := by decide +kernel
theorem dX12_told_23 : decode cX12_told 23 = .ok (.iconst 5, 1) := by decide +kernel
theorem dX12_told_24 : decode cX12_told 24 = .ok (.iadd, 1) := by decide +kernel
theorem dX12_told_25 : decode cX12_told 25 = .ok (.ireturn, 1) := by decide +kernel
theorem dX12_findLets_0 : decode cX12_findLets 0 = .ok (.iconst 0, 1) := by decide +kernel
theorem dX12_findLets_1 : decode cX12_findLets 1 = .ok (.istore_n 2, 1) := by decide +kernel
theorem dX12_findLets_2 : decode cX12_findLets 2 = .ok (.iload_n 2, 1) := by decide +kernel
theorem dX12_findLets_3 : decode cX12_findLets 3 = .ok (.sipush 726, 3) := by decide +kernel
theorem dX12_findLets_6 : decode cX12_findLets 6 = .ok (.if_icmp .ge 136, 3) := by decide +kernel
theorem dX12_findLets_9 : decode cX12_findLets 9 = .ok (.aload_n 0, 1) := by decide +kernel
theorem dX12_findLets_10 : decode cX12_findLets 10 = .ok (.getfield 19, 3) := by decide +kernel
theorem dX12_findLets_13 : decode cX12_findLets 13 = .ok (.iload_n 2, 1) := by decide +kernel
theorem dX12_findLets_14 : decode cX12_findLets 14 = .ok (.iconst 0, 1) := by decide +kernel
theorem dX12_findLets_15 : decode cX12_findLets 15 = .ok (.iastore, 1) := by decide +kernel
theorem dX12_findLets_16 : decode cX12_findLets 16 = .ok (.iconst 0, 1) := by decide +kernel
theorem dX12_findLets_17 : decode cX12_findLets 17 = .ok (.istore_n 3, 1) := by decide +kernel
theorem dX12_findLets_18 : decode cX12_findLets 18 = .ok (.iload_n 3, 1) := by decide +kernel
theorem dX12_findLets_19 : decode cX12_findLets 19 = .ok (.aload_n 0, 1) := by decide +kernel
theorem dX12_findLets_20 : decode cX12_findLets 20 = .ok (.getfield 7, 3) := by decide +kernel
theorem dX12_findLets_23 : decode cX12_findLets 23 = .ok (.iconst 0, 1) := by decide +kernel
theorem dX12_findLets_24 : decode cX12_findLets 24 = .ok (.iaload, 1) := by decide +kernel
theorem dX12_findLets_25 : decode cX12_findLets 25 = .ok (.if_icmp .ge 50, 3) := by decide +kernel
theorem dX12_findLets_28 : decode cX12_findLets 28 = .ok (.iload_n 1, 1) := by decide +kernel
theorem dX12_findLets_29 : decode cX12_findLets 29 = .ok (.iload_n 3, 1) := by decide +kernel
theorem dX12_findLets_30 : decode cX12_findLets 30 = .ok (.ishr, 1) := by decide +kernel
theorem dX12_findLets_31 : decode cX12_findLets 31 = .ok (.iconst 1, 1) := by decide +kernel
theorem dX12_findLets_32 : decode cX12_findLets 32 = .ok (.iand, 1) := by decide +kernel
theorem dX12_findLets_33 : decode cX12_findLets 33 = .ok (.iconst 1, 1) := by decide +kernel
theorem dX12_findLets_34 : decode cX12_findLets 34 = .ok (.if_icmp .ne 35, 3) := by decide +kernel
theorem dX12_findLets_37 : decode cX12_findLets 37 = .ok (.aload_n 0, 1) := by decide +kernel
theorem dX12_findLets_38 : decode cX12_findLets 38 = .ok (.iload_n 3, 1) := by decide +kernel
theorem dX12_findLets_39 : decode cX12_findLets 39 = .ok (.iload_n 2, 1) := by decide +kernel
theorem dX12_findLets_40 : decode cX12_findLets 40 = .ok (.invokestatic 116, 3) := by decide +kernel
theorem dX12_findLets_43 : decode cX12_findLets 43 = .ok (.iload_n 2, 1) := by decide +kernel
theorem dX12_findLets_44 : decode cX12_findLets 44 = .ok (.invokestatic 113, 3) := by decide +kernel
theorem dX12_findLets_47 : decode cX12_findLets 47 = .ok (.iload_n 2, 1) := by decide +kernel
theorem dX12_findLets_48 : decode cX12_findLets 48 = .ok (.invokestatic 110, 3) := by decide +kernel
theorem dX12_findLets_51 : decode cX12_findLets 51 = .ok (.invokevirtual 119, 3) := by decide +kernel
theorem dX12_findLets_54 : decode cX12_findLets 54 = .ok (.ifCond .eq 15, 3) := by decide +kernel
theorem dX12_findLets_57 : decode cX12_findLets 57 = .ok (.aload_n 0, 1) := by decide +kernel
theorem dX12_findLets_58 : decode cX12_findLets 58 = .ok (.getfield 19, 3) := by decide +kernel
theorem dX12_findLets_61 : decode cX12_findLets 61 = .ok (.iload_n 2, 1) := by decide +kernel
theorem dX12_findLets_62 : decode cX12_findLets 62 = .ok (.dup2, 1) := by decide +kernel
theorem dX12_findLets_63 : decode cX12_findLets 63 = .ok (.iaload, 1) := by decide +kernel
theorem dX12_findLets_64 : decode cX12_findLets 64 = .ok (.iconst 1, 1) := by decide +kernel
theorem dX12_findLets_65 : decode cX12_findLets 65 = .ok (.iload_n 3, 1) := by decide +kernel
theorem dX12_findLets_66 : decode cX12_findLets 66 = .ok (.ishl, 1) := by decide +kernel
theorem dX12_findLets_67 : decode cX12_findLets 67 = .ok (.ior, 1) := by decide +kernel
theorem dX12_findLets_68 : decode cX12_findLets 68 = .ok (.iastore, 1) := by decide +kernel
theorem dX12_findLets_69 : decode cX12_findLets 69 = .ok (.iinc 3 1, 3) := by decide +kernel
theorem dX12_findLets_72 : decode cX12_findLets 72 = .ok (.goto (-54), 3) := by decide +kernel
theorem dX12_findLets_75 : decode cX12_findLets 75 = .ok (.iconst 0, 1) := by decide +kernel
theorem dX12_findLets_76 : decode cX12_findLets 76 = .ok (.istore_n 3, 1) := by decide +kernel
theorem dX12_findLets_77 : decode cX12_findLets 77 = .ok (.iload_n 3, 1) := by decide +kernel
theorem dX12_findLets_78 : decode cX12_findLets 78 = .ok (.aload_n 0, 1) := by decide +kernel
theorem dX12_findLets_79 : decode cX12_findLets 79 = .ok (.getfield 7, 3) := by decide +kernel
theorem dX12_findLets_82 : decode cX12_findLets 82 = .ok (.iconst 1, 1) := by decide +kernel
theorem dX12_findLets_83 : decode cX12_findLets 83 = .ok (.iaload, 1) := by decide +kernel
theorem dX12_findLets_84 : decode cX12_findLets 84 = .ok (.if_icmp .ge 52, 3) := by decide +kernel
theorem dX12_findLets_87 : decode cX12_findLets 87 = .ok (.iload_n 1, 1) := by decide +kernel
theorem dX12_findLets_88 : decode cX12_findLets 88 = .ok (.bipush 12, 2) := by decide +kernel
theorem dX12_findLets_90 : decode cX12_findLets 90 = .ok (.iload_n 3, 1) := by decide +kernel
theorem dX12_findLets_91 : decode cX12_findLets 91 = .ok (.iadd, 1) := by decide +kernel
theorem dX12_findLets_92 : decode cX12_findLets 92 = .ok (.ishr, 1) := by decide +kernel
theorem dX12_findLets_93 : decode cX12_findLets 93 = .ok (.iconst 1, 1) := by decide +kernel
theorem dX12_findLets_94 : decode cX12_findLets 94 = .ok (.iand, 1) := by decide +kernel
theorem dX12_findLets_95 : decode cX12_findLets 95 = .ok (.iconst 1, 1) := by decide +kernel
theorem dX12_findLets_96 : decode cX12_findLets 96 = .ok (.if_icmp .ne 34, 3) := by decide +kernel
theorem dX12_findLets_99 : decode cX12_findLets 99 = .ok (.aload_n 0, 1) := by decide +kernel
theorem dX12_findLets_100 : decode cX12_findLets 100 = .ok (.iload_n 3, 1) := by decide +kernel
theorem dX12_findLets_101 : decode cX12_findLets 101 = .ok (.iload_n 2, 1) := by decide +kernel
theorem dX12_findLets_102 : decode cX12_findLets 102 = .ok (.invokestatic 116, 3) := by decide +kernel
theorem dX12_findLets_105 : decode cX12_findLets 105 = .ok (.iload_n 2, 1) := by decide +kernel
theorem dX12_findLets_106 : decode cX12_findLets 106 = .ok (.invokestatic 113, 3) := by decide +kernel
theorem dX12_findLets_109 : decode cX12_findLets 109 = .ok (.invokevirtual 123, 3) := by decide +kernel
theorem dX12_findLets_112 : decode cX12_findLets 112 = .ok (.ifCond .eq 18, 3) := by decide +kernel
theorem dX12_findLets_115 : decode cX12_findLets 115 = .ok (.aload_n 0, 1) := by decide +kernel
theorem dX12_findLets_116 : decode cX12_findLets 116 = .ok (.getfield 19, 3) := by decide +kernel
theorem dX12_findLets_119 : decode cX12_findLets 119 = .ok (.iload_n 2, 1) := by decide +kernel
theorem dX12_findLets_120 : decode cX12_findLets 120 = .ok (.dup2, 1) := by decide +kernel
theorem dX12_findLets_121 : decode cX12_findLets 121 = .ok (.iaload, 1) := by decide +kernel
theorem dX12_findLets_122 : decode cX12_findLets 122 = .ok (.iconst 1, 1) := by decide +kernel
theorem dX12_findLets_123 : decode cX12_findLets 123 = .ok (.bipush 12, 2) := by decide +kernel
theorem dX12_findLets_125 : decode cX12_findLets 125 = .ok (.iload_n 3, 1) := by decide +kernel
theorem dX12_findLets_126 : decode cX12_findLets 126 = .ok (.iadd, 1) := by decide +kernel
theorem dX12_findLets_127 : decode cX12_findLets 127 = .ok (.ishl, 1) := by decide +kernel
theorem dX12_findLets_128 : decode cX12_findLets 128 = .ok (.ior, 1) := by decide +kernel
theorem dX12_findLets_129 : decode cX12_findLets 129 = .ok (.iastore, 1) := by decide +kernel
theorem dX12_findLets_130 : decode cX12_findLets 130 = .ok (.iinc 3 1, 3) := by decide +kernel
theorem dX12_findLets_133 : decode cX12_findLets 133 = .ok (.goto (-56), 3) := by decide +kernel
theorem dX12_findLets_136 : decode cX12_findLets 136 = .ok (.iinc 2 1, 3) := by decide +kernel
theorem dX12_findLets_139 : decode cX12_findLets 139 = .ok (.goto (-137), 3) := by decide +kernel
theorem dX12_findLets_142 : decode cX12_findLets 142 = .ok (.return_, 1) := by decide +kernel
theorem dX12_areSigns_0 : decode cX12_areSigns 0 = .ok (.iconst 1, 1) := by decide +kernel
theorem dX12_areSigns_1 : decode cX12_areSigns 1 = .ok (.aload_n 0, 1) := by decide +kernel
theorem dX12_areSigns_2 : decode cX12_areSigns 2 = .ok (.getfield 7, 3) := by decide +kernel
theorem dX12_areSigns_5 : decode cX12_areSigns 5 = .ok (.iconst 0, 1) := by decide +kernel
theorem dX12_areSigns_6 : decode cX12_areSigns 6 = .ok (.iaload, 1) := by decide +kernel
theorem dX12_areSigns_7 : decode cX12_areSigns 7 = .ok (.ishl, 1) := by decide +kernel
theorem dX12_areSigns_8 : decode cX12_areSigns 8 = .ok (.iconst 1, 1) := by decide +kernel
theorem dX12_areSigns_9 : decode cX12_areSigns 9 = .ok (.isub, 1) := by decide +kernel
theorem dX12_areSigns_10 : decode cX12_areSigns 10 = .ok (.iconst 1, 1) := by decide +kernel
theorem dX12_areSigns_11 : decode cX12_areSigns 11 = .ok (.aload_n 0, 1) := by decide +kernel
theorem dX12_areSigns_12 : decode cX12_areSigns 12 = .ok (.getfield 7, 3) := by decide +kernel
theorem dX12_areSigns_15 : decode cX12_areSigns 15 = .ok (.iconst 1, 1) := by decide +kernel
theorem dX12_areSigns_16 : decode cX12_areSigns 16 = .ok (.iaload, 1) := by decide +kernel
theorem dX12_areSigns_17 : decode cX12_areSigns 17 = .ok (.ishl, 1) := by decide +kernel
theorem dX12_areSigns_18 : decode cX12_areSigns 18 = .ok (.iconst 1, 1) := by decide +kernel
theorem dX12_areSigns_19 : decode cX12_areSigns 19 = .ok (.isub, 1) := by decide +kernel
theorem dX12_areSigns_20 : decode cX12_areSigns 20 = .ok (.bipush 12, 2) := by decide +kernel
theorem dX12_areSigns_22 : decode cX12_areSigns 22 = .ok (.ishl, 1) := by decide +kernel
theorem dX12_areSigns_23 : decode cX12_areSigns 23 = .ok (.ior, 1) := by decide +kernel
theorem dX12_areSigns_24 : decode cX12_areSigns 24 = .ok (.istore_n 2, 1) := by decide +kernel
theorem dX12_areSigns_25 : decode cX12_areSigns 25 = .ok (.iload_n 1, 1) := by decide +kernel
theorem dX12_areSigns_26 : decode cX12_areSigns 26 = .ok (.ifCond .lt 15, 3) := by decide +kernel
theorem dX12_areSigns_29 : decode cX12_areSigns 29 = .ok (.iload_n 1, 1) := by decide +kernel
theorem dX12_areSigns_30 : decode cX12_areSigns 30 = .ok (.iload_n 2, 1) := by decide +kernel
theorem dX12_areSigns_31 : decode cX12_areSigns 31 = .ok (.iconst (-1), 1) := by decide +kernel
theorem dX12_areSigns_32 : decode cX12_areSigns 32 = .ok (.ixor, 1) := by decide +kernel
theorem dX12_areSigns_33 : decode cX12_areSigns 33 = .ok (.iand, 1) := by decide +kernel
theorem dX12_areSigns_34 : decode cX12_areSigns 34 = .ok (.ifCond .ne 7, 3) := by decide +kernel
theorem dX12_areSigns_37 : decode cX12_areSigns 37 = .ok (.iconst 1, 1) := by decide +kernel
theorem dX12_areSigns_38 : decode cX12_areSigns 38 = .ok (.goto 4, 3) := by decide +kernel
theorem dX12_areSigns_41 : decode cX12_areSigns 41 = .ok (.iconst 0, 1) := by decide +kernel
theorem dX12_areSigns_42 : decode cX12_areSigns 42 = .ok (.ireturn, 1) := by decide +kernel
theorem dX12_lamps_0 : decode cX12_lamps 0 = .ok (.aload_n 0, 1) := by decide +kernel
theorem dX12_lamps_1 : decode cX12_lamps 1 = .ok (.iload_n 1, 1) := by decide +kernel
theorem dX12_lamps_2 : decode cX12_lamps 2 = .ok (.invokevirtual 126, 3) := by decide +kernel
theorem dX12_lamps_5 : decode cX12_lamps 5 = .ok (.ifCond .eq 8, 3) := by decide +kernel
theorem dX12_lamps_8 : decode cX12_lamps 8 = .ok (.iload_n 2, 1) := by decide +kernel
theorem dX12_lamps_9 : decode cX12_lamps 9 = .ok (.iconst (-1), 1) := by decide +kernel
theorem dX12_lamps_10 : decode cX12_lamps 10 = .ok (.if_icmp .ge 5, 3) := by decide +kernel
theorem dX12_lamps_13 : decode cX12_lamps 13 = .ok (.iconst (-1), 1) := by decide +kernel
theorem dX12_lamps_14 : decode cX12_lamps 14 = .ok (.ireturn, 1) := by decide +kernel
theorem dX12_lamps_15 : decode cX12_lamps 15 = .ok (.aload_n 0, 1) := by decide +kernel
theorem dX12_lamps_16 : decode cX12_lamps 16 = .ok (.iload_n 1, 1) := by decide +kernel
theorem dX12_lamps_17 : decode cX12_lamps 17 = .ok (.invokevirtual 129, 3) := by decide +kernel
theorem dX12_lamps_20 : decode cX12_lamps 20 = .ok (.iconst 0, 1) := by decide +kernel
theorem dX12_lamps_21 : decode cX12_lamps 21 = .ok (.istore_n 3, 1) := by decide +kernel
theorem dX12_lamps_22 : decode cX12_lamps 22 = .ok (.iconst 0, 1) := by decide +kernel
theorem dX12_lamps_23 : decode cX12_lamps 23 = .ok (.istore 4, 2) := by decide +kernel
theorem dX12_lamps_25 : decode cX12_lamps 25 = .ok (.iload 4, 2) := by decide +kernel
theorem dX12_lamps_27 : decode cX12_lamps 27 = .ok (.sipush 726, 3) := by decide +kernel
theorem dX12_lamps_30 : decode cX12_lamps 30 = .ok (.if_icmp .ge 37, 3) := by decide +kernel
theorem dX12_lamps_33 : decode cX12_lamps 33 = .ok (.aload_n 0, 1) := by decide +kernel
theorem dX12_lamps_34 : decode cX12_lamps 34 = .ok (.getfield 19, 3) := by decide +kernel
theorem dX12_lamps_37 : decode cX12_lamps 37 = .ok (.iload 4, 2) := by decide +kernel
theorem dX12_lamps_39 : decode cX12_lamps 39 = .ok (.iaload, 1) := by decide +kernel
theorem dX12_lamps_40 : decode cX12_lamps 40 = .ok (.iload_n 1, 1) := by decide +kernel
theorem dX12_lamps_41 : decode cX12_lamps 41 = .ok (.if_icmp .eq 6, 3) := by decide +kernel
theorem dX12_lamps_44 : decode cX12_lamps 44 = .ok (.goto 17, 3) := by decide +kernel
theorem dX12_lamps_47 : decode cX12_lamps 47 = .ok (.iload_n 3, 1) := by decide +kernel
theorem dX12_lamps_48 : decode cX12_lamps 48 = .ok (.iload_n 2, 1) := by decide +kernel
theorem dX12_lamps_49 : decode cX12_lamps 49 = .ok (.if_icmp .ne 9, 3) := by decide +kernel
theorem dX12_lamps_52 : decode cX12_lamps 52 = .ok (.iload 4, 2) := by decide +kernel
theorem dX12_lamps_54 : decode cX12_lamps 54 = .ok (.invokestatic 133, 3) := by decide +kernel
theorem dX12_lamps_57 : decode cX12_lamps 57 = .ok (.ireturn, 1) := by decide +kernel
theorem dX12_lamps_58 : decode cX12_lamps 58 = .ok (.iinc 3 1, 3) := by decide +kernel
theorem dX12_lamps_61 : decode cX12_lamps 61 = .ok (.iinc 4 1, 3) := by decide +kernel
theorem dX12_lamps_64 : decode cX12_lamps 64 = .ok (.goto (-39), 3) := by decide +kernel
theorem dX12_lamps_67 : decode cX12_lamps 67 = .ok (.iload_n 2, 1) := by decide +kernel
theorem dX12_lamps_68 : decode cX12_lamps 68 = .ok (.iconst (-1), 1) := by decide +kernel
theorem dX12_lamps_69 : decode cX12_lamps 69 = .ok (.if_icmp .ne 7, 3) := by decide +kernel
theorem dX12_lamps_72 : decode cX12_lamps 72 = .ok (.iload_n 3, 1) := by decide +kernel
theorem dX12_lamps_73 : decode cX12_lamps 73 = .ok (.goto 4, 3) := by decide +kernel
theorem dX12_lamps_76 : decode cX12_lamps 76 = .ok (.iconst (-1), 1) := by decide +kernel
theorem dX12_lamps_77 : decode cX12_lamps 77 = .ok (.ireturn, 1) := by decide +kernel
theorem dX12_fight_0 : decode cX12_fight 0 = .ok (.aload_n 0, 1) := by decide +kernel
theorem dX12_fight_1 : decode cX12_fight 1 = .ok (.iload_n 1, 1) := by decide +kernel
theorem dX12_fight_2 : decode cX12_fight 2 = .ok (.invokevirtual 126, 3) := by decide +kernel
theorem dX12_fight_5 : decode cX12_fight 5 = .ok (.ifCond .eq 12, 3) := by decide +kernel
theorem dX12_fight_8 : decode cX12_fight 8 = .ok (.iload_n 2, 1) := by decide +kernel
theorem dX12_fight_9 : decode cX12_fight 9 = .ok (.iconst 0, 1) := by decide +kernel
theorem dX12_fight_10 : decode cX12_fight 10 = .ok (.iconst 2, 1) := by decide +kernel
theorem dX12_fight_11 : decode cX12_fight 11 = .ok (.invokestatic 79, 3) := by decide +kernel
theorem dX12_fight_14 : decode cX12_fight 14 = .ok (.ifCond .ne 5, 3) := by decide +kernel
theorem dX12_fight_17 : decode cX12_fight 17 = .ok (.iconst (-1), 1) := by decide +kernel
theorem dX12_fight_18 : decode cX12_fight 18 = .ok (.ireturn, 1) := by decide +kernel
theorem dX12_fight_19 : decode cX12_fight 19 = .ok (.aload_n 0, 1) := by decide +kernel
theorem dX12_fight_20 : decode cX12_fight 20 = .ok (.iload_n 1, 1) := by decide +kernel
theorem dX12_fight_21 : decode cX12_fight 21 = .ok (.invokevirtual 129, 3) := by decide +kernel
theorem dX12_fight_24 : decode cX12_fight 24 = .ok (.iconst 0, 1) := by decide +kernel
theorem dX12_fight_25 : decode cX12_fight 25 = .ok (.istore_n 3, 1) := by decide +kernel
theorem dX12_fight_26 : decode cX12_fight 26 = .ok (.iconst 1, 1) := by decide +kernel
theorem dX12_fight_27 : decode cX12_fight 27 = .ok (.istore 4, 2) := by decide +kernel
theorem dX12_fight_29 : decode cX12_fight 29 = .ok (.iload 4, 2) := by decide +kernel
theorem dX12_fight_31 : decode cX12_fight 31 = .ok (.sipush 726, 3) := by decide +kernel
theorem dX12_fight_34 : decode cX12_fight 34 = .ok (.if_icmp .ge 34, 3) := by decide +kernel
theorem dX12_fight_37 : decode cX12_fight 37 = .ok (.aload_n 0, 1) := by decide +kernel
theorem dX12_fight_38 : decode cX12_fight 38 = .ok (.getfield 19, 3) := by decide +kernel
theorem dX12_fight_41 : decode cX12_fight 41 = .ok (.iload 4, 2) := by decide +kernel
theorem dX12_fight_43 : decode cX12_fight 43 = .ok (.iaload, 1) := by decide +kernel
theorem dX12_fight_44 : decode cX12_fight 44 = .ok (.invokestatic 136, 3) := by decide +kernel
theorem dX12_fight_47 : decode cX12_fight 47 = .ok (.aload_n 0, 1) := by decide +kernel
theorem dX12_fight_48 : decode cX12_fight 48 = .ok (.getfield 19, 3) := by decide +kernel
theorem dX12_fight_51 : decode cX12_fight 51 = .ok (.iload_n 3, 1) := by decide +kernel
theorem dX12_fight_52 : decode cX12_fight 52 = .ok (.iaload, 1) := by decide +kernel
theorem dX12_fight_53 : decode cX12_fight 53 = .ok (.invokestatic 136, 3) := by decide +kernel
theorem dX12_fight_56 : decode cX12_fight 56 = .ok (.if_icmp .le 6, 3) := by decide +kernel
theorem dX12_fight_59 : decode cX12_fight 59 = .ok (.iload 4, 2) := by decide +kernel
theorem dX12_fight_61 : decode cX12_fight 61 = .ok (.istore_n 3, 1) := by decide +kernel
theorem dX12_fight_62 : decode cX12_fight 62 = .ok (.iinc 4 1, 3) := by decide +kernel
theorem dX12_fight_65 : decode cX12_fight 65 = .ok (.goto (-36), 3) := by decide +kernel
theorem dX12_fight_68 : decode cX12_fight 68 = .ok (.iload_n 2, 1) := by decide +kernel
theorem dX12_fight_69 : decode cX12_fight 69 = .ok (.ifCond .ne 10, 3) := by decide +kernel
theorem dX12_fight_72 : decode cX12_fight 72 = .ok (.iload_n 3, 1) := by decide +kernel
theorem dX12_fight_73 : decode cX12_fight 73 = .ok (.invokestatic 133, 3) := by decide +kernel
theorem dX12_fight_76 : decode cX12_fight 76 = .ok (.goto 30, 3) := by decide +kernel
theorem dX12_fight_79 : decode cX12_fight 79 = .ok (.iload_n 2, 1) := by decide +kernel
theorem dX12_fight_80 : decode cX12_fight 80 = .ok (.iconst 1, 1) := by decide +kernel
theorem dX12_fight_81 : decode cX12_fight 81 = .ok (.if_icmp .ne 15, 3) := by decide +kernel
theorem dX12_fight_84 : decode cX12_fight 84 = .ok (.aload_n 0, 1) := by decide +kernel
theorem dX12_fight_85 : decode cX12_fight 85 = .ok (.getfield 19, 3) := by decide +kernel
theorem dX12_fight_88 : decode cX12_fight 88 = .ok (.iload_n 3, 1) := by decide +kernel
theorem dX12_fight_89 : decode cX12_fight 89 = .ok (.iaload, 1) := by decide +kernel
theorem dX12_fight_90 : decode cX12_fight 90 = .ok (.invokestatic 136, 3) := by decide +kernel
theorem dX12_fight_93 : decode cX12_fight 93 = .ok (.goto 13, 3) := by decide +kernel
theorem dX12_fight_96 : decode cX12_fight 96 = .ok (.iload_n 1, 1) := by decide +kernel
theorem dX12_fight_97 : decode cX12_fight 97 = .ok (.aload_n 0, 1) := by decide +kernel
theorem dX12_fight_98 : decode cX12_fight 98 = .ok (.getfield 19, 3) := by decide +kernel
theorem dX12_fight_101 : decode cX12_fight 101 = .ok (.iload_n 3, 1) := by decide +kernel
theorem dX12_fight_102 : decode cX12_fight 102 = .ok (.iaload, 1) := by decide +kernel
theorem dX12_fight_103 : decode cX12_fight 103 = .ok (.iconst (-1), 1) := by decide +kernel
theorem dX12_fight_104 : decode cX12_fight 104 = .ok (.ixor, 1) := by decide +kernel
theorem dX12_fight_105 : decode cX12_fight 105 = .ok (.iand, 1) := by decide +kernel
theorem dX12_fight_106 : decode cX12_fight 106 = .ok (.ireturn, 1) := by decide +kernel
theorem dX12_areEnough_0 : decode cX12_areEnough 0 = .ok (.iload_n 2, 1) := by decide +kernel
theorem dX12_areEnough_1 : decode cX12_areEnough 1 = .ok (.ifCond .ne 13, 3) := by decide +kernel
theorem dX12_areEnough_4 : decode cX12_areEnough 4 = .ok (.iload_n 1, 1) := by decide +kernel
theorem dX12_areEnough_5 : decode cX12_areEnough 5 = .ok (.ifCond .ne 7, 3) := by decide +kernel
theorem dX12_areEnough_8 : decode cX12_areEnough 8 = .ok (.iconst 1, 1) := by decide +kernel
theorem dX12_areEnough_9 : decode cX12_areEnough 9 = .ok (.goto 4, 3) := by decide +kernel
theorem dX12_areEnough_12 : decode cX12_areEnough 12 = .ok (.iconst 0, 1) := by decide +kernel
theorem dX12_areEnough_13 : decode cX12_areEnough 13 = .ok (.ireturn, 1) := by decide +kernel
theorem dX12_areEnough_14 : decode cX12_areEnough 14 = .ok (.iconst 0, 1) := by decide +kernel
theorem dX12_areEnough_15 : decode cX12_areEnough 15 = .ok (.istore_n 3, 1) := by decide +kernel
theorem dX12_areEnough_16 : decode cX12_areEnough 16 = .ok (.iload_n 3, 1) := by decide +kernel
theorem dX12_areEnough_17 : decode cX12_areEnough 17 = .ok (.sipush 726, 3) := by decide +kernel
theorem dX12_areEnough_20 : decode cX12_areEnough 20 = .ok (.if_icmp .ge 138, 3) := by decide +kernel
theorem dX12_areEnough_23 : decode cX12_areEnough 23 = .ok (.iload_n 1, 1) := by decide +kernel
theorem dX12_areEnough_24 : decode cX12_areEnough 24 = .ok (.aload_n 0, 1) := by decide +kernel
theorem dX12_areEnough_25 : decode cX12_areEnough 25 = .ok (.getfield 19, 3) := by decide +kernel
theorem dX12_areEnough_28 : decode cX12_areEnough 28 = .ok (.iload_n 3, 1) := by decide +kernel
theorem dX12_areEnough_29 : decode cX12_areEnough 29 = .ok (.iaload, 1) := by decide +kernel
theorem dX12_areEnough_30 : decode cX12_areEnough 30 = .ok (.iconst (-1), 1) := by decide +kernel
theorem dX12_areEnough_31 : decode cX12_areEnough 31 = .ok (.ixor, 1) := by decide +kernel
theorem dX12_areEnough_32 : decode cX12_areEnough 32 = .ok (.iand, 1) := by decide +kernel
theorem dX12_areEnough_33 : decode cX12_areEnough 33 = .ok (.istore 4, 2) := by decide +kernel
theorem dX12_areEnough_35 : decode cX12_areEnough 35 = .ok (.aload_n 0, 1) := by decide +kernel
theorem dX12_areEnough_36 : decode cX12_areEnough 36 = .ok (.getfield 22, 3) := by decide +kernel
theorem dX12_areEnough_39 : decode cX12_areEnough 39 = .ok (.iconst 0, 1) := by decide +kernel
theorem dX12_areEnough_40 : decode cX12_areEnough 40 = .ok (.iload_n 3, 1) := by decide +kernel
theorem dX12_areEnough_41 : decode cX12_areEnough 41 = .ok (.iastore, 1) := by decide +kernel
theorem dX12_areEnough_42 : decode cX12_areEnough 42 = .ok (.iload_n 2, 1) := by decide +kernel
theorem dX12_areEnough_43 : decode cX12_areEnough 43 = .ok (.iconst 1, 1) := by decide +kernel
theorem dX12_areEnough_44 : decode cX12_areEnough 44 = .ok (.if_icmp .ne 10, 3) := by decide +kernel
theorem dX12_areEnough_47 : decode cX12_areEnough 47 = .ok (.iload 4, 2) := by decide +kernel
theorem dX12_areEnough_49 : decode cX12_areEnough 49 = .ok (.ifCond .ne 103, 3) := by decide +kernel
theorem dX12_areEnough_52 : decode cX12_areEnough 52 = .ok (.iconst 1, 1) := by decide +kernel
theorem dX12_areEnough_53 : decode cX12_areEnough 53 = .ok (.ireturn, 1) := by decide +kernel
theorem dX12_areEnough_54 : decode cX12_areEnough 54 = .ok (.iload_n 3, 1) := by decide +kernel
theorem dX12_areEnough_55 : decode cX12_areEnough 55 = .ok (.iconst 1, 1) := by decide +kernel
theorem dX12_areEnough_56 : decode cX12_areEnough 56 = .ok (.iadd, 1) := by decide +kernel
theorem dX12_areEnough_57 : decode cX12_areEnough 57 = .ok (.istore 5, 2) := by decide +kernel
theorem dX12_areEnough_59 : decode cX12_areEnough 59 = .ok (.iload 5, 2) := by decide +kernel
theorem dX12_areEnough_61 : decode cX12_areEnough 61 = .ok (.sipush 726, 3) := by decide +kernel
theorem dX12_areEnough_64 : decode cX12_areEnough 64 = .ok (.if_icmp .ge 88, 3) := by decide +kernel
theorem dX12_areEnough_67 : decode cX12_areEnough 67 = .ok (.iload 4, 2) := by decide +kernel
theorem dX12_areEnough_69 : decode cX12_areEnough 69 = .ok (.aload_n 0, 1) := by decide +kernel
theorem dX12_areEnough_70 : decode cX12_areEnough 70 = .ok (.getfield 19, 3) := by decide +kernel
theorem dX12_areEnough_73 : decode cX12_areEnough 73 = .ok (.iload 5, 2) := by decide +kernel
theorem dX12_areEnough_75 : decode cX12_areEnough 75 = .ok (.iaload, 1) := by decide +kernel
theorem dX12_areEnough_76 : decode cX12_areEnough 76 = .ok (.iconst (-1), 1) := by decide +kernel
theorem dX12_areEnough_77 : decode cX12_areEnough 77 = .ok (.ixor, 1) := by decide +kernel
theorem dX12_areEnough_78 : decode cX12_areEnough 78 = .ok (.iand, 1) := by decide +kernel
theorem dX12_areEnough_79 : decode cX12_areEnough 79 = .ok (.istore 6, 2) := by decide +kernel
theorem dX12_areEnough_81 : decode cX12_areEnough 81 = .ok (.aload_n 0, 1) := by decide +kernel
theorem dX12_areEnough_82 : decode cX12_areEnough 82 = .ok (.getfield 22, 3) := by decide +kernel
theorem dX12_areEnough_85 : decode cX12_areEnough 85 = .ok (.iconst 1, 1) := by decide +kernel
theorem dX12_areEnough_86 : decode cX12_areEnough 86 = .ok (.iload 5, 2) := by decide +kernel
theorem dX12_areEnough_88 : decode cX12_areEnough 88 = .ok (.iastore, 1) := by decide +kernel
theorem dX12_areEnough_89 : decode cX12_areEnough 89 = .ok (.iload_n 2, 1) := by decide +kernel
theorem dX12_areEnough_90 : decode cX12_areEnough 90 = .ok (.iconst 2, 1) := by decide +kernel
theorem dX12_areEnough_91 : decode cX12_areEnough 91 = .ok (.if_icmp .ne 10, 3) := by decide +kernel
theorem dX12_areEnough_94 : decode cX12_areEnough 94 = .ok (.iload 6, 2) := by decide +kernel
theorem dX12_areEnough_96 : decode cX12_areEnough 96 = .ok (.ifCond .ne 50, 3) := by decide +kernel
theorem dX12_areEnough_99 : decode cX12_areEnough 99 = .ok (.iconst 1, 1) := by decide +kernel
theorem dX12_areEnough_100 : decode cX12_areEnough 100 = .ok (.ireturn, 1) := by decide +kernel
theorem dX12_areEnough_101 : decode cX12_areEnough 101 = .ok (.iload 5, 2) := by decide +kernel
theorem dX12_areEnough_103 : decode cX12_areEnough 103 = .ok (.iconst 1, 1) := by decide +kernel
theorem dX12_areEnough_104 : decode cX12_areEnough 104 = .ok (.iadd, 1) := by decide +kernel
theorem dX12_areEnough_105 : decode cX12_areEnough 105 = .ok (.istore 7, 2) := by decide +kernel
theorem dX12_areEnough_107 : decode cX12_areEnough 107 = .ok (.iload 7, 2) := by decide +kernel
theorem dX12_areEnough_109 : decode cX12_areEnough 109 = .ok (.sipush 726, 3) := by decide +kernel
theorem dX12_areEnough_112 : decode cX12_areEnough 112 = .ok (.if_icmp .ge 34, 3) := by decide +kernel
theorem dX12_areEnough_115 : decode cX12_areEnough 115 = .ok (.aload_n 0, 1) := by decide +kernel
theorem dX12_areEnough_116 : decode cX12_areEnough 116 = .ok (.getfield 22, 3) := by decide +kernel
theorem dX12_areEnough_119 : decode cX12_areEnough 119 = .ok (.iconst 2, 1) := by decide +kernel
theorem dX12_areEnough_120 : decode cX12_areEnough 120 = .ok (.iload 7, 2) := by decide +kernel
theorem dX12_areEnough_122 : decode cX12_areEnough 122 = .ok (.iastore, 1) := by decide +kernel
theorem dX12_areEnough_123 : decode cX12_areEnough 123 = .ok (.iload 6, 2) := by decide +kernel
theorem dX12_areEnough_125 : decode cX12_areEnough 125 = .ok (.aload_n 0, 1) := by decide +kernel
theorem dX12_areEnough_126 : decode cX12_areEnough 126 = .ok (.getfield 19, 3) := by decide +kernel
theorem dX12_areEnough_129 : decode cX12_areEnough 129 = .ok (.iload 7, 2) := by decide +kernel
theorem dX12_areEnough_131 : decode cX12_areEnough 131 = .ok (.iaload, 1) := by decide +kernel
theorem dX12_areEnough_132 : decode cX12_areEnough 132 = .ok (.iconst (-1), 1) := by decide +kernel
theorem dX12_areEnough_133 : decode cX12_areEnough 133 = .ok (.ixor, 1) := by decide +kernel
theorem dX12_areEnough_134 : decode cX12_areEnough 134 = .ok (.iand, 1) := by decide +kernel
theorem dX12_areEnough_135 : decode cX12_areEnough 135 = .ok (.ifCond .ne 5, 3) := by decide +kernel
theorem dX12_areEnough_138 : decode cX12_areEnough 138 = .ok (.iconst 1, 1) := by decide +kernel
theorem dX12_areEnough_139 : decode cX12_areEnough 139 = .ok (.ireturn, 1) := by decide +kernel
theorem dX12_areEnough_140 : decode cX12_areEnough 140 = .ok (.iinc 7 1, 3) := by decide +kernel
theorem dX12_areEnough_143 : decode cX12_areEnough 143 = .ok (.goto (-36), 3) := by decide +kernel
theorem dX12_areEnough_146 : decode cX12_areEnough 146 = .ok (.iinc 5 1, 3) := by decide +kernel
theorem dX12_areEnough_149 : decode cX12_areEnough 149 = .ok (.goto (-90), 3) := by decide +kernel
theorem dX12_areEnough_152 : decode cX12_areEnough 152 = .ok (.iinc 3 1, 3) := by decide +kernel
theorem dX12_areEnough_155 : decode cX12_areEnough 155 = .ok (.goto (-139), 3) := by decide +kernel
theorem dX12_areEnough_158 : decode cX12_areEnough 158 = .ok (.iconst 0, 1) := by decide +kernel
theorem dX12_areEnough_159 : decode cX12_areEnough 159 = .ok (.ireturn, 1) := by decide +kernel
theorem dX12_suns_0 : decode cX12_suns 0 = .ok (.aload_n 0, 1) := by decide +kernel
theorem dX12_suns_1 : decode cX12_suns 1 = .ok (.iload_n 1, 1) := by decide +kernel
theorem dX12_suns_2 : decode cX12_suns 2 = .ok (.invokevirtual 126, 3) := by decide +kernel
theorem dX12_suns_5 : decode cX12_suns 5 = .ok (.ifCond .eq 12, 3) := by decide +kernel
theorem dX12_suns_8 : decode cX12_suns 8 = .ok (.iload_n 2, 1) := by decide +kernel
theorem dX12_suns_9 : decode cX12_suns 9 = .ok (.iconst (-1), 1) := by decide +kernel
theorem dX12_suns_10 : decode cX12_suns 10 = .ok (.iconst 2, 1) := by decide +kernel
theorem dX12_suns_11 : decode cX12_suns 11 = .ok (.invokestatic 79, 3) := by decide +kernel
theorem dX12_suns_14 : decode cX12_suns 14 = .ok (.ifCond .ne 5, 3) := by decide +kernel
theorem dX12_suns_17 : decode cX12_suns 17 = .ok (.iconst (-1), 1) := by decide +kernel
theorem dX12_suns_18 : decode cX12_suns 18 = .ok (.ireturn, 1) := by decide +kernel
theorem dX12_suns_19 : decode cX12_suns 19 = .ok (.aload_n 0, 1) := by decide +kernel
theorem dX12_suns_20 : decode cX12_suns 20 = .ok (.iload_n 1, 1) := by decide +kernel
theorem dX12_suns_21 : decode cX12_suns 21 = .ok (.invokevirtual 129, 3) := by decide +kernel
theorem dX12_suns_24 : decode cX12_suns 24 = .ok (.iconst 0, 1) := by decide +kernel
theorem dX12_suns_25 : decode cX12_suns 25 = .ok (.istore_n 3, 1) := by decide +kernel
theorem dX12_suns_26 : decode cX12_suns 26 = .ok (.iload_n 3, 1) := by decide +kernel
theorem dX12_suns_27 : decode cX12_suns 27 = .ok (.iconst 4, 1) := by decide +kernel
theorem dX12_suns_28 : decode cX12_suns 28 = .ok (.if_icmp .ge 18, 3) := by decide +kernel
theorem dX12_suns_31 : decode cX12_suns 31 = .ok (.aload_n 0, 1) := by decide +kernel
theorem dX12_suns_32 : decode cX12_suns 32 = .ok (.iload_n 1, 1) := by decide +kernel
theorem dX12_suns_33 : decode cX12_suns 33 = .ok (.iload_n 3, 1) := by decide +kernel
theorem dX12_suns_34 : decode cX12_suns 34 = .ok (.invokevirtual 139, 3) := by decide +kernel
theorem dX12_suns_37 : decode cX12_suns 37 = .ok (.ifCond .ne 9, 3) := by decide +kernel
theorem dX12_suns_40 : decode cX12_suns 40 = .ok (.iinc 3 1, 3) := by decide +kernel
theorem dX12_suns_43 : decode cX12_suns 43 = .ok (.goto (-17), 3) := by decide +kernel
theorem dX12_suns_46 : decode cX12_suns 46 = .ok (.iload_n 3, 1) := by decide +kernel
theorem dX12_suns_47 : decode cX12_suns 47 = .ok (.iconst 4, 1) := by decide +kernel
theorem dX12_suns_48 : decode cX12_suns 48 = .ok (.if_icmp .ne 5, 3) := by decide +kernel
theorem dX12_suns_51 : decode cX12_suns 51 = .ok (.iconst (-1), 1) := by decide +kernel
theorem dX12_suns_52 : decode cX12_suns 52 = .ok (.ireturn, 1) := by decide +kernel
theorem dX12_suns_53 : decode cX12_suns 53 = .ok (.iload_n 2, 1) := by decide +kernel
theorem dX12_suns_54 : decode cX12_suns 54 = .ok (.iconst (-1), 1) := by decide +kernel
theorem dX12_suns_55 : decode cX12_suns 55 = .ok (.if_icmp .ne 7, 3) := by decide +kernel
theorem dX12_suns_58 : decode cX12_suns 58 = .ok (.iload_n 3, 1) := by decide +kernel
theorem dX12_suns_59 : decode cX12_suns 59 = .ok (.goto 21, 3) := by decide +kernel
theorem dX12_suns_62 : decode cX12_suns 62 = .ok (.iload_n 2, 1) := by decide +kernel
theorem dX12_suns_63 : decode cX12_suns 63 = .ok (.iload_n 3, 1) := by decide +kernel
theorem dX12_suns_64 : decode cX12_suns 64 = .ok (.if_icmp .ge 15, 3) := by decide +kernel
theorem dX12_suns_67 : decode cX12_suns 67 = .ok (.aload_n 0, 1) := by decide +kernel
theorem dX12_suns_68 : decode cX12_suns 68 = .ok (.getfield 22, 3) := by decide +kernel
theorem dX12_suns_71 : decode cX12_suns 71 = .ok (.iload_n 2, 1) := by decide +kernel
theorem dX12_suns_72 : decode cX12_suns 72 = .ok (.iaload, 1) := by decide +kernel
theorem dX12_suns_73 : decode cX12_suns 73 = .ok (.invokestatic 133, 3) := by decide +kernel
theorem dX12_suns_76 : decode cX12_suns 76 = .ok (.goto 4, 3) := by decide +kernel
theorem dX12_suns_79 : decode cX12_suns 79 = .ok (.iconst (-1), 1) := by decide +kernel
theorem dX12_suns_80 : decode cX12_suns 80 = .ok (.ireturn, 1) := by decide +kernel
theorem dX12_isFar_0 : decode cX12_isFar 0 = .ok (.iload_n 0, 1) := by decide +kernel
theorem dX12_isFar_1 : decode cX12_isFar 1 = .ok (.bipush (-99), 2) := by decide +kernel
theorem dX12_isFar_3 : decode cX12_isFar 3 = .ok (.bipush 99, 2) := by decide +kernel
theorem dX12_isFar_5 : decode cX12_isFar 5 = .ok (.invokestatic 79, 3) := by decide +kernel
theorem dX12_isFar_8 : decode cX12_isFar 8 = .ok (.ireturn, 1) := by decide +kernel
theorem dX12_line_0 : decode cX12_line 0 = .ok (.iload_n 1, 1) := by decide +kernel
theorem dX12_line_1 : decode cX12_line 1 = .ok (.invokestatic 142, 3) := by decide +kernel
theorem dX12_line_4 : decode cX12_line 4 = .ok (.ifCond .eq 47, 3) := by decide +kernel
theorem dX12_line_7 : decode cX12_line 7 = .ok (.iload_n 2, 1) := by decide +kernel
theorem dX12_line_8 : decode cX12_line 8 = .ok (.invokestatic 142, 3) := by decide +kernel
theorem dX12_line_11 : decode cX12_line 11 = .ok (.ifCond .eq 40, 3) := by decide +kernel
theorem dX12_line_14 : decode cX12_line 14 = .ok (.iload_n 3, 1) := by decide +kernel
theorem dX12_line_15 : decode cX12_line 15 = .ok (.invokestatic 142, 3) := by decide +kernel
theorem dX12_line_18 : decode cX12_line 18 = .ok (.ifCond .eq 33, 3) := by decide +kernel
theorem dX12_line_21 : decode cX12_line 21 = .ok (.iload 4, 2) := by decide +kernel
theorem dX12_line_23 : decode cX12_line 23 = .ok (.invokestatic 142, 3) := by decide +kernel
theorem dX12_line_26 : decode cX12_line 26 = .ok (.ifCond .eq 25, 3) := by decide +kernel
theorem dX12_line_29 : decode cX12_line 29 = .ok (.iload_n 1, 1) := by decide +kernel
theorem dX12_line_30 : decode cX12_line 30 = .ok (.iload_n 3, 1) := by decide +kernel
theorem dX12_line_31 : decode cX12_line 31 = .ok (.if_icmp .ne 9, 3) := by decide +kernel
theorem dX12_line_34 : decode cX12_line 34 = .ok (.iload_n 2, 1) := by decide +kernel
theorem dX12_line_35 : decode cX12_line 35 = .ok (.iload 4, 2) := by decide +kernel
theorem dX12_line_37 : decode cX12_line 37 = .ok (.if_icmp .eq 14, 3) := by decide +kernel
theorem dX12_line_40 : decode cX12_line 40 = .ok (.aload_n 0, 1) := by decide +kernel
theorem dX12_line_41 : decode cX12_line 41 = .ok (.getfield 7, 3) := by decide +kernel
theorem dX12_line_44 : decode cX12_line 44 = .ok (.iconst 2, 1) := by decide +kernel
theorem dX12_line_45 : decode cX12_line 45 = .ok (.iaload, 1) := by decide +kernel
theorem dX12_line_46 : decode cX12_line 46 = .ok (.bipush 10, 2) := by decide +kernel
theorem dX12_line_48 : decode cX12_line 48 = .ok (.if_icmp .ne 5, 3) := by decide +kernel
theorem dX12_line_51 : decode cX12_line 51 = .ok (.iconst (-1), 1) := by decide +kernel
theorem dX12_line_52 : decode cX12_line 52 = .ok (.ireturn, 1) := by decide +kernel
theorem dX12_line_53 : decode cX12_line 53 = .ok (.sipush 830, 3) := by decide +kernel
theorem dX12_line_56 : decode cX12_line 56 = .ok (.iconst 4, 1) := by decide +kernel
theorem dX12_line_57 : decode cX12_line 57 = .ok (.aload_n 0, 1) := by decide +kernel
theorem dX12_line_58 : decode cX12_line 58 = .ok (.getfield 7, 3) := by decide +kernel
theorem dX12_line_61 : decode cX12_line 61 = .ok (.iconst 2, 1) := by decide +kernel
theorem dX12_line_62 : decode cX12_line 62 = .ok (.iaload, 1) := by decide +kernel
theorem dX12_line_63 : decode cX12_line 63 = .ok (.imul, 1) := by decide +kernel
theorem dX12_line_64 : decode cX12_line 64 = .ok (.iadd, 1) := by decide +kernel
theorem dX12_line_65 : decode cX12_line 65 = .ok (.istore 5, 2) := by decide +kernel
theorem dX12_line_67 : decode cX12_line 67 = .ok (.aload_n 0, 1) := by decide +kernel
theorem dX12_line_68 : decode cX12_line 68 = .ok (.getfield 7, 3) := by decide +kernel
theorem dX12_line_71 : decode cX12_line 71 = .ok (.iload 5, 2) := by decide +kernel
theorem dX12_line_73 : decode cX12_line 73 = .ok (.iload_n 1, 1) := by decide +kernel
theorem dX12_line_74 : decode cX12_line 74 = .ok (.iastore, 1) := by decide +kernel
theorem dX12_line_75 : decode cX12_line 75 = .ok (.aload_n 0, 1) := by decide +kernel
theorem dX12_line_76 : decode cX12_line 76 = .ok (.getfield 7, 3) := by decide +kernel
theorem dX12_line_79 : decode cX12_line 79 = .ok (.iload 5, 2) := by decide +kernel
theorem dX12_line_81 : decode cX12_line 81 = .ok (.iconst 1, 1) := by decide +kernel
theorem dX12_line_82 : decode cX12_line 82 = .ok (.iadd, 1) := by decide +kernel
theorem dX12_line_83 : decode cX12_line 83 = .ok (.iload_n 2, 1) := by decide +kernel
theorem dX12_line_84 : decode cX12_line 84 = .ok (.iastore, 1) := by decide +kernel
theorem dX12_line_85 : decode cX12_line 85 = .ok (.aload_n 0, 1) := by decide +kernel
theorem dX12_line_86 : decode cX12_line 86 = .ok (.getfield 7, 3) := by decide +kernel
theorem dX12_line_89 : decode cX12_line 89 = .ok (.iload 5, 2) := by decide +kernel
theorem dX12_line_91 : decode cX12_line 91 = .ok (.iconst 2, 1) := by decide +kernel
theorem dX12_line_92 : decode cX12_line 92 = .ok (.iadd, 1) := by decide +kernel
theorem dX12_line_93 : decode cX12_line 93 = .ok (.iload_n 3, 1) := by decide +kernel
theorem dX12_line_94 : decode cX12_line 94 = .ok (.iastore, 1) := by decide +kernel
theorem dX12_line_95 : decode cX12_line 95 = .ok (.aload_n 0, 1) := by decide +kernel
theorem dX12_line_96 : decode cX12_line 96 = .ok (.getfield 7, 3) := by decide +kernel
theorem dX12_line_99 : decode cX12_line 99 = .ok (.iload 5, 2) := by decide +kernel
theorem dX12_line_101 : decode cX12_line 101 = .ok (.iconst 3, 1) := by decide +kernel
theorem dX12_line_102 : decode cX12_line 102 = .ok (.iadd, 1) := by decide +kernel
theorem dX12_line_103 : decode cX12_line 103 = .ok (.iload 4, 2) := by decide +kernel
theorem dX12_line_105 : decode cX12_line 105 = .ok (.iastore, 1) := by decide +kernel
theorem dX12_line_106 : decode cX12_line 106 = .ok (.aload_n 0, 1) := by decide +kernel
theorem dX12_line_107 : decode cX12_line 107 = .ok (.getfield 7, 3) := by decide +kernel
theorem dX12_line_110 : decode cX12_line 110 = .ok (.iconst 2, 1) := by decide +kernel
theorem dX12_line_111 : decode cX12_line 111 = .ok (.dup2, 1) := by decide +kernel
theorem dX12_line_112 : decode cX12_line 112 = .ok (.iaload, 1) := by decide +kernel
theorem dX12_line_113 : decode cX12_line 113 = .ok (.iconst 1, 1) := by decide +kernel
theorem dX12_line_114 : decode cX12_line 114 = .ok (.iadd, 1) := by decide +kernel
theorem dX12_line_115 : decode cX12_line 115 = .ok (.iastore, 1) := by decide +kernel
theorem dX12_line_116 : decode cX12_line 116 = .ok (.aload_n 0, 1) := by decide +kernel
theorem dX12_line_117 : decode cX12_line 117 = .ok (.getfield 7, 3) := by decide +kernel
theorem dX12_line_120 : decode cX12_line 120 = .ok (.iconst 2, 1) := by decide +kernel
theorem dX12_line_121 : decode cX12_line 121 = .ok (.iaload, 1) := by decide +kernel
theorem dX12_line_122 : decode cX12_line 122 = .ok (.iconst 1, 1) := by decide +kernel
theorem dX12_line_123 : decode cX12_line 123 = .ok (.isub, 1) := by decide +kernel
theorem dX12_line_124 : decode cX12_line 124 = .ok (.ireturn, 1) := by decide +kernel
theorem dX12_through_0 : decode cX12_through 0 = .ok (.iconst 0, 1) := by decide +kernel
theorem dX12_through_1 : decode cX12_through 1 = .ok (.istore 4, 2) := by decide +kernel
theorem dX12_through_3 : decode cX12_through 3 = .ok (.iconst 0, 1) := by decide +kernel
theorem dX12_through_4 : decode cX12_through 4 = .ok (.istore 5, 2) := by decide +kernel
theorem dX12_through_6 : decode cX12_through 6 = .ok (.iload 5, 2) := by decide +kernel
theorem dX12_through_8 : decode cX12_through 8 = .ok (.aload_n 0, 1) := by decide +kernel
theorem dX12_through_9 : decode cX12_through 9 = .ok (.getfield 7, 3) := by decide +kernel
theorem dX12_through_12 : decode cX12_through 12 = .ok (.iconst 2, 1) := by decide +kernel
theorem dX12_through_13 : decode cX12_through 13 = .ok (.iaload, 1) := by decide +kernel
theorem dX12_through_14 : decode cX12_through 14 = .ok (.if_icmp .ge 114, 3) := by decide +kernel
theorem dX12_through_17 : decode cX12_through 17 = .ok (.sipush 830, 3) := by decide +kernel
theorem dX12_through_20 : decode cX12_through 20 = .ok (.iconst 4, 1) := by decide +kernel
theorem dX12_through_21 : decode cX12_through 21 = .ok (.iload 5, 2) := by decide +kernel
theorem dX12_through_23 : decode cX12_through 23 = .ok (.imul, 1) := by decide +kernel
theorem dX12_through_24 : decode cX12_through 24 = .ok (.iadd, 1) := by decide +kernel
theorem dX12_through_25 : decode cX12_through 25 = .ok (.istore 6, 2) := by decide +kernel
theorem dX12_through_27 : decode cX12_through 27 = .ok (.aload_n 0, 1) := by decide +kernel
theorem dX12_through_28 : decode cX12_through 28 = .ok (.getfield 7, 3) := by decide +kernel
theorem dX12_through_31 : decode cX12_through 31 = .ok (.iload 6, 2) := by decide +kernel
theorem dX12_through_33 : decode cX12_through 33 = .ok (.iconst 2, 1) := by decide +kernel
theorem dX12_through_34 : decode cX12_through 34 = .ok (.iadd, 1) := by decide +kernel
theorem dX12_through_35 : decode cX12_through 35 = .ok (.iaload, 1) := by decide +kernel
theorem dX12_through_36 : decode cX12_through 36 = .ok (.aload_n 0, 1) := by decide +kernel
theorem dX12_through_37 : decode cX12_through 37 = .ok (.getfield 7, 3) := by decide +kernel
theorem dX12_through_40 : decode cX12_through 40 = .ok (.iload 6, 2) := by decide +kernel
theorem dX12_through_42 : decode cX12_through 42 = .ok (.iaload, 1) := by decide +kernel
theorem dX12_through_43 : decode cX12_through 43 = .ok (.isub, 1) := by decide +kernel
theorem dX12_through_44 : decode cX12_through 44 = .ok (.istore 7, 2) := by decide +kernel
theorem dX12_through_46 : decode cX12_through 46 = .ok (.aload_n 0, 1) := by decide +kernel
theorem dX12_through_47 : decode cX12_through 47 = .ok (.getfield 7, 3) := by decide +kernel
theorem dX12_through_50 : decode cX12_through 50 = .ok (.iload 6, 2) := by decide +kernel
theorem dX12_through_52 : decode cX12_through 52 = .ok (.iconst 3, 1) := by decide +kernel
theorem dX12_through_53 : decode cX12_through 53 = .ok (.iadd, 1) := by decide +kernel
theorem dX12_through_54 : decode cX12_through 54 = .ok (.iaload, 1) := by decide +kernel
theorem dX12_through_55 : decode cX12_through 55 = .ok (.aload_n 0, 1) := by decide +kernel
theorem dX12_through_56 : decode cX12_through 56 = .ok (.getfield 7, 3) := by decide +kernel
theorem dX12_through_59 : decode cX12_through 59 = .ok (.iload 6, 2) := by decide +kernel
theorem dX12_through_61 : decode cX12_through 61 = .ok (.iconst 1, 1) := by decide +kernel
theorem dX12_through_62 : decode cX12_through 62 = .ok (.iadd, 1) := by decide +kernel
theorem dX12_through_63 : decode cX12_through 63 = .ok (.iaload, 1) := by decide +kernel
theorem dX12_through_64 : decode cX12_through 64 = .ok (.isub, 1) := by decide +kernel
theorem dX12_through_65 : decode cX12_through 65 = .ok (.istore 8, 2) := by decide +kernel
theorem dX12_through_67 : decode cX12_through 67 = .ok (.iload 7, 2) := by decide +kernel
theorem dX12_through_69 : decode cX12_through 69 = .ok (.iload_n 3, 1) := by decide +kernel
theorem dX12_through_70 : decode cX12_through 70 = .ok (.aload_n 0, 1) := by decide +kernel
theorem dX12_through_71 : decode cX12_through 71 = .ok (.getfield 7, 3) := by decide +kernel
theorem dX12_through_74 : decode cX12_through 74 = .ok (.iload 6, 2) := by decide +kernel
theorem dX12_through_76 : decode cX12_through 76 = .ok (.iconst 1, 1) := by decide +kernel
theorem dX12_through_77 : decode cX12_through 77 = .ok (.iadd, 1) := by decide +kernel
theorem dX12_through_78 : decode cX12_through 78 = .ok (.iaload, 1) := by decide +kernel
theorem dX12_through_79 : decode cX12_through 79 = .ok (.isub, 1) := by decide +kernel
theorem dX12_through_80 : decode cX12_through 80 = .ok (.imul, 1) := by decide +kernel
theorem dX12_through_81 : decode cX12_through 81 = .ok (.iload 8, 2) := by decide +kernel
theorem dX12_through_83 : decode cX12_through 83 = .ok (.iload_n 2, 1) := by decide +kernel
theorem dX12_through_84 : decode cX12_through 84 = .ok (.aload_n 0, 1) := by decide +kernel
theorem dX12_through_85 : decode cX12_through 85 = .ok (.getfield 7, 3) := by decide +kernel
theorem dX12_through_88 : decode cX12_through 88 = .ok (.iload 6, 2) := by decide +kernel
theorem dX12_through_90 : decode cX12_through 90 = .ok (.iaload, 1) := by decide +kernel
theorem dX12_through_91 : decode cX12_through 91 = .ok (.isub, 1) := by decide +kernel
theorem dX12_through_92 : decode cX12_through 92 = .ok (.imul, 1) := by decide +kernel
theorem dX12_through_93 : decode cX12_through 93 = .ok (.isub, 1) := by decide +kernel
theorem dX12_through_94 : decode cX12_through 94 = .ok (.invokestatic 102, 3) := by decide +kernel
theorem dX12_through_97 : decode cX12_through 97 = .ok (.iload_n 1, 1) := by decide +kernel
theorem dX12_through_98 : decode cX12_through 98 = .ok (.iload 7, 2) := by decide +kernel
theorem dX12_through_100 : decode cX12_through 100 = .ok (.invokestatic 102, 3) := by decide +kernel
theorem dX12_through_103 : decode cX12_through 103 = .ok (.iload 8, 2) := by decide +kernel
theorem dX12_through_105 : decode cX12_through 105 = .ok (.invokestatic 102, 3) := by decide +kernel
theorem dX12_through_108 : decode cX12_through 108 = .ok (.iadd, 1) := by decide +kernel
theorem dX12_through_109 : decode cX12_through 109 = .ok (.imul, 1) := by decide +kernel
theorem dX12_through_110 : decode cX12_through 110 = .ok (.if_icmp .gt 12, 3) := by decide +kernel
theorem dX12_through_113 : decode cX12_through 113 = .ok (.iload 4, 2) := by decide +kernel
theorem dX12_through_115 : decode cX12_through 115 = .ok (.iconst 1, 1) := by decide +kernel
theorem dX12_through_116 : decode cX12_through 116 = .ok (.iload 5, 2) := by decide +kernel
theorem dX12_through_118 : decode cX12_through 118 = .ok (.ishl, 1) := by decide +kernel
theorem dX12_through_119 : decode cX12_through 119 = .ok (.ior, 1) := by decide +kernel
theorem dX12_through_120 : decode cX12_through 120 = .ok (.istore 4, 2) := by decide +kernel
theorem dX12_through_122 : decode cX12_through 122 = .ok (.iinc 5 1, 3) := by decide +kernel
theorem dX12_through_125 : decode cX12_through 125 = .ok (.goto (-119), 3) := by decide +kernel
theorem dX12_through_128 : decode cX12_through 128 = .ok (.iload 4, 2) := by decide +kernel
theorem dX12_through_130 : decode cX12_through 130 = .ok (.ireturn, 1) := by decide +kernel
theorem dX12_meet_0 : decode cX12_meet 0 = .ok (.iload_n 1, 1) := by decide +kernel
theorem dX12_meet_1 : decode cX12_meet 1 = .ok (.iconst 0, 1) := by decide +kernel
theorem dX12_meet_2 : decode cX12_meet 2 = .ok (.bipush 9, 2) := by decide +kernel
theorem dX12_meet_4 : decode cX12_meet 4 = .ok (.invokestatic 79, 3) := by decide +kernel
theorem dX12_meet_7 : decode cX12_meet 7 = .ok (.ifCond .eq 21, 3) := by decide +kernel
theorem dX12_meet_10 : decode cX12_meet 10 = .ok (.iload_n 2, 1) := by decide +kernel
theorem dX12_meet_11 : decode cX12_meet 11 = .ok (.iconst 0, 1) := by decide +kernel
theorem dX12_meet_12 : decode cX12_meet 12 = .ok (.iconst 3, 1) := by decide +kernel
theorem dX12_meet_13 : decode cX12_meet 13 = .ok (.invokestatic 79, 3) := by decide +kernel
theorem dX12_meet_16 : decode cX12_meet 16 = .ok (.ifCond .eq 12, 3) := by decide +kernel
theorem dX12_meet_19 : decode cX12_meet 19 = .ok (.aload_n 0, 1) := by decide +kernel
theorem dX12_meet_20 : decode cX12_meet 20 = .ok (.getfield 7, 3) := by decide +kernel
theorem dX12_meet_23 : decode cX12_meet 23 = .ok (.iconst 2, 1) := by decide +kernel
theorem dX12_meet_24 : decode cX12_meet 24 = .ok (.iaload, 1) := by decide +kernel
theorem dX12_meet_25 : decode cX12_meet 25 = .ok (.ifCond .ne 7, 3) := by decide +kernel
theorem dX12_meet_28 : decode cX12_meet 28 = .ok (.sipush (-1000), 3) := by decide +kernel
theorem dX12_meet_31 : decode cX12_meet 31 = .ok (.ireturn, 1) := by decide +kernel
theorem dX12_meet_32 : decode cX12_meet 32 = .ok (.iconst (-1), 1) := by decide +kernel
theorem dX12_meet_33 : decode cX12_meet 33 = .ok (.istore_n 3, 1) := by decide +kernel
theorem dX12_meet_34 : decode cX12_meet 34 = .ok (.iconst 0, 1) := by decide +kernel
theorem dX12_meet_35 : decode cX12_meet 35 = .ok (.istore 4, 2) := by decide +kernel
theorem dX12_meet_37 : decode cX12_meet 37 = .ok (.bipush (-40), 2) := by decide +kernel
theorem dX12_meet_39 : decode cX12_meet 39 = .ok (.istore 5, 2) := by decide +kernel
theorem dX12_meet_41 : decode cX12_meet 41 = .ok (.iload 5, 2) := by decide +kernel
theorem dX12_meet_43 : decode cX12_meet 43 = .ok (.bipush 40, 2) := by decide +kernel
theorem dX12_meet_45 : decode cX12_meet 45 = .ok (.if_icmp .gt 102, 3) := by decide +kernel
theorem dX12_meet_48 : decode cX12_meet 48 = .ok (.bipush (-40), 2) := by decide +kernel
theorem dX12_meet_50 : decode cX12_meet 50 = .ok (.istore 6, 2) := by decide +kernel
theorem dX12_meet_52 : decode cX12_meet 52 = .ok (.iload 6, 2) := by decide +kernel
theorem dX12_meet_54 : decode cX12_meet 54 = .ok (.bipush 40, 2) := by decide +kernel
theorem dX12_meet_56 : decode cX12_meet 56 = .ok (.if_icmp .gt 85, 3) := by decide +kernel
theorem dX12_meet_59 : decode cX12_meet 59 = .ok (.aload_n 0, 1) := by decide +kernel
theorem dX12_meet_60 : decode cX12_meet 60 = .ok (.iload_n 1, 1) := by decide +kernel
theorem dX12_meet_61 : decode cX12_meet 61 = .ok (.iload 6, 2) := by decide +kernel
theorem dX12_meet_63 : decode cX12_meet 63 = .ok (.iload 5, 2) := by decide +kernel
theorem dX12_meet_65 : decode cX12_meet 65 = .ok (.invokevirtual 145, 3) := by decide +kernel
theorem dX12_meet_68 : decode cX12_meet 68 = .ok (.istore 7, 2) := by decide +kernel
theorem dX12_meet_70 : decode cX12_meet 70 = .ok (.iload 7, 2) := by decide +kernel
theorem dX12_meet_72 : decode cX12_meet 72 = .ok (.invokestatic 136, 3) := by decide +kernel
theorem dX12_meet_75 : decode cX12_meet 75 = .ok (.istore 8, 2) := by decide +kernel
theorem dX12_meet_77 : decode cX12_meet 77 = .ok (.iload 8, 2) := by decide +kernel
theorem dX12_meet_79 : decode cX12_meet 79 = .ok (.iload_n 3, 1) := by decide +kernel
theorem dX12_meet_80 : decode cX12_meet 80 = .ok (.if_icmp .gt 6, 3) := by decide +kernel
theorem dX12_meet_83 : decode cX12_meet 83 = .ok (.goto 52, 3) := by decide +kernel
theorem dX12_meet_86 : decode cX12_meet 86 = .ok (.iload 8, 2) := by decide +kernel
theorem dX12_meet_88 : decode cX12_meet 88 = .ok (.istore_n 3, 1) := by decide +kernel
theorem dX12_meet_89 : decode cX12_meet 89 = .ok (.iload_n 2, 1) := by decide +kernel
theorem dX12_meet_90 : decode cX12_meet 90 = .ok (.ifCond .ne 8, 3) := by decide +kernel
theorem dX12_meet_93 : decode cX12_meet 93 = .ok (.iload 6, 2) := by decide +kernel
theorem dX12_meet_95 : decode cX12_meet 95 = .ok (.goto 38, 3) := by decide +kernel
theorem dX12_meet_98 : decode cX12_meet 98 = .ok (.iload_n 2, 1) := by decide +kernel
theorem dX12_meet_99 : decode cX12_meet 99 = .ok (.iconst 1, 1) := by decide +kernel
theorem dX12_meet_100 : decode cX12_meet 100 = .ok (.if_icmp .ne 8, 3) := by decide +kernel
theorem dX12_meet_103 : decode cX12_meet 103 = .ok (.iload 5, 2) := by decide +kernel
theorem dX12_meet_105 : decode cX12_meet 105 = .ok (.goto 28, 3) := by decide +kernel
theorem dX12_meet_108 : decode cX12_meet 108 = .ok (.iload_n 2, 1) := by decide +kernel
theorem dX12_meet_109 : decode cX12_meet 109 = .ok (.iconst 2, 1) := by decide +kernel
theorem dX12_meet_110 : decode cX12_meet 110 = .ok (.if_icmp .ne 8, 3) := by decide +kernel
theorem dX12_meet_113 : decode cX12_meet 113 = .ok (.iload 8, 2) := by decide +kernel
theorem dX12_meet_115 : decode cX12_meet 115 = .ok (.goto 18, 3) := by decide +kernel
theorem dX12_meet_118 : decode cX12_meet 118 = .ok (.iconst 1, 1) := by decide +kernel
theorem dX12_meet_119 : decode cX12_meet 119 = .ok (.aload_n 0, 1) := by decide +kernel
theorem dX12_meet_120 : decode cX12_meet 120 = .ok (.getfield 7, 3) := by decide +kernel
theorem dX12_meet_123 : decode cX12_meet 123 = .ok (.iconst 2, 1) := by decide +kernel
theorem dX12_meet_124 : decode cX12_meet 124 = .ok (.iaload, 1) := by decide +kernel
theorem dX12_meet_125 : decode cX12_meet 125 = .ok (.ishl, 1) := by decide +kernel
theorem dX12_meet_126 : decode cX12_meet 126 = .ok (.iconst 1, 1) := by decide +kernel
theorem dX12_meet_127 : decode cX12_meet 127 = .ok (.isub, 1) := by decide +kernel
theorem dX12_meet_128 : decode cX12_meet 128 = .ok (.iload 7, 2) := by decide +kernel
theorem dX12_meet_130 : decode cX12_meet 130 = .ok (.iconst (-1), 1) := by decide +kernel
theorem dX12_meet_131 : decode cX12_meet 131 = .ok (.ixor, 1) := by decide +kernel
theorem dX12_meet_132 : decode cX12_meet 132 = .ok (.iand, 1) := by decide +kernel
theorem dX12_meet_133 : decode cX12_meet 133 = .ok (.istore 4, 2) := by decide +kernel
theorem dX12_meet_135 : decode cX12_meet 135 = .ok (.iinc 6 1, 3) := by decide +kernel
theorem dX12_meet_138 : decode cX12_meet 138 = .ok (.goto (-86), 3) := by decide +kernel
theorem dX12_meet_141 : decode cX12_meet 141 = .ok (.iinc 5 1, 3) := by decide +kernel
theorem dX12_meet_144 : decode cX12_meet 144 = .ok (.goto (-103), 3) := by decide +kernel
theorem dX12_meet_147 : decode cX12_meet 147 = .ok (.iload 4, 2) := by decide +kernel
theorem dX12_meet_149 : decode cX12_meet 149 = .ok (.ireturn, 1) := by decide +kernel
theorem dX12_isField_0 : decode cX12_isField 0 = .ok (.aload_n 0, 1) := by decide +kernel
theorem dX12_isField_1 : decode cX12_isField 1 = .ok (.iload_n 1, 1) := by decide +kernel
theorem dX12_isField_2 : decode cX12_isField 2 = .ok (.iload_n 2, 1) := by decide +kernel
theorem dX12_isField_3 : decode cX12_isField 3 = .ok (.invokevirtual 91, 3) := by decide +kernel
theorem dX12_isField_6 : decode cX12_isField 6 = .ok (.ifCond .eq 39, 3) := by decide +kernel
theorem dX12_isField_9 : decode cX12_isField 9 = .ok (.iload_n 3, 1) := by decide +kernel
theorem dX12_isField_10 : decode cX12_isField 10 = .ok (.iconst 1, 1) := by decide +kernel
theorem dX12_isField_11 : decode cX12_isField 11 = .ok (.if_icmp .lt 34, 3) := by decide +kernel
theorem dX12_isField_14 : decode cX12_isField 14 = .ok (.iload 4, 2) := by decide +kernel
theorem dX12_isField_16 : decode cX12_isField 16 = .ok (.iconst 1, 1) := by decide +kernel
theorem dX12_isField_17 : decode cX12_isField 17 = .ok (.if_icmp .lt 28, 3) := by decide +kernel
theorem dX12_isField_20 : decode cX12_isField 20 = .ok (.iload_n 3, 1) := by decide +kernel
theorem dX12_isField_21 : decode cX12_isField 21 = .ok (.aload_n 0, 1) := by decide +kernel
theorem dX12_isField_22 : decode cX12_isField 22 = .ok (.getfield 69, 3) := by decide +kernel
theorem dX12_isField_25 : decode cX12_isField 25 = .ok (.iload_n 1, 1) := by decide +kernel
theorem dX12_isField_26 : decode cX12_isField 26 = .ok (.isub, 1) := by decide +kernel
theorem dX12_isField_27 : decode cX12_isField 27 = .ok (.if_icmp .gt 18, 3) := by decide +kernel
theorem dX12_isField_30 : decode cX12_isField 30 = .ok (.iload 4, 2) := by decide +kernel
theorem dX12_isField_32 : decode cX12_isField 32 = .ok (.aload_n 0, 1) := by decide +kernel
theorem dX12_isField_33 : decode cX12_isField 33 = .ok (.getfield 72, 3) := by decide +kernel
theorem dX12_isField_36 : decode cX12_isField 36 = .ok (.iload_n 2, 1) := by decide +kernel
theorem dX12_isField_37 : decode cX12_isField 37 = .ok (.isub, 1) := by decide +kernel
theorem dX12_isField_38 : decode cX12_isField 38 = .ok (.if_icmp .gt 7, 3) := by decide +kernel
theorem dX12_isField_41 : decode cX12_isField 41 = .ok (.iconst 1, 1) := by decide +kernel
theorem dX12_isField_42 : decode cX12_isField 42 = .ok (.goto 4, 3) := by decide +kernel
theorem dX12_isField_45 : decode cX12_isField 45 = .ok (.iconst 0, 1) := by decide +kernel
theorem dX12_isField_46 : decode cX12_isField 46 = .ok (.ireturn, 1) := by decide +kernel
theorem dX12_roughOf_0 : decode cX12_roughOf 0 = .ok (.iconst 0, 1) := by decide +kernel
theorem dX12_roughOf_1 : decode cX12_roughOf 1 = .ok (.istore 6, 2) := by decide +kernel
theorem dX12_roughOf_3 : decode cX12_roughOf 3 = .ok (.iload_n 3, 1) := by decide +kernel
theorem dX12_roughOf_4 : decode cX12_roughOf 4 = .ok (.istore 7, 2) := by decide +kernel
theorem dX12_roughOf_6 : decode cX12_roughOf 6 = .ok (.iload 7, 2) := by decide +kernel
theorem dX12_roughOf_8 : decode cX12_roughOf 8 = .ok (.iload_n 3, 1) := by decide +kernel
theorem dX12_roughOf_9 : decode cX12_roughOf 9 = .ok (.iload 5, 2) := by decide +kernel
theorem dX12_roughOf_11 : decode cX12_roughOf 11 = .ok (.iadd, 1) := by decide +kernel
theorem dX12_roughOf_12 : decode cX12_roughOf 12 = .ok (.if_icmp .ge 97, 3) := by decide +kernel
theorem dX12_roughOf_15 : decode cX12_roughOf 15 = .ok (.iload_n 2, 1) := by decide +kernel
theorem dX12_roughOf_16 : decode cX12_roughOf 16 = .ok (.istore 8, 2) := by decide +kernel
theorem dX12_roughOf_18 : decode cX12_roughOf 18 = .ok (.iload 8, 2) := by decide +kernel
theorem dX12_roughOf_20 : decode cX12_roughOf 20 = .ok (.iload_n 2, 1) := by decide +kernel
theorem dX12_roughOf_21 : decode cX12_roughOf 21 = .ok (.iload 4, 2) := by decide +kernel
theorem dX12_roughOf_23 : decode cX12_roughOf 23 = .ok (.iadd, 1) := by decide +kernel
theorem dX12_roughOf_24 : decode cX12_roughOf 24 = .ok (.if_icmp .ge 79, 3) := by decide +kernel
theorem dX12_roughOf_27 : decode cX12_roughOf 27 = .ok (.iload 8, 2) := by decide +kernel
theorem dX12_roughOf_29 : decode cX12_roughOf 29 = .ok (.iload_n 2, 1) := by decide +kernel
theorem dX12_roughOf_30 : decode cX12_roughOf 30 = .ok (.if_icmp .le 32, 3) := by decide +kernel
theorem dX12_roughOf_33 : decode cX12_roughOf 33 = .ok (.iload 6, 2) := by decide +kernel
theorem dX12_roughOf_35 : decode cX12_roughOf 35 = .ok (.aload_n 0, 1) := by decide +kernel
theorem dX12_roughOf_36 : decode cX12_roughOf 36 = .ok (.iload_n 1, 1) := by decide +kernel
theorem dX12_roughOf_37 : decode cX12_roughOf 37 = .ok (.iload 8, 2) := by decide +kernel
theorem dX12_roughOf_39 : decode cX12_roughOf 39 = .ok (.iload 7, 2) := by decide +kernel
theorem dX12_roughOf_41 : decode cX12_roughOf 41 = .ok (.invokevirtual 99, 3) := by decide +kernel
theorem dX12_roughOf_44 : decode cX12_roughOf 44 = .ok (.aload_n 0, 1) := by decide +kernel
theorem dX12_roughOf_45 : decode cX12_roughOf 45 = .ok (.iload_n 1, 1) := by decide +kernel
theorem dX12_roughOf_46 : decode cX12_roughOf 46 = .ok (.iload 8, 2) := by decide +kernel
theorem dX12_roughOf_48 : decode cX12_roughOf 48 = .ok (.iconst 1, 1) := by decide +kernel
theorem dX12_roughOf_49 : decode cX12_roughOf 49 = .ok (.isub, 1) := by decide +kernel
theorem dX12_roughOf_50 : decode cX12_roughOf 50 = .ok (.iload 7, 2) := by decide +kernel
theorem dX12_roughOf_52 : decode cX12_roughOf 52 = .ok (.invokevirtual 99, 3) := by decide +kernel
theorem dX12_roughOf_55 : decode cX12_roughOf 55 = .ok (.isub, 1) := by decide +kernel
theorem dX12_roughOf_56 : decode cX12_roughOf 56 = .ok (.invokestatic 102, 3) := by decide +kernel
theorem dX12_roughOf_59 : decode cX12_roughOf 59 = .ok (.iadd, 1) := by decide +kernel
theorem dX12_roughOf_60 : decode cX12_roughOf 60 = .ok (.istore 6, 2) := by decide +kernel
theorem dX12_roughOf_62 : decode cX12_roughOf 62 = .ok (.iload 7, 2) := by decide +kernel
theorem dX12_roughOf_64 : decode cX12_roughOf 64 = .ok (.iload_n 3, 1) := by decide +kernel
theorem dX12_roughOf_65 : decode cX12_roughOf 65 = .ok (.if_icmp .le 32, 3) := by decide +kernel
theorem dX12_roughOf_68 : decode cX12_roughOf 68 = .ok (.iload 6, 2) := by decide +kernel
theorem dX12_roughOf_70 : decode cX12_roughOf 70 = .ok (.aload_n 0, 1) := by decide +kernel
theorem dX12_roughOf_71 : decode cX12_roughOf 71 = .ok (.iload_n 1, 1) := by decide +kernel
theorem dX12_roughOf_72 : decode cX12_roughOf 72 = .ok (.iload 8, 2) := by decide +kernel
theorem dX12_roughOf_74 : decode cX12_roughOf 74 = .ok (.iload 7, 2) := by decide +kernel
theorem dX12_roughOf_76 : decode cX12_roughOf 76 = .ok (.invokevirtual 99, 3) := by decide +kernel
theorem dX12_roughOf_79 : decode cX12_roughOf 79 = .ok (.aload_n 0, 1) := by decide +kernel
theorem dX12_roughOf_80 : decode cX12_roughOf 80 = .ok (.iload_n 1, 1) := by decide +kernel
theorem dX12_roughOf_81 : decode cX12_roughOf 81 = .ok (.iload 8, 2) := by decide +kernel
theorem dX12_roughOf_83 : decode cX12_roughOf 83 = .ok (.iload 7, 2) := by decide +kernel
theorem dX12_roughOf_85 : decode cX12_roughOf 85 = .ok (.iconst 1, 1) := by decide +kernel
theorem dX12_roughOf_86 : decode cX12_roughOf 86 = .ok (.isub, 1) := by decide +kernel
theorem dX12_roughOf_87 : decode cX12_roughOf 87 = .ok (.invokevirtual 99, 3) := by decide +kernel
theorem dX12_roughOf_90 : decode cX12_roughOf 90 = .ok (.isub, 1) := by decide +kernel
theorem dX12_roughOf_91 : decode cX12_roughOf 91 = .ok (.invokestatic 102, 3) := by decide +kernel
theorem dX12_roughOf_94 : decode cX12_roughOf 94 = .ok (.iadd, 1) := by decide +kernel
theorem dX12_roughOf_95 : decode cX12_roughOf 95 = .ok (.istore 6, 2) := by decide +kernel
theorem dX12_roughOf_97 : decode cX12_roughOf 97 = .ok (.iinc 8 1, 3) := by decide +kernel
theorem dX12_roughOf_100 : decode cX12_roughOf 100 = .ok (.goto (-82), 3) := by decide +kernel
theorem dX12_roughOf_103 : decode cX12_roughOf 103 = .ok (.iinc 7 1, 3) := by decide +kernel
theorem dX12_roughOf_106 : decode cX12_roughOf 106 = .ok (.goto (-100), 3) := by decide +kernel
theorem dX12_roughOf_109 : decode cX12_roughOf 109 = .ok (.iload 6, 2) := by decide +kernel
theorem dX12_roughOf_111 : decode cX12_roughOf 111 = .ok (.ireturn, 1) := by decide +kernel
theorem dX12_rough_0 : decode cX12_rough 0 = .ok (.iload_n 1, 1) := by decide +kernel
theorem dX12_rough_1 : decode cX12_rough 1 = .ok (.invokestatic 87, 3) := by decide +kernel
theorem dX12_rough_4 : decode cX12_rough 4 = .ok (.ifCond .eq 30, 3) := by decide +kernel
theorem dX12_rough_7 : decode cX12_rough 7 = .ok (.aload_n 0, 1) := by decide +kernel
theorem dX12_rough_8 : decode cX12_rough 8 = .ok (.iload_n 2, 1) := by decide +kernel
theorem dX12_rough_9 : decode cX12_rough 9 = .ok (.iload_n 3, 1) := by decide +kernel
theorem dX12_rough_10 : decode cX12_rough 10 = .ok (.iload 4, 2) := by decide +kernel
theorem dX12_rough_12 : decode cX12_rough 12 = .ok (.iload 5, 2) := by decide +kernel
theorem dX12_rough_14 : decode cX12_rough 14 = .ok (.invokevirtual 148, 3) := by decide +kernel
theorem dX12_rough_17 : decode cX12_rough 17 = .ok (.ifCond .eq 17, 3) := by decide +kernel
theorem dX12_rough_20 : decode cX12_rough 20 = .ok (.aload_n 0, 1) := by decide +kernel
theorem dX12_rough_21 : decode cX12_rough 21 = .ok (.iload_n 1, 1) := by decide +kernel
theorem dX12_rough_22 : decode cX12_rough 22 = .ok (.iload_n 2, 1) := by decide +kernel
theorem dX12_rough_23 : decode cX12_rough 23 = .ok (.iload_n 3, 1) := by decide +kernel
theorem dX12_rough_24 : decode cX12_rough 24 = .ok (.iload 4, 2) := by decide +kernel
theorem dX12_rough_26 : decode cX12_rough 26 = .ok (.iload 5, 2) := by decide +kernel
theorem dX12_rough_28 : decode cX12_rough 28 = .ok (.invokevirtual 151, 3) := by decide +kernel
theorem dX12_rough_31 : decode cX12_rough 31 = .ok (.goto 4, 3) := by decide +kernel
theorem dX12_rough_34 : decode cX12_rough 34 = .ok (.iconst (-1), 1) := by decide +kernel
theorem dX12_rough_35 : decode cX12_rough 35 = .ok (.ireturn, 1) := by decide +kernel
theorem dX12_blocks_0 : decode cX12_blocks 0 = .ok (.aload_n 0, 1) := by decide +kernel
theorem dX12_blocks_1 : decode cX12_blocks 1 = .ok (.getfield 69, 3) := by decide +kernel
theorem dX12_blocks_4 : decode cX12_blocks 4 = .ok (.iconst 4, 1) := by decide +kernel
theorem dX12_blocks_5 : decode cX12_blocks 5 = .ok (.idiv, 1) := by decide +kernel
theorem dX12_blocks_6 : decode cX12_blocks 6 = .ok (.aload_n 0, 1) := by decide +kernel
theorem dX12_blocks_7 : decode cX12_blocks 7 = .ok (.getfield 72, 3) := by decide +kernel
theorem dX12_blocks_10 : decode cX12_blocks 10 = .ok (.iconst 4, 1) := by decide +kernel
theorem dX12_blocks_11 : decode cX12_blocks 11 = .ok (.idiv, 1) := by decide +kernel
theorem dX12_blocks_12 : decode cX12_blocks 12 = .ok (.imul, 1) := by decide +kernel
theorem dX12_blocks_13 : decode cX12_blocks 13 = .ok (.ireturn, 1) := by decide +kernel
theorem dX12_roughBlock_0 : decode cX12_roughBlock 0 = .ok (.aload_n 0, 1) := by decide +kernel
theorem dX12_roughBlock_1 : decode cX12_roughBlock 1 = .ok (.iload_n 1, 1) := by decide +kernel
theorem dX12_roughBlock_2 : decode cX12_roughBlock 2 = .ok (.iconst 4, 1) := by decide +kernel
theorem dX12_roughBlock_3 : decode cX12_roughBlock 3 = .ok (.iload_n 2, 1) := by decide +kernel
theorem dX12_roughBlock_4 : decode cX12_roughBlock 4 = .ok (.aload_n 0, 1) := by decide +kernel
theorem dX12_roughBlock_5 : decode cX12_roughBlock 5 = .ok (.getfield 69, 3) := by decide +kernel
theorem dX12_roughBlock_8 : decode cX12_roughBlock 8 = .ok (.iconst 4, 1) := by decide +kernel
theorem dX12_roughBlock_9 : decode cX12_roughBlock 9 = .ok (.idiv, 1) := by decide +kernel
theorem dX12_roughBlock_10 : decode cX12_roughBlock 10 = .ok (.irem, 1) := by decide +kernel
theorem dX12_roughBlock_11 : decode cX12_roughBlock 11 = .ok (.imul, 1) := by decide +kernel
theorem dX12_roughBlock_12 : decode cX12_roughBlock 12 = .ok (.iconst 4, 1) := by decide +kernel
theorem dX12_roughBlock_13 : decode cX12_roughBlock 13 = .ok (.iload_n 2, 1) := by decide +kernel
theorem dX12_roughBlock_14 : decode cX12_roughBlock 14 = .ok (.aload_n 0, 1) := by decide +kernel
theorem dX12_roughBlock_15 : decode cX12_roughBlock 15 = .ok (.getfield 69, 3) := by decide +kernel
theorem dX12_roughBlock_18 : decode cX12_roughBlock 18 = .ok (.iconst 4, 1) := by decide +kernel
theorem dX12_roughBlock_19 : decode cX12_roughBlock 19 = .ok (.idiv, 1) := by decide +kernel
theorem dX12_roughBlock_20 : decode cX12_roughBlock 20 = .ok (.idiv, 1) := by decide +kernel
theorem dX12_roughBlock_21 : decode cX12_roughBlock 21 = .ok (.imul, 1) := by decide +kernel
theorem dX12_roughBlock_22 : decode cX12_roughBlock 22 = .ok (.iconst 4, 1) := by decide +kernel
theorem dX12_roughBlock_23 : decode cX12_roughBlock 23 = .ok (.iconst 4, 1) := by decide +kernel
theorem dX12_roughBlock_24 : decode cX12_roughBlock 24 = .ok (.invokevirtual 151, 3) := by decide +kernel
theorem dX12_roughBlock_27 : decode cX12_roughBlock 27 = .ok (.ireturn, 1) := by decide +kernel
theorem dX12_median_0 : decode cX12_median 0 = .ok (.aload_n 0, 1) := by decide +kernel
theorem dX12_median_1 : decode cX12_median 1 = .ok (.invokevirtual 155, 3) := by decide +kernel
theorem dX12_median_4 : decode cX12_median 4 = .ok (.istore_n 2, 1) := by decide +kernel
theorem dX12_median_5 : decode cX12_median 5 = .ok (.iconst 0, 1) := by decide +kernel
theorem dX12_median_6 : decode cX12_median 6 = .ok (.istore_n 3, 1) := by decide +kernel
theorem dX12_median_7 : decode cX12_median 7 = .ok (.iload_n 3, 1) := by decide +kernel
theorem dX12_median_8 : decode cX12_median 8 = .ok (.iload_n 2, 1) := by decide +kernel
theorem dX12_median_9 : decode cX12_median 9 = .ok (.if_icmp .ge 105, 3) := by decide +kernel
theorem dX12_median_12 : decode cX12_median 12 = .ok (.aload_n 0, 1) := by decide +kernel
theorem dX12_median_13 : decode cX12_median 13 = .ok (.iload_n 1, 1) := by decide +kernel
theorem dX12_median_14 : decode cX12_median 14 = .ok (.iload_n 3, 1) := by decide +kernel
theorem dX12_median_15 : decode cX12_median 15 = .ok (.invokevirtual 159, 3) := by decide +kernel
theorem dX12_median_18 : decode cX12_median 18 = .ok (.istore 4, 2) := by decide +kernel
theorem dX12_median_20 : decode cX12_median 20 = .ok (.iconst 0, 1) := by decide +kernel
theorem dX12_median_21 : decode cX12_median 21 = .ok (.istore 5, 2) := by decide +kernel
theorem dX12_median_23 : decode cX12_median 23 = .ok (.iconst 0, 1) := by decide +kernel
theorem dX12_median_24 : decode cX12_median 24 = .ok (.istore 6, 2) := by decide +kernel
theorem dX12_median_26 : decode cX12_median 26 = .ok (.iconst 0, 1) := by decide +kernel
theorem dX12_median_27 : decode cX12_median 27 = .ok (.istore 7, 2) := by decide +kernel
theorem dX12_median_29 : decode cX12_median 29 = .ok (.iload 7, 2) := by decide +kernel
theorem dX12_median_31 : decode cX12_median 31 = .ok (.iload_n 2, 1) := by decide +kernel
theorem dX12_median_32 : decode cX12_median 32 = .ok (.if_icmp .ge 53, 3) := by decide +kernel
theorem dX12_median_35 : decode cX12_median 35 = .ok (.iload 5, 2) := by decide +kernel
theorem dX12_median_37 : decode cX12_median 37 = .ok (.aload_n 0, 1) := by decide +kernel
theorem dX12_median_38 : decode cX12_median 38 = .ok (.iload_n 1, 1) := by decide +kernel
theorem dX12_median_39 : decode cX12_median 39 = .ok (.iload 7, 2) := by decide +kernel
theorem dX12_median_41 : decode cX12_median 41 = .ok (.invokevirtual 159, 3) := by decide +kernel
theorem dX12_median_44 : decode cX12_median 44 = .ok (.iload 4, 2) := by decide +kernel
theorem dX12_median_46 : decode cX12_median 46 = .ok (.if_icmp .ge 7, 3) := by decide +kernel
theorem dX12_median_49 : decode cX12_median 49 = .ok (.iconst 1, 1) := by decide +kernel
theorem dX12_median_50 : decode cX12_median 50 = .ok (.goto 4, 3) := by decide +kernel
theorem dX12_median_53 : decode cX12_median 53 = .ok (.iconst 0, 1) := by decide +kernel
theorem dX12_median_54 : decode cX12_median 54 = .ok (.iadd, 1) := by decide +kernel
theorem dX12_median_55 : decode cX12_median 55 = .ok (.istore 5, 2) := by decide +kernel
theorem dX12_median_57 : decode cX12_median 57 = .ok (.iload 6, 2) := by decide +kernel
theorem dX12_median_59 : decode cX12_median 59 = .ok (.aload_n 0, 1) := by decide +kernel
theorem dX12_median_60 : decode cX12_median 60 = .ok (.iload_n 1, 1) := by decide +kernel
theorem dX12_median_61 : decode cX12_median 61 = .ok (.iload 7, 2) := by decide +kernel
theorem dX12_median_63 : decode cX12_median 63 = .ok (.invokevirtual 159, 3) := by decide +kernel
theorem dX12_median_66 : decode cX12_median 66 = .ok (.iload 4, 2) := by decide +kernel
theorem dX12_median_68 : decode cX12_median 68 = .ok (.if_icmp .gt 7, 3) := by decide +kernel
theorem dX12_median_71 : decode cX12_median 71 = .ok (.iconst 1, 1) := by decide +kernel
theorem dX12_median_72 : decode cX12_median 72 = .ok (.goto 4, 3) := by decide +kernel
theorem dX12_median_75 : decode cX12_median 75 = .ok (.iconst 0, 1) := by decide +kernel
theorem dX12_median_76 : decode cX12_median 76 = .ok (.iadd, 1) := by decide +kernel
theorem dX12_median_77 : decode cX12_median 77 = .ok (.istore 6, 2) := by decide +kernel
theorem dX12_median_79 : decode cX12_median 79 = .ok (.iinc 7 1, 3) := by decide +kernel
theorem dX12_median_82 : decode cX12_median 82 = .ok (.goto (-53), 3) := by decide +kernel
theorem dX12_median_85 : decode cX12_median 85 = .ok (.iload 5, 2) := by decide +kernel
theorem dX12_median_87 : decode cX12_median 87 = .ok (.iload_n 2, 1) := by decide +kernel
theorem dX12_median_88 : decode cX12_median 88 = .ok (.iconst 1, 1) := by decide +kernel
theorem dX12_median_89 : decode cX12_median 89 = .ok (.isub, 1) := by decide +kernel
theorem dX12_median_90 : decode cX12_median 90 = .ok (.iconst 2, 1) := by decide +kernel
theorem dX12_median_91 : decode cX12_median 91 = .ok (.idiv, 1) := by decide +kernel
theorem dX12_median_92 : decode cX12_median 92 = .ok (.if_icmp .gt 16, 3) := by decide +kernel
theorem dX12_median_95 : decode cX12_median 95 = .ok (.iload 6, 2) := by decide +kernel
theorem dX12_median_97 : decode cX12_median 97 = .ok (.iload_n 2, 1) := by decide +kernel
theorem dX12_median_98 : decode cX12_median 98 = .ok (.iconst 1, 1) := by decide +kernel
theorem dX12_median_99 : decode cX12_median 99 = .ok (.isub, 1) := by decide +kernel
theorem dX12_median_100 : decode cX12_median 100 = .ok (.iconst 2, 1) := by decide +kernel
theorem dX12_median_101 : decode cX12_median 101 = .ok (.idiv, 1) := by decide +kernel
theorem dX12_median_102 : decode cX12_median 102 = .ok (.if_icmp .le 6, 3) := by decide +kernel
theorem dX12_median_105 : decode cX12_median 105 = .ok (.iload 4, 2) := by decide +kernel
theorem dX12_median_107 : decode cX12_median 107 = .ok (.ireturn, 1) := by decide +kernel
theorem dX12_median_108 : decode cX12_median 108 = .ok (.iinc 3 1, 3) := by decide +kernel
theorem dX12_median_111 : decode cX12_median 111 = .ok (.goto (-104), 3) := by decide +kernel
theorem dX12_median_114 : decode cX12_median 114 = .ok (.iconst (-1), 1) := by decide +kernel
theorem dX12_median_115 : decode cX12_median 115 = .ok (.ireturn, 1) := by decide +kernel
theorem dX12_isOdd_0 : decode cX12_isOdd 0 = .ok (.aload_n 0, 1) := by decide +kernel
theorem dX12_isOdd_1 : decode cX12_isOdd 1 = .ok (.iload_n 1, 1) := by decide +kernel
theorem dX12_isOdd_2 : decode cX12_isOdd 2 = .ok (.invokevirtual 162, 3) := by decide +kernel
theorem dX12_isOdd_5 : decode cX12_isOdd 5 = .ok (.istore 4, 2) := by decide +kernel
theorem dX12_isOdd_7 : decode cX12_isOdd 7 = .ok (.aload_n 0, 1) := by decide +kernel
theorem dX12_isOdd_8 : decode cX12_isOdd 8 = .ok (.iload_n 1, 1) := by decide +kernel
theorem dX12_isOdd_9 : decode cX12_isOdd 9 = .ok (.iload_n 2, 1) := by decide +kernel
theorem dX12_isOdd_10 : decode cX12_isOdd 10 = .ok (.invokevirtual 159, 3) := by decide +kernel
theorem dX12_isOdd_13 : decode cX12_isOdd 13 = .ok (.istore 5, 2) := by decide +kernel
theorem dX12_isOdd_15 : decode cX12_isOdd 15 = .ok (.iload 5, 2) := by decide +kernel
theorem dX12_isOdd_17 : decode cX12_isOdd 17 = .ok (.iload_n 3, 1) := by decide +kernel
theorem dX12_isOdd_18 : decode cX12_isOdd 18 = .ok (.imul, 1) := by decide +kernel
theorem dX12_isOdd_19 : decode cX12_isOdd 19 = .ok (.iload 4, 2) := by decide +kernel
theorem dX12_isOdd_21 : decode cX12_isOdd 21 = .ok (.if_icmp .lt 12, 3) := by decide +kernel
theorem dX12_isOdd_24 : decode cX12_isOdd 24 = .ok (.iload 4, 2) := by decide +kernel
theorem dX12_isOdd_26 : decode cX12_isOdd 26 = .ok (.iload_n 3, 1) := by decide +kernel
theorem dX12_isOdd_27 : decode cX12_isOdd 27 = .ok (.imul, 1) := by decide +kernel
theorem dX12_isOdd_28 : decode cX12_isOdd 28 = .ok (.iload 5, 2) := by decide +kernel
theorem dX12_isOdd_30 : decode cX12_isOdd 30 = .ok (.if_icmp .ge 7, 3) := by decide +kernel
theorem dX12_isOdd_33 : decode cX12_isOdd 33 = .ok (.iconst 1, 1) := by decide +kernel
theorem dX12_isOdd_34 : decode cX12_isOdd 34 = .ok (.goto 4, 3) := by decide +kernel
theorem dX12_isOdd_37 : decode cX12_isOdd 37 = .ok (.iconst 0, 1) := by decide +kernel
theorem dX12_isOdd_38 : decode cX12_isOdd 38 = .ok (.ireturn, 1) := by decide +kernel
theorem dX12_grain_0 : decode cX12_grain 0 = .ok (.iload_n 1, 1) := by decide +kernel
theorem dX12_grain_1 : decode cX12_grain 1 = .ok (.invokestatic 87, 3) := by decide +kernel
theorem dX12_grain_4 : decode cX12_grain 4 = .ok (.ifCond .eq 38, 3) := by decide +kernel
theorem dX12_grain_7 : decode cX12_grain 7 = .ok (.iload_n 2, 1) := by decide +kernel
theorem dX12_grain_8 : decode cX12_grain 8 = .ok (.iconst 2, 1) := by decide +kernel
theorem dX12_grain_9 : decode cX12_grain 9 = .ok (.bipush 99, 2) := by decide +kernel
theorem dX12_grain_11 : decode cX12_grain 11 = .ok (.invokestatic 79, 3) := by decide +kernel
theorem dX12_grain_14 : decode cX12_grain 14 = .ok (.ifCond .eq 28, 3) := by decide +kernel
theorem dX12_grain_17 : decode cX12_grain 17 = .ok (.iload_n 3, 1) := by decide +kernel
theorem dX12_grain_18 : decode cX12_grain 18 = .ok (.iconst 0, 1) := by decide +kernel
theorem dX12_grain_19 : decode cX12_grain 19 = .ok (.iconst 2, 1) := by decide +kernel
theorem dX12_grain_20 : decode cX12_grain 20 = .ok (.invokestatic 79, 3) := by decide +kernel
theorem dX12_grain_23 : decode cX12_grain 23 = .ok (.ifCond .ne 21, 3) := by decide +kernel
theorem dX12_grain_26 : decode cX12_grain 26 = .ok (.iload_n 3, 1) := by decide +kernel
theorem dX12_grain_27 : decode cX12_grain 27 = .ok (.bipush 100, 2) := by decide +kernel
theorem dX12_grain_29 : decode cX12_grain 29 = .ok (.bipush 99, 2) := by decide +kernel
theorem dX12_grain_31 : decode cX12_grain 31 = .ok (.aload_n 0, 1) := by decide +kernel
theorem dX12_grain_32 : decode cX12_grain 32 = .ok (.invokevirtual 155, 3) := by decide +kernel
theorem dX12_grain_35 : decode cX12_grain 35 = .ok (.iadd, 1) := by decide +kernel
theorem dX12_grain_36 : decode cX12_grain 36 = .ok (.invokestatic 79, 3) := by decide +kernel
theorem dX12_grain_39 : decode cX12_grain 39 = .ok (.ifCond .ne 5, 3) := by decide +kernel
theorem dX12_grain_42 : decode cX12_grain 42 = .ok (.iconst (-1), 1) := by decide +kernel
theorem dX12_grain_43 : decode cX12_grain 43 = .ok (.ireturn, 1) := by decide +kernel
theorem dX12_grain_44 : decode cX12_grain 44 = .ok (.iload_n 3, 1) := by decide +kernel
theorem dX12_grain_45 : decode cX12_grain 45 = .ok (.iconst 2, 1) := by decide +kernel
theorem dX12_grain_46 : decode cX12_grain 46 = .ok (.if_icmp .ge 20, 3) := by decide +kernel
theorem dX12_grain_49 : decode cX12_grain 49 = .ok (.iload_n 3, 1) := by decide +kernel
theorem dX12_grain_50 : decode cX12_grain 50 = .ok (.ifCond .ne 10, 3) := by decide +kernel
theorem dX12_grain_53 : decode cX12_grain 53 = .ok (.aload_n 0, 1) := by decide +kernel
theorem dX12_grain_54 : decode cX12_grain 54 = .ok (.invokevirtual 155, 3) := by decide +kernel
theorem dX12_grain_57 : decode cX12_grain 57 = .ok (.goto 8, 3) := by decide +kernel
theorem dX12_grain_60 : decode cX12_grain 60 = .ok (.aload_n 0, 1) := by decide +kernel
theorem dX12_grain_61 : decode cX12_grain 61 = .ok (.iload_n 1, 1) := by decide +kernel
theorem dX12_grain_62 : decode cX12_grain 62 = .ok (.invokevirtual 162, 3) := by decide +kernel
theorem dX12_grain_65 : decode cX12_grain 65 = .ok (.ireturn, 1) := by decide +kernel
theorem dX12_grain_66 : decode cX12_grain 66 = .ok (.iload_n 3, 1) := by decide +kernel
theorem dX12_grain_67 : decode cX12_grain 67 = .ok (.bipush 100, 2) := by decide +kernel
theorem dX12_grain_69 : decode cX12_grain 69 = .ok (.if_icmp .lt 22, 3) := by decide +kernel
theorem dX12_grain_72 : decode cX12_grain 72 = .ok (.aload_n 0, 1) := by decide +kernel
theorem dX12_grain_73 : decode cX12_grain 73 = .ok (.iload_n 1, 1) := by decide +kernel
theorem dX12_grain_74 : decode cX12_grain 74 = .ok (.iload_n 3, 1) := by decide +kernel
theorem dX12_grain_75 : decode cX12_grain 75 = .ok (.bipush 100, 2) := by decide +kernel
theorem dX12_grain_77 : decode cX12_grain 77 = .ok (.isub, 1) := by decide +kernel
theorem dX12_grain_78 : decode cX12_grain 78 = .ok (.iload_n 2, 1) := by decide +kernel
theorem dX12_grain_79 : decode cX12_grain 79 = .ok (.invokevirtual 165, 3) := by decide +kernel
theorem dX12_grain_82 : decode cX12_grain 82 = .ok (.ifCond .eq 7, 3) := by decide +kernel
theorem dX12_grain_85 : decode cX12_grain 85 = .ok (.iconst 1, 1) := by decide +kernel
theorem dX12_grain_86 : decode cX12_grain 86 = .ok (.goto 4, 3) := by decide +kernel
theorem dX12_grain_89 : decode cX12_grain 89 = .ok (.iconst 0, 1) := by decide +kernel
theorem dX12_grain_90 : decode cX12_grain 90 = .ok (.ireturn, 1) := by decide +kernel
theorem dX12_grain_91 : decode cX12_grain 91 = .ok (.iconst 0, 1) := by decide +kernel
theorem dX12_grain_92 : decode cX12_grain 92 = .ok (.istore 4, 2) := by decide +kernel
theorem dX12_grain_94 : decode cX12_grain 94 = .ok (.iconst 0, 1) := by decide +kernel
theorem dX12_grain_95 : decode cX12_grain 95 = .ok (.istore 5, 2) := by decide +kernel
theorem dX12_grain_97 : decode cX12_grain 97 = .ok (.iload 5, 2) := by decide +kernel
theorem dX12_grain_99 : decode cX12_grain 99 = .ok (.aload_n 0, 1) := by decide +kernel
theorem dX12_grain_100 : decode cX12_grain 100 = .ok (.invokevirtual 155, 3) := by decide +kernel
theorem dX12_grain_103 : decode cX12_grain 103 = .ok (.if_icmp .ge 30, 3) := by decide +kernel
theorem dX12_grain_106 : decode cX12_grain 106 = .ok (.iload 4, 2) := by decide +kernel
theorem dX12_grain_108 : decode cX12_grain 108 = .ok (.aload_n 0, 1) := by decide +kernel
theorem dX12_grain_109 : decode cX12_grain 109 = .ok (.iload_n 1, 1) := by decide +kernel
theorem dX12_grain_110 : decode cX12_grain 110 = .ok (.iload 5, 2) := by decide +kernel
theorem dX12_grain_112 : decode cX12_grain 112 = .ok (.iload_n 2, 1) := by decide +kernel
theorem dX12_grain_113 : decode cX12_grain 113 = .ok (.invokevirtual 165, 3) := by decide +kernel
theorem dX12_grain_116 : decode cX12_grain 116 = .ok (.ifCond .eq 7, 3) := by decide +kernel
theorem dX12_grain_119 : decode cX12_grain 119 = .ok (.iconst 1, 1) := by decide +kernel
theorem dX12_grain_120 : decode cX12_grain 120 = .ok (.goto 4, 3) := by decide +kernel
theorem dX12_grain_123 : decode cX12_grain 123 = .ok (.iconst 0, 1) := by decide +kernel
theorem dX12_grain_124 : decode cX12_grain 124 = .ok (.iadd, 1) := by decide +kernel
theorem dX12_grain_125 : decode cX12_grain 125 = .ok (.istore 4, 2) := by decide +kernel
theorem dX12_grain_127 : decode cX12_grain 127 = .ok (.iinc 5 1, 3) := by decide +kernel
theorem dX12_grain_130 : decode cX12_grain 130 = .ok (.goto (-33), 3) := by decide +kernel
theorem dX12_grain_133 : decode cX12_grain 133 = .ok (.iload 4, 2) := by decide +kernel
theorem dX12_grain_135 : decode cX12_grain 135 = .ok (.ireturn, 1) := by decide +kernel
