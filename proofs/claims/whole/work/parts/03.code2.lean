theorem dX7_helps_100 : decode cX7_helps 100 = .ok (.aload_n 0, 1) := by decide +kernel
theorem dX7_helps_101 : decode cX7_helps 101 = .ok (.iload_n 3, 1) := by decide +kernel
theorem dX7_helps_102 : decode cX7_helps 102 = .ok (.iconst 2, 1) := by decide +kernel
theorem dX7_helps_103 : decode cX7_helps 103 = .ok (.invokestatic 72, 3) := by decide +kernel
theorem dX7_helps_106 : decode cX7_helps 106 = .ok (.iaload, 1) := by decide +kernel
theorem dX7_helps_107 : decode cX7_helps 107 = .ok (.aload_n 0, 1) := by decide +kernel
theorem dX7_helps_108 : decode cX7_helps 108 = .ok (.iload_n 3, 1) := by decide +kernel
theorem dX7_helps_109 : decode cX7_helps 109 = .ok (.iconst 3, 1) := by decide +kernel
theorem dX7_helps_110 : decode cX7_helps 110 = .ok (.invokestatic 72, 3) := by decide +kernel
theorem dX7_helps_113 : decode cX7_helps 113 = .ok (.iaload, 1) := by decide +kernel
theorem dX7_helps_114 : decode cX7_helps 114 = .ok (.isub, 1) := by decide +kernel
theorem dX7_helps_115 : decode cX7_helps 115 = .ok (.istore 6, 2) := by decide +kernel
theorem dX7_helps_117 : decode cX7_helps 117 = .ok (.iload 5, 2) := by decide +kernel
theorem dX7_helps_119 : decode cX7_helps 119 = .ok (.iload 6, 2) := by decide +kernel
theorem dX7_helps_121 : decode cX7_helps 121 = .ok (.if_icmp .le 8, 3) := by decide +kernel
theorem dX7_helps_124 : decode cX7_helps 124 = .ok (.iload 6, 2) := by decide +kernel
theorem dX7_helps_126 : decode cX7_helps 126 = .ok (.goto 5, 3) := by decide +kernel
theorem dX7_helps_129 : decode cX7_helps 129 = .ok (.iload 5, 2) := by decide +kernel
theorem dX7_helps_131 : decode cX7_helps 131 = .ok (.istore 5, 2) := by decide +kernel
theorem dX7_helps_133 : decode cX7_helps 133 = .ok (.aload_n 0, 1) := by decide +kernel
theorem dX7_helps_134 : decode cX7_helps 134 = .ok (.iload 4, 2) := by decide +kernel
theorem dX7_helps_136 : decode cX7_helps 136 = .ok (.iconst 3, 1) := by decide +kernel
theorem dX7_helps_137 : decode cX7_helps 137 = .ok (.invokestatic 72, 3) := by decide +kernel
theorem dX7_helps_140 : decode cX7_helps 140 = .ok (.dup2, 1) := by decide +kernel
theorem dX7_helps_141 : decode cX7_helps 141 = .ok (.iaload, 1) := by decide +kernel
theorem dX7_helps_142 : decode cX7_helps 142 = .ok (.iload 5, 2) := by decide +kernel
theorem dX7_helps_144 : decode cX7_helps 144 = .ok (.isub, 1) := by decide +kernel
theorem dX7_helps_145 : decode cX7_helps 145 = .ok (.iastore, 1) := by decide +kernel
theorem dX7_helps_146 : decode cX7_helps 146 = .ok (.aload_n 0, 1) := by decide +kernel
theorem dX7_helps_147 : decode cX7_helps 147 = .ok (.iload_n 3, 1) := by decide +kernel
theorem dX7_helps_148 : decode cX7_helps 148 = .ok (.iconst 3, 1) := by decide +kernel
theorem dX7_helps_149 : decode cX7_helps 149 = .ok (.invokestatic 72, 3) := by decide +kernel
theorem dX7_helps_152 : decode cX7_helps 152 = .ok (.dup2, 1) := by decide +kernel
theorem dX7_helps_153 : decode cX7_helps 153 = .ok (.iaload, 1) := by decide +kernel
theorem dX7_helps_154 : decode cX7_helps 154 = .ok (.iload 5, 2) := by decide +kernel
theorem dX7_helps_156 : decode cX7_helps 156 = .ok (.iadd, 1) := by decide +kernel
theorem dX7_helps_157 : decode cX7_helps 157 = .ok (.iastore, 1) := by decide +kernel
theorem dX7_helps_158 : decode cX7_helps 158 = .ok (.aload_n 0, 1) := by decide +kernel
theorem dX7_helps_159 : decode cX7_helps 159 = .ok (.iload_n 3, 1) := by decide +kernel
theorem dX7_helps_160 : decode cX7_helps 160 = .ok (.invokestatic 81, 3) := by decide +kernel
theorem dX7_helps_163 : decode cX7_helps 163 = .ok (.ifCond .eq 5, 3) := by decide +kernel
theorem dX7_helps_166 : decode cX7_helps 166 = .ok (.iconst 0, 1) := by decide +kernel
theorem dX7_helps_167 : decode cX7_helps 167 = .ok (.ireturn, 1) := by decide +kernel
theorem dX7_helps_168 : decode cX7_helps 168 = .ok (.aload_n 0, 1) := by decide +kernel
theorem dX7_helps_169 : decode cX7_helps 169 = .ok (.iload_n 2, 1) := by decide +kernel
theorem dX7_helps_170 : decode cX7_helps 170 = .ok (.iconst 3, 1) := by decide +kernel
theorem dX7_helps_171 : decode cX7_helps 171 = .ok (.invokestatic 58, 3) := by decide +kernel
theorem dX7_helps_174 : decode cX7_helps 174 = .ok (.iconst 0, 1) := by decide +kernel
theorem dX7_helps_175 : decode cX7_helps 175 = .ok (.aload_n 0, 1) := by decide +kernel
theorem dX7_helps_176 : decode cX7_helps 176 = .ok (.iload_n 2, 1) := by decide +kernel
theorem dX7_helps_177 : decode cX7_helps 177 = .ok (.iconst 2, 1) := by decide +kernel
theorem dX7_helps_178 : decode cX7_helps 178 = .ok (.invokestatic 58, 3) := by decide +kernel
theorem dX7_helps_181 : decode cX7_helps 181 = .ok (.iaload, 1) := by decide +kernel
theorem dX7_helps_182 : decode cX7_helps 182 = .ok (.invokestatic 85, 3) := by decide +kernel
theorem dX7_helps_185 : decode cX7_helps 185 = .ok (.aload_n 0, 1) := by decide +kernel
theorem dX7_helps_186 : decode cX7_helps 186 = .ok (.iload_n 2, 1) := by decide +kernel
theorem dX7_helps_187 : decode cX7_helps 187 = .ok (.iconst 2, 1) := by decide +kernel
theorem dX7_helps_188 : decode cX7_helps 188 = .ok (.invokestatic 58, 3) := by decide +kernel
theorem dX7_helps_191 : decode cX7_helps 191 = .ok (.dup2, 1) := by decide +kernel
theorem dX7_helps_192 : decode cX7_helps 192 = .ok (.iaload, 1) := by decide +kernel
theorem dX7_helps_193 : decode cX7_helps 193 = .ok (.iconst 1, 1) := by decide +kernel
theorem dX7_helps_194 : decode cX7_helps 194 = .ok (.isub, 1) := by decide +kernel
theorem dX7_helps_195 : decode cX7_helps 195 = .ok (.iastore, 1) := by decide +kernel
theorem dX7_helps_196 : decode cX7_helps 196 = .ok (.aload_n 0, 1) := by decide +kernel
theorem dX7_helps_197 : decode cX7_helps 197 = .ok (.iload_n 1, 1) := by decide +kernel
theorem dX7_helps_198 : decode cX7_helps 198 = .ok (.iconst 5, 1) := by decide +kernel
theorem dX7_helps_199 : decode cX7_helps 199 = .ok (.aload_n 0, 1) := by decide +kernel
theorem dX7_helps_200 : decode cX7_helps 200 = .ok (.iload_n 1, 1) := by decide +kernel
theorem dX7_helps_201 : decode cX7_helps 201 = .ok (.invokestatic 64, 3) := by decide +kernel
theorem dX7_helps_204 : decode cX7_helps 204 = .ok (.iadd, 1) := by decide +kernel
theorem dX7_helps_205 : decode cX7_helps 205 = .ok (.invokestatic 51, 3) := by decide +kernel
theorem dX7_helps_208 : decode cX7_helps 208 = .ok (.iload_n 3, 1) := by decide +kernel
theorem dX7_helps_209 : decode cX7_helps 209 = .ok (.iastore, 1) := by decide +kernel
theorem dX7_helps_210 : decode cX7_helps 210 = .ok (.aload_n 0, 1) := by decide +kernel
theorem dX7_helps_211 : decode cX7_helps 211 = .ok (.iload_n 1, 1) := by decide +kernel
theorem dX7_helps_212 : decode cX7_helps 212 = .ok (.iconst 1, 1) := by decide +kernel
theorem dX7_helps_213 : decode cX7_helps 213 = .ok (.invokestatic 51, 3) := by decide +kernel
theorem dX7_helps_216 : decode cX7_helps 216 = .ok (.dup2, 1) := by decide +kernel
theorem dX7_helps_217 : decode cX7_helps 217 = .ok (.iaload, 1) := by decide +kernel
theorem dX7_helps_218 : decode cX7_helps 218 = .ok (.iconst 1, 1) := by decide +kernel
theorem dX7_helps_219 : decode cX7_helps 219 = .ok (.iadd, 1) := by decide +kernel
theorem dX7_helps_220 : decode cX7_helps 220 = .ok (.iastore, 1) := by decide +kernel
theorem dX7_helps_221 : decode cX7_helps 221 = .ok (.aload_n 0, 1) := by decide +kernel
theorem dX7_helps_222 : decode cX7_helps 222 = .ok (.iload_n 3, 1) := by decide +kernel
theorem dX7_helps_223 : decode cX7_helps 223 = .ok (.iconst 4, 1) := by decide +kernel
theorem dX7_helps_224 : decode cX7_helps 224 = .ok (.invokestatic 72, 3) := by decide +kernel
theorem dX7_helps_227 : decode cX7_helps 227 = .ok (.iconst 0, 1) := by decide +kernel
theorem dX7_helps_228 : decode cX7_helps 228 = .ok (.iastore, 1) := by decide +kernel
theorem dX7_helps_229 : decode cX7_helps 229 = .ok (.aload_n 0, 1) := by decide +kernel
theorem dX7_helps_230 : decode cX7_helps 230 = .ok (.iload_n 3, 1) := by decide +kernel
theorem dX7_helps_231 : decode cX7_helps 231 = .ok (.iconst 5, 1) := by decide +kernel
theorem dX7_helps_232 : decode cX7_helps 232 = .ok (.invokestatic 72, 3) := by decide +kernel
theorem dX7_helps_235 : decode cX7_helps 235 = .ok (.iload_n 1, 1) := by decide +kernel
theorem dX7_helps_236 : decode cX7_helps 236 = .ok (.iastore, 1) := by decide +kernel
theorem dX7_helps_237 : decode cX7_helps 237 = .ok (.iconst 1, 1) := by decide +kernel
theorem dX7_helps_238 : decode cX7_helps 238 = .ok (.ireturn, 1) := by decide +kernel
theorem dX7_isBefore_0 : decode cX7_isBefore 0 = .ok (.aload_n 0, 1) := by decide +kernel
theorem dX7_isBefore_1 : decode cX7_isBefore 1 = .ok (.iload_n 1, 1) := by decide +kernel
theorem dX7_isBefore_2 : decode cX7_isBefore 2 = .ok (.iconst 0, 1) := by decide +kernel
theorem dX7_isBefore_3 : decode cX7_isBefore 3 = .ok (.invokestatic 72, 3) := by decide +kernel
theorem dX7_isBefore_6 : decode cX7_isBefore 6 = .ok (.iaload, 1) := by decide +kernel
theorem dX7_isBefore_7 : decode cX7_isBefore 7 = .ok (.aload_n 0, 1) := by decide +kernel
theorem dX7_isBefore_8 : decode cX7_isBefore 8 = .ok (.iload_n 2, 1) := by decide +kernel
theorem dX7_isBefore_9 : decode cX7_isBefore 9 = .ok (.iconst 0, 1) := by decide +kernel
theorem dX7_isBefore_10 : decode cX7_isBefore 10 = .ok (.invokestatic 72, 3) := by decide +kernel
theorem dX7_isBefore_13 : decode cX7_isBefore 13 = .ok (.iaload, 1) := by decide +kernel
theorem dX7_isBefore_14 : decode cX7_isBefore 14 = .ok (.isub, 1) := by decide +kernel
theorem dX7_isBefore_15 : decode cX7_isBefore 15 = .ok (.istore_n 3, 1) := by decide +kernel
theorem dX7_isBefore_16 : decode cX7_isBefore 16 = .ok (.iload_n 3, 1) := by decide +kernel
theorem dX7_isBefore_17 : decode cX7_isBefore 17 = .ok (.ifCond .lt 12, 3) := by decide +kernel
theorem dX7_isBefore_20 : decode cX7_isBefore 20 = .ok (.iload_n 3, 1) := by decide +kernel
theorem dX7_isBefore_21 : decode cX7_isBefore 21 = .ok (.ifCond .ne 12, 3) := by decide +kernel
theorem dX7_isBefore_24 : decode cX7_isBefore 24 = .ok (.iload_n 1, 1) := by decide +kernel
theorem dX7_isBefore_25 : decode cX7_isBefore 25 = .ok (.iload_n 2, 1) := by decide +kernel
theorem dX7_isBefore_26 : decode cX7_isBefore 26 = .ok (.if_icmp .ge 7, 3) := by decide +kernel
theorem dX7_isBefore_29 : decode cX7_isBefore 29 = .ok (.iconst 1, 1) := by decide +kernel
theorem dX7_isBefore_30 : decode cX7_isBefore 30 = .ok (.goto 4, 3) := by decide +kernel
theorem dX7_isBefore_33 : decode cX7_isBefore 33 = .ok (.iconst 0, 1) := by decide +kernel
theorem dX7_isBefore_34 : decode cX7_isBefore 34 = .ok (.ireturn, 1) := by decide +kernel
theorem dX7_order_0 : decode cX7_order 0 = .ok (.iload_n 1, 1) := by decide +kernel
theorem dX7_order_1 : decode cX7_order 1 = .ok (.iconst 5, 1) := by decide +kernel
theorem dX7_order_2 : decode cX7_order 2 = .ok (.invokestatic 51, 3) := by decide +kernel
theorem dX7_order_5 : decode cX7_order 5 = .ok (.istore_n 2, 1) := by decide +kernel
theorem dX7_order_6 : decode cX7_order 6 = .ok (.iconst 1, 1) := by decide +kernel
theorem dX7_order_7 : decode cX7_order 7 = .ok (.istore_n 3, 1) := by decide +kernel
theorem dX7_order_8 : decode cX7_order 8 = .ok (.iload_n 3, 1) := by decide +kernel
theorem dX7_order_9 : decode cX7_order 9 = .ok (.aload_n 0, 1) := by decide +kernel
theorem dX7_order_10 : decode cX7_order 10 = .ok (.iload_n 1, 1) := by decide +kernel
theorem dX7_order_11 : decode cX7_order 11 = .ok (.invokestatic 64, 3) := by decide +kernel
theorem dX7_order_14 : decode cX7_order 14 = .ok (.if_icmp .ge 76, 3) := by decide +kernel
theorem dX7_order_17 : decode cX7_order 17 = .ok (.iload_n 3, 1) := by decide +kernel
theorem dX7_order_18 : decode cX7_order 18 = .ok (.istore 4, 2) := by decide +kernel
theorem dX7_order_20 : decode cX7_order 20 = .ok (.iload 4, 2) := by decide +kernel
theorem dX7_order_22 : decode cX7_order 22 = .ok (.ifCond .le 62, 3) := by decide +kernel
theorem dX7_order_25 : decode cX7_order 25 = .ok (.aload_n 0, 1) := by decide +kernel
theorem dX7_order_26 : decode cX7_order 26 = .ok (.aload_n 0, 1) := by decide +kernel
theorem dX7_order_27 : decode cX7_order 27 = .ok (.iload_n 2, 1) := by decide +kernel
theorem dX7_order_28 : decode cX7_order 28 = .ok (.iload 4, 2) := by decide +kernel
theorem dX7_order_30 : decode cX7_order 30 = .ok (.iadd, 1) := by decide +kernel
theorem dX7_order_31 : decode cX7_order 31 = .ok (.iaload, 1) := by decide +kernel
theorem dX7_order_32 : decode cX7_order 32 = .ok (.aload_n 0, 1) := by decide +kernel
theorem dX7_order_33 : decode cX7_order 33 = .ok (.iload_n 2, 1) := by decide +kernel
theorem dX7_order_34 : decode cX7_order 34 = .ok (.iload 4, 2) := by decide +kernel
theorem dX7_order_36 : decode cX7_order 36 = .ok (.iadd, 1) := by decide +kernel
theorem dX7_order_37 : decode cX7_order 37 = .ok (.iconst 1, 1) := by decide +kernel
theorem dX7_order_38 : decode cX7_order 38 = .ok (.isub, 1) := by decide +kernel
theorem dX7_order_39 : decode cX7_order 39 = .ok (.iaload, 1) := by decide +kernel
theorem dX7_order_40 : decode cX7_order 40 = .ok (.invokestatic 89, 3) := by decide +kernel
theorem dX7_order_43 : decode cX7_order 43 = .ok (.ifCond .eq 41, 3) := by decide +kernel
theorem dX7_order_46 : decode cX7_order 46 = .ok (.aload_n 0, 1) := by decide +kernel
theorem dX7_order_47 : decode cX7_order 47 = .ok (.iload_n 2, 1) := by decide +kernel
theorem dX7_order_48 : decode cX7_order 48 = .ok (.iload 4, 2) := by decide +kernel
theorem dX7_order_50 : decode cX7_order 50 = .ok (.iadd, 1) := by decide +kernel
theorem dX7_order_51 : decode cX7_order 51 = .ok (.iaload, 1) := by decide +kernel
theorem dX7_order_52 : decode cX7_order 52 = .ok (.istore 5, 2) := by decide +kernel
theorem dX7_order_54 : decode cX7_order 54 = .ok (.aload_n 0, 1) := by decide +kernel
theorem dX7_order_55 : decode cX7_order 55 = .ok (.iload_n 2, 1) := by decide +kernel
theorem dX7_order_56 : decode cX7_order 56 = .ok (.iload 4, 2) := by decide +kernel
theorem dX7_order_58 : decode cX7_order 58 = .ok (.iadd, 1) := by decide +kernel
theorem dX7_order_59 : decode cX7_order 59 = .ok (.aload_n 0, 1) := by decide +kernel
theorem dX7_order_60 : decode cX7_order 60 = .ok (.iload_n 2, 1) := by decide +kernel
theorem dX7_order_61 : decode cX7_order 61 = .ok (.iload 4, 2) := by decide +kernel
theorem dX7_order_63 : decode cX7_order 63 = .ok (.iadd, 1) := by decide +kernel
theorem dX7_order_64 : decode cX7_order 64 = .ok (.iconst 1, 1) := by decide +kernel
theorem dX7_order_65 : decode cX7_order 65 = .ok (.isub, 1) := by decide +kernel
theorem dX7_order_66 : decode cX7_order 66 = .ok (.iaload, 1) := by decide +kernel
theorem dX7_order_67 : decode cX7_order 67 = .ok (.iastore, 1) := by decide +kernel
theorem dX7_order_68 : decode cX7_order 68 = .ok (.aload_n 0, 1) := by decide +kernel
theorem dX7_order_69 : decode cX7_order 69 = .ok (.iload_n 2, 1) := by decide +kernel
theorem dX7_order_70 : decode cX7_order 70 = .ok (.iload 4, 2) := by decide +kernel
theorem dX7_order_72 : decode cX7_order 72 = .ok (.iadd, 1) := by decide +kernel
theorem dX7_order_73 : decode cX7_order 73 = .ok (.iconst 1, 1) := by decide +kernel
theorem dX7_order_74 : decode cX7_order 74 = .ok (.isub, 1) := by decide +kernel
theorem dX7_order_75 : decode cX7_order 75 = .ok (.iload 5, 2) := by decide +kernel
theorem dX7_order_77 : decode cX7_order 77 = .ok (.iastore, 1) := by decide +kernel
theorem dX7_order_78 : decode cX7_order 78 = .ok (.iinc 4 (-1), 3) := by decide +kernel
theorem dX7_order_81 : decode cX7_order 81 = .ok (.goto (-61), 3) := by decide +kernel
theorem dX7_order_84 : decode cX7_order 84 = .ok (.iinc 3 1, 3) := by decide +kernel
theorem dX7_order_87 : decode cX7_order 87 = .ok (.goto (-79), 3) := by decide +kernel
theorem dX7_order_90 : decode cX7_order 90 = .ok (.return_, 1) := by decide +kernel
theorem dX7_rescue_0 : decode cX7_rescue 0 = .ok (.aload_n 0, 1) := by decide +kernel
theorem dX7_rescue_1 : decode cX7_rescue 1 = .ok (.aload_n 0, 1) := by decide +kernel
theorem dX7_rescue_2 : decode cX7_rescue 2 = .ok (.iload_n 1, 1) := by decide +kernel
theorem dX7_rescue_3 : decode cX7_rescue 3 = .ok (.iconst 0, 1) := by decide +kernel
theorem dX7_rescue_4 : decode cX7_rescue 4 = .ok (.invokestatic 51, 3) := by decide +kernel
theorem dX7_rescue_7 : decode cX7_rescue 7 = .ok (.iaload, 1) := by decide +kernel
theorem dX7_rescue_8 : decode cX7_rescue 8 = .ok (.invokestatic 78, 3) := by decide +kernel
theorem dX7_rescue_11 : decode cX7_rescue 11 = .ok (.istore_n 2, 1) := by decide +kernel
theorem dX7_rescue_12 : decode cX7_rescue 12 = .ok (.iconst 0, 1) := by decide +kernel
theorem dX7_rescue_13 : decode cX7_rescue 13 = .ok (.istore_n 3, 1) := by decide +kernel
theorem dX7_rescue_14 : decode cX7_rescue 14 = .ok (.iload_n 2, 1) := by decide +kernel
theorem dX7_rescue_15 : decode cX7_rescue 15 = .ok (.bipush (-9), 2) := by decide +kernel
theorem dX7_rescue_17 : decode cX7_rescue 17 = .ok (.if_icmp .eq 7, 3) := by decide +kernel
theorem dX7_rescue_20 : decode cX7_rescue 20 = .ok (.iconst 1, 1) := by decide +kernel
theorem dX7_rescue_21 : decode cX7_rescue 21 = .ok (.goto 4, 3) := by decide +kernel
theorem dX7_rescue_24 : decode cX7_rescue 24 = .ok (.iconst 0, 1) := by decide +kernel
theorem dX7_rescue_25 : decode cX7_rescue 25 = .ok (.istore 4, 2) := by decide +kernel
theorem dX7_rescue_27 : decode cX7_rescue 27 = .ok (.iload 4, 2) := by decide +kernel
theorem dX7_rescue_29 : decode cX7_rescue 29 = .ok (.ifCond .eq 49, 3) := by decide +kernel
theorem dX7_rescue_32 : decode cX7_rescue 32 = .ok (.aload_n 0, 1) := by decide +kernel
theorem dX7_rescue_33 : decode cX7_rescue 33 = .ok (.iload_n 2, 1) := by decide +kernel
theorem dX7_rescue_34 : decode cX7_rescue 34 = .ok (.iconst 2, 1) := by decide +kernel
theorem dX7_rescue_35 : decode cX7_rescue 35 = .ok (.invokestatic 58, 3) := by decide +kernel
theorem dX7_rescue_38 : decode cX7_rescue 38 = .ok (.iaload, 1) := by decide +kernel
theorem dX7_rescue_39 : decode cX7_rescue 39 = .ok (.ifCond .le 39, 3) := by decide +kernel
theorem dX7_rescue_42 : decode cX7_rescue 42 = .ok (.aload_n 0, 1) := by decide +kernel
theorem dX7_rescue_43 : decode cX7_rescue 43 = .ok (.iload_n 1, 1) := by decide +kernel
theorem dX7_rescue_44 : decode cX7_rescue 44 = .ok (.invokestatic 64, 3) := by decide +kernel
theorem dX7_rescue_47 : decode cX7_rescue 47 = .ok (.bipush 8, 2) := by decide +kernel
theorem dX7_rescue_49 : decode cX7_rescue 49 = .ok (.if_icmp .ge 29, 3) := by decide +kernel
theorem dX7_rescue_52 : decode cX7_rescue 52 = .ok (.aload_n 0, 1) := by decide +kernel
theorem dX7_rescue_53 : decode cX7_rescue 53 = .ok (.iload_n 1, 1) := by decide +kernel
theorem dX7_rescue_54 : decode cX7_rescue 54 = .ok (.iload_n 2, 1) := by decide +kernel
theorem dX7_rescue_55 : decode cX7_rescue 55 = .ok (.invokestatic 93, 3) := by decide +kernel
theorem dX7_rescue_58 : decode cX7_rescue 58 = .ok (.istore 4, 2) := by decide +kernel
theorem dX7_rescue_60 : decode cX7_rescue 60 = .ok (.iload_n 3, 1) := by decide +kernel
theorem dX7_rescue_61 : decode cX7_rescue 61 = .ok (.ifCond .ne 8, 3) := by decide +kernel
theorem dX7_rescue_64 : decode cX7_rescue 64 = .ok (.iload 4, 2) := by decide +kernel
theorem dX7_rescue_66 : decode cX7_rescue 66 = .ok (.ifCond .eq 7, 3) := by decide +kernel
theorem dX7_rescue_69 : decode cX7_rescue 69 = .ok (.iconst 1, 1) := by decide +kernel
theorem dX7_rescue_70 : decode cX7_rescue 70 = .ok (.goto 4, 3) := by decide +kernel
theorem dX7_rescue_73 : decode cX7_rescue 73 = .ok (.iconst 0, 1) := by decide +kernel
theorem dX7_rescue_74 : decode cX7_rescue 74 = .ok (.istore_n 3, 1) := by decide +kernel
theorem dX7_rescue_75 : decode cX7_rescue 75 = .ok (.goto (-48), 3) := by decide +kernel
theorem dX7_rescue_78 : decode cX7_rescue 78 = .ok (.iload_n 3, 1) := by decide +kernel
theorem dX7_rescue_79 : decode cX7_rescue 79 = .ok (.ifCond .eq 8, 3) := by decide +kernel
theorem dX7_rescue_82 : decode cX7_rescue 82 = .ok (.aload_n 0, 1) := by decide +kernel
theorem dX7_rescue_83 : decode cX7_rescue 83 = .ok (.iload_n 1, 1) := by decide +kernel
theorem dX7_rescue_84 : decode cX7_rescue 84 = .ok (.invokestatic 96, 3) := by decide +kernel
theorem dX7_rescue_87 : decode cX7_rescue 87 = .ok (.return_, 1) := by decide +kernel
theorem dX7_goConvoy_0 : decode cX7_goConvoy 0 = .ok (.aload_n 1, 1) := by decide +kernel
theorem dX7_goConvoy_1 : decode cX7_goConvoy 1 = .ok (.iload_n 2, 1) := by decide +kernel
theorem dX7_goConvoy_2 : decode cX7_goConvoy 2 = .ok (.iconst 2, 1) := by decide +kernel
theorem dX7_goConvoy_3 : decode cX7_goConvoy 3 = .ok (.invokestatic 51, 3) := by decide +kernel
theorem dX7_goConvoy_6 : decode cX7_goConvoy 6 = .ok (.iaload, 1) := by decide +kernel
theorem dX7_goConvoy_7 : decode cX7_goConvoy 7 = .ok (.ifCond .le 15, 3) := by decide +kernel
theorem dX7_goConvoy_10 : decode cX7_goConvoy 10 = .ok (.aload_n 1, 1) := by decide +kernel
theorem dX7_goConvoy_11 : decode cX7_goConvoy 11 = .ok (.iload_n 2, 1) := by decide +kernel
theorem dX7_goConvoy_12 : decode cX7_goConvoy 12 = .ok (.iconst 2, 1) := by decide +kernel
theorem dX7_goConvoy_13 : decode cX7_goConvoy 13 = .ok (.invokestatic 51, 3) := by decide +kernel
theorem dX7_goConvoy_16 : decode cX7_goConvoy 16 = .ok (.dup2, 1) := by decide +kernel
theorem dX7_goConvoy_17 : decode cX7_goConvoy 17 = .ok (.iaload, 1) := by decide +kernel
theorem dX7_goConvoy_18 : decode cX7_goConvoy 18 = .ok (.iconst 1, 1) := by decide +kernel
theorem dX7_goConvoy_19 : decode cX7_goConvoy 19 = .ok (.isub, 1) := by decide +kernel
theorem dX7_goConvoy_20 : decode cX7_goConvoy 20 = .ok (.iastore, 1) := by decide +kernel
theorem dX7_goConvoy_21 : decode cX7_goConvoy 21 = .ok (.return_, 1) := by decide +kernel
theorem dX7_goConvoy_22 : decode cX7_goConvoy 22 = .ok (.aload_n 1, 1) := by decide +kernel
theorem dX7_goConvoy_23 : decode cX7_goConvoy 23 = .ok (.iload_n 2, 1) := by decide +kernel
theorem dX7_goConvoy_24 : decode cX7_goConvoy 24 = .ok (.invokestatic 100, 3) := by decide +kernel
theorem dX7_goConvoy_27 : decode cX7_goConvoy 27 = .ok (.aload_n 1, 1) := by decide +kernel
theorem dX7_goConvoy_28 : decode cX7_goConvoy 28 = .ok (.iload_n 2, 1) := by decide +kernel
theorem dX7_goConvoy_29 : decode cX7_goConvoy 29 = .ok (.invokestatic 103, 3) := by decide +kernel
theorem dX7_goConvoy_32 : decode cX7_goConvoy 32 = .ok (.istore_n 3, 1) := by decide +kernel
theorem dX7_goConvoy_33 : decode cX7_goConvoy 33 = .ok (.iconst 0, 1) := by decide +kernel
theorem dX7_goConvoy_34 : decode cX7_goConvoy 34 = .ok (.istore 4, 2) := by decide +kernel
theorem dX7_goConvoy_36 : decode cX7_goConvoy 36 = .ok (.iload 4, 2) := by decide +kernel
theorem dX7_goConvoy_38 : decode cX7_goConvoy 38 = .ok (.iload_n 3, 1) := by decide +kernel
theorem dX7_goConvoy_39 : decode cX7_goConvoy 39 = .ok (.if_icmp .ge 97, 3) := by decide +kernel
theorem dX7_goConvoy_42 : decode cX7_goConvoy 42 = .ok (.aload_n 1, 1) := by decide +kernel
theorem dX7_goConvoy_43 : decode cX7_goConvoy 43 = .ok (.aload_n 1, 1) := by decide +kernel
theorem dX7_goConvoy_44 : decode cX7_goConvoy 44 = .ok (.iload_n 2, 1) := by decide +kernel
theorem dX7_goConvoy_45 : decode cX7_goConvoy 45 = .ok (.iconst 0, 1) := by decide +kernel
theorem dX7_goConvoy_46 : decode cX7_goConvoy 46 = .ok (.invokestatic 51, 3) := by decide +kernel
theorem dX7_goConvoy_49 : decode cX7_goConvoy 49 = .ok (.iaload, 1) := by decide +kernel
theorem dX7_goConvoy_50 : decode cX7_goConvoy 50 = .ok (.iconst 1, 1) := by decide +kernel
theorem dX7_goConvoy_51 : decode cX7_goConvoy 51 = .ok (.iadd, 1) := by decide +kernel
theorem dX7_goConvoy_52 : decode cX7_goConvoy 52 = .ok (.invokestatic 106, 3) := by decide +kernel
theorem dX7_goConvoy_55 : decode cX7_goConvoy 55 = .ok (.istore 5, 2) := by decide +kernel
theorem dX7_goConvoy_57 : decode cX7_goConvoy 57 = .ok (.iload 5, 2) := by decide +kernel
theorem dX7_goConvoy_59 : decode cX7_goConvoy 59 = .ok (.bipush (-9), 2) := by decide +kernel
theorem dX7_goConvoy_61 : decode cX7_goConvoy 61 = .ok (.if_icmp .eq 24, 3) := by decide +kernel
theorem dX7_goConvoy_64 : decode cX7_goConvoy 64 = .ok (.aload_n 1, 1) := by decide +kernel
theorem dX7_goConvoy_65 : decode cX7_goConvoy 65 = .ok (.iload 5, 2) := by decide +kernel
theorem dX7_goConvoy_67 : decode cX7_goConvoy 67 = .ok (.invokestatic 109, 3) := by decide +kernel
theorem dX7_goConvoy_70 : decode cX7_goConvoy 70 = .ok (.ifCond .eq 15, 3) := by decide +kernel
theorem dX7_goConvoy_73 : decode cX7_goConvoy 73 = .ok (.aload_n 1, 1) := by decide +kernel
theorem dX7_goConvoy_74 : decode cX7_goConvoy 74 = .ok (.iload_n 2, 1) := by decide +kernel
theorem dX7_goConvoy_75 : decode cX7_goConvoy 75 = .ok (.iconst 3, 1) := by decide +kernel
theorem dX7_goConvoy_76 : decode cX7_goConvoy 76 = .ok (.invokestatic 51, 3) := by decide +kernel
theorem dX7_goConvoy_79 : decode cX7_goConvoy 79 = .ok (.dup2, 1) := by decide +kernel
theorem dX7_goConvoy_80 : decode cX7_goConvoy 80 = .ok (.iaload, 1) := by decide +kernel
theorem dX7_goConvoy_81 : decode cX7_goConvoy 81 = .ok (.iconst 1, 1) := by decide +kernel
theorem dX7_goConvoy_82 : decode cX7_goConvoy 82 = .ok (.iadd, 1) := by decide +kernel
theorem dX7_goConvoy_83 : decode cX7_goConvoy 83 = .ok (.iastore, 1) := by decide +kernel
theorem dX7_goConvoy_84 : decode cX7_goConvoy 84 = .ok (.return_, 1) := by decide +kernel
theorem dX7_goConvoy_85 : decode cX7_goConvoy 85 = .ok (.aload_n 0, 1) := by decide +kernel
theorem dX7_goConvoy_86 : decode cX7_goConvoy 86 = .ok (.aload_n 1, 1) := by decide +kernel
theorem dX7_goConvoy_87 : decode cX7_goConvoy 87 = .ok (.iload_n 2, 1) := by decide +kernel
theorem dX7_goConvoy_88 : decode cX7_goConvoy 88 = .ok (.invokevirtual 112, 3) := by decide +kernel
theorem dX7_goConvoy_91 : decode cX7_goConvoy 91 = .ok (.ifCond .ne 15, 3) := by decide +kernel
theorem dX7_goConvoy_94 : decode cX7_goConvoy 94 = .ok (.aload_n 1, 1) := by decide +kernel
theorem dX7_goConvoy_95 : decode cX7_goConvoy 95 = .ok (.iload_n 2, 1) := by decide +kernel
theorem dX7_goConvoy_96 : decode cX7_goConvoy 96 = .ok (.iconst 4, 1) := by decide +kernel
theorem dX7_goConvoy_97 : decode cX7_goConvoy 97 = .ok (.invokestatic 51, 3) := by decide +kernel
theorem dX7_goConvoy_100 : decode cX7_goConvoy 100 = .ok (.dup2, 1) := by decide +kernel
theorem dX7_goConvoy_101 : decode cX7_goConvoy 101 = .ok (.iaload, 1) := by decide +kernel
theorem dX7_goConvoy_102 : decode cX7_goConvoy 102 = .ok (.iconst 1, 1) := by decide +kernel
theorem dX7_goConvoy_103 : decode cX7_goConvoy 103 = .ok (.iadd, 1) := by decide +kernel
theorem dX7_goConvoy_104 : decode cX7_goConvoy 104 = .ok (.iastore, 1) := by decide +kernel
theorem dX7_goConvoy_105 : decode cX7_goConvoy 105 = .ok (.return_, 1) := by decide +kernel
theorem dX7_goConvoy_106 : decode cX7_goConvoy 106 = .ok (.aload_n 1, 1) := by decide +kernel
theorem dX7_goConvoy_107 : decode cX7_goConvoy 107 = .ok (.iload_n 2, 1) := by decide +kernel
theorem dX7_goConvoy_108 : decode cX7_goConvoy 108 = .ok (.invokestatic 115, 3) := by decide +kernel
theorem dX7_goConvoy_111 : decode cX7_goConvoy 111 = .ok (.aload_n 1, 1) := by decide +kernel
theorem dX7_goConvoy_112 : decode cX7_goConvoy 112 = .ok (.iload_n 2, 1) := by decide +kernel
theorem dX7_goConvoy_113 : decode cX7_goConvoy 113 = .ok (.invokestatic 118, 3) := by decide +kernel
theorem dX7_goConvoy_116 : decode cX7_goConvoy 116 = .ok (.ifCond .eq 9, 3) := by decide +kernel
theorem dX7_goConvoy_119 : decode cX7_goConvoy 119 = .ok (.aload_n 1, 1) := by decide +kernel
theorem dX7_goConvoy_120 : decode cX7_goConvoy 120 = .ok (.iload_n 2, 1) := by decide +kernel
theorem dX7_goConvoy_121 : decode cX7_goConvoy 121 = .ok (.invokestatic 121, 3) := by decide +kernel
theorem dX7_goConvoy_124 : decode cX7_goConvoy 124 = .ok (.return_, 1) := by decide +kernel
theorem dX7_goConvoy_125 : decode cX7_goConvoy 125 = .ok (.aload_n 1, 1) := by decide +kernel
theorem dX7_goConvoy_126 : decode cX7_goConvoy 126 = .ok (.iload_n 2, 1) := by decide +kernel
theorem dX7_goConvoy_127 : decode cX7_goConvoy 127 = .ok (.invokestatic 124, 3) := by decide +kernel
theorem dX7_goConvoy_130 : decode cX7_goConvoy 130 = .ok (.iinc 4 1, 3) := by decide +kernel
theorem dX7_goConvoy_133 : decode cX7_goConvoy 133 = .ok (.goto (-97), 3) := by decide +kernel
theorem dX7_goConvoy_136 : decode cX7_goConvoy 136 = .ok (.return_, 1) := by decide +kernel
theorem dX7_goHour_0 : decode cX7_goHour 0 = .ok (.iconst 0, 1) := by decide +kernel
theorem dX7_goHour_1 : decode cX7_goHour 1 = .ok (.istore_n 2, 1) := by decide +kernel
theorem dX7_goHour_2 : decode cX7_goHour 2 = .ok (.iload_n 2, 1) := by decide +kernel
theorem dX7_goHour_3 : decode cX7_goHour 3 = .ok (.aload_n 1, 1) := by decide +kernel
theorem dX7_goHour_4 : decode cX7_goHour 4 = .ok (.iconst 5, 1) := by decide +kernel
theorem dX7_goHour_5 : decode cX7_goHour 5 = .ok (.iaload, 1) := by decide +kernel
theorem dX7_goHour_6 : decode cX7_goHour 6 = .ok (.if_icmp .ge 31, 3) := by decide +kernel
theorem dX7_goHour_9 : decode cX7_goHour 9 = .ok (.aload_n 1, 1) := by decide +kernel
theorem dX7_goHour_10 : decode cX7_goHour 10 = .ok (.iload_n 2, 1) := by decide +kernel
theorem dX7_goHour_11 : decode cX7_goHour 11 = .ok (.invokestatic 64, 3) := by decide +kernel
theorem dX7_goHour_14 : decode cX7_goHour 14 = .ok (.ifCond .le 17, 3) := by decide +kernel
theorem dX7_goHour_17 : decode cX7_goHour 17 = .ok (.aload_n 1, 1) := by decide +kernel
theorem dX7_goHour_18 : decode cX7_goHour 18 = .ok (.iload_n 2, 1) := by decide +kernel
theorem dX7_goHour_19 : decode cX7_goHour 19 = .ok (.invokestatic 118, 3) := by decide +kernel
theorem dX7_goHour_22 : decode cX7_goHour 22 = .ok (.ifCond .ne 9, 3) := by decide +kernel
theorem dX7_goHour_25 : decode cX7_goHour 25 = .ok (.aload_n 0, 1) := by decide +kernel
theorem dX7_goHour_26 : decode cX7_goHour 26 = .ok (.aload_n 1, 1) := by decide +kernel
theorem dX7_goHour_27 : decode cX7_goHour 27 = .ok (.iload_n 2, 1) := by decide +kernel
theorem dX7_goHour_28 : decode cX7_goHour 28 = .ok (.invokevirtual 127, 3) := by decide +kernel
theorem dX7_goHour_31 : decode cX7_goHour 31 = .ok (.iinc 2 1, 3) := by decide +kernel
theorem dX7_goHour_34 : decode cX7_goHour 34 = .ok (.goto (-32), 3) := by decide +kernel
theorem dX7_goHour_37 : decode cX7_goHour 37 = .ok (.aload_n 1, 1) := by decide +kernel
theorem dX7_goHour_38 : decode cX7_goHour 38 = .ok (.iconst 1, 1) := by decide +kernel
theorem dX7_goHour_39 : decode cX7_goHour 39 = .ok (.dup2, 1) := by decide +kernel
theorem dX7_goHour_40 : decode cX7_goHour 40 = .ok (.iaload, 1) := by decide +kernel
theorem dX7_goHour_41 : decode cX7_goHour 41 = .ok (.iconst 1, 1) := by decide +kernel
theorem dX7_goHour_42 : decode cX7_goHour 42 = .ok (.iadd, 1) := by decide +kernel
theorem dX7_goHour_43 : decode cX7_goHour 43 = .ok (.iastore, 1) := by decide +kernel
theorem dX7_goHour_44 : decode cX7_goHour 44 = .ok (.return_, 1) := by decide +kernel
theorem dX7_countAt_0 : decode cX7_countAt 0 = .ok (.iconst 0, 1) := by decide +kernel
theorem dX7_countAt_1 : decode cX7_countAt 1 = .ok (.istore_n 2, 1) := by decide +kernel
theorem dX7_countAt_2 : decode cX7_countAt 2 = .ok (.iconst 0, 1) := by decide +kernel
theorem dX7_countAt_3 : decode cX7_countAt 3 = .ok (.istore_n 3, 1) := by decide +kernel
theorem dX7_countAt_4 : decode cX7_countAt 4 = .ok (.iload_n 3, 1) := by decide +kernel
theorem dX7_countAt_5 : decode cX7_countAt 5 = .ok (.aload_n 0, 1) := by decide +kernel
theorem dX7_countAt_6 : decode cX7_countAt 6 = .ok (.bipush 6, 2) := by decide +kernel
theorem dX7_countAt_8 : decode cX7_countAt 8 = .ok (.iaload, 1) := by decide +kernel
theorem dX7_countAt_9 : decode cX7_countAt 9 = .ok (.if_icmp .ge 28, 3) := by decide +kernel
theorem dX7_countAt_12 : decode cX7_countAt 12 = .ok (.iload_n 2, 1) := by decide +kernel
theorem dX7_countAt_13 : decode cX7_countAt 13 = .ok (.aload_n 0, 1) := by decide +kernel
theorem dX7_countAt_14 : decode cX7_countAt 14 = .ok (.iload_n 3, 1) := by decide +kernel
theorem dX7_countAt_15 : decode cX7_countAt 15 = .ok (.iconst 4, 1) := by decide +kernel
theorem dX7_countAt_16 : decode cX7_countAt 16 = .ok (.invokestatic 72, 3) := by decide +kernel
theorem dX7_countAt_19 : decode cX7_countAt 19 = .ok (.iaload, 1) := by decide +kernel
theorem dX7_countAt_20 : decode cX7_countAt 20 = .ok (.iload_n 1, 1) := by decide +kernel
theorem dX7_countAt_21 : decode cX7_countAt 21 = .ok (.if_icmp .ne 7, 3) := by decide +kernel
theorem dX7_countAt_24 : decode cX7_countAt 24 = .ok (.iconst 1, 1) := by decide +kernel
theorem dX7_countAt_25 : decode cX7_countAt 25 = .ok (.goto 4, 3) := by decide +kernel
theorem dX7_countAt_28 : decode cX7_countAt 28 = .ok (.iconst 0, 1) := by decide +kernel
theorem dX7_countAt_29 : decode cX7_countAt 29 = .ok (.iadd, 1) := by decide +kernel
theorem dX7_countAt_30 : decode cX7_countAt 30 = .ok (.istore_n 2, 1) := by decide +kernel
theorem dX7_countAt_31 : decode cX7_countAt 31 = .ok (.iinc 3 1, 3) := by decide +kernel
theorem dX7_countAt_34 : decode cX7_countAt 34 = .ok (.goto (-30), 3) := by decide +kernel
theorem dX7_countAt_37 : decode cX7_countAt 37 = .ok (.iload_n 2, 1) := by decide +kernel
theorem dX7_countAt_38 : decode cX7_countAt 38 = .ok (.ireturn, 1) := by decide +kernel
theorem dX7_goHours_0 : decode cX7_goHours 0 = .ok (.aload_n 1, 1) := by decide +kernel
theorem dX7_goHours_1 : decode cX7_goHours 1 = .ok (.iconst 2, 1) := by decide +kernel
theorem dX7_goHours_2 : decode cX7_goHours 2 = .ok (.invokestatic 130, 3) := by decide +kernel
theorem dX7_goHours_5 : decode cX7_goHours 5 = .ok (.istore_n 3, 1) := by decide +kernel
theorem dX7_goHours_6 : decode cX7_goHours 6 = .ok (.iconst 0, 1) := by decide +kernel
theorem dX7_goHours_7 : decode cX7_goHours 7 = .ok (.istore 4, 2) := by decide +kernel
theorem dX7_goHours_9 : decode cX7_goHours 9 = .ok (.iload 4, 2) := by decide +kernel
theorem dX7_goHours_11 : decode cX7_goHours 11 = .ok (.iload_n 2, 1) := by decide +kernel
theorem dX7_goHours_12 : decode cX7_goHours 12 = .ok (.if_icmp .ge 14, 3) := by decide +kernel
theorem dX7_goHours_15 : decode cX7_goHours 15 = .ok (.aload_n 0, 1) := by decide +kernel
theorem dX7_goHours_16 : decode cX7_goHours 16 = .ok (.aload_n 1, 1) := by decide +kernel
theorem dX7_goHours_17 : decode cX7_goHours 17 = .ok (.invokevirtual 133, 3) := by decide +kernel
theorem dX7_goHours_20 : decode cX7_goHours 20 = .ok (.iinc 4 1, 3) := by decide +kernel
theorem dX7_goHours_23 : decode cX7_goHours 23 = .ok (.goto (-14), 3) := by decide +kernel
theorem dX7_goHours_26 : decode cX7_goHours 26 = .ok (.aload_n 1, 1) := by decide +kernel
theorem dX7_goHours_27 : decode cX7_goHours 27 = .ok (.iconst 2, 1) := by decide +kernel
theorem dX7_goHours_28 : decode cX7_goHours 28 = .ok (.invokestatic 130, 3) := by decide +kernel
theorem dX7_goHours_31 : decode cX7_goHours 31 = .ok (.iload_n 3, 1) := by decide +kernel
theorem dX7_goHours_32 : decode cX7_goHours 32 = .ok (.isub, 1) := by decide +kernel
theorem dX7_goHours_33 : decode cX7_goHours 33 = .ok (.ireturn, 1) := by decide +kernel
theorem dX7_addGateTo_0 : decode cX7_addGateTo 0 = .ok (.aload_n 0, 1) := by decide +kernel
theorem dX7_addGateTo_1 : decode cX7_addGateTo 1 = .ok (.iconst 2, 1) := by decide +kernel
theorem dX7_addGateTo_2 : decode cX7_addGateTo 2 = .ok (.iaload, 1) := by decide +kernel
theorem dX7_addGateTo_3 : decode cX7_addGateTo 3 = .ok (.istore 5, 2) := by decide +kernel
theorem dX7_addGateTo_5 : decode cX7_addGateTo 5 = .ok (.aload_n 0, 1) := by decide +kernel
theorem dX7_addGateTo_6 : decode cX7_addGateTo 6 = .ok (.iload 5, 2) := by decide +kernel
theorem dX7_addGateTo_8 : decode cX7_addGateTo 8 = .ok (.iconst 0, 1) := by decide +kernel
theorem dX7_addGateTo_9 : decode cX7_addGateTo 9 = .ok (.invokestatic 55, 3) := by decide +kernel
theorem dX7_addGateTo_12 : decode cX7_addGateTo 12 = .ok (.iload_n 1, 1) := by decide +kernel
theorem dX7_addGateTo_13 : decode cX7_addGateTo 13 = .ok (.iastore, 1) := by decide +kernel
theorem dX7_addGateTo_14 : decode cX7_addGateTo 14 = .ok (.aload_n 0, 1) := by decide +kernel
theorem dX7_addGateTo_15 : decode cX7_addGateTo 15 = .ok (.iload 5, 2) := by decide +kernel
theorem dX7_addGateTo_17 : decode cX7_addGateTo 17 = .ok (.iconst 1, 1) := by decide +kernel
theorem dX7_addGateTo_18 : decode cX7_addGateTo 18 = .ok (.invokestatic 55, 3) := by decide +kernel
theorem dX7_addGateTo_21 : decode cX7_addGateTo 21 = .ok (.iload_n 2, 1) := by decide +kernel
theorem dX7_addGateTo_22 : decode cX7_addGateTo 22 = .ok (.iastore, 1) := by decide +kernel
theorem dX7_addGateTo_23 : decode cX7_addGateTo 23 = .ok (.aload_n 0, 1) := by decide +kernel
theorem dX7_addGateTo_24 : decode cX7_addGateTo 24 = .ok (.iload 5, 2) := by decide +kernel
theorem dX7_addGateTo_26 : decode cX7_addGateTo 26 = .ok (.iconst 2, 1) := by decide +kernel
theorem dX7_addGateTo_27 : decode cX7_addGateTo 27 = .ok (.invokestatic 55, 3) := by decide +kernel
theorem dX7_addGateTo_30 : decode cX7_addGateTo 30 = .ok (.iload_n 3, 1) := by decide +kernel
theorem dX7_addGateTo_31 : decode cX7_addGateTo 31 = .ok (.iastore, 1) := by decide +kernel
theorem dX7_addGateTo_32 : decode cX7_addGateTo 32 = .ok (.aload_n 0, 1) := by decide +kernel
theorem dX7_addGateTo_33 : decode cX7_addGateTo 33 = .ok (.iload 5, 2) := by decide +kernel
theorem dX7_addGateTo_35 : decode cX7_addGateTo 35 = .ok (.iconst 3, 1) := by decide +kernel
theorem dX7_addGateTo_36 : decode cX7_addGateTo 36 = .ok (.invokestatic 55, 3) := by decide +kernel
theorem dX7_addGateTo_39 : decode cX7_addGateTo 39 = .ok (.iload 4, 2) := by decide +kernel
theorem dX7_addGateTo_41 : decode cX7_addGateTo 41 = .ok (.iastore, 1) := by decide +kernel
theorem dX7_addGateTo_42 : decode cX7_addGateTo 42 = .ok (.aload_n 0, 1) := by decide +kernel
theorem dX7_addGateTo_43 : decode cX7_addGateTo 43 = .ok (.iconst 2, 1) := by decide +kernel
theorem dX7_addGateTo_44 : decode cX7_addGateTo 44 = .ok (.dup2, 1) := by decide +kernel
theorem dX7_addGateTo_45 : decode cX7_addGateTo 45 = .ok (.iaload, 1) := by decide +kernel
theorem dX7_addGateTo_46 : decode cX7_addGateTo 46 = .ok (.iconst 1, 1) := by decide +kernel
theorem dX7_addGateTo_47 : decode cX7_addGateTo 47 = .ok (.iadd, 1) := by decide +kernel
theorem dX7_addGateTo_48 : decode cX7_addGateTo 48 = .ok (.iastore, 1) := by decide +kernel
theorem dX7_addGateTo_49 : decode cX7_addGateTo 49 = .ok (.return_, 1) := by decide +kernel
theorem dX7_addBayTo_0 : decode cX7_addBayTo 0 = .ok (.aload_n 0, 1) := by decide +kernel
theorem dX7_addBayTo_1 : decode cX7_addBayTo 1 = .ok (.iconst 3, 1) := by decide +kernel
theorem dX7_addBayTo_2 : decode cX7_addBayTo 2 = .ok (.iaload, 1) := by decide +kernel
theorem dX7_addBayTo_3 : decode cX7_addBayTo 3 = .ok (.istore_n 3, 1) := by decide +kernel
theorem dX7_addBayTo_4 : decode cX7_addBayTo 4 = .ok (.aload_n 0, 1) := by decide +kernel
theorem dX7_addBayTo_5 : decode cX7_addBayTo 5 = .ok (.iload_n 3, 1) := by decide +kernel
theorem dX7_addBayTo_6 : decode cX7_addBayTo 6 = .ok (.iconst 0, 1) := by decide +kernel
theorem dX7_addBayTo_7 : decode cX7_addBayTo 7 = .ok (.invokestatic 58, 3) := by decide +kernel
theorem dX7_addBayTo_10 : decode cX7_addBayTo 10 = .ok (.iload_n 1, 1) := by decide +kernel
theorem dX7_addBayTo_11 : decode cX7_addBayTo 11 = .ok (.iastore, 1) := by decide +kernel
theorem dX7_addBayTo_12 : decode cX7_addBayTo 12 = .ok (.aload_n 0, 1) := by decide +kernel
theorem dX7_addBayTo_13 : decode cX7_addBayTo 13 = .ok (.iload_n 3, 1) := by decide +kernel
theorem dX7_addBayTo_14 : decode cX7_addBayTo 14 = .ok (.iconst 1, 1) := by decide +kernel
theorem dX7_addBayTo_15 : decode cX7_addBayTo 15 = .ok (.invokestatic 58, 3) := by decide +kernel
theorem dX7_addBayTo_18 : decode cX7_addBayTo 18 = .ok (.iload_n 2, 1) := by decide +kernel
theorem dX7_addBayTo_19 : decode cX7_addBayTo 19 = .ok (.iastore, 1) := by decide +kernel
theorem dX7_addBayTo_20 : decode cX7_addBayTo 20 = .ok (.aload_n 0, 1) := by decide +kernel
theorem dX7_addBayTo_21 : decode cX7_addBayTo 21 = .ok (.iload_n 3, 1) := by decide +kernel
theorem dX7_addBayTo_22 : decode cX7_addBayTo 22 = .ok (.iconst 2, 1) := by decide +kernel
theorem dX7_addBayTo_23 : decode cX7_addBayTo 23 = .ok (.invokestatic 58, 3) := by decide +kernel
theorem dX7_addBayTo_26 : decode cX7_addBayTo 26 = .ok (.iconst 0, 1) := by decide +kernel
theorem dX7_addBayTo_27 : decode cX7_addBayTo 27 = .ok (.iastore, 1) := by decide +kernel
theorem dX7_addBayTo_28 : decode cX7_addBayTo 28 = .ok (.aload_n 0, 1) := by decide +kernel
theorem dX7_addBayTo_29 : decode cX7_addBayTo 29 = .ok (.iconst 3, 1) := by decide +kernel
theorem dX7_addBayTo_30 : decode cX7_addBayTo 30 = .ok (.dup2, 1) := by decide +kernel
theorem dX7_addBayTo_31 : decode cX7_addBayTo 31 = .ok (.iaload, 1) := by decide +kernel
theorem dX7_addBayTo_32 : decode cX7_addBayTo 32 = .ok (.iconst 1, 1) := by decide +kernel
theorem dX7_addBayTo_33 : decode cX7_addBayTo 33 = .ok (.iadd, 1) := by decide +kernel
theorem dX7_addBayTo_34 : decode cX7_addBayTo 34 = .ok (.iastore, 1) := by decide +kernel
theorem dX7_addBayTo_35 : decode cX7_addBayTo 35 = .ok (.return_, 1) := by decide +kernel
theorem dX7_addDepotTo_0 : decode cX7_addDepotTo 0 = .ok (.aload_n 0, 1) := by decide +kernel
theorem dX7_addDepotTo_1 : decode cX7_addDepotTo 1 = .ok (.iconst 4, 1) := by decide +kernel
theorem dX7_addDepotTo_2 : decode cX7_addDepotTo 2 = .ok (.iaload, 1) := by decide +kernel
theorem dX7_addDepotTo_3 : decode cX7_addDepotTo 3 = .ok (.istore_n 3, 1) := by decide +kernel
theorem dX7_addDepotTo_4 : decode cX7_addDepotTo 4 = .ok (.aload_n 0, 1) := by decide +kernel
theorem dX7_addDepotTo_5 : decode cX7_addDepotTo 5 = .ok (.iload_n 3, 1) := by decide +kernel
theorem dX7_addDepotTo_6 : decode cX7_addDepotTo 6 = .ok (.iconst 0, 1) := by decide +kernel
theorem dX7_addDepotTo_7 : decode cX7_addDepotTo 7 = .ok (.invokestatic 61, 3) := by decide +kernel
theorem dX7_addDepotTo_10 : decode cX7_addDepotTo 10 = .ok (.iload_n 1, 1) := by decide +kernel
theorem dX7_addDepotTo_11 : decode cX7_addDepotTo 11 = .ok (.iastore, 1) := by decide +kernel
theorem dX7_addDepotTo_12 : decode cX7_addDepotTo 12 = .ok (.aload_n 0, 1) := by decide +kernel
theorem dX7_addDepotTo_13 : decode cX7_addDepotTo 13 = .ok (.iload_n 3, 1) := by decide +kernel
theorem dX7_addDepotTo_14 : decode cX7_addDepotTo 14 = .ok (.iconst 1, 1) := by decide +kernel
theorem dX7_addDepotTo_15 : decode cX7_addDepotTo 15 = .ok (.invokestatic 61, 3) := by decide +kernel
theorem dX7_addDepotTo_18 : decode cX7_addDepotTo 18 = .ok (.iload_n 2, 1) := by decide +kernel
theorem dX7_addDepotTo_19 : decode cX7_addDepotTo 19 = .ok (.iastore, 1) := by decide +kernel
theorem dX7_addDepotTo_20 : decode cX7_addDepotTo 20 = .ok (.aload_n 0, 1) := by decide +kernel
theorem dX7_addDepotTo_21 : decode cX7_addDepotTo 21 = .ok (.iconst 4, 1) := by decide +kernel
theorem dX7_addDepotTo_22 : decode cX7_addDepotTo 22 = .ok (.dup2, 1) := by decide +kernel
theorem dX7_addDepotTo_23 : decode cX7_addDepotTo 23 = .ok (.iaload, 1) := by decide +kernel
theorem dX7_addDepotTo_24 : decode cX7_addDepotTo 24 = .ok (.iconst 1, 1) := by decide +kernel
theorem dX7_addDepotTo_25 : decode cX7_addDepotTo 25 = .ok (.iadd, 1) := by decide +kernel
theorem dX7_addDepotTo_26 : decode cX7_addDepotTo 26 = .ok (.iastore, 1) := by decide +kernel
theorem dX7_addDepotTo_27 : decode cX7_addDepotTo 27 = .ok (.return_, 1) := by decide +kernel
theorem dX7_addConvoyTo_0 : decode cX7_addConvoyTo 0 = .ok (.iconst 0, 1) := by decide +kernel
theorem dX7_addConvoyTo_1 : decode cX7_addConvoyTo 1 = .ok (.istore_n 1, 1) := by decide +kernel
theorem dX7_addConvoyTo_2 : decode cX7_addConvoyTo 2 = .ok (.iload_n 1, 1) := by decide +kernel
theorem dX7_addConvoyTo_3 : decode cX7_addConvoyTo 3 = .ok (.bipush 13, 2) := by decide +kernel
theorem dX7_addConvoyTo_5 : decode cX7_addConvoyTo 5 = .ok (.if_icmp .ge 19, 3) := by decide +kernel
theorem dX7_addConvoyTo_8 : decode cX7_addConvoyTo 8 = .ok (.aload_n 0, 1) := by decide +kernel
theorem dX7_addConvoyTo_9 : decode cX7_addConvoyTo 9 = .ok (.aload_n 0, 1) := by decide +kernel
theorem dX7_addConvoyTo_10 : decode cX7_addConvoyTo 10 = .ok (.iconst 5, 1) := by decide +kernel
theorem dX7_addConvoyTo_11 : decode cX7_addConvoyTo 11 = .ok (.iaload, 1) := by decide +kernel
theorem dX7_addConvoyTo_12 : decode cX7_addConvoyTo 12 = .ok (.iload_n 1, 1) := by decide +kernel
theorem dX7_addConvoyTo_13 : decode cX7_addConvoyTo 13 = .ok (.invokestatic 51, 3) := by decide +kernel
theorem dX7_addConvoyTo_16 : decode cX7_addConvoyTo 16 = .ok (.iconst 0, 1) := by decide +kernel
theorem dX7_addConvoyTo_17 : decode cX7_addConvoyTo 17 = .ok (.iastore, 1) := by decide +kernel
theorem dX7_addConvoyTo_18 : decode cX7_addConvoyTo 18 = .ok (.iinc 1 1, 3) := by decide +kernel
theorem dX7_addConvoyTo_21 : decode cX7_addConvoyTo 21 = .ok (.goto (-19), 3) := by decide +kernel
theorem dX7_addConvoyTo_24 : decode cX7_addConvoyTo 24 = .ok (.aload_n 0, 1) := by decide +kernel
theorem dX7_addConvoyTo_25 : decode cX7_addConvoyTo 25 = .ok (.iconst 5, 1) := by decide +kernel
theorem dX7_addConvoyTo_26 : decode cX7_addConvoyTo 26 = .ok (.dup2, 1) := by decide +kernel
theorem dX7_addConvoyTo_27 : decode cX7_addConvoyTo 27 = .ok (.iaload, 1) := by decide +kernel
theorem dX7_addConvoyTo_28 : decode cX7_addConvoyTo 28 = .ok (.iconst 1, 1) := by decide +kernel
theorem dX7_addConvoyTo_29 : decode cX7_addConvoyTo 29 = .ok (.iadd, 1) := by decide +kernel
theorem dX7_addConvoyTo_30 : decode cX7_addConvoyTo 30 = .ok (.iastore, 1) := by decide +kernel
theorem dX7_addConvoyTo_31 : decode cX7_addConvoyTo 31 = .ok (.return_, 1) := by decide +kernel
theorem dX7_addCarTo_0 : decode cX7_addCarTo 0 = .ok (.aload_n 0, 1) := by decide +kernel
theorem dX7_addCarTo_1 : decode cX7_addCarTo 1 = .ok (.bipush 6, 2) := by decide +kernel
theorem dX7_addCarTo_3 : decode cX7_addCarTo 3 = .ok (.iaload, 1) := by decide +kernel
theorem dX7_addCarTo_4 : decode cX7_addCarTo 4 = .ok (.istore 6, 2) := by decide +kernel
theorem dX7_addCarTo_6 : decode cX7_addCarTo 6 = .ok (.aload_n 0, 1) := by decide +kernel
theorem dX7_addCarTo_7 : decode cX7_addCarTo 7 = .ok (.iload 6, 2) := by decide +kernel
theorem dX7_addCarTo_9 : decode cX7_addCarTo 9 = .ok (.iconst 0, 1) := by decide +kernel
theorem dX7_addCarTo_10 : decode cX7_addCarTo 10 = .ok (.invokestatic 72, 3) := by decide +kernel
theorem dX7_addCarTo_13 : decode cX7_addCarTo 13 = .ok (.iload_n 2, 1) := by decide +kernel
theorem dX7_addCarTo_14 : decode cX7_addCarTo 14 = .ok (.iastore, 1) := by decide +kernel
theorem dX7_addCarTo_15 : decode cX7_addCarTo 15 = .ok (.aload_n 0, 1) := by decide +kernel
theorem dX7_addCarTo_16 : decode cX7_addCarTo 16 = .ok (.iload 6, 2) := by decide +kernel
theorem dX7_addCarTo_18 : decode cX7_addCarTo 18 = .ok (.iconst 1, 1) := by decide +kernel
theorem dX7_addCarTo_19 : decode cX7_addCarTo 19 = .ok (.invokestatic 72, 3) := by decide +kernel
theorem dX7_addCarTo_22 : decode cX7_addCarTo 22 = .ok (.iload_n 3, 1) := by decide +kernel
theorem dX7_addCarTo_23 : decode cX7_addCarTo 23 = .ok (.iastore, 1) := by decide +kernel
theorem dX7_addCarTo_24 : decode cX7_addCarTo 24 = .ok (.aload_n 0, 1) := by decide +kernel
theorem dX7_addCarTo_25 : decode cX7_addCarTo 25 = .ok (.iload 6, 2) := by decide +kernel
theorem dX7_addCarTo_27 : decode cX7_addCarTo 27 = .ok (.iconst 2, 1) := by decide +kernel
theorem dX7_addCarTo_28 : decode cX7_addCarTo 28 = .ok (.invokestatic 72, 3) := by decide +kernel
theorem dX7_addCarTo_31 : decode cX7_addCarTo 31 = .ok (.iload 4, 2) := by decide +kernel
theorem dX7_addCarTo_33 : decode cX7_addCarTo 33 = .ok (.iastore, 1) := by decide +kernel
theorem dX7_addCarTo_34 : decode cX7_addCarTo 34 = .ok (.aload_n 0, 1) := by decide +kernel
theorem dX7_addCarTo_35 : decode cX7_addCarTo 35 = .ok (.iload 6, 2) := by decide +kernel
theorem dX7_addCarTo_37 : decode cX7_addCarTo 37 = .ok (.iconst 3, 1) := by decide +kernel
theorem dX7_addCarTo_38 : decode cX7_addCarTo 38 = .ok (.invokestatic 72, 3) := by decide +kernel
theorem dX7_addCarTo_41 : decode cX7_addCarTo 41 = .ok (.iload 5, 2) := by decide +kernel
theorem dX7_addCarTo_43 : decode cX7_addCarTo 43 = .ok (.iastore, 1) := by decide +kernel
theorem dX7_addCarTo_44 : decode cX7_addCarTo 44 = .ok (.aload_n 0, 1) := by decide +kernel
theorem dX7_addCarTo_45 : decode cX7_addCarTo 45 = .ok (.iload 6, 2) := by decide +kernel
theorem dX7_addCarTo_47 : decode cX7_addCarTo 47 = .ok (.iconst 4, 1) := by decide +kernel
theorem dX7_addCarTo_48 : decode cX7_addCarTo 48 = .ok (.invokestatic 72, 3) := by decide +kernel
theorem dX7_addCarTo_51 : decode cX7_addCarTo 51 = .ok (.iconst 0, 1) := by decide +kernel
theorem dX7_addCarTo_52 : decode cX7_addCarTo 52 = .ok (.iastore, 1) := by decide +kernel
theorem dX7_addCarTo_53 : decode cX7_addCarTo 53 = .ok (.aload_n 0, 1) := by decide +kernel
theorem dX7_addCarTo_54 : decode cX7_addCarTo 54 = .ok (.iload 6, 2) := by decide +kernel
theorem dX7_addCarTo_56 : decode cX7_addCarTo 56 = .ok (.iconst 5, 1) := by decide +kernel
theorem dX7_addCarTo_57 : decode cX7_addCarTo 57 = .ok (.invokestatic 72, 3) := by decide +kernel
theorem dX7_addCarTo_60 : decode cX7_addCarTo 60 = .ok (.iload_n 1, 1) := by decide +kernel
theorem dX7_addCarTo_61 : decode cX7_addCarTo 61 = .ok (.iastore, 1) := by decide +kernel
theorem dX7_addCarTo_62 : decode cX7_addCarTo 62 = .ok (.aload_n 0, 1) := by decide +kernel
theorem dX7_addCarTo_63 : decode cX7_addCarTo 63 = .ok (.iload 6, 2) := by decide +kernel
theorem dX7_addCarTo_65 : decode cX7_addCarTo 65 = .ok (.bipush 6, 2) := by decide +kernel
theorem dX7_addCarTo_67 : decode cX7_addCarTo 67 = .ok (.invokestatic 72, 3) := by decide +kernel
theorem dX7_addCarTo_70 : decode cX7_addCarTo 70 = .ok (.iconst 0, 1) := by decide +kernel
theorem dX7_addCarTo_71 : decode cX7_addCarTo 71 = .ok (.iastore, 1) := by decide +kernel
theorem dX7_addCarTo_72 : decode cX7_addCarTo 72 = .ok (.aload_n 0, 1) := by decide +kernel
theorem dX7_addCarTo_73 : decode cX7_addCarTo 73 = .ok (.iload_n 1, 1) := by decide +kernel
theorem dX7_addCarTo_74 : decode cX7_addCarTo 74 = .ok (.iconst 5, 1) := by decide +kernel
theorem dX7_addCarTo_75 : decode cX7_addCarTo 75 = .ok (.aload_n 0, 1) := by decide +kernel
theorem dX7_addCarTo_76 : decode cX7_addCarTo 76 = .ok (.iload_n 1, 1) := by decide +kernel
theorem dX7_addCarTo_77 : decode cX7_addCarTo 77 = .ok (.invokestatic 64, 3) := by decide +kernel
theorem dX7_addCarTo_80 : decode cX7_addCarTo 80 = .ok (.iadd, 1) := by decide +kernel
theorem dX7_addCarTo_81 : decode cX7_addCarTo 81 = .ok (.invokestatic 51, 3) := by decide +kernel
theorem dX7_addCarTo_84 : decode cX7_addCarTo 84 = .ok (.iload 6, 2) := by decide +kernel
theorem dX7_addCarTo_86 : decode cX7_addCarTo 86 = .ok (.iastore, 1) := by decide +kernel
theorem dX7_addCarTo_87 : decode cX7_addCarTo 87 = .ok (.aload_n 0, 1) := by decide +kernel
theorem dX7_addCarTo_88 : decode cX7_addCarTo 88 = .ok (.iload_n 1, 1) := by decide +kernel
theorem dX7_addCarTo_89 : decode cX7_addCarTo 89 = .ok (.iconst 1, 1) := by decide +kernel
theorem dX7_addCarTo_90 : decode cX7_addCarTo 90 = .ok (.invokestatic 51, 3) := by decide +kernel
theorem dX7_addCarTo_93 : decode cX7_addCarTo 93 = .ok (.dup2, 1) := by decide +kernel
theorem dX7_addCarTo_94 : decode cX7_addCarTo 94 = .ok (.iaload, 1) := by decide +kernel
theorem dX7_addCarTo_95 : decode cX7_addCarTo 95 = .ok (.iconst 1, 1) := by decide +kernel
theorem dX7_addCarTo_96 : decode cX7_addCarTo 96 = .ok (.iadd, 1) := by decide +kernel
theorem dX7_addCarTo_97 : decode cX7_addCarTo 97 = .ok (.iastore, 1) := by decide +kernel
theorem dX7_addCarTo_98 : decode cX7_addCarTo 98 = .ok (.aload_n 0, 1) := by decide +kernel
theorem dX7_addCarTo_99 : decode cX7_addCarTo 99 = .ok (.bipush 6, 2) := by decide +kernel
theorem dX7_addCarTo_101 : decode cX7_addCarTo 101 = .ok (.dup2, 1) := by decide +kernel
theorem dX7_addCarTo_102 : decode cX7_addCarTo 102 = .ok (.iaload, 1) := by decide +kernel
theorem dX7_addCarTo_103 : decode cX7_addCarTo 103 = .ok (.iconst 1, 1) := by decide +kernel
theorem dX7_addCarTo_104 : decode cX7_addCarTo 104 = .ok (.iadd, 1) := by decide +kernel
theorem dX7_addCarTo_105 : decode cX7_addCarTo 105 = .ok (.iastore, 1) := by decide +kernel
theorem dX7_addCarTo_106 : decode cX7_addCarTo 106 = .ok (.return_, 1) := by decide +kernel
theorem dX7_append_0 : decode cX7_append 0 = .ok (.aload_n 0, 1) := by decide +kernel
theorem dX7_append_1 : decode cX7_append 1 = .ok (.iload_n 1, 1) := by decide +kernel
theorem dX7_append_2 : decode cX7_append 2 = .ok (.i2l, 1) := by decide +kernel
theorem dX7_append_3 : decode cX7_append 3 = .ok (.lconst 0, 1) := by decide +kernel
theorem dX7_append_4 : decode cX7_append 4 = .ok (.ldc2_w 137, 3) := by decide +kernel
theorem dX7_append_7 : decode cX7_append 7 = .ok (.invokestatic 139, 3) := by decide +kernel
theorem dX7_append_10 : decode cX7_append 10 = .ok (.ifCond .ne 7, 3) := by decide +kernel
theorem dX7_append_13 : decode cX7_append 13 = .ok (.iconst 1, 1) := by decide +kernel
theorem dX7_append_14 : decode cX7_append 14 = .ok (.goto 18, 3) := by decide +kernel
theorem dX7_append_17 : decode cX7_append 17 = .ok (.aload_n 0, 1) := by decide +kernel
theorem dX7_append_18 : decode cX7_append 18 = .ok (.getfield 143, 3) := by decide +kernel
theorem dX7_append_21 : decode cX7_append 21 = .ok (.sipush 140, 3) := by decide +kernel
theorem dX7_append_24 : decode cX7_append 24 = .ok (.if_icmp .ne 7, 3) := by decide +kernel
theorem dX7_append_27 : decode cX7_append 27 = .ok (.iconst 2, 1) := by decide +kernel
theorem dX7_append_28 : decode cX7_append 28 = .ok (.goto 4, 3) := by decide +kernel
theorem dX7_append_31 : decode cX7_append 31 = .ok (.iconst 0, 1) := by decide +kernel
theorem dX7_append_32 : decode cX7_append 32 = .ok (.invokevirtual 146, 3) := by decide +kernel
theorem dX7_append_35 : decode cX7_append 35 = .ok (.ifCond .eq 5, 3) := by decide +kernel
theorem dX7_append_38 : decode cX7_append 38 = .ok (.iconst 0, 1) := by decide +kernel
theorem dX7_append_39 : decode cX7_append 39 = .ok (.ireturn, 1) := by decide +kernel
theorem dX7_append_40 : decode cX7_append 40 = .ok (.aload_n 0, 1) := by decide +kernel
theorem dX7_append_41 : decode cX7_append 41 = .ok (.getfield 7, 3) := by decide +kernel
theorem dX7_append_44 : decode cX7_append 44 = .ok (.aload_n 0, 1) := by decide +kernel
theorem dX7_append_45 : decode cX7_append 45 = .ok (.getfield 143, 3) := by decide +kernel
theorem dX7_append_48 : decode cX7_append 48 = .ok (.iload_n 1, 1) := by decide +kernel
theorem dX7_append_49 : decode cX7_append 49 = .ok (.iastore, 1) := by decide +kernel
theorem dX7_append_50 : decode cX7_append 50 = .ok (.aload_n 0, 1) := by decide +kernel
theorem dX7_append_51 : decode cX7_append 51 = .ok (.dup, 1) := by decide +kernel
theorem dX7_append_52 : decode cX7_append 52 = .ok (.getfield 143, 3) := by decide +kernel
theorem dX7_append_55 : decode cX7_append 55 = .ok (.iconst 1, 1) := by decide +kernel
theorem dX7_append_56 : decode cX7_append 56 = .ok (.iadd, 1) := by decide +kernel
theorem dX7_append_57 : decode cX7_append 57 = .ok (.putfield 143, 3) := by decide +kernel
theorem dX7_append_60 : decode cX7_append 60 = .ok (.aload_n 0, 1) := by decide +kernel
theorem dX7_append_61 : decode cX7_append 61 = .ok (.getfield 143, 3) := by decide +kernel
theorem dX7_append_64 : decode cX7_append 64 = .ok (.ireturn, 1) := by decide +kernel
theorem dX7_clearText_0 : decode cX7_clearText 0 = .ok (.aload_n 0, 1) := by decide +kernel
theorem dX7_clearText_1 : decode cX7_clearText 1 = .ok (.iconst 0, 1) := by decide +kernel
theorem dX7_clearText_2 : decode cX7_clearText 2 = .ok (.putfield 39, 3) := by decide +kernel
theorem dX7_clearText_5 : decode cX7_clearText 5 = .ok (.aload_n 0, 1) := by decide +kernel
theorem dX7_clearText_6 : decode cX7_clearText 6 = .ok (.getfield 143, 3) := by decide +kernel
theorem dX7_clearText_9 : decode cX7_clearText 9 = .ok (.istore_n 1, 1) := by decide +kernel
theorem dX7_clearText_10 : decode cX7_clearText 10 = .ok (.aload_n 0, 1) := by decide +kernel
theorem dX7_clearText_11 : decode cX7_clearText 11 = .ok (.iconst 0, 1) := by decide +kernel
theorem dX7_clearText_12 : decode cX7_clearText 12 = .ok (.putfield 143, 3) := by decide +kernel
theorem dX7_clearText_15 : decode cX7_clearText 15 = .ok (.iload_n 1, 1) := by decide +kernel
theorem dX7_clearText_16 : decode cX7_clearText 16 = .ok (.ireturn, 1) := by decide +kernel
theorem dX7_isNext_0 : decode cX7_isNext 0 = .ok (.aload_n 0, 1) := by decide +kernel
theorem dX7_isNext_1 : decode cX7_isNext 1 = .ok (.getfield 150, 3) := by decide +kernel
theorem dX7_isNext_4 : decode cX7_isNext 4 = .ok (.aload_n 0, 1) := by decide +kernel
theorem dX7_isNext_5 : decode cX7_isNext 5 = .ok (.getfield 143, 3) := by decide +kernel
theorem dX7_isNext_8 : decode cX7_isNext 8 = .ok (.if_icmp .ge 20, 3) := by decide +kernel
theorem dX7_isNext_11 : decode cX7_isNext 11 = .ok (.aload_n 0, 1) := by decide +kernel
theorem dX7_isNext_12 : decode cX7_isNext 12 = .ok (.getfield 7, 3) := by decide +kernel
theorem dX7_isNext_15 : decode cX7_isNext 15 = .ok (.aload_n 0, 1) := by decide +kernel
theorem dX7_isNext_16 : decode cX7_isNext 16 = .ok (.getfield 150, 3) := by decide +kernel
theorem dX7_isNext_19 : decode cX7_isNext 19 = .ok (.iaload, 1) := by decide +kernel
theorem dX7_isNext_20 : decode cX7_isNext 20 = .ok (.iload_n 1, 1) := by decide +kernel
theorem dX7_isNext_21 : decode cX7_isNext 21 = .ok (.if_icmp .ne 7, 3) := by decide +kernel
theorem dX7_isNext_24 : decode cX7_isNext 24 = .ok (.iconst 1, 1) := by decide +kernel
theorem dX7_isNext_25 : decode cX7_isNext 25 = .ok (.goto 4, 3) := by decide +kernel
theorem dX7_isNext_28 : decode cX7_isNext 28 = .ok (.iconst 0, 1) := by decide +kernel
theorem dX7_isNext_29 : decode cX7_isNext 29 = .ok (.ireturn, 1) := by decide +kernel
theorem dX7_accept_0 : decode cX7_accept 0 = .ok (.aload_n 0, 1) := by decide +kernel
theorem dX7_accept_1 : decode cX7_accept 1 = .ok (.aload_n 0, 1) := by decide +kernel
theorem dX7_accept_2 : decode cX7_accept 2 = .ok (.getfield 153, 3) := by decide +kernel
theorem dX7_accept_5 : decode cX7_accept 5 = .ok (.ifCond .eq 11, 3) := by decide +kernel
theorem dX7_accept_8 : decode cX7_accept 8 = .ok (.iload_n 1, 1) := by decide +kernel
theorem dX7_accept_9 : decode cX7_accept 9 = .ok (.ifCond .eq 7, 3) := by decide +kernel
theorem dX7_accept_12 : decode cX7_accept 12 = .ok (.iconst 1, 1) := by decide +kernel
theorem dX7_accept_13 : decode cX7_accept 13 = .ok (.goto 4, 3) := by decide +kernel
theorem dX7_accept_16 : decode cX7_accept 16 = .ok (.iconst 0, 1) := by decide +kernel
theorem dX7_accept_17 : decode cX7_accept 17 = .ok (.putfield 153, 3) := by decide +kernel
theorem dX7_accept_20 : decode cX7_accept 20 = .ok (.aload_n 0, 1) := by decide +kernel
theorem dX7_accept_21 : decode cX7_accept 21 = .ok (.dup, 1) := by decide +kernel
theorem dX7_accept_22 : decode cX7_accept 22 = .ok (.getfield 150, 3) := by decide +kernel
theorem dX7_accept_25 : decode cX7_accept 25 = .ok (.aload_n 0, 1) := by decide +kernel
theorem dX7_accept_26 : decode cX7_accept 26 = .ok (.getfield 153, 3) := by decide +kernel
theorem dX7_accept_29 : decode cX7_accept 29 = .ok (.ifCond .eq 7, 3) := by decide +kernel
theorem dX7_accept_32 : decode cX7_accept 32 = .ok (.iconst 1, 1) := by decide +kernel
theorem dX7_accept_33 : decode cX7_accept 33 = .ok (.goto 4, 3) := by decide +kernel
theorem dX7_accept_36 : decode cX7_accept 36 = .ok (.iconst 0, 1) := by decide +kernel
theorem dX7_accept_37 : decode cX7_accept 37 = .ok (.iadd, 1) := by decide +kernel
theorem dX7_accept_38 : decode cX7_accept 38 = .ok (.putfield 150, 3) := by decide +kernel
theorem dX7_accept_41 : decode cX7_accept 41 = .ok (.return_, 1) := by decide +kernel
theorem dX7_digit_0 : decode cX7_digit 0 = .ok (.aload_n 0, 1) := by decide +kernel
theorem dX7_digit_1 : decode cX7_digit 1 = .ok (.getfield 150, 3) := by decide +kernel
theorem dX7_digit_4 : decode cX7_digit 4 = .ok (.aload_n 0, 1) := by decide +kernel
theorem dX7_digit_5 : decode cX7_digit 5 = .ok (.getfield 143, 3) := by decide +kernel
theorem dX7_digit_8 : decode cX7_digit 8 = .ok (.if_icmp .ge 18, 3) := by decide +kernel
theorem dX7_digit_11 : decode cX7_digit 11 = .ok (.aload_n 0, 1) := by decide +kernel
theorem dX7_digit_12 : decode cX7_digit 12 = .ok (.getfield 7, 3) := by decide +kernel
theorem dX7_digit_15 : decode cX7_digit 15 = .ok (.aload_n 0, 1) := by decide +kernel
theorem dX7_digit_16 : decode cX7_digit 16 = .ok (.getfield 150, 3) := by decide +kernel
theorem dX7_digit_19 : decode cX7_digit 19 = .ok (.iaload, 1) := by decide +kernel
theorem dX7_digit_20 : decode cX7_digit 20 = .ok (.bipush 48, 2) := by decide +kernel
theorem dX7_digit_22 : decode cX7_digit 22 = .ok (.isub, 1) := by decide +kernel
theorem dX7_digit_23 : decode cX7_digit 23 = .ok (.goto 5, 3) := by decide +kernel
theorem dX7_digit_26 : decode cX7_digit 26 = .ok (.bipush (-9), 2) := by decide +kernel
theorem dX7_digit_28 : decode cX7_digit 28 = .ok (.istore_n 3, 1) := by decide +kernel
theorem dX7_digit_29 : decode cX7_digit 29 = .ok (.aload_n 0, 1) := by decide +kernel
theorem dX7_digit_30 : decode cX7_digit 30 = .ok (.iload_n 3, 1) := by decide +kernel
theorem dX7_digit_31 : decode cX7_digit 31 = .ok (.i2l, 1) := by decide +kernel
theorem dX7_digit_32 : decode cX7_digit 32 = .ok (.lconst 0, 1) := by decide +kernel
theorem dX7_digit_33 : decode cX7_digit 33 = .ok (.ldc2_w 157, 3) := by decide +kernel
theorem dX7_digit_36 : decode cX7_digit 36 = .ok (.invokestatic 139, 3) := by decide +kernel
theorem dX7_digit_39 : decode cX7_digit 39 = .ok (.ifCond .eq 19, 3) := by decide +kernel
theorem dX7_digit_42 : decode cX7_digit 42 = .ok (.iload_n 3, 1) := by decide +kernel
theorem dX7_digit_43 : decode cX7_digit 43 = .ok (.i2l, 1) := by decide +kernel
theorem dX7_digit_44 : decode cX7_digit 44 = .ok (.iload_n 1, 1) := by decide +kernel
theorem dX7_digit_45 : decode cX7_digit 45 = .ok (.i2l, 1) := by decide +kernel
theorem dX7_digit_46 : decode cX7_digit 46 = .ok (.iload_n 2, 1) := by decide +kernel
theorem dX7_digit_47 : decode cX7_digit 47 = .ok (.i2l, 1) := by decide +kernel
theorem dX7_digit_48 : decode cX7_digit 48 = .ok (.invokestatic 139, 3) := by decide +kernel
theorem dX7_digit_51 : decode cX7_digit 51 = .ok (.ifCond .eq 7, 3) := by decide +kernel
theorem dX7_digit_54 : decode cX7_digit 54 = .ok (.iconst 1, 1) := by decide +kernel
theorem dX7_digit_55 : decode cX7_digit 55 = .ok (.goto 4, 3) := by decide +kernel
theorem dX7_digit_58 : decode cX7_digit 58 = .ok (.iconst 0, 1) := by decide +kernel
theorem dX7_digit_59 : decode cX7_digit 59 = .ok (.invokevirtual 159, 3) := by decide +kernel
theorem dX7_digit_62 : decode cX7_digit 62 = .ok (.aload_n 0, 1) := by decide +kernel
theorem dX7_digit_63 : decode cX7_digit 63 = .ok (.getfield 153, 3) := by decide +kernel
theorem dX7_digit_66 : decode cX7_digit 66 = .ok (.ifCond .eq 7, 3) := by decide +kernel
theorem dX7_digit_69 : decode cX7_digit 69 = .ok (.iload_n 3, 1) := by decide +kernel
theorem dX7_digit_70 : decode cX7_digit 70 = .ok (.goto 4, 3) := by decide +kernel
theorem dX7_digit_73 : decode cX7_digit 73 = .ok (.iload_n 1, 1) := by decide +kernel
theorem dX7_digit_74 : decode cX7_digit 74 = .ok (.ireturn, 1) := by decide +kernel
theorem dX7_two_0 : decode cX7_two 0 = .ok (.aload_n 0, 1) := by decide +kernel
theorem dX7_two_1 : decode cX7_two 1 = .ok (.iload_n 1, 1) := by decide +kernel
theorem dX7_two_2 : decode cX7_two 2 = .ok (.bipush 10, 2) := by decide +kernel
theorem dX7_two_4 : decode cX7_two 4 = .ok (.idiv, 1) := by decide +kernel
theorem dX7_two_5 : decode cX7_two 5 = .ok (.iload_n 2, 1) := by decide +kernel
theorem dX7_two_6 : decode cX7_two 6 = .ok (.bipush 10, 2) := by decide +kernel
theorem dX7_two_8 : decode cX7_two 8 = .ok (.idiv, 1) := by decide +kernel
theorem dX7_two_9 : decode cX7_two 9 = .ok (.invokevirtual 163, 3) := by decide +kernel
theorem dX7_two_12 : decode cX7_two 12 = .ok (.istore_n 3, 1) := by decide +kernel
theorem dX7_two_13 : decode cX7_two 13 = .ok (.iload_n 1, 1) := by decide +kernel
theorem dX7_two_14 : decode cX7_two 14 = .ok (.bipush 10, 2) := by decide +kernel
theorem dX7_two_16 : decode cX7_two 16 = .ok (.iload_n 3, 1) := by decide +kernel
theorem dX7_two_17 : decode cX7_two 17 = .ok (.imul, 1) := by decide +kernel
theorem dX7_two_18 : decode cX7_two 18 = .ok (.isub, 1) := by decide +kernel
theorem dX7_two_19 : decode cX7_two 19 = .ok (.istore 4, 2) := by decide +kernel
theorem dX7_two_21 : decode cX7_two 21 = .ok (.iload_n 2, 1) := by decide +kernel
theorem dX7_two_22 : decode cX7_two 22 = .ok (.bipush 10, 2) := by decide +kernel
theorem dX7_two_24 : decode cX7_two 24 = .ok (.iload_n 3, 1) := by decide +kernel
theorem dX7_two_25 : decode cX7_two 25 = .ok (.imul, 1) := by decide +kernel
theorem dX7_two_26 : decode cX7_two 26 = .ok (.isub, 1) := by decide +kernel
theorem dX7_two_27 : decode cX7_two 27 = .ok (.istore 5, 2) := by decide +kernel
theorem dX7_two_29 : decode cX7_two 29 = .ok (.bipush 10, 2) := by decide +kernel
theorem dX7_two_31 : decode cX7_two 31 = .ok (.iload_n 3, 1) := by decide +kernel
theorem dX7_two_32 : decode cX7_two 32 = .ok (.imul, 1) := by decide +kernel
theorem dX7_two_33 : decode cX7_two 33 = .ok (.aload_n 0, 1) := by decide +kernel
theorem dX7_two_34 : decode cX7_two 34 = .ok (.iload 4, 2) := by decide +kernel
theorem dX7_two_36 : decode cX7_two 36 = .ok (.ifCond .ge 7, 3) := by decide +kernel
theorem dX7_two_39 : decode cX7_two 39 = .ok (.iconst 0, 1) := by decide +kernel
theorem dX7_two_40 : decode cX7_two 40 = .ok (.goto 5, 3) := by decide +kernel
theorem dX7_two_43 : decode cX7_two 43 = .ok (.iload 4, 2) := by decide +kernel
theorem dX7_two_45 : decode cX7_two 45 = .ok (.iload 5, 2) := by decide +kernel
theorem dX7_two_47 : decode cX7_two 47 = .ok (.bipush 9, 2) := by decide +kernel
theorem dX7_two_49 : decode cX7_two 49 = .ok (.if_icmp .le 8, 3) := by decide +kernel
theorem dX7_two_52 : decode cX7_two 52 = .ok (.bipush 9, 2) := by decide +kernel
theorem dX7_two_54 : decode cX7_two 54 = .ok (.goto 5, 3) := by decide +kernel
theorem dX7_two_57 : decode cX7_two 57 = .ok (.iload 5, 2) := by decide +kernel
theorem dX7_two_59 : decode cX7_two 59 = .ok (.invokevirtual 163, 3) := by decide +kernel
theorem dX7_two_62 : decode cX7_two 62 = .ok (.iadd, 1) := by decide +kernel
theorem dX7_two_63 : decode cX7_two 63 = .ok (.ireturn, 1) := by decide +kernel
theorem dX7_demand_0 : decode cX7_demand 0 = .ok (.aload_n 0, 1) := by decide +kernel
theorem dX7_demand_1 : decode cX7_demand 1 = .ok (.getfield 153, 3) := by decide +kernel
theorem dX7_demand_4 : decode cX7_demand 4 = .ok (.ifCond .eq 22, 3) := by decide +kernel
theorem dX7_demand_7 : decode cX7_demand 7 = .ok (.iload_n 1, 1) := by decide +kernel
theorem dX7_demand_8 : decode cX7_demand 8 = .ok (.ifCond .ne 18, 3) := by decide +kernel
theorem dX7_demand_11 : decode cX7_demand 11 = .ok (.aload_n 0, 1) := by decide +kernel
theorem dX7_demand_12 : decode cX7_demand 12 = .ok (.iconst 0, 1) := by decide +kernel
theorem dX7_demand_13 : decode cX7_demand 13 = .ok (.putfield 153, 3) := by decide +kernel
theorem dX7_demand_16 : decode cX7_demand 16 = .ok (.aload_n 0, 1) := by decide +kernel
theorem dX7_demand_17 : decode cX7_demand 17 = .ok (.dup, 1) := by decide +kernel
theorem dX7_demand_18 : decode cX7_demand 18 = .ok (.getfield 150, 3) := by decide +kernel
theorem dX7_demand_21 : decode cX7_demand 21 = .ok (.iconst 1, 1) := by decide +kernel
theorem dX7_demand_22 : decode cX7_demand 22 = .ok (.isub, 1) := by decide +kernel
theorem dX7_demand_23 : decode cX7_demand 23 = .ok (.putfield 150, 3) := by decide +kernel
theorem dX7_demand_26 : decode cX7_demand 26 = .ok (.return_, 1) := by decide +kernel
theorem dX7_readGate_0 : decode cX7_readGate 0 = .ok (.aload_n 0, 1) := by decide +kernel
theorem dX7_readGate_1 : decode cX7_readGate 1 = .ok (.aload_n 0, 1) := by decide +kernel
theorem dX7_readGate_2 : decode cX7_readGate 2 = .ok (.getfield 13, 3) := by decide +kernel
theorem dX7_readGate_5 : decode cX7_readGate 5 = .ok (.iconst 2, 1) := by decide +kernel
theorem dX7_readGate_6 : decode cX7_readGate 6 = .ok (.iaload, 1) := by decide +kernel
theorem dX7_readGate_7 : decode cX7_readGate 7 = .ok (.iconst 4, 1) := by decide +kernel
theorem dX7_readGate_8 : decode cX7_readGate 8 = .ok (.if_icmp .ge 7, 3) := by decide +kernel
theorem dX7_readGate_11 : decode cX7_readGate 11 = .ok (.iconst 1, 1) := by decide +kernel
theorem dX7_readGate_12 : decode cX7_readGate 12 = .ok (.goto 4, 3) := by decide +kernel
theorem dX7_readGate_15 : decode cX7_readGate 15 = .ok (.iconst 0, 1) := by decide +kernel
theorem dX7_readGate_16 : decode cX7_readGate 16 = .ok (.invokevirtual 159, 3) := by decide +kernel
theorem dX7_readGate_19 : decode cX7_readGate 19 = .ok (.aload_n 0, 1) := by decide +kernel
theorem dX7_readGate_20 : decode cX7_readGate 20 = .ok (.iconst 1, 1) := by decide +kernel
theorem dX7_readGate_21 : decode cX7_readGate 21 = .ok (.aload_n 0, 1) := by decide +kernel
theorem dX7_readGate_22 : decode cX7_readGate 22 = .ok (.getfield 13, 3) := by decide +kernel
theorem dX7_readGate_25 : decode cX7_readGate 25 = .ok (.iconst 0, 1) := by decide +kernel
theorem dX7_readGate_26 : decode cX7_readGate 26 = .ok (.iaload, 1) := by decide +kernel
theorem dX7_readGate_27 : decode cX7_readGate 27 = .ok (.iconst 1, 1) := by decide +kernel
theorem dX7_readGate_28 : decode cX7_readGate 28 = .ok (.isub, 1) := by decide +kernel
theorem dX7_readGate_29 : decode cX7_readGate 29 = .ok (.invokevirtual 166, 3) := by decide +kernel
theorem dX7_readGate_32 : decode cX7_readGate 32 = .ok (.istore_n 1, 1) := by decide +kernel
theorem dX7_readGate_33 : decode cX7_readGate 33 = .ok (.aload_n 0, 1) := by decide +kernel
theorem dX7_readGate_34 : decode cX7_readGate 34 = .ok (.aload_n 0, 1) := by decide +kernel
theorem dX7_readGate_35 : decode cX7_readGate 35 = .ok (.getfield 13, 3) := by decide +kernel
theorem dX7_readGate_38 : decode cX7_readGate 38 = .ok (.iload_n 1, 1) := by decide +kernel
theorem dX7_readGate_39 : decode cX7_readGate 39 = .ok (.invokestatic 106, 3) := by decide +kernel
theorem dX7_readGate_42 : decode cX7_readGate 42 = .ok (.bipush (-9), 2) := by decide +kernel
theorem dX7_readGate_44 : decode cX7_readGate 44 = .ok (.if_icmp .ne 7, 3) := by decide +kernel
theorem dX7_readGate_47 : decode cX7_readGate 47 = .ok (.iconst 1, 1) := by decide +kernel
theorem dX7_readGate_48 : decode cX7_readGate 48 = .ok (.goto 4, 3) := by decide +kernel
theorem dX7_readGate_51 : decode cX7_readGate 51 = .ok (.iconst 0, 1) := by decide +kernel
theorem dX7_readGate_52 : decode cX7_readGate 52 = .ok (.invokevirtual 169, 3) := by decide +kernel
theorem dX7_readGate_55 : decode cX7_readGate 55 = .ok (.aload_n 0, 1) := by decide +kernel
theorem dX7_readGate_56 : decode cX7_readGate 56 = .ok (.iconst 2, 1) := by decide +kernel
theorem dX7_readGate_57 : decode cX7_readGate 57 = .ok (.bipush 24, 2) := by decide +kernel
theorem dX7_readGate_59 : decode cX7_readGate 59 = .ok (.invokevirtual 166, 3) := by decide +kernel
theorem dX7_readGate_62 : decode cX7_readGate 62 = .ok (.istore_n 2, 1) := by decide +kernel
theorem dX7_readGate_63 : decode cX7_readGate 63 = .ok (.aload_n 0, 1) := by decide +kernel
theorem dX7_readGate_64 : decode cX7_readGate 64 = .ok (.iconst 0, 1) := by decide +kernel
theorem dX7_readGate_65 : decode cX7_readGate 65 = .ok (.iload_n 2, 1) := by decide +kernel
theorem dX7_readGate_66 : decode cX7_readGate 66 = .ok (.iconst 1, 1) := by decide +kernel
theorem dX7_readGate_67 : decode cX7_readGate 67 = .ok (.isub, 1) := by decide +kernel
theorem dX7_readGate_68 : decode cX7_readGate 68 = .ok (.invokevirtual 166, 3) := by decide +kernel
theorem dX7_readGate_71 : decode cX7_readGate 71 = .ok (.istore_n 3, 1) := by decide +kernel
theorem dX7_readGate_72 : decode cX7_readGate 72 = .ok (.aload_n 0, 1) := by decide +kernel
theorem dX7_readGate_73 : decode cX7_readGate 73 = .ok (.iconst 0, 1) := by decide +kernel
theorem dX7_readGate_74 : decode cX7_readGate 74 = .ok (.iload_n 2, 1) := by decide +kernel
theorem dX7_readGate_75 : decode cX7_readGate 75 = .ok (.iconst 1, 1) := by decide +kernel
theorem dX7_readGate_76 : decode cX7_readGate 76 = .ok (.isub, 1) := by decide +kernel
theorem dX7_readGate_77 : decode cX7_readGate 77 = .ok (.invokevirtual 166, 3) := by decide +kernel
theorem dX7_readGate_80 : decode cX7_readGate 80 = .ok (.istore 4, 2) := by decide +kernel
theorem dX7_readGate_82 : decode cX7_readGate 82 = .ok (.aload_n 0, 1) := by decide +kernel
theorem dX7_readGate_83 : decode cX7_readGate 83 = .ok (.getfield 153, 3) := by decide +kernel
theorem dX7_readGate_86 : decode cX7_readGate 86 = .ok (.ifCond .eq 15, 3) := by decide +kernel
theorem dX7_readGate_89 : decode cX7_readGate 89 = .ok (.aload_n 0, 1) := by decide +kernel
theorem dX7_readGate_90 : decode cX7_readGate 90 = .ok (.getfield 13, 3) := by decide +kernel
theorem dX7_readGate_93 : decode cX7_readGate 93 = .ok (.iload_n 1, 1) := by decide +kernel
theorem dX7_readGate_94 : decode cX7_readGate 94 = .ok (.iload_n 2, 1) := by decide +kernel
theorem dX7_readGate_95 : decode cX7_readGate 95 = .ok (.iload_n 3, 1) := by decide +kernel
theorem dX7_readGate_96 : decode cX7_readGate 96 = .ok (.iload 4, 2) := by decide +kernel
theorem dX7_readGate_98 : decode cX7_readGate 98 = .ok (.invokestatic 172, 3) := by decide +kernel
theorem dX7_readGate_101 : decode cX7_readGate 101 = .ok (.return_, 1) := by decide +kernel
theorem dX7_readBay_0 : decode cX7_readBay 0 = .ok (.aload_n 0, 1) := by decide +kernel
theorem dX7_readBay_1 : decode cX7_readBay 1 = .ok (.aload_n 0, 1) := by decide +kernel
theorem dX7_readBay_2 : decode cX7_readBay 2 = .ok (.getfield 13, 3) := by decide +kernel
theorem dX7_readBay_5 : decode cX7_readBay 5 = .ok (.iconst 3, 1) := by decide +kernel
theorem dX7_readBay_6 : decode cX7_readBay 6 = .ok (.iaload, 1) := by decide +kernel
theorem dX7_readBay_7 : decode cX7_readBay 7 = .ok (.bipush 6, 2) := by decide +kernel
theorem dX7_readBay_9 : decode cX7_readBay 9 = .ok (.if_icmp .ge 7, 3) := by decide +kernel
theorem dX7_readBay_12 : decode cX7_readBay 12 = .ok (.iconst 1, 1) := by decide +kernel
theorem dX7_readBay_13 : decode cX7_readBay 13 = .ok (.goto 4, 3) := by decide +kernel
theorem dX7_readBay_16 : decode cX7_readBay 16 = .ok (.iconst 0, 1) := by decide +kernel
theorem dX7_readBay_17 : decode cX7_readBay 17 = .ok (.invokevirtual 159, 3) := by decide +kernel
theorem dX7_readBay_20 : decode cX7_readBay 20 = .ok (.aload_n 0, 1) := by decide +kernel
theorem dX7_readBay_21 : decode cX7_readBay 21 = .ok (.iconst 1, 1) := by decide +kernel
theorem dX7_readBay_22 : decode cX7_readBay 22 = .ok (.aload_n 0, 1) := by decide +kernel
theorem dX7_readBay_23 : decode cX7_readBay 23 = .ok (.getfield 13, 3) := by decide +kernel
theorem dX7_readBay_26 : decode cX7_readBay 26 = .ok (.iconst 0, 1) := by decide +kernel
theorem dX7_readBay_27 : decode cX7_readBay 27 = .ok (.iaload, 1) := by decide +kernel
theorem dX7_readBay_28 : decode cX7_readBay 28 = .ok (.iconst 1, 1) := by decide +kernel
theorem dX7_readBay_29 : decode cX7_readBay 29 = .ok (.isub, 1) := by decide +kernel
theorem dX7_readBay_30 : decode cX7_readBay 30 = .ok (.invokevirtual 166, 3) := by decide +kernel
theorem dX7_readBay_33 : decode cX7_readBay 33 = .ok (.istore_n 1, 1) := by decide +kernel
theorem dX7_readBay_34 : decode cX7_readBay 34 = .ok (.aload_n 0, 1) := by decide +kernel
theorem dX7_readBay_35 : decode cX7_readBay 35 = .ok (.aload_n 0, 1) := by decide +kernel
theorem dX7_readBay_36 : decode cX7_readBay 36 = .ok (.getfield 13, 3) := by decide +kernel
theorem dX7_readBay_39 : decode cX7_readBay 39 = .ok (.iload_n 1, 1) := by decide +kernel
theorem dX7_readBay_40 : decode cX7_readBay 40 = .ok (.invokestatic 78, 3) := by decide +kernel
theorem dX7_readBay_43 : decode cX7_readBay 43 = .ok (.bipush (-9), 2) := by decide +kernel
theorem dX7_readBay_45 : decode cX7_readBay 45 = .ok (.if_icmp .ne 7, 3) := by decide +kernel
theorem dX7_readBay_48 : decode cX7_readBay 48 = .ok (.iconst 1, 1) := by decide +kernel
theorem dX7_readBay_49 : decode cX7_readBay 49 = .ok (.goto 4, 3) := by decide +kernel
theorem dX7_readBay_52 : decode cX7_readBay 52 = .ok (.iconst 0, 1) := by decide +kernel
theorem dX7_readBay_53 : decode cX7_readBay 53 = .ok (.invokevirtual 169, 3) := by decide +kernel
theorem dX7_readBay_56 : decode cX7_readBay 56 = .ok (.aload_n 0, 1) := by decide +kernel
theorem dX7_readBay_57 : decode cX7_readBay 57 = .ok (.iconst 1, 1) := by decide +kernel
theorem dX7_readBay_58 : decode cX7_readBay 58 = .ok (.bipush 6, 2) := by decide +kernel
theorem dX7_readBay_60 : decode cX7_readBay 60 = .ok (.invokevirtual 163, 3) := by decide +kernel
theorem dX7_readBay_63 : decode cX7_readBay 63 = .ok (.istore_n 2, 1) := by decide +kernel
theorem dX7_readBay_64 : decode cX7_readBay 64 = .ok (.aload_n 0, 1) := by decide +kernel
theorem dX7_readBay_65 : decode cX7_readBay 65 = .ok (.getfield 153, 3) := by decide +kernel
theorem dX7_readBay_68 : decode cX7_readBay 68 = .ok (.ifCond .eq 12, 3) := by decide +kernel
theorem dX7_readBay_71 : decode cX7_readBay 71 = .ok (.aload_n 0, 1) := by decide +kernel
theorem dX7_readBay_72 : decode cX7_readBay 72 = .ok (.getfield 13, 3) := by decide +kernel
theorem dX7_readBay_75 : decode cX7_readBay 75 = .ok (.iload_n 1, 1) := by decide +kernel
theorem dX7_readBay_76 : decode cX7_readBay 76 = .ok (.iload_n 2, 1) := by decide +kernel
theorem dX7_readBay_77 : decode cX7_readBay 77 = .ok (.invokestatic 176, 3) := by decide +kernel
theorem dX7_readBay_80 : decode cX7_readBay 80 = .ok (.return_, 1) := by decide +kernel
theorem dX7_readDepot_0 : decode cX7_readDepot 0 = .ok (.aload_n 0, 1) := by decide +kernel
theorem dX7_readDepot_1 : decode cX7_readDepot 1 = .ok (.aload_n 0, 1) := by decide +kernel
theorem dX7_readDepot_2 : decode cX7_readDepot 2 = .ok (.getfield 13, 3) := by decide +kernel
theorem dX7_readDepot_5 : decode cX7_readDepot 5 = .ok (.iconst 4, 1) := by decide +kernel
theorem dX7_readDepot_6 : decode cX7_readDepot 6 = .ok (.iaload, 1) := by decide +kernel
theorem dX7_readDepot_7 : decode cX7_readDepot 7 = .ok (.iconst 4, 1) := by decide +kernel
theorem dX7_readDepot_8 : decode cX7_readDepot 8 = .ok (.if_icmp .ge 7, 3) := by decide +kernel
theorem dX7_readDepot_11 : decode cX7_readDepot 11 = .ok (.iconst 1, 1) := by decide +kernel
theorem dX7_readDepot_12 : decode cX7_readDepot 12 = .ok (.goto 4, 3) := by decide +kernel
theorem dX7_readDepot_15 : decode cX7_readDepot 15 = .ok (.iconst 0, 1) := by decide +kernel
theorem dX7_readDepot_16 : decode cX7_readDepot 16 = .ok (.invokevirtual 159, 3) := by decide +kernel
theorem dX7_readDepot_19 : decode cX7_readDepot 19 = .ok (.aload_n 0, 1) := by decide +kernel
theorem dX7_readDepot_20 : decode cX7_readDepot 20 = .ok (.iconst 0, 1) := by decide +kernel
theorem dX7_readDepot_21 : decode cX7_readDepot 21 = .ok (.aload_n 0, 1) := by decide +kernel
theorem dX7_readDepot_22 : decode cX7_readDepot 22 = .ok (.getfield 13, 3) := by decide +kernel
theorem dX7_readDepot_25 : decode cX7_readDepot 25 = .ok (.iconst 0, 1) := by decide +kernel
theorem dX7_readDepot_26 : decode cX7_readDepot 26 = .ok (.iaload, 1) := by decide +kernel
theorem dX7_readDepot_27 : decode cX7_readDepot 27 = .ok (.invokevirtual 166, 3) := by decide +kernel
theorem dX7_readDepot_30 : decode cX7_readDepot 30 = .ok (.istore_n 1, 1) := by decide +kernel
theorem dX7_readDepot_31 : decode cX7_readDepot 31 = .ok (.aload_n 0, 1) := by decide +kernel
theorem dX7_readDepot_32 : decode cX7_readDepot 32 = .ok (.aload_n 0, 1) := by decide +kernel
theorem dX7_readDepot_33 : decode cX7_readDepot 33 = .ok (.getfield 13, 3) := by decide +kernel
theorem dX7_readDepot_36 : decode cX7_readDepot 36 = .ok (.iload_n 1, 1) := by decide +kernel
theorem dX7_readDepot_37 : decode cX7_readDepot 37 = .ok (.invokestatic 75, 3) := by decide +kernel
theorem dX7_readDepot_40 : decode cX7_readDepot 40 = .ok (.bipush (-9), 2) := by decide +kernel
theorem dX7_readDepot_42 : decode cX7_readDepot 42 = .ok (.if_icmp .ne 7, 3) := by decide +kernel
theorem dX7_readDepot_45 : decode cX7_readDepot 45 = .ok (.iconst 1, 1) := by decide +kernel
theorem dX7_readDepot_46 : decode cX7_readDepot 46 = .ok (.goto 4, 3) := by decide +kernel
theorem dX7_readDepot_49 : decode cX7_readDepot 49 = .ok (.iconst 0, 1) := by decide +kernel
theorem dX7_readDepot_50 : decode cX7_readDepot 50 = .ok (.invokevirtual 169, 3) := by decide +kernel
theorem dX7_readDepot_53 : decode cX7_readDepot 53 = .ok (.aload_n 0, 1) := by decide +kernel
theorem dX7_readDepot_54 : decode cX7_readDepot 54 = .ok (.iconst 0, 1) := by decide +kernel
theorem dX7_readDepot_55 : decode cX7_readDepot 55 = .ok (.bipush 9, 2) := by decide +kernel
theorem dX7_readDepot_57 : decode cX7_readDepot 57 = .ok (.invokevirtual 163, 3) := by decide +kernel
theorem dX7_readDepot_60 : decode cX7_readDepot 60 = .ok (.istore_n 2, 1) := by decide +kernel
theorem dX7_readDepot_61 : decode cX7_readDepot 61 = .ok (.bipush 100, 2) := by decide +kernel
theorem dX7_readDepot_63 : decode cX7_readDepot 63 = .ok (.iload_n 2, 1) := by decide +kernel
theorem dX7_readDepot_64 : decode cX7_readDepot 64 = .ok (.imul, 1) := by decide +kernel
theorem dX7_readDepot_65 : decode cX7_readDepot 65 = .ok (.aload_n 0, 1) := by decide +kernel
theorem dX7_readDepot_66 : decode cX7_readDepot 66 = .ok (.iconst 0, 1) := by decide +kernel
theorem dX7_readDepot_67 : decode cX7_readDepot 67 = .ok (.bipush 99, 2) := by decide +kernel
theorem dX7_readDepot_69 : decode cX7_readDepot 69 = .ok (.invokevirtual 166, 3) := by decide +kernel
theorem dX7_readDepot_72 : decode cX7_readDepot 72 = .ok (.iadd, 1) := by decide +kernel
theorem dX7_readDepot_73 : decode cX7_readDepot 73 = .ok (.istore_n 3, 1) := by decide +kernel
theorem dX7_readDepot_74 : decode cX7_readDepot 74 = .ok (.aload_n 0, 1) := by decide +kernel
theorem dX7_readDepot_75 : decode cX7_readDepot 75 = .ok (.getfield 153, 3) := by decide +kernel
theorem dX7_readDepot_78 : decode cX7_readDepot 78 = .ok (.ifCond .eq 12, 3) := by decide +kernel
theorem dX7_readDepot_81 : decode cX7_readDepot 81 = .ok (.aload_n 0, 1) := by decide +kernel
theorem dX7_readDepot_82 : decode cX7_readDepot 82 = .ok (.getfield 13, 3) := by decide +kernel
theorem dX7_readDepot_85 : decode cX7_readDepot 85 = .ok (.iload_n 1, 1) := by decide +kernel
theorem dX7_readDepot_86 : decode cX7_readDepot 86 = .ok (.iload_n 3, 1) := by decide +kernel
theorem dX7_readDepot_87 : decode cX7_readDepot 87 = .ok (.invokestatic 180, 3) := by decide +kernel
theorem dX7_readDepot_90 : decode cX7_readDepot 90 = .ok (.return_, 1) := by decide +kernel
theorem dX7_readCar_0 : decode cX7_readCar 0 = .ok (.aload_n 0, 1) := by decide +kernel
theorem dX7_readCar_1 : decode cX7_readCar 1 = .ok (.getfield 13, 3) := by decide +kernel
theorem dX7_readCar_4 : decode cX7_readCar 4 = .ok (.iconst 5, 1) := by decide +kernel
theorem dX7_readCar_5 : decode cX7_readCar 5 = .ok (.iaload, 1) := by decide +kernel
theorem dX7_readCar_6 : decode cX7_readCar 6 = .ok (.iconst 1, 1) := by decide +kernel
theorem dX7_readCar_7 : decode cX7_readCar 7 = .ok (.isub, 1) := by decide +kernel
theorem dX7_readCar_8 : decode cX7_readCar 8 = .ok (.istore_n 1, 1) := by decide +kernel
theorem dX7_readCar_9 : decode cX7_readCar 9 = .ok (.aload_n 0, 1) := by decide +kernel
theorem dX7_readCar_10 : decode cX7_readCar 10 = .ok (.aload_n 0, 1) := by decide +kernel
theorem dX7_readCar_11 : decode cX7_readCar 11 = .ok (.bipush 118, 2) := by decide +kernel
theorem dX7_readCar_13 : decode cX7_readCar 13 = .ok (.invokevirtual 183, 3) := by decide +kernel
theorem dX7_readCar_16 : decode cX7_readCar 16 = .ok (.ifCond .eq 44, 3) := by decide +kernel
theorem dX7_readCar_19 : decode cX7_readCar 19 = .ok (.iload_n 1, 1) := by decide +kernel
theorem dX7_readCar_20 : decode cX7_readCar 20 = .ok (.ifCond .lt 40, 3) := by decide +kernel
theorem dX7_readCar_23 : decode cX7_readCar 23 = .ok (.aload_n 0, 1) := by decide +kernel
theorem dX7_readCar_24 : decode cX7_readCar 24 = .ok (.getfield 13, 3) := by decide +kernel
theorem dX7_readCar_27 : decode cX7_readCar 27 = .ok (.bipush 6, 2) := by decide +kernel
theorem dX7_readCar_29 : decode cX7_readCar 29 = .ok (.iaload, 1) := by decide +kernel
theorem dX7_readCar_30 : decode cX7_readCar 30 = .ok (.bipush 16, 2) := by decide +kernel
theorem dX7_readCar_32 : decode cX7_readCar 32 = .ok (.if_icmp .ge 28, 3) := by decide +kernel
theorem dX7_readCar_35 : decode cX7_readCar 35 = .ok (.aload_n 0, 1) := by decide +kernel
theorem dX7_readCar_36 : decode cX7_readCar 36 = .ok (.getfield 13, 3) := by decide +kernel
theorem dX7_readCar_39 : decode cX7_readCar 39 = .ok (.iload_n 1, 1) := by decide +kernel
theorem dX7_readCar_40 : decode cX7_readCar 40 = .ok (.ifCond .ge 7, 3) := by decide +kernel
theorem dX7_readCar_43 : decode cX7_readCar 43 = .ok (.iconst 0, 1) := by decide +kernel
theorem dX7_readCar_44 : decode cX7_readCar 44 = .ok (.goto 4, 3) := by decide +kernel
theorem dX7_readCar_47 : decode cX7_readCar 47 = .ok (.iload_n 1, 1) := by decide +kernel
theorem dX7_readCar_48 : decode cX7_readCar 48 = .ok (.invokestatic 64, 3) := by decide +kernel
theorem dX7_readCar_51 : decode cX7_readCar 51 = .ok (.bipush 8, 2) := by decide +kernel
theorem dX7_readCar_53 : decode cX7_readCar 53 = .ok (.if_icmp .ge 7, 3) := by decide +kernel
theorem dX7_readCar_56 : decode cX7_readCar 56 = .ok (.iconst 1, 1) := by decide +kernel
theorem dX7_readCar_57 : decode cX7_readCar 57 = .ok (.goto 4, 3) := by decide +kernel
theorem dX7_readCar_60 : decode cX7_readCar 60 = .ok (.iconst 0, 1) := by decide +kernel
theorem dX7_readCar_61 : decode cX7_readCar 61 = .ok (.invokevirtual 159, 3) := by decide +kernel
theorem dX7_readCar_64 : decode cX7_readCar 64 = .ok (.aload_n 0, 1) := by decide +kernel
theorem dX7_readCar_65 : decode cX7_readCar 65 = .ok (.iconst 1, 1) := by decide +kernel
theorem dX7_readCar_66 : decode cX7_readCar 66 = .ok (.bipush 9, 2) := by decide +kernel
theorem dX7_readCar_68 : decode cX7_readCar 68 = .ok (.invokevirtual 163, 3) := by decide +kernel
theorem dX7_readCar_71 : decode cX7_readCar 71 = .ok (.istore_n 2, 1) := by decide +kernel
theorem dX7_readCar_72 : decode cX7_readCar 72 = .ok (.aload_n 0, 1) := by decide +kernel
theorem dX7_readCar_73 : decode cX7_readCar 73 = .ok (.iconst 1, 1) := by decide +kernel
theorem dX7_readCar_74 : decode cX7_readCar 74 = .ok (.iconst 4, 1) := by decide +kernel
theorem dX7_readCar_75 : decode cX7_readCar 75 = .ok (.invokevirtual 163, 3) := by decide +kernel
theorem dX7_readCar_78 : decode cX7_readCar 78 = .ok (.istore_n 3, 1) := by decide +kernel
theorem dX7_readCar_79 : decode cX7_readCar 79 = .ok (.aload_n 0, 1) := by decide +kernel
theorem dX7_readCar_80 : decode cX7_readCar 80 = .ok (.bipush 20, 2) := by decide +kernel
theorem dX7_readCar_82 : decode cX7_readCar 82 = .ok (.bipush 99, 2) := by decide +kernel
theorem dX7_readCar_84 : decode cX7_readCar 84 = .ok (.invokevirtual 166, 3) := by decide +kernel
theorem dX7_readCar_87 : decode cX7_readCar 87 = .ok (.istore 4, 2) := by decide +kernel
theorem dX7_readCar_89 : decode cX7_readCar 89 = .ok (.aload_n 0, 1) := by decide +kernel
theorem dX7_readCar_90 : decode cX7_readCar 90 = .ok (.iconst 0, 1) := by decide +kernel
theorem dX7_readCar_91 : decode cX7_readCar 91 = .ok (.iload 4, 2) := by decide +kernel
theorem dX7_readCar_93 : decode cX7_readCar 93 = .ok (.invokevirtual 166, 3) := by decide +kernel
theorem dX7_readCar_96 : decode cX7_readCar 96 = .ok (.istore 5, 2) := by decide +kernel
theorem dX7_readCar_98 : decode cX7_readCar 98 = .ok (.aload_n 0, 1) := by decide +kernel
theorem dX7_readCar_99 : decode cX7_readCar 99 = .ok (.getfield 153, 3) := by decide +kernel
theorem dX7_readCar_102 : decode cX7_readCar 102 = .ok (.ifCond .eq 17, 3) := by decide +kernel
theorem dX7_readCar_105 : decode cX7_readCar 105 = .ok (.aload_n 0, 1) := by decide +kernel
theorem dX7_readCar_106 : decode cX7_readCar 106 = .ok (.getfield 13, 3) := by decide +kernel
theorem dX7_readCar_109 : decode cX7_readCar 109 = .ok (.iload_n 1, 1) := by decide +kernel
theorem dX7_readCar_110 : decode cX7_readCar 110 = .ok (.iload_n 2, 1) := by decide +kernel
theorem dX7_readCar_111 : decode cX7_readCar 111 = .ok (.iload_n 3, 1) := by decide +kernel
theorem dX7_readCar_112 : decode cX7_readCar 112 = .ok (.iload 4, 2) := by decide +kernel
theorem dX7_readCar_114 : decode cX7_readCar 114 = .ok (.iload 5, 2) := by decide +kernel
theorem dX7_readCar_116 : decode cX7_readCar 116 = .ok (.invokestatic 186, 3) := by decide +kernel
theorem dX7_readCar_119 : decode cX7_readCar 119 = .ok (.return_, 1) := by decide +kernel
theorem dX7_readText_0 : decode cX7_readText 0 = .ok (.aload_n 0, 1) := by decide +kernel
theorem dX7_readText_1 : decode cX7_readText 1 = .ok (.iconst 0, 1) := by decide +kernel
theorem dX7_readText_2 : decode cX7_readText 2 = .ok (.putfield 150, 3) := by decide +kernel
theorem dX7_readText_5 : decode cX7_readText 5 = .ok (.aload_n 0, 1) := by decide +kernel
theorem dX7_readText_6 : decode cX7_readText 6 = .ok (.iconst 1, 1) := by decide +kernel
theorem dX7_readText_7 : decode cX7_readText 7 = .ok (.putfield 153, 3) := by decide +kernel
theorem dX7_readText_10 : decode cX7_readText 10 = .ok (.iconst 0, 1) := by decide +kernel
theorem dX7_readText_11 : decode cX7_readText 11 = .ok (.istore_n 1, 1) := by decide +kernel
theorem dX7_readText_12 : decode cX7_readText 12 = .ok (.iload_n 1, 1) := by decide +kernel
theorem dX7_readText_13 : decode cX7_readText 13 = .ok (.sipush 250, 3) := by decide +kernel
theorem dX7_readText_16 : decode cX7_readText 16 = .ok (.if_icmp .ge 16, 3) := by decide +kernel
theorem dX7_readText_19 : decode cX7_readText 19 = .ok (.aload_n 0, 1) := by decide +kernel
theorem dX7_readText_20 : decode cX7_readText 20 = .ok (.getfield 13, 3) := by decide +kernel
theorem dX7_readText_23 : decode cX7_readText 23 = .ok (.iload_n 1, 1) := by decide +kernel
theorem dX7_readText_24 : decode cX7_readText 24 = .ok (.iconst 0, 1) := by decide +kernel
theorem dX7_readText_25 : decode cX7_readText 25 = .ok (.iastore, 1) := by decide +kernel
theorem dX7_readText_26 : decode cX7_readText 26 = .ok (.iinc 1 1, 3) := by decide +kernel
theorem dX7_readText_29 : decode cX7_readText 29 = .ok (.goto (-17), 3) := by decide +kernel
theorem dX7_readText_32 : decode cX7_readText 32 = .ok (.aload_n 0, 1) := by decide +kernel
theorem dX7_readText_33 : decode cX7_readText 33 = .ok (.aload_n 0, 1) := by decide +kernel
theorem dX7_readText_34 : decode cX7_readText 34 = .ok (.bipush 87, 2) := by decide +kernel
theorem dX7_readText_36 : decode cX7_readText 36 = .ok (.invokevirtual 183, 3) := by decide +kernel
theorem dX7_readText_39 : decode cX7_readText 39 = .ok (.invokevirtual 159, 3) := by decide +kernel
theorem dX7_readText_42 : decode cX7_readText 42 = .ok (.aload_n 0, 1) := by decide +kernel
theorem dX7_readText_43 : decode cX7_readText 43 = .ok (.getfield 13, 3) := by decide +kernel
theorem dX7_readText_46 : decode cX7_readText 46 = .ok (.iconst 0, 1) := by decide +kernel
theorem dX7_readText_47 : decode cX7_readText 47 = .ok (.aload_n 0, 1) := by decide +kernel
theorem dX7_readText_48 : decode cX7_readText 48 = .ok (.bipush 10, 2) := by decide +kernel
theorem dX7_readText_50 : decode cX7_readText 50 = .ok (.bipush 60, 2) := by decide +kernel
theorem dX7_readText_52 : decode cX7_readText 52 = .ok (.invokevirtual 166, 3) := by decide +kernel
theorem dX7_readText_55 : decode cX7_readText 55 = .ok (.iastore, 1) := by decide +kernel
theorem dX7_readText_56 : decode cX7_readText 56 = .ok (.aload_n 0, 1) := by decide +kernel
theorem dX7_readText_57 : decode cX7_readText 57 = .ok (.getfield 153, 3) := by decide +kernel
theorem dX7_readText_60 : decode cX7_readText 60 = .ok (.ifCond .eq 114, 3) := by decide +kernel
theorem dX7_readText_63 : decode cX7_readText 63 = .ok (.aload_n 0, 1) := by decide +kernel
theorem dX7_readText_64 : decode cX7_readText 64 = .ok (.getfield 150, 3) := by decide +kernel
theorem dX7_readText_67 : decode cX7_readText 67 = .ok (.aload_n 0, 1) := by decide +kernel
theorem dX7_readText_68 : decode cX7_readText 68 = .ok (.getfield 143, 3) := by decide +kernel
theorem dX7_readText_71 : decode cX7_readText 71 = .ok (.if_icmp .ge 103, 3) := by decide +kernel
theorem dX7_readText_74 : decode cX7_readText 74 = .ok (.aload_n 0, 1) := by decide +kernel
theorem dX7_readText_75 : decode cX7_readText 75 = .ok (.bipush 103, 2) := by decide +kernel
theorem dX7_readText_77 : decode cX7_readText 77 = .ok (.invokevirtual 183, 3) := by decide +kernel
theorem dX7_readText_80 : decode cX7_readText 80 = .ok (.ifCond .eq 10, 3) := by decide +kernel
theorem dX7_readText_83 : decode cX7_readText 83 = .ok (.aload_n 0, 1) := by decide +kernel
theorem dX7_readText_84 : decode cX7_readText 84 = .ok (.invokevirtual 190, 3) := by decide +kernel
theorem dX7_readText_87 : decode cX7_readText 87 = .ok (.goto (-31), 3) := by decide +kernel
theorem dX7_readText_90 : decode cX7_readText 90 = .ok (.aload_n 0, 1) := by decide +kernel
theorem dX7_readText_91 : decode cX7_readText 91 = .ok (.bipush 98, 2) := by decide +kernel
theorem dX7_readText_93 : decode cX7_readText 93 = .ok (.invokevirtual 183, 3) := by decide +kernel
theorem dX7_readText_96 : decode cX7_readText 96 = .ok (.ifCond .eq 10, 3) := by decide +kernel
theorem dX7_readText_99 : decode cX7_readText 99 = .ok (.aload_n 0, 1) := by decide +kernel
theorem dX7_readText_100 : decode cX7_readText 100 = .ok (.invokevirtual 193, 3) := by decide +kernel
theorem dX7_readText_103 : decode cX7_readText 103 = .ok (.goto (-47), 3) := by decide +kernel
theorem dX7_readText_106 : decode cX7_readText 106 = .ok (.aload_n 0, 1) := by decide +kernel
theorem dX7_readText_107 : decode cX7_readText 107 = .ok (.bipush 100, 2) := by decide +kernel
theorem dX7_readText_109 : decode cX7_readText 109 = .ok (.invokevirtual 183, 3) := by decide +kernel
theorem dX7_readText_112 : decode cX7_readText 112 = .ok (.ifCond .eq 10, 3) := by decide +kernel
theorem dX7_readText_115 : decode cX7_readText 115 = .ok (.aload_n 0, 1) := by decide +kernel
theorem dX7_readText_116 : decode cX7_readText 116 = .ok (.invokevirtual 196, 3) := by decide +kernel
theorem dX7_readText_119 : decode cX7_readText 119 = .ok (.goto (-63), 3) := by decide +kernel
theorem dX7_readText_122 : decode cX7_readText 122 = .ok (.aload_n 0, 1) := by decide +kernel
theorem dX7_readText_123 : decode cX7_readText 123 = .ok (.bipush 99, 2) := by decide +kernel
theorem dX7_readText_125 : decode cX7_readText 125 = .ok (.invokevirtual 183, 3) := by decide +kernel
theorem dX7_readText_128 : decode cX7_readText 128 = .ok (.ifCond .eq 39, 3) := by decide +kernel
theorem dX7_readText_131 : decode cX7_readText 131 = .ok (.aload_n 0, 1) := by decide +kernel
theorem dX7_readText_132 : decode cX7_readText 132 = .ok (.aload_n 0, 1) := by decide +kernel
theorem dX7_readText_133 : decode cX7_readText 133 = .ok (.getfield 13, 3) := by decide +kernel
theorem dX7_readText_136 : decode cX7_readText 136 = .ok (.iconst 5, 1) := by decide +kernel
theorem dX7_readText_137 : decode cX7_readText 137 = .ok (.iaload, 1) := by decide +kernel
theorem dX7_readText_138 : decode cX7_readText 138 = .ok (.iconst 4, 1) := by decide +kernel
theorem dX7_readText_139 : decode cX7_readText 139 = .ok (.if_icmp .ge 7, 3) := by decide +kernel
theorem dX7_readText_142 : decode cX7_readText 142 = .ok (.iconst 1, 1) := by decide +kernel
theorem dX7_readText_143 : decode cX7_readText 143 = .ok (.goto 4, 3) := by decide +kernel
theorem dX7_readText_146 : decode cX7_readText 146 = .ok (.iconst 0, 1) := by decide +kernel
theorem dX7_readText_147 : decode cX7_readText 147 = .ok (.invokevirtual 159, 3) := by decide +kernel
theorem dX7_readText_150 : decode cX7_readText 150 = .ok (.aload_n 0, 1) := by decide +kernel
theorem dX7_readText_151 : decode cX7_readText 151 = .ok (.getfield 153, 3) := by decide +kernel
theorem dX7_readText_154 : decode cX7_readText 154 = .ok (.ifCond .eq (-98), 3) := by decide +kernel
theorem dX7_readText_157 : decode cX7_readText 157 = .ok (.aload_n 0, 1) := by decide +kernel
theorem dX7_readText_158 : decode cX7_readText 158 = .ok (.getfield 13, 3) := by decide +kernel
theorem dX7_readText_161 : decode cX7_readText 161 = .ok (.invokestatic 199, 3) := by decide +kernel
theorem dX7_readText_164 : decode cX7_readText 164 = .ok (.goto (-108), 3) := by decide +kernel
theorem dX7_readText_167 : decode cX7_readText 167 = .ok (.aload_n 0, 1) := by decide +kernel
theorem dX7_readText_168 : decode cX7_readText 168 = .ok (.invokevirtual 202, 3) := by decide +kernel
theorem dX7_readText_171 : decode cX7_readText 171 = .ok (.goto (-115), 3) := by decide +kernel
theorem dX7_readText_174 : decode cX7_readText 174 = .ok (.aload_n 0, 1) := by decide +kernel
theorem dX7_readText_175 : decode cX7_readText 175 = .ok (.getfield 153, 3) := by decide +kernel
theorem dX7_readText_178 : decode cX7_readText 178 = .ok (.ifCond .eq 8, 3) := by decide +kernel
theorem dX7_readText_181 : decode cX7_readText 181 = .ok (.bipush (-9), 2) := by decide +kernel
theorem dX7_readText_183 : decode cX7_readText 183 = .ok (.goto 7, 3) := by decide +kernel
theorem dX7_readText_186 : decode cX7_readText 186 = .ok (.aload_n 0, 1) := by decide +kernel
theorem dX7_readText_187 : decode cX7_readText 187 = .ok (.getfield 150, 3) := by decide +kernel
theorem dX7_readText_190 : decode cX7_readText 190 = .ok (.ireturn, 1) := by decide +kernel
theorem dX7_errorPosition_0 : decode cX7_errorPosition 0 = .ok (.aload_n 0, 1) := by decide +kernel
theorem dX7_errorPosition_1 : decode cX7_errorPosition 1 = .ok (.iconst 0, 1) := by decide +kernel
theorem dX7_errorPosition_2 : decode cX7_errorPosition 2 = .ok (.putfield 39, 3) := by decide +kernel
theorem dX7_errorPosition_5 : decode cX7_errorPosition 5 = .ok (.aload_n 0, 1) := by decide +kernel
theorem dX7_errorPosition_6 : decode cX7_errorPosition 6 = .ok (.invokevirtual 205, 3) := by decide +kernel
theorem dX7_errorPosition_9 : decode cX7_errorPosition 9 = .ok (.ireturn, 1) := by decide +kernel
theorem dX7_load_0 : decode cX7_load 0 = .ok (.aload_n 0, 1) := by decide +kernel
theorem dX7_load_1 : decode cX7_load 1 = .ok (.aload_n 0, 1) := by decide +kernel
theorem dX7_load_2 : decode cX7_load 2 = .ok (.invokevirtual 205, 3) := by decide +kernel
theorem dX7_load_5 : decode cX7_load 5 = .ok (.bipush (-9), 2) := by decide +kernel
theorem dX7_load_7 : decode cX7_load 7 = .ok (.if_icmp .ne 7, 3) := by decide +kernel
theorem dX7_load_10 : decode cX7_load 10 = .ok (.iconst 0, 1) := by decide +kernel
theorem dX7_load_11 : decode cX7_load 11 = .ok (.goto 4, 3) := by decide +kernel
theorem dX7_load_14 : decode cX7_load 14 = .ok (.iconst 1, 1) := by decide +kernel
theorem dX7_load_15 : decode cX7_load 15 = .ok (.invokevirtual 146, 3) := by decide +kernel
theorem dX7_load_18 : decode cX7_load 18 = .ok (.ifCond .eq 5, 3) := by decide +kernel
theorem dX7_load_21 : decode cX7_load 21 = .ok (.iconst 0, 1) := by decide +kernel
theorem dX7_load_22 : decode cX7_load 22 = .ok (.ireturn, 1) := by decide +kernel
theorem dX7_load_23 : decode cX7_load 23 = .ok (.aload_n 0, 1) := by decide +kernel
theorem dX7_load_24 : decode cX7_load 24 = .ok (.getfield 13, 3) := by decide +kernel
theorem dX7_load_27 : decode cX7_load 27 = .ok (.iconst 0, 1) := by decide +kernel
theorem dX7_load_28 : decode cX7_load 28 = .ok (.aload_n 0, 1) := by decide +kernel
theorem dX7_load_29 : decode cX7_load 29 = .ok (.getfield 16, 3) := by decide +kernel
theorem dX7_load_32 : decode cX7_load 32 = .ok (.iconst 0, 1) := by decide +kernel
theorem dX7_load_33 : decode cX7_load 33 = .ok (.sipush 250, 3) := by decide +kernel
theorem dX7_load_36 : decode cX7_load 36 = .ok (.invokestatic 47, 3) := by decide +kernel
theorem dX7_load_39 : decode cX7_load 39 = .ok (.aload_n 0, 1) := by decide +kernel
theorem dX7_load_40 : decode cX7_load 40 = .ok (.iconst 0, 1) := by decide +kernel
theorem dX7_load_41 : decode cX7_load 41 = .ok (.putfield 44, 3) := by decide +kernel
theorem dX7_load_44 : decode cX7_load 44 = .ok (.aload_n 0, 1) := by decide +kernel
theorem dX7_load_45 : decode cX7_load 45 = .ok (.getfield 28, 3) := by decide +kernel
theorem dX7_load_48 : decode cX7_load 48 = .ok (.iconst 0, 1) := by decide +kernel
theorem dX7_load_49 : decode cX7_load 49 = .ok (.iconst 0, 1) := by decide +kernel
theorem dX7_load_50 : decode cX7_load 50 = .ok (.bastore, 1) := by decide +kernel
theorem dX7_load_51 : decode cX7_load 51 = .ok (.aload_n 0, 1) := by decide +kernel
theorem dX7_load_52 : decode cX7_load 52 = .ok (.getfield 28, 3) := by decide +kernel
theorem dX7_load_55 : decode cX7_load 55 = .ok (.iconst 1, 1) := by decide +kernel
theorem dX7_load_56 : decode cX7_load 56 = .ok (.iconst 0, 1) := by decide +kernel
theorem dX7_load_57 : decode cX7_load 57 = .ok (.bastore, 1) := by decide +kernel
theorem dX7_load_58 : decode cX7_load 58 = .ok (.aload_n 0, 1) := by decide +kernel
theorem dX7_load_59 : decode cX7_load 59 = .ok (.getfield 16, 3) := by decide +kernel
theorem dX7_load_62 : decode cX7_load 62 = .ok (.bipush 6, 2) := by decide +kernel
theorem dX7_load_64 : decode cX7_load 64 = .ok (.iaload, 1) := by decide +kernel
theorem dX7_load_65 : decode cX7_load 65 = .ok (.ireturn, 1) := by decide +kernel
theorem dX7_tanks_0 : decode cX7_tanks 0 = .ok (.iconst 0, 1) := by decide +kernel
theorem dX7_tanks_1 : decode cX7_tanks 1 = .ok (.istore_n 1, 1) := by decide +kernel
theorem dX7_tanks_2 : decode cX7_tanks 2 = .ok (.iconst 0, 1) := by decide +kernel
theorem dX7_tanks_3 : decode cX7_tanks 3 = .ok (.istore_n 2, 1) := by decide +kernel
theorem dX7_tanks_4 : decode cX7_tanks 4 = .ok (.iload_n 2, 1) := by decide +kernel
theorem dX7_tanks_5 : decode cX7_tanks 5 = .ok (.aload_n 0, 1) := by decide +kernel
theorem dX7_tanks_6 : decode cX7_tanks 6 = .ok (.bipush 6, 2) := by decide +kernel
theorem dX7_tanks_8 : decode cX7_tanks 8 = .ok (.iaload, 1) := by decide +kernel
theorem dX7_tanks_9 : decode cX7_tanks 9 = .ok (.if_icmp .ge 19, 3) := by decide +kernel
theorem dX7_tanks_12 : decode cX7_tanks 12 = .ok (.iload_n 1, 1) := by decide +kernel
theorem dX7_tanks_13 : decode cX7_tanks 13 = .ok (.aload_n 0, 1) := by decide +kernel
theorem dX7_tanks_14 : decode cX7_tanks 14 = .ok (.iload_n 2, 1) := by decide +kernel
theorem dX7_tanks_15 : decode cX7_tanks 15 = .ok (.iconst 3, 1) := by decide +kernel
theorem dX7_tanks_16 : decode cX7_tanks 16 = .ok (.invokestatic 72, 3) := by decide +kernel
theorem dX7_tanks_19 : decode cX7_tanks 19 = .ok (.iaload, 1) := by decide +kernel
theorem dX7_tanks_20 : decode cX7_tanks 20 = .ok (.iadd, 1) := by decide +kernel
theorem dX7_tanks_21 : decode cX7_tanks 21 = .ok (.istore_n 1, 1) := by decide +kernel
theorem dX7_tanks_22 : decode cX7_tanks 22 = .ok (.iinc 2 1, 3) := by decide +kernel
theorem dX7_tanks_25 : decode cX7_tanks 25 = .ok (.goto (-21), 3) := by decide +kernel
theorem dX7_tanks_28 : decode cX7_tanks 28 = .ok (.iload_n 1, 1) := by decide +kernel
theorem dX7_tanks_29 : decode cX7_tanks 29 = .ok (.ireturn, 1) := by decide +kernel
theorem dX7_depots_0 : decode cX7_depots 0 = .ok (.iconst 0, 1) := by decide +kernel
theorem dX7_depots_1 : decode cX7_depots 1 = .ok (.istore_n 1, 1) := by decide +kernel
theorem dX7_depots_2 : decode cX7_depots 2 = .ok (.iconst 0, 1) := by decide +kernel
theorem dX7_depots_3 : decode cX7_depots 3 = .ok (.istore_n 2, 1) := by decide +kernel
theorem dX7_depots_4 : decode cX7_depots 4 = .ok (.iload_n 2, 1) := by decide +kernel
theorem dX7_depots_5 : decode cX7_depots 5 = .ok (.aload_n 0, 1) := by decide +kernel
theorem dX7_depots_6 : decode cX7_depots 6 = .ok (.iconst 4, 1) := by decide +kernel
theorem dX7_depots_7 : decode cX7_depots 7 = .ok (.iaload, 1) := by decide +kernel
theorem dX7_depots_8 : decode cX7_depots 8 = .ok (.if_icmp .ge 19, 3) := by decide +kernel
theorem dX7_depots_11 : decode cX7_depots 11 = .ok (.iload_n 1, 1) := by decide +kernel
theorem dX7_depots_12 : decode cX7_depots 12 = .ok (.aload_n 0, 1) := by decide +kernel
theorem dX7_depots_13 : decode cX7_depots 13 = .ok (.iload_n 2, 1) := by decide +kernel
theorem dX7_depots_14 : decode cX7_depots 14 = .ok (.iconst 1, 1) := by decide +kernel
theorem dX7_depots_15 : decode cX7_depots 15 = .ok (.invokestatic 61, 3) := by decide +kernel
theorem dX7_depots_18 : decode cX7_depots 18 = .ok (.iaload, 1) := by decide +kernel
theorem dX7_depots_19 : decode cX7_depots 19 = .ok (.iadd, 1) := by decide +kernel
theorem dX7_depots_20 : decode cX7_depots 20 = .ok (.istore_n 1, 1) := by decide +kernel
theorem dX7_depots_21 : decode cX7_depots 21 = .ok (.iinc 2 1, 3) := by decide +kernel
theorem dX7_depots_24 : decode cX7_depots 24 = .ok (.goto (-20), 3) := by decide +kernel
theorem dX7_depots_27 : decode cX7_depots 27 = .ok (.iload_n 1, 1) := by decide +kernel
theorem dX7_depots_28 : decode cX7_depots 28 = .ok (.ireturn, 1) := by decide +kernel
theorem dX7_about_0 : decode cX7_about 0 = .ok (.aload_n 0, 1) := by decide +kernel
theorem dX7_about_1 : decode cX7_about 1 = .ok (.iload_n 1, 1) := by decide +kernel
theorem dX7_about_2 : decode cX7_about 2 = .ok (.i2l, 1) := by decide +kernel
theorem dX7_about_3 : decode cX7_about 3 = .ok (.lconst 0, 1) := by decide +kernel
theorem dX7_about_4 : decode cX7_about 4 = .ok (.ldc2_w 209, 3) := by decide +kernel
theorem dX7_about_7 : decode cX7_about 7 = .ok (.invokestatic 139, 3) := by decide +kernel
theorem dX7_about_10 : decode cX7_about 10 = .ok (.ifCond .eq 7, 3) := by decide +kernel
theorem dX7_about_13 : decode cX7_about 13 = .ok (.iconst 0, 1) := by decide +kernel
theorem dX7_about_14 : decode cX7_about 14 = .ok (.goto 4, 3) := by decide +kernel
theorem dX7_about_17 : decode cX7_about 17 = .ok (.iconst 1, 1) := by decide +kernel
theorem dX7_about_18 : decode cX7_about 18 = .ok (.invokevirtual 146, 3) := by decide +kernel
theorem dX7_about_21 : decode cX7_about 21 = .ok (.ifCond .eq 5, 3) := by decide +kernel
theorem dX7_about_24 : decode cX7_about 24 = .ok (.iconst 0, 1) := by decide +kernel
theorem dX7_about_25 : decode cX7_about 25 = .ok (.ireturn, 1) := by decide +kernel
theorem dX7_about_26 : decode cX7_about 26 = .ok (.iload_n 1, 1) := by decide +kernel
theorem dX7_about_27 : decode cX7_about 27 = .ok (.tableswitch 75 7 11 #[33, 42, 51, 59, 67], 33) := by decide +kernel
theorem dX7_about_60 : decode cX7_about 60 = .ok (.aload_n 0, 1) := by decide +kernel
theorem dX7_about_61 : decode cX7_about 61 = .ok (.getfield 16, 3) := by decide +kernel
theorem dX7_about_64 : decode cX7_about 64 = .ok (.iconst 2, 1) := by decide +kernel
theorem dX7_about_65 : decode cX7_about 65 = .ok (.invokestatic 130, 3) := by decide +kernel
theorem dX7_about_68 : decode cX7_about 68 = .ok (.ireturn, 1) := by decide +kernel
theorem dX7_about_69 : decode cX7_about 69 = .ok (.aload_n 0, 1) := by decide +kernel
theorem dX7_about_70 : decode cX7_about 70 = .ok (.getfield 16, 3) := by decide +kernel
theorem dX7_about_73 : decode cX7_about 73 = .ok (.iconst 1, 1) := by decide +kernel
theorem dX7_about_74 : decode cX7_about 74 = .ok (.invokestatic 130, 3) := by decide +kernel
theorem dX7_about_77 : decode cX7_about 77 = .ok (.ireturn, 1) := by decide +kernel
theorem dX7_about_78 : decode cX7_about 78 = .ok (.aload_n 0, 1) := by decide +kernel
theorem dX7_about_79 : decode cX7_about 79 = .ok (.getfield 16, 3) := by decide +kernel
theorem dX7_about_82 : decode cX7_about 82 = .ok (.invokestatic 211, 3) := by decide +kernel
theorem dX7_about_85 : decode cX7_about 85 = .ok (.ireturn, 1) := by decide +kernel
theorem dX7_about_86 : decode cX7_about 86 = .ok (.aload_n 0, 1) := by decide +kernel
theorem dX7_about_87 : decode cX7_about 87 = .ok (.getfield 16, 3) := by decide +kernel
theorem dX7_about_90 : decode cX7_about 90 = .ok (.invokestatic 215, 3) := by decide +kernel
theorem dX7_about_93 : decode cX7_about 93 = .ok (.ireturn, 1) := by decide +kernel
theorem dX7_about_94 : decode cX7_about 94 = .ok (.aload_n 0, 1) := by decide +kernel
theorem dX7_about_95 : decode cX7_about 95 = .ok (.getfield 16, 3) := by decide +kernel
theorem dX7_about_98 : decode cX7_about 98 = .ok (.bipush 7, 2) := by decide +kernel
theorem dX7_about_100 : decode cX7_about 100 = .ok (.iaload, 1) := by decide +kernel
theorem dX7_about_101 : decode cX7_about 101 = .ok (.ireturn, 1) := by decide +kernel
theorem dX7_about_102 : decode cX7_about 102 = .ok (.aload_n 0, 1) := by decide +kernel
theorem dX7_about_103 : decode cX7_about 103 = .ok (.getfield 16, 3) := by decide +kernel
theorem dX7_about_106 : decode cX7_about 106 = .ok (.iload_n 1, 1) := by decide +kernel
theorem dX7_about_107 : decode cX7_about 107 = .ok (.iaload, 1) := by decide +kernel
theorem dX7_about_108 : decode cX7_about 108 = .ok (.ireturn, 1) := by decide +kernel
theorem dX7_isConvoy_0 : decode cX7_isConvoy 0 = .ok (.iload_n 1, 1) := by decide +kernel
theorem dX7_isConvoy_1 : decode cX7_isConvoy 1 = .ok (.i2l, 1) := by decide +kernel
theorem dX7_isConvoy_2 : decode cX7_isConvoy 2 = .ok (.lconst 0, 1) := by decide +kernel
theorem dX7_isConvoy_3 : decode cX7_isConvoy 3 = .ok (.aload_n 0, 1) := by decide +kernel
theorem dX7_isConvoy_4 : decode cX7_isConvoy 4 = .ok (.getfield 16, 3) := by decide +kernel
theorem dX7_isConvoy_7 : decode cX7_isConvoy 7 = .ok (.iconst 5, 1) := by decide +kernel
theorem dX7_isConvoy_8 : decode cX7_isConvoy 8 = .ok (.iaload, 1) := by decide +kernel
theorem dX7_isConvoy_9 : decode cX7_isConvoy 9 = .ok (.iconst 1, 1) := by decide +kernel
theorem dX7_isConvoy_10 : decode cX7_isConvoy 10 = .ok (.isub, 1) := by decide +kernel
theorem dX7_isConvoy_11 : decode cX7_isConvoy 11 = .ok (.i2l, 1) := by decide +kernel
theorem dX7_isConvoy_12 : decode cX7_isConvoy 12 = .ok (.invokestatic 139, 3) := by decide +kernel
theorem dX7_isConvoy_15 : decode cX7_isConvoy 15 = .ok (.ireturn, 1) := by decide +kernel
theorem dX7_litersOf_0 : decode cX7_litersOf 0 = .ok (.iconst 0, 1) := by decide +kernel
theorem dX7_litersOf_1 : decode cX7_litersOf 1 = .ok (.istore_n 2, 1) := by decide +kernel
theorem dX7_litersOf_2 : decode cX7_litersOf 2 = .ok (.iconst 0, 1) := by decide +kernel
theorem dX7_litersOf_3 : decode cX7_litersOf 3 = .ok (.istore_n 3, 1) := by decide +kernel
theorem dX7_litersOf_4 : decode cX7_litersOf 4 = .ok (.iload_n 3, 1) := by decide +kernel
theorem dX7_litersOf_5 : decode cX7_litersOf 5 = .ok (.aload_n 0, 1) := by decide +kernel
theorem dX7_litersOf_6 : decode cX7_litersOf 6 = .ok (.iload_n 1, 1) := by decide +kernel
theorem dX7_litersOf_7 : decode cX7_litersOf 7 = .ok (.invokestatic 64, 3) := by decide +kernel
theorem dX7_litersOf_10 : decode cX7_litersOf 10 = .ok (.if_icmp .ge 24, 3) := by decide +kernel
theorem dX7_litersOf_13 : decode cX7_litersOf 13 = .ok (.iload_n 2, 1) := by decide +kernel
theorem dX7_litersOf_14 : decode cX7_litersOf 14 = .ok (.aload_n 0, 1) := by decide +kernel
theorem dX7_litersOf_15 : decode cX7_litersOf 15 = .ok (.aload_n 0, 1) := by decide +kernel
theorem dX7_litersOf_16 : decode cX7_litersOf 16 = .ok (.iload_n 1, 1) := by decide +kernel
theorem dX7_litersOf_17 : decode cX7_litersOf 17 = .ok (.iload_n 3, 1) := by decide +kernel
theorem dX7_litersOf_18 : decode cX7_litersOf 18 = .ok (.invokestatic 68, 3) := by decide +kernel
theorem dX7_litersOf_21 : decode cX7_litersOf 21 = .ok (.iconst 3, 1) := by decide +kernel
theorem dX7_litersOf_22 : decode cX7_litersOf 22 = .ok (.invokestatic 72, 3) := by decide +kernel
theorem dX7_litersOf_25 : decode cX7_litersOf 25 = .ok (.iaload, 1) := by decide +kernel
theorem dX7_litersOf_26 : decode cX7_litersOf 26 = .ok (.iadd, 1) := by decide +kernel
theorem dX7_litersOf_27 : decode cX7_litersOf 27 = .ok (.istore_n 2, 1) := by decide +kernel
theorem dX7_litersOf_28 : decode cX7_litersOf 28 = .ok (.iinc 3 1, 3) := by decide +kernel
theorem dX7_litersOf_31 : decode cX7_litersOf 31 = .ok (.goto (-27), 3) := by decide +kernel
theorem dX7_litersOf_34 : decode cX7_litersOf 34 = .ok (.iload_n 2, 1) := by decide +kernel
theorem dX7_litersOf_35 : decode cX7_litersOf 35 = .ok (.ireturn, 1) := by decide +kernel
theorem dX7_convoy_0 : decode cX7_convoy 0 = .ok (.aload_n 0, 1) := by decide +kernel
theorem dX7_convoy_1 : decode cX7_convoy 1 = .ok (.aload_n 0, 1) := by decide +kernel
theorem dX7_convoy_2 : decode cX7_convoy 2 = .ok (.iload_n 1, 1) := by decide +kernel
theorem dX7_convoy_3 : decode cX7_convoy 3 = .ok (.invokevirtual 218, 3) := by decide +kernel
theorem dX7_convoy_6 : decode cX7_convoy 6 = .ok (.ifCond .ne 7, 3) := by decide +kernel
theorem dX7_convoy_9 : decode cX7_convoy 9 = .ok (.iconst 1, 1) := by decide +kernel
theorem dX7_convoy_10 : decode cX7_convoy 10 = .ok (.goto 20, 3) := by decide +kernel
theorem dX7_convoy_13 : decode cX7_convoy 13 = .ok (.iload_n 2, 1) := by decide +kernel
theorem dX7_convoy_14 : decode cX7_convoy 14 = .ok (.i2l, 1) := by decide +kernel
theorem dX7_convoy_15 : decode cX7_convoy 15 = .ok (.lconst 0, 1) := by decide +kernel
theorem dX7_convoy_16 : decode cX7_convoy 16 = .ok (.ldc2_w 221, 3) := by decide +kernel
theorem dX7_convoy_19 : decode cX7_convoy 19 = .ok (.invokestatic 139, 3) := by decide +kernel
theorem dX7_convoy_22 : decode cX7_convoy 22 = .ok (.ifCond .eq 7, 3) := by decide +kernel
theorem dX7_convoy_25 : decode cX7_convoy 25 = .ok (.iconst 0, 1) := by decide +kernel
theorem dX7_convoy_26 : decode cX7_convoy 26 = .ok (.goto 4, 3) := by decide +kernel
theorem dX7_convoy_29 : decode cX7_convoy 29 = .ok (.iconst 2, 1) := by decide +kernel
theorem dX7_convoy_30 : decode cX7_convoy 30 = .ok (.invokevirtual 146, 3) := by decide +kernel
theorem dX7_convoy_33 : decode cX7_convoy 33 = .ok (.ifCond .eq 5, 3) := by decide +kernel
theorem dX7_convoy_36 : decode cX7_convoy 36 = .ok (.iconst 0, 1) := by decide +kernel
theorem dX7_convoy_37 : decode cX7_convoy 37 = .ok (.ireturn, 1) := by decide +kernel
theorem dX7_convoy_38 : decode cX7_convoy 38 = .ok (.iload_n 2, 1) := by decide +kernel
theorem dX7_convoy_39 : decode cX7_convoy 39 = .ok (.tableswitch 91 0 7 #[45, 45, 56, 91, 91, 91, 65, 74], 45) := by decide +kernel
theorem dX7_convoy_84 : decode cX7_convoy 84 = .ok (.aload_n 0, 1) := by decide +kernel
theorem dX7_convoy_85 : decode cX7_convoy 85 = .ok (.getfield 16, 3) := by decide +kernel
theorem dX7_convoy_88 : decode cX7_convoy 88 = .ok (.iload_n 1, 1) := by decide +kernel
theorem dX7_convoy_89 : decode cX7_convoy 89 = .ok (.iload_n 2, 1) := by decide +kernel
theorem dX7_convoy_90 : decode cX7_convoy 90 = .ok (.invokestatic 51, 3) := by decide +kernel
theorem dX7_convoy_93 : decode cX7_convoy 93 = .ok (.iaload, 1) := by decide +kernel
theorem dX7_convoy_94 : decode cX7_convoy 94 = .ok (.ireturn, 1) := by decide +kernel
theorem dX7_convoy_95 : decode cX7_convoy 95 = .ok (.aload_n 0, 1) := by decide +kernel
theorem dX7_convoy_96 : decode cX7_convoy 96 = .ok (.getfield 16, 3) := by decide +kernel
theorem dX7_convoy_99 : decode cX7_convoy 99 = .ok (.iload_n 1, 1) := by decide +kernel
theorem dX7_convoy_100 : decode cX7_convoy 100 = .ok (.invokestatic 103, 3) := by decide +kernel
theorem dX7_convoy_103 : decode cX7_convoy 103 = .ok (.ireturn, 1) := by decide +kernel
theorem dX7_convoy_104 : decode cX7_convoy 104 = .ok (.aload_n 0, 1) := by decide +kernel
theorem dX7_convoy_105 : decode cX7_convoy 105 = .ok (.getfield 16, 3) := by decide +kernel
theorem dX7_convoy_108 : decode cX7_convoy 108 = .ok (.iload_n 1, 1) := by decide +kernel
theorem dX7_convoy_109 : decode cX7_convoy 109 = .ok (.invokestatic 223, 3) := by decide +kernel
theorem dX7_convoy_112 : decode cX7_convoy 112 = .ok (.ireturn, 1) := by decide +kernel
theorem dX7_convoy_113 : decode cX7_convoy 113 = .ok (.aload_n 0, 1) := by decide +kernel
theorem dX7_convoy_114 : decode cX7_convoy 114 = .ok (.getfield 16, 3) := by decide +kernel
theorem dX7_convoy_117 : decode cX7_convoy 117 = .ok (.iload_n 1, 1) := by decide +kernel
theorem dX7_convoy_118 : decode cX7_convoy 118 = .ok (.invokestatic 118, 3) := by decide +kernel
theorem dX7_convoy_121 : decode cX7_convoy 121 = .ok (.ifCond .eq 7, 3) := by decide +kernel
theorem dX7_convoy_124 : decode cX7_convoy 124 = .ok (.iconst 1, 1) := by decide +kernel
theorem dX7_convoy_125 : decode cX7_convoy 125 = .ok (.goto 4, 3) := by decide +kernel
theorem dX7_convoy_128 : decode cX7_convoy 128 = .ok (.iconst 0, 1) := by decide +kernel
theorem dX7_convoy_129 : decode cX7_convoy 129 = .ok (.ireturn, 1) := by decide +kernel
theorem dX7_convoy_130 : decode cX7_convoy 130 = .ok (.aload_n 0, 1) := by decide +kernel
theorem dX7_convoy_131 : decode cX7_convoy 131 = .ok (.getfield 16, 3) := by decide +kernel
theorem dX7_convoy_134 : decode cX7_convoy 134 = .ok (.iload_n 1, 1) := by decide +kernel
theorem dX7_convoy_135 : decode cX7_convoy 135 = .ok (.iload_n 2, 1) := by decide +kernel
theorem dX7_convoy_136 : decode cX7_convoy 136 = .ok (.iconst 1, 1) := by decide +kernel
theorem dX7_convoy_137 : decode cX7_convoy 137 = .ok (.isub, 1) := by decide +kernel
theorem dX7_convoy_138 : decode cX7_convoy 138 = .ok (.invokestatic 51, 3) := by decide +kernel
theorem dX7_convoy_141 : decode cX7_convoy 141 = .ok (.iaload, 1) := by decide +kernel
theorem dX7_convoy_142 : decode cX7_convoy 142 = .ok (.ireturn, 1) := by decide +kernel
theorem dX7_member_0 : decode cX7_member 0 = .ok (.aload_n 0, 1) := by decide +kernel
theorem dX7_member_1 : decode cX7_member 1 = .ok (.aload_n 0, 1) := by decide +kernel
theorem dX7_member_2 : decode cX7_member 2 = .ok (.iload_n 1, 1) := by decide +kernel
theorem dX7_member_3 : decode cX7_member 3 = .ok (.invokevirtual 218, 3) := by decide +kernel
theorem dX7_member_6 : decode cX7_member 6 = .ok (.ifCond .ne 7, 3) := by decide +kernel
theorem dX7_member_9 : decode cX7_member 9 = .ok (.iconst 1, 1) := by decide +kernel
theorem dX7_member_10 : decode cX7_member 10 = .ok (.goto 12, 3) := by decide +kernel
theorem dX7_member_13 : decode cX7_member 13 = .ok (.iload_n 2, 1) := by decide +kernel
theorem dX7_member_14 : decode cX7_member 14 = .ok (.ifCond .ge 7, 3) := by decide +kernel
theorem dX7_member_17 : decode cX7_member 17 = .ok (.iconst 2, 1) := by decide +kernel
theorem dX7_member_18 : decode cX7_member 18 = .ok (.goto 4, 3) := by decide +kernel
theorem dX7_member_21 : decode cX7_member 21 = .ok (.iconst 0, 1) := by decide +kernel
theorem dX7_member_22 : decode cX7_member 22 = .ok (.invokevirtual 146, 3) := by decide +kernel
theorem dX7_member_25 : decode cX7_member 25 = .ok (.ifCond .eq 5, 3) := by decide +kernel
theorem dX7_member_28 : decode cX7_member 28 = .ok (.iconst 0, 1) := by decide +kernel
theorem dX7_member_29 : decode cX7_member 29 = .ok (.ireturn, 1) := by decide +kernel
theorem dX7_member_30 : decode cX7_member 30 = .ok (.iload_n 2, 1) := by decide +kernel
theorem dX7_member_31 : decode cX7_member 31 = .ok (.aload_n 0, 1) := by decide +kernel
theorem dX7_member_32 : decode cX7_member 32 = .ok (.getfield 16, 3) := by decide +kernel
theorem dX7_member_35 : decode cX7_member 35 = .ok (.iload_n 1, 1) := by decide +kernel
theorem dX7_member_36 : decode cX7_member 36 = .ok (.invokestatic 64, 3) := by decide +kernel
theorem dX7_member_39 : decode cX7_member 39 = .ok (.if_icmp .ge 15, 3) := by decide +kernel
theorem dX7_member_42 : decode cX7_member 42 = .ok (.aload_n 0, 1) := by decide +kernel
theorem dX7_member_43 : decode cX7_member 43 = .ok (.getfield 16, 3) := by decide +kernel
theorem dX7_member_46 : decode cX7_member 46 = .ok (.iload_n 1, 1) := by decide +kernel
theorem dX7_member_47 : decode cX7_member 47 = .ok (.iload_n 2, 1) := by decide +kernel
theorem dX7_member_48 : decode cX7_member 48 = .ok (.invokestatic 68, 3) := by decide +kernel
theorem dX7_member_51 : decode cX7_member 51 = .ok (.goto 5, 3) := by decide +kernel
theorem dX7_member_54 : decode cX7_member 54 = .ok (.bipush (-9), 2) := by decide +kernel
theorem dX7_member_56 : decode cX7_member 56 = .ok (.ireturn, 1) := by decide +kernel
theorem dX7_vehicle_0 : decode cX7_vehicle 0 = .ok (.aload_n 0, 1) := by decide +kernel
theorem dX7_vehicle_1 : decode cX7_vehicle 1 = .ok (.iload_n 1, 1) := by decide +kernel
theorem dX7_vehicle_2 : decode cX7_vehicle 2 = .ok (.i2l, 1) := by decide +kernel
theorem dX7_vehicle_3 : decode cX7_vehicle 3 = .ok (.lconst 0, 1) := by decide +kernel
theorem dX7_vehicle_4 : decode cX7_vehicle 4 = .ok (.aload_n 0, 1) := by decide +kernel
theorem dX7_vehicle_5 : decode cX7_vehicle 5 = .ok (.getfield 16, 3) := by decide +kernel
theorem dX7_vehicle_8 : decode cX7_vehicle 8 = .ok (.bipush 6, 2) := by decide +kernel
theorem dX7_vehicle_10 : decode cX7_vehicle 10 = .ok (.iaload, 1) := by decide +kernel
theorem dX7_vehicle_11 : decode cX7_vehicle 11 = .ok (.iconst 1, 1) := by decide +kernel
theorem dX7_vehicle_12 : decode cX7_vehicle 12 = .ok (.isub, 1) := by decide +kernel
theorem dX7_vehicle_13 : decode cX7_vehicle 13 = .ok (.i2l, 1) := by decide +kernel
theorem dX7_vehicle_14 : decode cX7_vehicle 14 = .ok (.invokestatic 139, 3) := by decide +kernel
theorem dX7_vehicle_17 : decode cX7_vehicle 17 = .ok (.ifCond .ne 7, 3) := by decide +kernel
theorem dX7_vehicle_20 : decode cX7_vehicle 20 = .ok (.iconst 1, 1) := by decide +kernel
theorem dX7_vehicle_21 : decode cX7_vehicle 21 = .ok (.goto 20, 3) := by decide +kernel
theorem dX7_vehicle_24 : decode cX7_vehicle 24 = .ok (.iload_n 2, 1) := by decide +kernel
theorem dX7_vehicle_25 : decode cX7_vehicle 25 = .ok (.i2l, 1) := by decide +kernel
theorem dX7_vehicle_26 : decode cX7_vehicle 26 = .ok (.lconst 0, 1) := by decide +kernel
theorem dX7_vehicle_27 : decode cX7_vehicle 27 = .ok (.ldc2_w 226, 3) := by decide +kernel
theorem dX7_vehicle_30 : decode cX7_vehicle 30 = .ok (.invokestatic 139, 3) := by decide +kernel
theorem dX7_vehicle_33 : decode cX7_vehicle 33 = .ok (.ifCond .eq 7, 3) := by decide +kernel
theorem dX7_vehicle_36 : decode cX7_vehicle 36 = .ok (.iconst 0, 1) := by decide +kernel
theorem dX7_vehicle_37 : decode cX7_vehicle 37 = .ok (.goto 4, 3) := by decide +kernel
theorem dX7_vehicle_40 : decode cX7_vehicle 40 = .ok (.iconst 2, 1) := by decide +kernel
theorem dX7_vehicle_41 : decode cX7_vehicle 41 = .ok (.invokevirtual 146, 3) := by decide +kernel
theorem dX7_vehicle_44 : decode cX7_vehicle 44 = .ok (.ifCond .eq 5, 3) := by decide +kernel
theorem dX7_vehicle_47 : decode cX7_vehicle 47 = .ok (.iconst 0, 1) := by decide +kernel
theorem dX7_vehicle_48 : decode cX7_vehicle 48 = .ok (.ireturn, 1) := by decide +kernel
theorem dX7_vehicle_49 : decode cX7_vehicle 49 = .ok (.aload_n 0, 1) := by decide +kernel
theorem dX7_vehicle_50 : decode cX7_vehicle 50 = .ok (.getfield 16, 3) := by decide +kernel
theorem dX7_vehicle_53 : decode cX7_vehicle 53 = .ok (.iload_n 1, 1) := by decide +kernel
theorem dX7_vehicle_54 : decode cX7_vehicle 54 = .ok (.iload_n 2, 1) := by decide +kernel
theorem dX7_vehicle_55 : decode cX7_vehicle 55 = .ok (.invokestatic 72, 3) := by decide +kernel
theorem dX7_vehicle_58 : decode cX7_vehicle 58 = .ok (.iaload, 1) := by decide +kernel
theorem dX7_vehicle_59 : decode cX7_vehicle 59 = .ok (.ireturn, 1) := by decide +kernel
theorem dX7_closedFor_0 : decode cX7_closedFor 0 = .ok (.aload_n 0, 1) := by decide +kernel
theorem dX7_closedFor_1 : decode cX7_closedFor 1 = .ok (.getfield 16, 3) := by decide +kernel
theorem dX7_closedFor_4 : decode cX7_closedFor 4 = .ok (.iconst 1, 1) := by decide +kernel
theorem dX7_closedFor_5 : decode cX7_closedFor 5 = .ok (.iaload, 1) := by decide +kernel
theorem dX7_closedFor_6 : decode cX7_closedFor 6 = .ok (.aload_n 0, 1) := by decide +kernel
theorem dX7_closedFor_7 : decode cX7_closedFor 7 = .ok (.getfield 16, 3) := by decide +kernel
theorem dX7_closedFor_10 : decode cX7_closedFor 10 = .ok (.iload_n 1, 1) := by decide +kernel
theorem dX7_closedFor_11 : decode cX7_closedFor 11 = .ok (.iconst 3, 1) := by decide +kernel
theorem dX7_closedFor_12 : decode cX7_closedFor 12 = .ok (.invokestatic 55, 3) := by decide +kernel
theorem dX7_closedFor_15 : decode cX7_closedFor 15 = .ok (.iaload, 1) := by decide +kernel
theorem dX7_closedFor_16 : decode cX7_closedFor 16 = .ok (.iadd, 1) := by decide +kernel
theorem dX7_closedFor_17 : decode cX7_closedFor 17 = .ok (.aload_n 0, 1) := by decide +kernel
theorem dX7_closedFor_18 : decode cX7_closedFor 18 = .ok (.getfield 16, 3) := by decide +kernel
theorem dX7_closedFor_21 : decode cX7_closedFor 21 = .ok (.iload_n 1, 1) := by decide +kernel
theorem dX7_closedFor_22 : decode cX7_closedFor 22 = .ok (.iconst 1, 1) := by decide +kernel
theorem dX7_closedFor_23 : decode cX7_closedFor 23 = .ok (.invokestatic 55, 3) := by decide +kernel
theorem dX7_closedFor_26 : decode cX7_closedFor 26 = .ok (.iaload, 1) := by decide +kernel
theorem dX7_closedFor_27 : decode cX7_closedFor 27 = .ok (.irem, 1) := by decide +kernel
theorem dX7_closedFor_28 : decode cX7_closedFor 28 = .ok (.istore_n 2, 1) := by decide +kernel
theorem dX7_closedFor_29 : decode cX7_closedFor 29 = .ok (.iload_n 2, 1) := by decide +kernel
theorem dX7_closedFor_30 : decode cX7_closedFor 30 = .ok (.aload_n 0, 1) := by decide +kernel
theorem dX7_closedFor_31 : decode cX7_closedFor 31 = .ok (.getfield 16, 3) := by decide +kernel
theorem dX7_closedFor_34 : decode cX7_closedFor 34 = .ok (.iload_n 1, 1) := by decide +kernel
theorem dX7_closedFor_35 : decode cX7_closedFor 35 = .ok (.iconst 2, 1) := by decide +kernel
theorem dX7_closedFor_36 : decode cX7_closedFor 36 = .ok (.invokestatic 55, 3) := by decide +kernel
theorem dX7_closedFor_39 : decode cX7_closedFor 39 = .ok (.iaload, 1) := by decide +kernel
theorem dX7_closedFor_40 : decode cX7_closedFor 40 = .ok (.if_icmp .ge 18, 3) := by decide +kernel
theorem dX7_closedFor_43 : decode cX7_closedFor 43 = .ok (.aload_n 0, 1) := by decide +kernel
theorem dX7_closedFor_44 : decode cX7_closedFor 44 = .ok (.getfield 16, 3) := by decide +kernel
theorem dX7_closedFor_47 : decode cX7_closedFor 47 = .ok (.iload_n 1, 1) := by decide +kernel
theorem dX7_closedFor_48 : decode cX7_closedFor 48 = .ok (.iconst 2, 1) := by decide +kernel
theorem dX7_closedFor_49 : decode cX7_closedFor 49 = .ok (.invokestatic 55, 3) := by decide +kernel
theorem dX7_closedFor_52 : decode cX7_closedFor 52 = .ok (.iaload, 1) := by decide +kernel
theorem dX7_closedFor_53 : decode cX7_closedFor 53 = .ok (.iload_n 2, 1) := by decide +kernel
theorem dX7_closedFor_54 : decode cX7_closedFor 54 = .ok (.isub, 1) := by decide +kernel
theorem dX7_closedFor_55 : decode cX7_closedFor 55 = .ok (.goto 4, 3) := by decide +kernel
theorem dX7_closedFor_58 : decode cX7_closedFor 58 = .ok (.iconst 0, 1) := by decide +kernel
theorem dX7_closedFor_59 : decode cX7_closedFor 59 = .ok (.ireturn, 1) := by decide +kernel
theorem dX7_gate_0 : decode cX7_gate 0 = .ok (.aload_n 0, 1) := by decide +kernel
theorem dX7_gate_1 : decode cX7_gate 1 = .ok (.iload_n 1, 1) := by decide +kernel
theorem dX7_gate_2 : decode cX7_gate 2 = .ok (.i2l, 1) := by decide +kernel
theorem dX7_gate_3 : decode cX7_gate 3 = .ok (.lconst 0, 1) := by decide +kernel
theorem dX7_gate_4 : decode cX7_gate 4 = .ok (.aload_n 0, 1) := by decide +kernel
theorem dX7_gate_5 : decode cX7_gate 5 = .ok (.getfield 16, 3) := by decide +kernel
theorem dX7_gate_8 : decode cX7_gate 8 = .ok (.iconst 2, 1) := by decide +kernel
theorem dX7_gate_9 : decode cX7_gate 9 = .ok (.iaload, 1) := by decide +kernel
theorem dX7_gate_10 : decode cX7_gate 10 = .ok (.iconst 1, 1) := by decide +kernel
theorem dX7_gate_11 : decode cX7_gate 11 = .ok (.isub, 1) := by decide +kernel
theorem dX7_gate_12 : decode cX7_gate 12 = .ok (.i2l, 1) := by decide +kernel
theorem dX7_gate_13 : decode cX7_gate 13 = .ok (.invokestatic 139, 3) := by decide +kernel
theorem dX7_gate_16 : decode cX7_gate 16 = .ok (.ifCond .ne 7, 3) := by decide +kernel
theorem dX7_gate_19 : decode cX7_gate 19 = .ok (.iconst 1, 1) := by decide +kernel
theorem dX7_gate_20 : decode cX7_gate 20 = .ok (.goto 20, 3) := by decide +kernel
theorem dX7_gate_23 : decode cX7_gate 23 = .ok (.iload_n 2, 1) := by decide +kernel
theorem dX7_gate_24 : decode cX7_gate 24 = .ok (.i2l, 1) := by decide +kernel
theorem dX7_gate_25 : decode cX7_gate 25 = .ok (.lconst 0, 1) := by decide +kernel
theorem dX7_gate_26 : decode cX7_gate 26 = .ok (.ldc2_w 228, 3) := by decide +kernel
theorem dX7_gate_29 : decode cX7_gate 29 = .ok (.invokestatic 139, 3) := by decide +kernel
theorem dX7_gate_32 : decode cX7_gate 32 = .ok (.ifCond .eq 7, 3) := by decide +kernel
theorem dX7_gate_35 : decode cX7_gate 35 = .ok (.iconst 0, 1) := by decide +kernel
theorem dX7_gate_36 : decode cX7_gate 36 = .ok (.goto 4, 3) := by decide +kernel
theorem dX7_gate_39 : decode cX7_gate 39 = .ok (.iconst 2, 1) := by decide +kernel
theorem dX7_gate_40 : decode cX7_gate 40 = .ok (.invokevirtual 146, 3) := by decide +kernel
theorem dX7_gate_43 : decode cX7_gate 43 = .ok (.ifCond .eq 5, 3) := by decide +kernel
theorem dX7_gate_46 : decode cX7_gate 46 = .ok (.iconst 0, 1) := by decide +kernel
theorem dX7_gate_47 : decode cX7_gate 47 = .ok (.ireturn, 1) := by decide +kernel
theorem dX7_gate_48 : decode cX7_gate 48 = .ok (.iload_n 2, 1) := by decide +kernel
theorem dX7_gate_49 : decode cX7_gate 49 = .ok (.iconst 4, 1) := by decide +kernel
theorem dX7_gate_50 : decode cX7_gate 50 = .ok (.if_icmp .ge 16, 3) := by decide +kernel
theorem dX7_gate_53 : decode cX7_gate 53 = .ok (.aload_n 0, 1) := by decide +kernel
theorem dX7_gate_54 : decode cX7_gate 54 = .ok (.getfield 16, 3) := by decide +kernel
theorem dX7_gate_57 : decode cX7_gate 57 = .ok (.iload_n 1, 1) := by decide +kernel
theorem dX7_gate_58 : decode cX7_gate 58 = .ok (.iload_n 2, 1) := by decide +kernel
theorem dX7_gate_59 : decode cX7_gate 59 = .ok (.invokestatic 55, 3) := by decide +kernel
theorem dX7_gate_62 : decode cX7_gate 62 = .ok (.iaload, 1) := by decide +kernel
theorem dX7_gate_63 : decode cX7_gate 63 = .ok (.goto 32, 3) := by decide +kernel
theorem dX7_gate_66 : decode cX7_gate 66 = .ok (.iload_n 2, 1) := by decide +kernel
theorem dX7_gate_67 : decode cX7_gate 67 = .ok (.iconst 5, 1) := by decide +kernel
theorem dX7_gate_68 : decode cX7_gate 68 = .ok (.if_icmp .ne 11, 3) := by decide +kernel
theorem dX7_gate_71 : decode cX7_gate 71 = .ok (.aload_n 0, 1) := by decide +kernel
theorem dX7_gate_72 : decode cX7_gate 72 = .ok (.iload_n 1, 1) := by decide +kernel
theorem dX7_gate_73 : decode cX7_gate 73 = .ok (.invokevirtual 230, 3) := by decide +kernel
theorem dX7_gate_76 : decode cX7_gate 76 = .ok (.goto 19, 3) := by decide +kernel
theorem dX7_gate_79 : decode cX7_gate 79 = .ok (.aload_n 0, 1) := by decide +kernel
theorem dX7_gate_80 : decode cX7_gate 80 = .ok (.getfield 16, 3) := by decide +kernel
theorem dX7_gate_83 : decode cX7_gate 83 = .ok (.iload_n 1, 1) := by decide +kernel
theorem dX7_gate_84 : decode cX7_gate 84 = .ok (.invokestatic 109, 3) := by decide +kernel
theorem dX7_gate_87 : decode cX7_gate 87 = .ok (.ifCond .eq 7, 3) := by decide +kernel
theorem dX7_gate_90 : decode cX7_gate 90 = .ok (.iconst 1, 1) := by decide +kernel
theorem dX7_gate_91 : decode cX7_gate 91 = .ok (.goto 4, 3) := by decide +kernel
theorem dX7_gate_94 : decode cX7_gate 94 = .ok (.iconst 0, 1) := by decide +kernel
theorem dX7_gate_95 : decode cX7_gate 95 = .ok (.ireturn, 1) := by decide +kernel
theorem dX7_bay_0 : decode cX7_bay 0 = .ok (.aload_n 0, 1) := by decide +kernel
theorem dX7_bay_1 : decode cX7_bay 1 = .ok (.iload_n 1, 1) := by decide +kernel
theorem dX7_bay_2 : decode cX7_bay 2 = .ok (.i2l, 1) := by decide +kernel
theorem dX7_bay_3 : decode cX7_bay 3 = .ok (.lconst 0, 1) := by decide +kernel
theorem dX7_bay_4 : decode cX7_bay 4 = .ok (.aload_n 0, 1) := by decide +kernel
theorem dX7_bay_5 : decode cX7_bay 5 = .ok (.getfield 16, 3) := by decide +kernel
theorem dX7_bay_8 : decode cX7_bay 8 = .ok (.iconst 3, 1) := by decide +kernel
theorem dX7_bay_9 : decode cX7_bay 9 = .ok (.iaload, 1) := by decide +kernel
theorem dX7_bay_10 : decode cX7_bay 10 = .ok (.iconst 1, 1) := by decide +kernel
theorem dX7_bay_11 : decode cX7_bay 11 = .ok (.isub, 1) := by decide +kernel
theorem dX7_bay_12 : decode cX7_bay 12 = .ok (.i2l, 1) := by decide +kernel
theorem dX7_bay_13 : decode cX7_bay 13 = .ok (.invokestatic 139, 3) := by decide +kernel
theorem dX7_bay_16 : decode cX7_bay 16 = .ok (.ifCond .ne 7, 3) := by decide +kernel
theorem dX7_bay_19 : decode cX7_bay 19 = .ok (.iconst 1, 1) := by decide +kernel
theorem dX7_bay_20 : decode cX7_bay 20 = .ok (.goto 20, 3) := by decide +kernel
theorem dX7_bay_23 : decode cX7_bay 23 = .ok (.iload_n 2, 1) := by decide +kernel
theorem dX7_bay_24 : decode cX7_bay 24 = .ok (.i2l, 1) := by decide +kernel
theorem dX7_bay_25 : decode cX7_bay 25 = .ok (.lconst 0, 1) := by decide +kernel
theorem dX7_bay_26 : decode cX7_bay 26 = .ok (.ldc2_w 234, 3) := by decide +kernel
theorem dX7_bay_29 : decode cX7_bay 29 = .ok (.invokestatic 139, 3) := by decide +kernel
theorem dX7_bay_32 : decode cX7_bay 32 = .ok (.ifCond .eq 7, 3) := by decide +kernel
theorem dX7_bay_35 : decode cX7_bay 35 = .ok (.iconst 0, 1) := by decide +kernel
theorem dX7_bay_36 : decode cX7_bay 36 = .ok (.goto 4, 3) := by decide +kernel
theorem dX7_bay_39 : decode cX7_bay 39 = .ok (.iconst 2, 1) := by decide +kernel
theorem dX7_bay_40 : decode cX7_bay 40 = .ok (.invokevirtual 146, 3) := by decide +kernel
theorem dX7_bay_43 : decode cX7_bay 43 = .ok (.ifCond .eq 5, 3) := by decide +kernel
theorem dX7_bay_46 : decode cX7_bay 46 = .ok (.iconst 0, 1) := by decide +kernel
theorem dX7_bay_47 : decode cX7_bay 47 = .ok (.ireturn, 1) := by decide +kernel
theorem dX7_bay_48 : decode cX7_bay 48 = .ok (.iload_n 2, 1) := by decide +kernel
theorem dX7_bay_49 : decode cX7_bay 49 = .ok (.iconst 3, 1) := by decide +kernel
theorem dX7_bay_50 : decode cX7_bay 50 = .ok (.if_icmp .ge 16, 3) := by decide +kernel
theorem dX7_bay_53 : decode cX7_bay 53 = .ok (.aload_n 0, 1) := by decide +kernel
theorem dX7_bay_54 : decode cX7_bay 54 = .ok (.getfield 16, 3) := by decide +kernel
theorem dX7_bay_57 : decode cX7_bay 57 = .ok (.iload_n 1, 1) := by decide +kernel
theorem dX7_bay_58 : decode cX7_bay 58 = .ok (.iload_n 2, 1) := by decide +kernel
theorem dX7_bay_59 : decode cX7_bay 59 = .ok (.invokestatic 58, 3) := by decide +kernel
theorem dX7_bay_62 : decode cX7_bay 62 = .ok (.iaload, 1) := by decide +kernel
theorem dX7_bay_63 : decode cX7_bay 63 = .ok (.goto 31, 3) := by decide +kernel
theorem dX7_bay_66 : decode cX7_bay 66 = .ok (.aload_n 0, 1) := by decide +kernel
theorem dX7_bay_67 : decode cX7_bay 67 = .ok (.getfield 16, 3) := by decide +kernel
theorem dX7_bay_70 : decode cX7_bay 70 = .ok (.iload_n 1, 1) := by decide +kernel
theorem dX7_bay_71 : decode cX7_bay 71 = .ok (.iconst 2, 1) := by decide +kernel
theorem dX7_bay_72 : decode cX7_bay 72 = .ok (.invokestatic 58, 3) := by decide +kernel
theorem dX7_bay_75 : decode cX7_bay 75 = .ok (.iaload, 1) := by decide +kernel
theorem dX7_bay_76 : decode cX7_bay 76 = .ok (.ifCond .ne 8, 3) := by decide +kernel
theorem dX7_bay_79 : decode cX7_bay 79 = .ok (.bipush (-9), 2) := by decide +kernel
theorem dX7_bay_81 : decode cX7_bay 81 = .ok (.goto 13, 3) := by decide +kernel
theorem dX7_bay_84 : decode cX7_bay 84 = .ok (.aload_n 0, 1) := by decide +kernel
theorem dX7_bay_85 : decode cX7_bay 85 = .ok (.getfield 16, 3) := by decide +kernel
theorem dX7_bay_88 : decode cX7_bay 88 = .ok (.iload_n 1, 1) := by decide +kernel
theorem dX7_bay_89 : decode cX7_bay 89 = .ok (.iconst 3, 1) := by decide +kernel
theorem dX7_bay_90 : decode cX7_bay 90 = .ok (.invokestatic 58, 3) := by decide +kernel
theorem dX7_bay_93 : decode cX7_bay 93 = .ok (.iaload, 1) := by decide +kernel
theorem dX7_bay_94 : decode cX7_bay 94 = .ok (.ireturn, 1) := by decide +kernel
theorem dX7_isDepot_0 : decode cX7_isDepot 0 = .ok (.iload_n 1, 1) := by decide +kernel
theorem dX7_isDepot_1 : decode cX7_isDepot 1 = .ok (.i2l, 1) := by decide +kernel
theorem dX7_isDepot_2 : decode cX7_isDepot 2 = .ok (.lconst 0, 1) := by decide +kernel
theorem dX7_isDepot_3 : decode cX7_isDepot 3 = .ok (.aload_n 0, 1) := by decide +kernel
theorem dX7_isDepot_4 : decode cX7_isDepot 4 = .ok (.getfield 16, 3) := by decide +kernel
theorem dX7_isDepot_7 : decode cX7_isDepot 7 = .ok (.iconst 4, 1) := by decide +kernel
theorem dX7_isDepot_8 : decode cX7_isDepot 8 = .ok (.iaload, 1) := by decide +kernel
theorem dX7_isDepot_9 : decode cX7_isDepot 9 = .ok (.iconst 1, 1) := by decide +kernel
theorem dX7_isDepot_10 : decode cX7_isDepot 10 = .ok (.isub, 1) := by decide +kernel
theorem dX7_isDepot_11 : decode cX7_isDepot 11 = .ok (.i2l, 1) := by decide +kernel
theorem dX7_isDepot_12 : decode cX7_isDepot 12 = .ok (.invokestatic 139, 3) := by decide +kernel
theorem dX7_isDepot_15 : decode cX7_isDepot 15 = .ok (.ireturn, 1) := by decide +kernel
theorem dX7_depot_0 : decode cX7_depot 0 = .ok (.aload_n 0, 1) := by decide +kernel
theorem dX7_depot_1 : decode cX7_depot 1 = .ok (.aload_n 0, 1) := by decide +kernel
theorem dX7_depot_2 : decode cX7_depot 2 = .ok (.iload_n 1, 1) := by decide +kernel
theorem dX7_depot_3 : decode cX7_depot 3 = .ok (.invokevirtual 236, 3) := by decide +kernel
theorem dX7_depot_6 : decode cX7_depot 6 = .ok (.ifCond .ne 7, 3) := by decide +kernel
theorem dX7_depot_9 : decode cX7_depot 9 = .ok (.iconst 1, 1) := by decide +kernel
theorem dX7_depot_10 : decode cX7_depot 10 = .ok (.goto 18, 3) := by decide +kernel
theorem dX7_depot_13 : decode cX7_depot 13 = .ok (.iload_n 2, 1) := by decide +kernel
theorem dX7_depot_14 : decode cX7_depot 14 = .ok (.i2l, 1) := by decide +kernel
theorem dX7_depot_15 : decode cX7_depot 15 = .ok (.lconst 0, 1) := by decide +kernel
theorem dX7_depot_16 : decode cX7_depot 16 = .ok (.lconst 1, 1) := by decide +kernel
theorem dX7_depot_17 : decode cX7_depot 17 = .ok (.invokestatic 139, 3) := by decide +kernel
theorem dX7_depot_20 : decode cX7_depot 20 = .ok (.ifCond .eq 7, 3) := by decide +kernel
theorem dX7_depot_23 : decode cX7_depot 23 = .ok (.iconst 0, 1) := by decide +kernel
theorem dX7_depot_24 : decode cX7_depot 24 = .ok (.goto 4, 3) := by decide +kernel
theorem dX7_depot_27 : decode cX7_depot 27 = .ok (.iconst 2, 1) := by decide +kernel
theorem dX7_depot_28 : decode cX7_depot 28 = .ok (.invokevirtual 146, 3) := by decide +kernel
theorem dX7_depot_31 : decode cX7_depot 31 = .ok (.ifCond .eq 7, 3) := by decide +kernel
theorem dX7_depot_34 : decode cX7_depot 34 = .ok (.iconst 0, 1) := by decide +kernel
theorem dX7_depot_35 : decode cX7_depot 35 = .ok (.goto 13, 3) := by decide +kernel
theorem dX7_depot_38 : decode cX7_depot 38 = .ok (.aload_n 0, 1) := by decide +kernel
theorem dX7_depot_39 : decode cX7_depot 39 = .ok (.getfield 16, 3) := by decide +kernel
theorem dX7_depot_42 : decode cX7_depot 42 = .ok (.iload_n 1, 1) := by decide +kernel
theorem dX7_depot_43 : decode cX7_depot 43 = .ok (.iload_n 2, 1) := by decide +kernel
theorem dX7_depot_44 : decode cX7_depot 44 = .ok (.invokestatic 61, 3) := by decide +kernel
theorem dX7_depot_47 : decode cX7_depot 47 = .ok (.iaload, 1) := by decide +kernel
theorem dX7_depot_48 : decode cX7_depot 48 = .ok (.ireturn, 1) := by decide +kernel
theorem dX7_addGate_0 : decode cX7_addGate 0 = .ok (.iload_n 1, 1) := by decide +kernel
theorem dX7_addGate_1 : decode cX7_addGate 1 = .ok (.i2l, 1) := by decide +kernel
theorem dX7_addGate_2 : decode cX7_addGate 2 = .ok (.lconst 1, 1) := by decide +kernel
theorem dX7_addGate_3 : decode cX7_addGate 3 = .ok (.aload_n 0, 1) := by decide +kernel
theorem dX7_addGate_4 : decode cX7_addGate 4 = .ok (.getfield 16, 3) := by decide +kernel
theorem dX7_addGate_7 : decode cX7_addGate 7 = .ok (.iconst 0, 1) := by decide +kernel
theorem dX7_addGate_8 : decode cX7_addGate 8 = .ok (.iaload, 1) := by decide +kernel
theorem dX7_addGate_9 : decode cX7_addGate 9 = .ok (.iconst 1, 1) := by decide +kernel
theorem dX7_addGate_10 : decode cX7_addGate 10 = .ok (.isub, 1) := by decide +kernel
theorem dX7_addGate_11 : decode cX7_addGate 11 = .ok (.i2l, 1) := by decide +kernel
theorem dX7_addGate_12 : decode cX7_addGate 12 = .ok (.invokestatic 139, 3) := by decide +kernel
theorem dX7_addGate_15 : decode cX7_addGate 15 = .ok (.ifCond .eq 48, 3) := by decide +kernel
theorem dX7_addGate_18 : decode cX7_addGate 18 = .ok (.iload_n 2, 1) := by decide +kernel
theorem dX7_addGate_19 : decode cX7_addGate 19 = .ok (.i2l, 1) := by decide +kernel
theorem dX7_addGate_20 : decode cX7_addGate 20 = .ok (.ldc2_w 239, 3) := by decide +kernel
theorem dX7_addGate_23 : decode cX7_addGate 23 = .ok (.ldc2_w 241, 3) := by decide +kernel
theorem dX7_addGate_26 : decode cX7_addGate 26 = .ok (.invokestatic 139, 3) := by decide +kernel
theorem dX7_addGate_29 : decode cX7_addGate 29 = .ok (.ifCond .eq 34, 3) := by decide +kernel
theorem dX7_addGate_32 : decode cX7_addGate 32 = .ok (.iload_n 3, 1) := by decide +kernel
theorem dX7_addGate_33 : decode cX7_addGate 33 = .ok (.i2l, 1) := by decide +kernel
theorem dX7_addGate_34 : decode cX7_addGate 34 = .ok (.lconst 0, 1) := by decide +kernel
theorem dX7_addGate_35 : decode cX7_addGate 35 = .ok (.iload_n 2, 1) := by decide +kernel
theorem dX7_addGate_36 : decode cX7_addGate 36 = .ok (.i2l, 1) := by decide +kernel
theorem dX7_addGate_37 : decode cX7_addGate 37 = .ok (.lconst 1, 1) := by decide +kernel
theorem dX7_addGate_38 : decode cX7_addGate 38 = .ok (.lsub, 1) := by decide +kernel
theorem dX7_addGate_39 : decode cX7_addGate 39 = .ok (.invokestatic 139, 3) := by decide +kernel
theorem dX7_addGate_42 : decode cX7_addGate 42 = .ok (.ifCond .eq 21, 3) := by decide +kernel
theorem dX7_addGate_45 : decode cX7_addGate 45 = .ok (.iload 4, 2) := by decide +kernel
theorem dX7_addGate_47 : decode cX7_addGate 47 = .ok (.i2l, 1) := by decide +kernel
theorem dX7_addGate_48 : decode cX7_addGate 48 = .ok (.lconst 0, 1) := by decide +kernel
theorem dX7_addGate_49 : decode cX7_addGate 49 = .ok (.iload_n 2, 1) := by decide +kernel
theorem dX7_addGate_50 : decode cX7_addGate 50 = .ok (.i2l, 1) := by decide +kernel
theorem dX7_addGate_51 : decode cX7_addGate 51 = .ok (.lconst 1, 1) := by decide +kernel
theorem dX7_addGate_52 : decode cX7_addGate 52 = .ok (.lsub, 1) := by decide +kernel
theorem dX7_addGate_53 : decode cX7_addGate 53 = .ok (.invokestatic 139, 3) := by decide +kernel
theorem dX7_addGate_56 : decode cX7_addGate 56 = .ok (.ifCond .eq 7, 3) := by decide +kernel
theorem dX7_addGate_59 : decode cX7_addGate 59 = .ok (.iconst 1, 1) := by decide +kernel
theorem dX7_addGate_60 : decode cX7_addGate 60 = .ok (.goto 4, 3) := by decide +kernel
theorem dX7_addGate_63 : decode cX7_addGate 63 = .ok (.iconst 0, 1) := by decide +kernel
theorem dX7_addGate_64 : decode cX7_addGate 64 = .ok (.istore 5, 2) := by decide +kernel
theorem dX7_addGate_66 : decode cX7_addGate 66 = .ok (.aload_n 0, 1) := by decide +kernel
theorem dX7_addGate_67 : decode cX7_addGate 67 = .ok (.iload 5, 2) := by decide +kernel
theorem dX7_addGate_69 : decode cX7_addGate 69 = .ok (.ifCond .ne 7, 3) := by decide +kernel
theorem dX7_addGate_72 : decode cX7_addGate 72 = .ok (.iconst 1, 1) := by decide +kernel
theorem dX7_addGate_73 : decode cX7_addGate 73 = .ok (.goto 31, 3) := by decide +kernel
theorem dX7_addGate_76 : decode cX7_addGate 76 = .ok (.aload_n 0, 1) := by decide +kernel
theorem dX7_addGate_77 : decode cX7_addGate 77 = .ok (.getfield 16, 3) := by decide +kernel
theorem dX7_addGate_80 : decode cX7_addGate 80 = .ok (.iconst 2, 1) := by decide +kernel
theorem dX7_addGate_81 : decode cX7_addGate 81 = .ok (.iaload, 1) := by decide +kernel
theorem dX7_addGate_82 : decode cX7_addGate 82 = .ok (.iconst 4, 1) := by decide +kernel
theorem dX7_addGate_83 : decode cX7_addGate 83 = .ok (.if_icmp .eq 16, 3) := by decide +kernel
theorem dX7_addGate_86 : decode cX7_addGate 86 = .ok (.aload_n 0, 1) := by decide +kernel
theorem dX7_addGate_87 : decode cX7_addGate 87 = .ok (.getfield 16, 3) := by decide +kernel
theorem dX7_addGate_90 : decode cX7_addGate 90 = .ok (.iload_n 1, 1) := by decide +kernel
theorem dX7_addGate_91 : decode cX7_addGate 91 = .ok (.invokestatic 106, 3) := by decide +kernel
theorem dX7_addGate_94 : decode cX7_addGate 94 = .ok (.bipush (-9), 2) := by decide +kernel
theorem dX7_addGate_96 : decode cX7_addGate 96 = .ok (.if_icmp .eq 7, 3) := by decide +kernel
theorem dX7_addGate_99 : decode cX7_addGate 99 = .ok (.iconst 2, 1) := by decide +kernel
theorem dX7_addGate_100 : decode cX7_addGate 100 = .ok (.goto 4, 3) := by decide +kernel
theorem dX7_addGate_103 : decode cX7_addGate 103 = .ok (.iconst 0, 1) := by decide +kernel
theorem dX7_addGate_104 : decode cX7_addGate 104 = .ok (.invokevirtual 146, 3) := by decide +kernel
theorem dX7_addGate_107 : decode cX7_addGate 107 = .ok (.ifCond .eq 5, 3) := by decide +kernel
theorem dX7_addGate_110 : decode cX7_addGate 110 = .ok (.iconst 0, 1) := by decide +kernel
theorem dX7_addGate_111 : decode cX7_addGate 111 = .ok (.ireturn, 1) := by decide +kernel
theorem dX7_addGate_112 : decode cX7_addGate 112 = .ok (.aload_n 0, 1) := by decide +kernel
theorem dX7_addGate_113 : decode cX7_addGate 113 = .ok (.invokevirtual 243, 3) := by decide +kernel
theorem dX7_addGate_116 : decode cX7_addGate 116 = .ok (.aload_n 0, 1) := by decide +kernel
theorem dX7_addGate_117 : decode cX7_addGate 117 = .ok (.getfield 16, 3) := by decide +kernel
theorem dX7_addGate_120 : decode cX7_addGate 120 = .ok (.iload_n 1, 1) := by decide +kernel
theorem dX7_addGate_121 : decode cX7_addGate 121 = .ok (.iload_n 2, 1) := by decide +kernel
theorem dX7_addGate_122 : decode cX7_addGate 122 = .ok (.iload_n 3, 1) := by decide +kernel
theorem dX7_addGate_123 : decode cX7_addGate 123 = .ok (.iload 4, 2) := by decide +kernel
theorem dX7_addGate_125 : decode cX7_addGate 125 = .ok (.invokestatic 172, 3) := by decide +kernel
theorem dX7_addGate_128 : decode cX7_addGate 128 = .ok (.aload_n 0, 1) := by decide +kernel
theorem dX7_addGate_129 : decode cX7_addGate 129 = .ok (.getfield 16, 3) := by decide +kernel
theorem dX7_addGate_132 : decode cX7_addGate 132 = .ok (.iconst 2, 1) := by decide +kernel
theorem dX7_addGate_133 : decode cX7_addGate 133 = .ok (.iaload, 1) := by decide +kernel
theorem dX7_addGate_134 : decode cX7_addGate 134 = .ok (.iconst 1, 1) := by decide +kernel
theorem dX7_addGate_135 : decode cX7_addGate 135 = .ok (.isub, 1) := by decide +kernel
theorem dX7_addGate_136 : decode cX7_addGate 136 = .ok (.ireturn, 1) := by decide +kernel
theorem dX7_addBay_0 : decode cX7_addBay 0 = .ok (.iload_n 1, 1) := by decide +kernel
theorem dX7_addBay_1 : decode cX7_addBay 1 = .ok (.i2l, 1) := by decide +kernel
theorem dX7_addBay_2 : decode cX7_addBay 2 = .ok (.lconst 1, 1) := by decide +kernel
theorem dX7_addBay_3 : decode cX7_addBay 3 = .ok (.aload_n 0, 1) := by decide +kernel
theorem dX7_addBay_4 : decode cX7_addBay 4 = .ok (.getfield 16, 3) := by decide +kernel
theorem dX7_addBay_7 : decode cX7_addBay 7 = .ok (.iconst 0, 1) := by decide +kernel
theorem dX7_addBay_8 : decode cX7_addBay 8 = .ok (.iaload, 1) := by decide +kernel
theorem dX7_addBay_9 : decode cX7_addBay 9 = .ok (.iconst 1, 1) := by decide +kernel
theorem dX7_addBay_10 : decode cX7_addBay 10 = .ok (.isub, 1) := by decide +kernel
theorem dX7_addBay_11 : decode cX7_addBay 11 = .ok (.i2l, 1) := by decide +kernel
theorem dX7_addBay_12 : decode cX7_addBay 12 = .ok (.invokestatic 139, 3) := by decide +kernel
theorem dX7_addBay_15 : decode cX7_addBay 15 = .ok (.ifCond .eq 19, 3) := by decide +kernel
theorem dX7_addBay_18 : decode cX7_addBay 18 = .ok (.iload_n 2, 1) := by decide +kernel
theorem dX7_addBay_19 : decode cX7_addBay 19 = .ok (.i2l, 1) := by decide +kernel
theorem dX7_addBay_20 : decode cX7_addBay 20 = .ok (.lconst 1, 1) := by decide +kernel
theorem dX7_addBay_21 : decode cX7_addBay 21 = .ok (.ldc2_w 226, 3) := by decide +kernel
theorem dX7_addBay_24 : decode cX7_addBay 24 = .ok (.invokestatic 139, 3) := by decide +kernel
theorem dX7_addBay_27 : decode cX7_addBay 27 = .ok (.ifCond .eq 7, 3) := by decide +kernel
theorem dX7_addBay_30 : decode cX7_addBay 30 = .ok (.iconst 1, 1) := by decide +kernel
theorem dX7_addBay_31 : decode cX7_addBay 31 = .ok (.goto 4, 3) := by decide +kernel
theorem dX7_addBay_34 : decode cX7_addBay 34 = .ok (.iconst 0, 1) := by decide +kernel
theorem dX7_addBay_35 : decode cX7_addBay 35 = .ok (.istore_n 3, 1) := by decide +kernel
theorem dX7_addBay_36 : decode cX7_addBay 36 = .ok (.aload_n 0, 1) := by decide +kernel
theorem dX7_addBay_37 : decode cX7_addBay 37 = .ok (.iload_n 3, 1) := by decide +kernel
theorem dX7_addBay_38 : decode cX7_addBay 38 = .ok (.ifCond .ne 7, 3) := by decide +kernel
theorem dX7_addBay_41 : decode cX7_addBay 41 = .ok (.iconst 1, 1) := by decide +kernel
theorem dX7_addBay_42 : decode cX7_addBay 42 = .ok (.goto 32, 3) := by decide +kernel
theorem dX7_addBay_45 : decode cX7_addBay 45 = .ok (.aload_n 0, 1) := by decide +kernel
theorem dX7_addBay_46 : decode cX7_addBay 46 = .ok (.getfield 16, 3) := by decide +kernel
theorem dX7_addBay_49 : decode cX7_addBay 49 = .ok (.iconst 3, 1) := by decide +kernel
theorem dX7_addBay_50 : decode cX7_addBay 50 = .ok (.iaload, 1) := by decide +kernel
theorem dX7_addBay_51 : decode cX7_addBay 51 = .ok (.bipush 6, 2) := by decide +kernel
theorem dX7_addBay_53 : decode cX7_addBay 53 = .ok (.if_icmp .eq 16, 3) := by decide +kernel
theorem dX7_addBay_56 : decode cX7_addBay 56 = .ok (.aload_n 0, 1) := by decide +kernel
theorem dX7_addBay_57 : decode cX7_addBay 57 = .ok (.getfield 16, 3) := by decide +kernel
theorem dX7_addBay_60 : decode cX7_addBay 60 = .ok (.iload_n 1, 1) := by decide +kernel
theorem dX7_addBay_61 : decode cX7_addBay 61 = .ok (.invokestatic 78, 3) := by decide +kernel
theorem dX7_addBay_64 : decode cX7_addBay 64 = .ok (.bipush (-9), 2) := by decide +kernel
theorem dX7_addBay_66 : decode cX7_addBay 66 = .ok (.if_icmp .eq 7, 3) := by decide +kernel
theorem dX7_addBay_69 : decode cX7_addBay 69 = .ok (.iconst 2, 1) := by decide +kernel
theorem dX7_addBay_70 : decode cX7_addBay 70 = .ok (.goto 4, 3) := by decide +kernel
theorem dX7_addBay_73 : decode cX7_addBay 73 = .ok (.iconst 0, 1) := by decide +kernel
theorem dX7_addBay_74 : decode cX7_addBay 74 = .ok (.invokevirtual 146, 3) := by decide +kernel
theorem dX7_addBay_77 : decode cX7_addBay 77 = .ok (.ifCond .eq 5, 3) := by decide +kernel
theorem dX7_addBay_80 : decode cX7_addBay 80 = .ok (.iconst 0, 1) := by decide +kernel
theorem dX7_addBay_81 : decode cX7_addBay 81 = .ok (.ireturn, 1) := by decide +kernel
theorem dX7_addBay_82 : decode cX7_addBay 82 = .ok (.aload_n 0, 1) := by decide +kernel
theorem dX7_addBay_83 : decode cX7_addBay 83 = .ok (.invokevirtual 243, 3) := by decide +kernel
theorem dX7_addBay_86 : decode cX7_addBay 86 = .ok (.aload_n 0, 1) := by decide +kernel
theorem dX7_addBay_87 : decode cX7_addBay 87 = .ok (.getfield 16, 3) := by decide +kernel
theorem dX7_addBay_90 : decode cX7_addBay 90 = .ok (.iload_n 1, 1) := by decide +kernel
theorem dX7_addBay_91 : decode cX7_addBay 91 = .ok (.iload_n 2, 1) := by decide +kernel
theorem dX7_addBay_92 : decode cX7_addBay 92 = .ok (.invokestatic 176, 3) := by decide +kernel
theorem dX7_addBay_95 : decode cX7_addBay 95 = .ok (.aload_n 0, 1) := by decide +kernel
theorem dX7_addBay_96 : decode cX7_addBay 96 = .ok (.getfield 16, 3) := by decide +kernel
theorem dX7_addBay_99 : decode cX7_addBay 99 = .ok (.iconst 3, 1) := by decide +kernel
theorem dX7_addBay_100 : decode cX7_addBay 100 = .ok (.iaload, 1) := by decide +kernel
theorem dX7_addBay_101 : decode cX7_addBay 101 = .ok (.iconst 1, 1) := by decide +kernel
theorem dX7_addBay_102 : decode cX7_addBay 102 = .ok (.isub, 1) := by decide +kernel
theorem dX7_addBay_103 : decode cX7_addBay 103 = .ok (.ireturn, 1) := by decide +kernel
theorem dX7_addDepot_0 : decode cX7_addDepot 0 = .ok (.iload_n 1, 1) := by decide +kernel
theorem dX7_addDepot_1 : decode cX7_addDepot 1 = .ok (.i2l, 1) := by decide +kernel
theorem dX7_addDepot_2 : decode cX7_addDepot 2 = .ok (.lconst 0, 1) := by decide +kernel
theorem dX7_addDepot_3 : decode cX7_addDepot 3 = .ok (.aload_n 0, 1) := by decide +kernel
theorem dX7_addDepot_4 : decode cX7_addDepot 4 = .ok (.getfield 16, 3) := by decide +kernel
theorem dX7_addDepot_7 : decode cX7_addDepot 7 = .ok (.iconst 0, 1) := by decide +kernel
theorem dX7_addDepot_8 : decode cX7_addDepot 8 = .ok (.iaload, 1) := by decide +kernel
theorem dX7_addDepot_9 : decode cX7_addDepot 9 = .ok (.i2l, 1) := by decide +kernel
theorem dX7_addDepot_10 : decode cX7_addDepot 10 = .ok (.invokestatic 139, 3) := by decide +kernel
theorem dX7_addDepot_13 : decode cX7_addDepot 13 = .ok (.ifCond .eq 19, 3) := by decide +kernel
theorem dX7_addDepot_16 : decode cX7_addDepot 16 = .ok (.iload_n 2, 1) := by decide +kernel
theorem dX7_addDepot_17 : decode cX7_addDepot 17 = .ok (.i2l, 1) := by decide +kernel
theorem dX7_addDepot_18 : decode cX7_addDepot 18 = .ok (.lconst 0, 1) := by decide +kernel
theorem dX7_addDepot_19 : decode cX7_addDepot 19 = .ok (.ldc2_w 246, 3) := by decide +kernel
theorem dX7_addDepot_22 : decode cX7_addDepot 22 = .ok (.invokestatic 139, 3) := by decide +kernel
theorem dX7_addDepot_25 : decode cX7_addDepot 25 = .ok (.ifCond .eq 7, 3) := by decide +kernel
theorem dX7_addDepot_28 : decode cX7_addDepot 28 = .ok (.iconst 1, 1) := by decide +kernel
theorem dX7_addDepot_29 : decode cX7_addDepot 29 = .ok (.goto 4, 3) := by decide +kernel
theorem dX7_addDepot_32 : decode cX7_addDepot 32 = .ok (.iconst 0, 1) := by decide +kernel
theorem dX7_addDepot_33 : decode cX7_addDepot 33 = .ok (.istore_n 3, 1) := by decide +kernel
theorem dX7_addDepot_34 : decode cX7_addDepot 34 = .ok (.aload_n 0, 1) := by decide +kernel
theorem dX7_addDepot_35 : decode cX7_addDepot 35 = .ok (.iload_n 3, 1) := by decide +kernel
theorem dX7_addDepot_36 : decode cX7_addDepot 36 = .ok (.ifCond .ne 7, 3) := by decide +kernel
theorem dX7_addDepot_39 : decode cX7_addDepot 39 = .ok (.iconst 1, 1) := by decide +kernel
theorem dX7_addDepot_40 : decode cX7_addDepot 40 = .ok (.goto 31, 3) := by decide +kernel
theorem dX7_addDepot_43 : decode cX7_addDepot 43 = .ok (.aload_n 0, 1) := by decide +kernel
theorem dX7_addDepot_44 : decode cX7_addDepot 44 = .ok (.getfield 16, 3) := by decide +kernel
theorem dX7_addDepot_47 : decode cX7_addDepot 47 = .ok (.iconst 4, 1) := by decide +kernel
theorem dX7_addDepot_48 : decode cX7_addDepot 48 = .ok (.iaload, 1) := by decide +kernel
theorem dX7_addDepot_49 : decode cX7_addDepot 49 = .ok (.iconst 4, 1) := by decide +kernel
theorem dX7_addDepot_50 : decode cX7_addDepot 50 = .ok (.if_icmp .eq 16, 3) := by decide +kernel
theorem dX7_addDepot_53 : decode cX7_addDepot 53 = .ok (.aload_n 0, 1) := by decide +kernel
theorem dX7_addDepot_54 : decode cX7_addDepot 54 = .ok (.getfield 16, 3) := by decide +kernel
theorem dX7_addDepot_57 : decode cX7_addDepot 57 = .ok (.iload_n 1, 1) := by decide +kernel
theorem dX7_addDepot_58 : decode cX7_addDepot 58 = .ok (.invokestatic 75, 3) := by decide +kernel
theorem dX7_addDepot_61 : decode cX7_addDepot 61 = .ok (.bipush (-9), 2) := by decide +kernel
theorem dX7_addDepot_63 : decode cX7_addDepot 63 = .ok (.if_icmp .eq 7, 3) := by decide +kernel
theorem dX7_addDepot_66 : decode cX7_addDepot 66 = .ok (.iconst 2, 1) := by decide +kernel
theorem dX7_addDepot_67 : decode cX7_addDepot 67 = .ok (.goto 4, 3) := by decide +kernel
theorem dX7_addDepot_70 : decode cX7_addDepot 70 = .ok (.iconst 0, 1) := by decide +kernel
theorem dX7_addDepot_71 : decode cX7_addDepot 71 = .ok (.invokevirtual 146, 3) := by decide +kernel
theorem dX7_addDepot_74 : decode cX7_addDepot 74 = .ok (.ifCond .eq 5, 3) := by decide +kernel
theorem dX7_addDepot_77 : decode cX7_addDepot 77 = .ok (.iconst 0, 1) := by decide +kernel
theorem dX7_addDepot_78 : decode cX7_addDepot 78 = .ok (.ireturn, 1) := by decide +kernel
theorem dX7_addDepot_79 : decode cX7_addDepot 79 = .ok (.aload_n 0, 1) := by decide +kernel
theorem dX7_addDepot_80 : decode cX7_addDepot 80 = .ok (.invokevirtual 243, 3) := by decide +kernel
theorem dX7_addDepot_83 : decode cX7_addDepot 83 = .ok (.aload_n 0, 1) := by decide +kernel
theorem dX7_addDepot_84 : decode cX7_addDepot 84 = .ok (.getfield 16, 3) := by decide +kernel
theorem dX7_addDepot_87 : decode cX7_addDepot 87 = .ok (.iload_n 1, 1) := by decide +kernel
theorem dX7_addDepot_88 : decode cX7_addDepot 88 = .ok (.iload_n 2, 1) := by decide +kernel
theorem dX7_addDepot_89 : decode cX7_addDepot 89 = .ok (.invokestatic 180, 3) := by decide +kernel
theorem dX7_addDepot_92 : decode cX7_addDepot 92 = .ok (.aload_n 0, 1) := by decide +kernel
theorem dX7_addDepot_93 : decode cX7_addDepot 93 = .ok (.getfield 16, 3) := by decide +kernel
theorem dX7_addDepot_96 : decode cX7_addDepot 96 = .ok (.iconst 4, 1) := by decide +kernel
theorem dX7_addDepot_97 : decode cX7_addDepot 97 = .ok (.iaload, 1) := by decide +kernel
theorem dX7_addDepot_98 : decode cX7_addDepot 98 = .ok (.iconst 1, 1) := by decide +kernel
theorem dX7_addDepot_99 : decode cX7_addDepot 99 = .ok (.isub, 1) := by decide +kernel
theorem dX7_addDepot_100 : decode cX7_addDepot 100 = .ok (.ireturn, 1) := by decide +kernel
theorem dX7_addConvoy_0 : decode cX7_addConvoy 0 = .ok (.aload_n 0, 1) := by decide +kernel
theorem dX7_addConvoy_1 : decode cX7_addConvoy 1 = .ok (.aload_n 0, 1) := by decide +kernel
theorem dX7_addConvoy_2 : decode cX7_addConvoy 2 = .ok (.getfield 16, 3) := by decide +kernel
theorem dX7_addConvoy_5 : decode cX7_addConvoy 5 = .ok (.iconst 5, 1) := by decide +kernel
theorem dX7_addConvoy_6 : decode cX7_addConvoy 6 = .ok (.iaload, 1) := by decide +kernel
theorem dX7_addConvoy_7 : decode cX7_addConvoy 7 = .ok (.iconst 4, 1) := by decide +kernel
theorem dX7_addConvoy_8 : decode cX7_addConvoy 8 = .ok (.if_icmp .ne 7, 3) := by decide +kernel
theorem dX7_addConvoy_11 : decode cX7_addConvoy 11 = .ok (.iconst 1, 1) := by decide +kernel
theorem dX7_addConvoy_12 : decode cX7_addConvoy 12 = .ok (.goto 4, 3) := by decide +kernel
theorem dX7_addConvoy_15 : decode cX7_addConvoy 15 = .ok (.iconst 0, 1) := by decide +kernel
theorem dX7_addConvoy_16 : decode cX7_addConvoy 16 = .ok (.invokevirtual 146, 3) := by decide +kernel
theorem dX7_addConvoy_19 : decode cX7_addConvoy 19 = .ok (.ifCond .eq 5, 3) := by decide +kernel
theorem dX7_addConvoy_22 : decode cX7_addConvoy 22 = .ok (.iconst 0, 1) := by decide +kernel
theorem dX7_addConvoy_23 : decode cX7_addConvoy 23 = .ok (.ireturn, 1) := by decide +kernel
theorem dX7_addConvoy_24 : decode cX7_addConvoy 24 = .ok (.aload_n 0, 1) := by decide +kernel
theorem dX7_addConvoy_25 : decode cX7_addConvoy 25 = .ok (.invokevirtual 243, 3) := by decide +kernel
theorem dX7_addConvoy_28 : decode cX7_addConvoy 28 = .ok (.aload_n 0, 1) := by decide +kernel
theorem dX7_addConvoy_29 : decode cX7_addConvoy 29 = .ok (.getfield 16, 3) := by decide +kernel
theorem dX7_addConvoy_32 : decode cX7_addConvoy 32 = .ok (.invokestatic 199, 3) := by decide +kernel
theorem dX7_addConvoy_35 : decode cX7_addConvoy 35 = .ok (.aload_n 0, 1) := by decide +kernel
theorem dX7_addConvoy_36 : decode cX7_addConvoy 36 = .ok (.getfield 16, 3) := by decide +kernel
theorem dX7_addConvoy_39 : decode cX7_addConvoy 39 = .ok (.iconst 5, 1) := by decide +kernel
theorem dX7_addConvoy_40 : decode cX7_addConvoy 40 = .ok (.iaload, 1) := by decide +kernel
theorem dX7_addConvoy_41 : decode cX7_addConvoy 41 = .ok (.iconst 1, 1) := by decide +kernel
theorem dX7_addConvoy_42 : decode cX7_addConvoy 42 = .ok (.isub, 1) := by decide +kernel
theorem dX7_addConvoy_43 : decode cX7_addConvoy 43 = .ok (.ireturn, 1) := by decide +kernel
theorem dX7_addVehicle_0 : decode cX7_addVehicle 0 = .ok (.iload_n 2, 1) := by decide +kernel
theorem dX7_addVehicle_1 : decode cX7_addVehicle 1 = .ok (.i2l, 1) := by decide +kernel
theorem dX7_addVehicle_2 : decode cX7_addVehicle 2 = .ok (.lconst 1, 1) := by decide +kernel
theorem dX7_addVehicle_3 : decode cX7_addVehicle 3 = .ok (.ldc2_w 157, 3) := by decide +kernel
theorem dX7_addVehicle_6 : decode cX7_addVehicle 6 = .ok (.invokestatic 139, 3) := by decide +kernel
theorem dX7_addVehicle_9 : decode cX7_addVehicle 9 = .ok (.ifCond .eq 47, 3) := by decide +kernel
theorem dX7_addVehicle_12 : decode cX7_addVehicle 12 = .ok (.iload_n 3, 1) := by decide +kernel
theorem dX7_addVehicle_13 : decode cX7_addVehicle 13 = .ok (.i2l, 1) := by decide +kernel
theorem dX7_addVehicle_14 : decode cX7_addVehicle 14 = .ok (.lconst 1, 1) := by decide +kernel
theorem dX7_addVehicle_15 : decode cX7_addVehicle 15 = .ok (.ldc2_w 248, 3) := by decide +kernel
theorem dX7_addVehicle_18 : decode cX7_addVehicle 18 = .ok (.invokestatic 139, 3) := by decide +kernel
theorem dX7_addVehicle_21 : decode cX7_addVehicle 21 = .ok (.ifCond .eq 35, 3) := by decide +kernel
theorem dX7_addVehicle_24 : decode cX7_addVehicle 24 = .ok (.iload 4, 2) := by decide +kernel
theorem dX7_addVehicle_26 : decode cX7_addVehicle 26 = .ok (.i2l, 1) := by decide +kernel
theorem dX7_addVehicle_27 : decode cX7_addVehicle 27 = .ok (.ldc2_w 250, 3) := by decide +kernel
theorem dX7_addVehicle_30 : decode cX7_addVehicle 30 = .ok (.ldc2_w 252, 3) := by decide +kernel
theorem dX7_addVehicle_33 : decode cX7_addVehicle 33 = .ok (.invokestatic 139, 3) := by decide +kernel
theorem dX7_addVehicle_36 : decode cX7_addVehicle 36 = .ok (.ifCond .eq 20, 3) := by decide +kernel
theorem dX7_addVehicle_39 : decode cX7_addVehicle 39 = .ok (.iload 5, 2) := by decide +kernel
theorem dX7_addVehicle_41 : decode cX7_addVehicle 41 = .ok (.i2l, 1) := by decide +kernel
theorem dX7_addVehicle_42 : decode cX7_addVehicle 42 = .ok (.lconst 0, 1) := by decide +kernel
theorem dX7_addVehicle_43 : decode cX7_addVehicle 43 = .ok (.iload 4, 2) := by decide +kernel
theorem dX7_addVehicle_45 : decode cX7_addVehicle 45 = .ok (.i2l, 1) := by decide +kernel
theorem dX7_addVehicle_46 : decode cX7_addVehicle 46 = .ok (.invokestatic 139, 3) := by decide +kernel
theorem dX7_addVehicle_49 : decode cX7_addVehicle 49 = .ok (.ifCond .eq 7, 3) := by decide +kernel
theorem dX7_addVehicle_52 : decode cX7_addVehicle 52 = .ok (.iconst 1, 1) := by decide +kernel
theorem dX7_addVehicle_53 : decode cX7_addVehicle 53 = .ok (.goto 4, 3) := by decide +kernel
theorem dX7_addVehicle_56 : decode cX7_addVehicle 56 = .ok (.iconst 0, 1) := by decide +kernel
theorem dX7_addVehicle_57 : decode cX7_addVehicle 57 = .ok (.istore 6, 2) := by decide +kernel
theorem dX7_addVehicle_59 : decode cX7_addVehicle 59 = .ok (.aload_n 0, 1) := by decide +kernel
theorem dX7_addVehicle_60 : decode cX7_addVehicle 60 = .ok (.aload_n 0, 1) := by decide +kernel
theorem dX7_addVehicle_61 : decode cX7_addVehicle 61 = .ok (.iload_n 1, 1) := by decide +kernel
theorem dX7_addVehicle_62 : decode cX7_addVehicle 62 = .ok (.invokevirtual 218, 3) := by decide +kernel
theorem dX7_addVehicle_65 : decode cX7_addVehicle 65 = .ok (.ifCond .ne 7, 3) := by decide +kernel
theorem dX7_addVehicle_68 : decode cX7_addVehicle 68 = .ok (.iconst 1, 1) := by decide +kernel
theorem dX7_addVehicle_69 : decode cX7_addVehicle 69 = .ok (.goto 53, 3) := by decide +kernel
theorem dX7_addVehicle_72 : decode cX7_addVehicle 72 = .ok (.iload 6, 2) := by decide +kernel
theorem dX7_addVehicle_74 : decode cX7_addVehicle 74 = .ok (.ifCond .ne 7, 3) := by decide +kernel
theorem dX7_addVehicle_77 : decode cX7_addVehicle 77 = .ok (.iconst 2, 1) := by decide +kernel
theorem dX7_addVehicle_78 : decode cX7_addVehicle 78 = .ok (.goto 44, 3) := by decide +kernel
theorem dX7_addVehicle_81 : decode cX7_addVehicle 81 = .ok (.aload_n 0, 1) := by decide +kernel
theorem dX7_addVehicle_82 : decode cX7_addVehicle 82 = .ok (.getfield 16, 3) := by decide +kernel
theorem dX7_addVehicle_85 : decode cX7_addVehicle 85 = .ok (.bipush 6, 2) := by decide +kernel
theorem dX7_addVehicle_87 : decode cX7_addVehicle 87 = .ok (.iaload, 1) := by decide +kernel
theorem dX7_addVehicle_88 : decode cX7_addVehicle 88 = .ok (.bipush 16, 2) := by decide +kernel
theorem dX7_addVehicle_90 : decode cX7_addVehicle 90 = .ok (.if_icmp .eq 27, 3) := by decide +kernel
theorem dX7_addVehicle_93 : decode cX7_addVehicle 93 = .ok (.aload_n 0, 1) := by decide +kernel
theorem dX7_addVehicle_94 : decode cX7_addVehicle 94 = .ok (.getfield 16, 3) := by decide +kernel
theorem dX7_addVehicle_97 : decode cX7_addVehicle 97 = .ok (.iload_n 1, 1) := by decide +kernel
theorem dX7_addVehicle_98 : decode cX7_addVehicle 98 = .ok (.invokestatic 64, 3) := by decide +kernel
theorem dX7_addVehicle_101 : decode cX7_addVehicle 101 = .ok (.bipush 8, 2) := by decide +kernel
theorem dX7_addVehicle_103 : decode cX7_addVehicle 103 = .ok (.if_icmp .eq 14, 3) := by decide +kernel
theorem dX7_addVehicle_106 : decode cX7_addVehicle 106 = .ok (.aload_n 0, 1) := by decide +kernel
theorem dX7_addVehicle_107 : decode cX7_addVehicle 107 = .ok (.getfield 16, 3) := by decide +kernel
theorem dX7_addVehicle_110 : decode cX7_addVehicle 110 = .ok (.iload_n 1, 1) := by decide +kernel
theorem dX7_addVehicle_111 : decode cX7_addVehicle 111 = .ok (.invokestatic 118, 3) := by decide +kernel
theorem dX7_addVehicle_114 : decode cX7_addVehicle 114 = .ok (.ifCond .eq 7, 3) := by decide +kernel
theorem dX7_addVehicle_117 : decode cX7_addVehicle 117 = .ok (.iconst 3, 1) := by decide +kernel
theorem dX7_addVehicle_118 : decode cX7_addVehicle 118 = .ok (.goto 4, 3) := by decide +kernel
theorem dX7_addVehicle_121 : decode cX7_addVehicle 121 = .ok (.iconst 0, 1) := by decide +kernel
theorem dX7_addVehicle_122 : decode cX7_addVehicle 122 = .ok (.invokevirtual 146, 3) := by decide +kernel
theorem dX7_addVehicle_125 : decode cX7_addVehicle 125 = .ok (.ifCond .eq 5, 3) := by decide +kernel
theorem dX7_addVehicle_128 : decode cX7_addVehicle 128 = .ok (.iconst 0, 1) := by decide +kernel
theorem dX7_addVehicle_129 : decode cX7_addVehicle 129 = .ok (.ireturn, 1) := by decide +kernel
theorem dX7_addVehicle_130 : decode cX7_addVehicle 130 = .ok (.aload_n 0, 1) := by decide +kernel
theorem dX7_addVehicle_131 : decode cX7_addVehicle 131 = .ok (.invokevirtual 243, 3) := by decide +kernel
theorem dX7_addVehicle_134 : decode cX7_addVehicle 134 = .ok (.aload_n 0, 1) := by decide +kernel
theorem dX7_addVehicle_135 : decode cX7_addVehicle 135 = .ok (.getfield 16, 3) := by decide +kernel
theorem dX7_addVehicle_138 : decode cX7_addVehicle 138 = .ok (.iload_n 1, 1) := by decide +kernel
theorem dX7_addVehicle_139 : decode cX7_addVehicle 139 = .ok (.iload_n 2, 1) := by decide +kernel
theorem dX7_addVehicle_140 : decode cX7_addVehicle 140 = .ok (.iload_n 3, 1) := by decide +kernel
theorem dX7_addVehicle_141 : decode cX7_addVehicle 141 = .ok (.iload 4, 2) := by decide +kernel
theorem dX7_addVehicle_143 : decode cX7_addVehicle 143 = .ok (.iload 5, 2) := by decide +kernel
theorem dX7_addVehicle_145 : decode cX7_addVehicle 145 = .ok (.invokestatic 186, 3) := by decide +kernel
theorem dX7_addVehicle_148 : decode cX7_addVehicle 148 = .ok (.aload_n 0, 1) := by decide +kernel
theorem dX7_addVehicle_149 : decode cX7_addVehicle 149 = .ok (.getfield 16, 3) := by decide +kernel
theorem dX7_addVehicle_152 : decode cX7_addVehicle 152 = .ok (.bipush 6, 2) := by decide +kernel
theorem dX7_addVehicle_154 : decode cX7_addVehicle 154 = .ok (.iaload, 1) := by decide +kernel
theorem dX7_addVehicle_155 : decode cX7_addVehicle 155 = .ok (.iconst 1, 1) := by decide +kernel
theorem dX7_addVehicle_156 : decode cX7_addVehicle 156 = .ok (.isub, 1) := by decide +kernel
theorem dX7_addVehicle_157 : decode cX7_addVehicle 157 = .ok (.ireturn, 1) := by decide +kernel
theorem dX7_isHold_0 : decode cX7_isHold 0 = .ok (.iload_n 0, 1) := by decide +kernel
theorem dX7_isHold_1 : decode cX7_isHold 1 = .ok (.i2l, 1) := by decide +kernel
theorem dX7_isHold_2 : decode cX7_isHold 2 = .ok (.lconst 0, 1) := by decide +kernel
theorem dX7_isHold_3 : decode cX7_isHold 3 = .ok (.ldc2_w 254, 3) := by decide +kernel
theorem dX7_isHold_6 : decode cX7_isHold 6 = .ok (.invokestatic 139, 3) := by decide +kernel
theorem dX7_isHold_9 : decode cX7_isHold 9 = .ok (.ireturn, 1) := by decide +kernel
theorem dX7_hold_0 : decode cX7_hold 0 = .ok (.aload_n 0, 1) := by decide +kernel
theorem dX7_hold_1 : decode cX7_hold 1 = .ok (.aload_n 0, 1) := by decide +kernel
theorem dX7_hold_2 : decode cX7_hold 2 = .ok (.iload_n 1, 1) := by decide +kernel
theorem dX7_hold_3 : decode cX7_hold 3 = .ok (.invokevirtual 218, 3) := by decide +kernel
theorem dX7_hold_6 : decode cX7_hold 6 = .ok (.ifCond .ne 7, 3) := by decide +kernel
theorem dX7_hold_9 : decode cX7_hold 9 = .ok (.iconst 1, 1) := by decide +kernel
theorem dX7_hold_10 : decode cX7_hold 10 = .ok (.goto 15, 3) := by decide +kernel
theorem dX7_hold_13 : decode cX7_hold 13 = .ok (.iload_n 2, 1) := by decide +kernel
theorem dX7_hold_14 : decode cX7_hold 14 = .ok (.invokestatic 256, 3) := by decide +kernel
theorem dX7_hold_17 : decode cX7_hold 17 = .ok (.ifCond .eq 7, 3) := by decide +kernel
theorem dX7_hold_20 : decode cX7_hold 20 = .ok (.iconst 0, 1) := by decide +kernel
theorem dX7_hold_21 : decode cX7_hold 21 = .ok (.goto 4, 3) := by decide +kernel
theorem dX7_hold_24 : decode cX7_hold 24 = .ok (.iconst 2, 1) := by decide +kernel
theorem dX7_hold_25 : decode cX7_hold 25 = .ok (.invokevirtual 146, 3) := by decide +kernel
theorem dX7_hold_28 : decode cX7_hold 28 = .ok (.ifCond .eq 5, 3) := by decide +kernel
theorem dX7_hold_31 : decode cX7_hold 31 = .ok (.iconst 0, 1) := by decide +kernel
theorem dX7_hold_32 : decode cX7_hold 32 = .ok (.ireturn, 1) := by decide +kernel
theorem dX7_hold_33 : decode cX7_hold 33 = .ok (.aload_n 0, 1) := by decide +kernel
theorem dX7_hold_34 : decode cX7_hold 34 = .ok (.invokevirtual 243, 3) := by decide +kernel
theorem dX7_hold_37 : decode cX7_hold 37 = .ok (.aload_n 0, 1) := by decide +kernel
theorem dX7_hold_38 : decode cX7_hold 38 = .ok (.getfield 16, 3) := by decide +kernel
theorem dX7_hold_41 : decode cX7_hold 41 = .ok (.iload_n 1, 1) := by decide +kernel
theorem dX7_hold_42 : decode cX7_hold 42 = .ok (.iconst 2, 1) := by decide +kernel
theorem dX7_hold_43 : decode cX7_hold 43 = .ok (.invokestatic 51, 3) := by decide +kernel
theorem dX7_hold_46 : decode cX7_hold 46 = .ok (.iaload, 1) := by decide +kernel
theorem dX7_hold_47 : decode cX7_hold 47 = .ok (.istore_n 3, 1) := by decide +kernel
theorem dX7_hold_48 : decode cX7_hold 48 = .ok (.aload_n 0, 1) := by decide +kernel
theorem dX7_hold_49 : decode cX7_hold 49 = .ok (.getfield 16, 3) := by decide +kernel
theorem dX7_hold_52 : decode cX7_hold 52 = .ok (.iload_n 1, 1) := by decide +kernel
theorem dX7_hold_53 : decode cX7_hold 53 = .ok (.iconst 2, 1) := by decide +kernel
theorem dX7_hold_54 : decode cX7_hold 54 = .ok (.invokestatic 51, 3) := by decide +kernel
theorem dX7_hold_57 : decode cX7_hold 57 = .ok (.iload_n 2, 1) := by decide +kernel
theorem dX7_hold_58 : decode cX7_hold 58 = .ok (.iastore, 1) := by decide +kernel
theorem dX7_hold_59 : decode cX7_hold 59 = .ok (.iload_n 3, 1) := by decide +kernel
theorem dX7_hold_60 : decode cX7_hold 60 = .ok (.ireturn, 1) := by decide +kernel
theorem dX7_supply_0 : decode cX7_supply 0 = .ok (.aload_n 0, 1) := by decide +kernel
theorem dX7_supply_1 : decode cX7_supply 1 = .ok (.aload_n 0, 1) := by decide +kernel
theorem dX7_supply_2 : decode cX7_supply 2 = .ok (.iload_n 1, 1) := by decide +kernel
theorem dX7_supply_3 : decode cX7_supply 3 = .ok (.invokevirtual 236, 3) := by decide +kernel
theorem dX7_supply_6 : decode cX7_supply 6 = .ok (.ifCond .ne 7, 3) := by decide +kernel
theorem dX7_supply_9 : decode cX7_supply 9 = .ok (.iconst 1, 1) := by decide +kernel
theorem dX7_supply_10 : decode cX7_supply 10 = .ok (.goto 42, 3) := by decide +kernel
theorem dX7_supply_13 : decode cX7_supply 13 = .ok (.iload_n 2, 1) := by decide +kernel
theorem dX7_supply_14 : decode cX7_supply 14 = .ok (.i2l, 1) := by decide +kernel
theorem dX7_supply_15 : decode cX7_supply 15 = .ok (.lconst 1, 1) := by decide +kernel
theorem dX7_supply_16 : decode cX7_supply 16 = .ok (.ldc2_w 259, 3) := by decide +kernel
theorem dX7_supply_19 : decode cX7_supply 19 = .ok (.invokestatic 139, 3) := by decide +kernel
theorem dX7_supply_22 : decode cX7_supply 22 = .ok (.ifCond .ne 7, 3) := by decide +kernel
theorem dX7_supply_25 : decode cX7_supply 25 = .ok (.iconst 2, 1) := by decide +kernel
theorem dX7_supply_26 : decode cX7_supply 26 = .ok (.goto 26, 3) := by decide +kernel
theorem dX7_supply_29 : decode cX7_supply 29 = .ok (.aload_n 0, 1) := by decide +kernel
theorem dX7_supply_30 : decode cX7_supply 30 = .ok (.getfield 16, 3) := by decide +kernel
theorem dX7_supply_33 : decode cX7_supply 33 = .ok (.iload_n 1, 1) := by decide +kernel
theorem dX7_supply_34 : decode cX7_supply 34 = .ok (.iconst 1, 1) := by decide +kernel
theorem dX7_supply_35 : decode cX7_supply 35 = .ok (.invokestatic 61, 3) := by decide +kernel
theorem dX7_supply_38 : decode cX7_supply 38 = .ok (.iaload, 1) := by decide +kernel
theorem dX7_supply_39 : decode cX7_supply 39 = .ok (.iload_n 2, 1) := by decide +kernel
theorem dX7_supply_40 : decode cX7_supply 40 = .ok (.iadd, 1) := by decide +kernel
theorem dX7_supply_41 : decode cX7_supply 41 = .ok (.sipush 999, 3) := by decide +kernel
theorem dX7_supply_44 : decode cX7_supply 44 = .ok (.if_icmp .le 7, 3) := by decide +kernel
theorem dX7_supply_47 : decode cX7_supply 47 = .ok (.iconst 3, 1) := by decide +kernel
theorem dX7_supply_48 : decode cX7_supply 48 = .ok (.goto 4, 3) := by decide +kernel
theorem dX7_supply_51 : decode cX7_supply 51 = .ok (.iconst 0, 1) := by decide +kernel
theorem dX7_supply_52 : decode cX7_supply 52 = .ok (.invokevirtual 146, 3) := by decide +kernel
theorem dX7_supply_55 : decode cX7_supply 55 = .ok (.ifCond .eq 5, 3) := by decide +kernel
theorem dX7_supply_58 : decode cX7_supply 58 = .ok (.iconst 0, 1) := by decide +kernel
theorem dX7_supply_59 : decode cX7_supply 59 = .ok (.ireturn, 1) := by decide +kernel
theorem dX7_supply_60 : decode cX7_supply 60 = .ok (.aload_n 0, 1) := by decide +kernel
theorem dX7_supply_61 : decode cX7_supply 61 = .ok (.invokevirtual 243, 3) := by decide +kernel
theorem dX7_supply_64 : decode cX7_supply 64 = .ok (.aload_n 0, 1) := by decide +kernel
theorem dX7_supply_65 : decode cX7_supply 65 = .ok (.getfield 16, 3) := by decide +kernel
theorem dX7_supply_68 : decode cX7_supply 68 = .ok (.iload_n 1, 1) := by decide +kernel
theorem dX7_supply_69 : decode cX7_supply 69 = .ok (.iconst 1, 1) := by decide +kernel
theorem dX7_supply_70 : decode cX7_supply 70 = .ok (.invokestatic 61, 3) := by decide +kernel
theorem dX7_supply_73 : decode cX7_supply 73 = .ok (.dup2, 1) := by decide +kernel
theorem dX7_supply_74 : decode cX7_supply 74 = .ok (.iaload, 1) := by decide +kernel
theorem dX7_supply_75 : decode cX7_supply 75 = .ok (.iload_n 2, 1) := by decide +kernel
theorem dX7_supply_76 : decode cX7_supply 76 = .ok (.iadd, 1) := by decide +kernel
theorem dX7_supply_77 : decode cX7_supply 77 = .ok (.iastore, 1) := by decide +kernel
theorem dX7_supply_78 : decode cX7_supply 78 = .ok (.aload_n 0, 1) := by decide +kernel
theorem dX7_supply_79 : decode cX7_supply 79 = .ok (.getfield 16, 3) := by decide +kernel
theorem dX7_supply_82 : decode cX7_supply 82 = .ok (.iload_n 1, 1) := by decide +kernel
theorem dX7_supply_83 : decode cX7_supply 83 = .ok (.iconst 1, 1) := by decide +kernel
theorem dX7_supply_84 : decode cX7_supply 84 = .ok (.invokestatic 61, 3) := by decide +kernel
theorem dX7_supply_87 : decode cX7_supply 87 = .ok (.iaload, 1) := by decide +kernel
theorem dX7_supply_88 : decode cX7_supply 88 = .ok (.ireturn, 1) := by decide +kernel
theorem dX7_pass_0 : decode cX7_pass 0 = .ok (.aload_n 0, 1) := by decide +kernel
theorem dX7_pass_1 : decode cX7_pass 1 = .ok (.iload_n 1, 1) := by decide +kernel
theorem dX7_pass_2 : decode cX7_pass 2 = .ok (.i2l, 1) := by decide +kernel
theorem dX7_pass_3 : decode cX7_pass 3 = .ok (.lconst 1, 1) := by decide +kernel
theorem dX7_pass_4 : decode cX7_pass 4 = .ok (.ldc2_w 252, 3) := by decide +kernel
theorem dX7_pass_7 : decode cX7_pass 7 = .ok (.invokestatic 139, 3) := by decide +kernel
theorem dX7_pass_10 : decode cX7_pass 10 = .ok (.ifCond .eq 7, 3) := by decide +kernel
theorem dX7_pass_13 : decode cX7_pass 13 = .ok (.iconst 0, 1) := by decide +kernel
theorem dX7_pass_14 : decode cX7_pass 14 = .ok (.goto 4, 3) := by decide +kernel
theorem dX7_pass_17 : decode cX7_pass 17 = .ok (.iconst 1, 1) := by decide +kernel
theorem dX7_pass_18 : decode cX7_pass 18 = .ok (.invokevirtual 146, 3) := by decide +kernel
theorem dX7_pass_21 : decode cX7_pass 21 = .ok (.ifCond .eq 5, 3) := by decide +kernel
theorem dX7_pass_24 : decode cX7_pass 24 = .ok (.iconst 0, 1) := by decide +kernel
theorem dX7_pass_25 : decode cX7_pass 25 = .ok (.ireturn, 1) := by decide +kernel
theorem dX7_pass_26 : decode cX7_pass 26 = .ok (.aload_n 0, 1) := by decide +kernel
theorem dX7_pass_27 : decode cX7_pass 27 = .ok (.invokevirtual 243, 3) := by decide +kernel
theorem dX7_pass_30 : decode cX7_pass 30 = .ok (.aload_n 0, 1) := by decide +kernel
theorem dX7_pass_31 : decode cX7_pass 31 = .ok (.aload_n 0, 1) := by decide +kernel
theorem dX7_pass_32 : decode cX7_pass 32 = .ok (.getfield 16, 3) := by decide +kernel
theorem dX7_pass_35 : decode cX7_pass 35 = .ok (.iload_n 1, 1) := by decide +kernel
theorem dX7_pass_36 : decode cX7_pass 36 = .ok (.invokevirtual 261, 3) := by decide +kernel
theorem dX7_pass_39 : decode cX7_pass 39 = .ok (.ireturn, 1) := by decide +kernel
theorem dX7_undo_0 : decode cX7_undo 0 = .ok (.aload_n 0, 1) := by decide +kernel
theorem dX7_undo_1 : decode cX7_undo 1 = .ok (.aload_n 0, 1) := by decide +kernel
theorem dX7_undo_2 : decode cX7_undo 2 = .ok (.getfield 44, 3) := by decide +kernel
theorem dX7_undo_5 : decode cX7_undo 5 = .ok (.ifCond .ne 7, 3) := by decide +kernel
theorem dX7_undo_8 : decode cX7_undo 8 = .ok (.iconst 1, 1) := by decide +kernel
theorem dX7_undo_9 : decode cX7_undo 9 = .ok (.goto 4, 3) := by decide +kernel
theorem dX7_undo_12 : decode cX7_undo 12 = .ok (.iconst 0, 1) := by decide +kernel
theorem dX7_undo_13 : decode cX7_undo 13 = .ok (.invokevirtual 146, 3) := by decide +kernel
theorem dX7_undo_16 : decode cX7_undo 16 = .ok (.ifCond .eq 5, 3) := by decide +kernel
theorem dX7_undo_19 : decode cX7_undo 19 = .ok (.iconst 0, 1) := by decide +kernel
theorem dX7_undo_20 : decode cX7_undo 20 = .ok (.ireturn, 1) := by decide +kernel
theorem dX7_undo_21 : decode cX7_undo 21 = .ok (.aload_n 0, 1) := by decide +kernel
theorem dX7_undo_22 : decode cX7_undo 22 = .ok (.dup, 1) := by decide +kernel
theorem dX7_undo_23 : decode cX7_undo 23 = .ok (.getfield 44, 3) := by decide +kernel
theorem dX7_undo_26 : decode cX7_undo 26 = .ok (.iconst 1, 1) := by decide +kernel
theorem dX7_undo_27 : decode cX7_undo 27 = .ok (.isub, 1) := by decide +kernel
theorem dX7_undo_28 : decode cX7_undo 28 = .ok (.putfield 44, 3) := by decide +kernel
theorem dX7_undo_31 : decode cX7_undo 31 = .ok (.aload_n 0, 1) := by decide +kernel
theorem dX7_undo_32 : decode cX7_undo 32 = .ok (.getfield 22, 3) := by decide +kernel
theorem dX7_undo_35 : decode cX7_undo 35 = .ok (.sipush 250, 3) := by decide +kernel
theorem dX7_undo_38 : decode cX7_undo 38 = .ok (.aload_n 0, 1) := by decide +kernel
theorem dX7_undo_39 : decode cX7_undo 39 = .ok (.getfield 44, 3) := by decide +kernel
theorem dX7_undo_42 : decode cX7_undo 42 = .ok (.imul, 1) := by decide +kernel
theorem dX7_undo_43 : decode cX7_undo 43 = .ok (.aload_n 0, 1) := by decide +kernel
theorem dX7_undo_44 : decode cX7_undo 44 = .ok (.getfield 16, 3) := by decide +kernel
theorem dX7_undo_47 : decode cX7_undo 47 = .ok (.iconst 0, 1) := by decide +kernel
theorem dX7_undo_48 : decode cX7_undo 48 = .ok (.sipush 250, 3) := by decide +kernel
theorem dX7_undo_51 : decode cX7_undo 51 = .ok (.invokestatic 47, 3) := by decide +kernel
theorem dX7_undo_54 : decode cX7_undo 54 = .ok (.aload_n 0, 1) := by decide +kernel
theorem dX7_undo_55 : decode cX7_undo 55 = .ok (.getfield 44, 3) := by decide +kernel
theorem dX7_undo_58 : decode cX7_undo 58 = .ok (.ireturn, 1) := by decide +kernel
theorem dX7_arrival_0 : decode cX7_arrival 0 = .ok (.iconst 0, 1) := by decide +kernel
theorem dX7_arrival_1 : decode cX7_arrival 1 = .ok (.istore_n 2, 1) := by decide +kernel
theorem dX7_arrival_2 : decode cX7_arrival 2 = .ok (.iload_n 2, 1) := by decide +kernel
theorem dX7_arrival_3 : decode cX7_arrival 3 = .ok (.sipush 300, 3) := by decide +kernel
theorem dX7_arrival_6 : decode cX7_arrival 6 = .ok (.if_icmp .gt 30, 3) := by decide +kernel
theorem dX7_arrival_9 : decode cX7_arrival 9 = .ok (.aload_n 0, 1) := by decide +kernel
theorem dX7_arrival_10 : decode cX7_arrival 10 = .ok (.getfield 19, 3) := by decide +kernel
theorem dX7_arrival_13 : decode cX7_arrival 13 = .ok (.iload_n 1, 1) := by decide +kernel
theorem dX7_arrival_14 : decode cX7_arrival 14 = .ok (.invokestatic 118, 3) := by decide +kernel
theorem dX7_arrival_17 : decode cX7_arrival 17 = .ok (.ifCond .eq 5, 3) := by decide +kernel
theorem dX7_arrival_20 : decode cX7_arrival 20 = .ok (.iload_n 2, 1) := by decide +kernel
theorem dX7_arrival_21 : decode cX7_arrival 21 = .ok (.ireturn, 1) := by decide +kernel
theorem dX7_arrival_22 : decode cX7_arrival 22 = .ok (.aload_n 0, 1) := by decide +kernel
theorem dX7_arrival_23 : decode cX7_arrival 23 = .ok (.aload_n 0, 1) := by decide +kernel
theorem dX7_arrival_24 : decode cX7_arrival 24 = .ok (.getfield 19, 3) := by decide +kernel
theorem dX7_arrival_27 : decode cX7_arrival 27 = .ok (.invokevirtual 133, 3) := by decide +kernel
theorem dX7_arrival_30 : decode cX7_arrival 30 = .ok (.iinc 2 1, 3) := by decide +kernel
theorem dX7_arrival_33 : decode cX7_arrival 33 = .ok (.goto (-31), 3) := by decide +kernel
theorem dX7_arrival_36 : decode cX7_arrival 36 = .ok (.bipush (-9), 2) := by decide +kernel
theorem dX7_arrival_38 : decode cX7_arrival 38 = .ok (.ireturn, 1) := by decide +kernel
theorem dX7_arrives_0 : decode cX7_arrives 0 = .ok (.aload_n 0, 1) := by decide +kernel
theorem dX7_arrives_1 : decode cX7_arrives 1 = .ok (.aload_n 0, 1) := by decide +kernel
theorem dX7_arrives_2 : decode cX7_arrives 2 = .ok (.iload_n 1, 1) := by decide +kernel
theorem dX7_arrives_3 : decode cX7_arrives 3 = .ok (.invokevirtual 218, 3) := by decide +kernel
theorem dX7_arrives_6 : decode cX7_arrives 6 = .ok (.ifCond .eq 7, 3) := by decide +kernel
theorem dX7_arrives_9 : decode cX7_arrives 9 = .ok (.iconst 0, 1) := by decide +kernel
theorem dX7_arrives_10 : decode cX7_arrives 10 = .ok (.goto 4, 3) := by decide +kernel
theorem dX7_arrives_13 : decode cX7_arrives 13 = .ok (.iconst 1, 1) := by decide +kernel
theorem dX7_arrives_14 : decode cX7_arrives 14 = .ok (.invokevirtual 146, 3) := by decide +kernel
theorem dX7_arrives_17 : decode cX7_arrives 17 = .ok (.ifCond .eq 5, 3) := by decide +kernel
theorem dX7_arrives_20 : decode cX7_arrives 20 = .ok (.iconst 0, 1) := by decide +kernel
theorem dX7_arrives_21 : decode cX7_arrives 21 = .ok (.ireturn, 1) := by decide +kernel
theorem dX7_arrives_22 : decode cX7_arrives 22 = .ok (.aload_n 0, 1) := by decide +kernel
theorem dX7_arrives_23 : decode cX7_arrives 23 = .ok (.invokevirtual 264, 3) := by decide +kernel
theorem dX7_arrives_26 : decode cX7_arrives 26 = .ok (.aload_n 0, 1) := by decide +kernel
theorem dX7_arrives_27 : decode cX7_arrives 27 = .ok (.iload_n 1, 1) := by decide +kernel
theorem dX7_arrives_28 : decode cX7_arrives 28 = .ok (.invokevirtual 267, 3) := by decide +kernel
theorem dX7_arrives_31 : decode cX7_arrives 31 = .ok (.ireturn, 1) := by decide +kernel
theorem dX7_leaves_0 : decode cX7_leaves 0 = .ok (.aload_n 0, 1) := by decide +kernel
theorem dX7_leaves_1 : decode cX7_leaves 1 = .ok (.aload_n 0, 1) := by decide +kernel
theorem dX7_leaves_2 : decode cX7_leaves 2 = .ok (.iload_n 1, 1) := by decide +kernel
theorem dX7_leaves_3 : decode cX7_leaves 3 = .ok (.invokevirtual 218, 3) := by decide +kernel
theorem dX7_leaves_6 : decode cX7_leaves 6 = .ok (.ifCond .eq 7, 3) := by decide +kernel
theorem dX7_leaves_9 : decode cX7_leaves 9 = .ok (.iconst 0, 1) := by decide +kernel
theorem dX7_leaves_10 : decode cX7_leaves 10 = .ok (.goto 4, 3) := by decide +kernel
theorem dX7_leaves_13 : decode cX7_leaves 13 = .ok (.iconst 1, 1) := by decide +kernel
theorem dX7_leaves_14 : decode cX7_leaves 14 = .ok (.invokevirtual 146, 3) := by decide +kernel
theorem dX7_leaves_17 : decode cX7_leaves 17 = .ok (.ifCond .eq 5, 3) := by decide +kernel
theorem dX7_leaves_20 : decode cX7_leaves 20 = .ok (.iconst 0, 1) := by decide +kernel
theorem dX7_leaves_21 : decode cX7_leaves 21 = .ok (.ireturn, 1) := by decide +kernel
theorem dX7_leaves_22 : decode cX7_leaves 22 = .ok (.aload_n 0, 1) := by decide +kernel
theorem dX7_leaves_23 : decode cX7_leaves 23 = .ok (.invokevirtual 264, 3) := by decide +kernel
theorem dX7_leaves_26 : decode cX7_leaves 26 = .ok (.aload_n 0, 1) := by decide +kernel
theorem dX7_leaves_27 : decode cX7_leaves 27 = .ok (.iload_n 1, 1) := by decide +kernel
theorem dX7_leaves_28 : decode cX7_leaves 28 = .ok (.putfield 32, 3) := by decide +kernel
theorem dX7_leaves_31 : decode cX7_leaves 31 = .ok (.aload_n 0, 1) := by decide +kernel
theorem dX7_leaves_32 : decode cX7_leaves 32 = .ok (.bipush (-9), 2) := by decide +kernel
theorem dX7_leaves_34 : decode cX7_leaves 34 = .ok (.putfield 36, 3) := by decide +kernel
theorem dX7_leaves_37 : decode cX7_leaves 37 = .ok (.iconst 0, 1) := by decide +kernel
theorem dX7_leaves_38 : decode cX7_leaves 38 = .ok (.istore_n 2, 1) := by decide +kernel
theorem dX7_leaves_39 : decode cX7_leaves 39 = .ok (.iload_n 2, 1) := by decide +kernel
theorem dX7_leaves_40 : decode cX7_leaves 40 = .ok (.sipush 300, 3) := by decide +kernel
theorem dX7_leaves_43 : decode cX7_leaves 43 = .ok (.if_icmp .ge 26, 3) := by decide +kernel
theorem dX7_leaves_46 : decode cX7_leaves 46 = .ok (.aload_n 0, 1) := by decide +kernel
theorem dX7_leaves_47 : decode cX7_leaves 47 = .ok (.getfield 36, 3) := by decide +kernel
theorem dX7_leaves_50 : decode cX7_leaves 50 = .ok (.bipush (-9), 2) := by decide +kernel
theorem dX7_leaves_52 : decode cX7_leaves 52 = .ok (.if_icmp .ne 17, 3) := by decide +kernel
theorem dX7_leaves_55 : decode cX7_leaves 55 = .ok (.aload_n 0, 1) := by decide +kernel
theorem dX7_leaves_56 : decode cX7_leaves 56 = .ok (.aload_n 0, 1) := by decide +kernel
theorem dX7_leaves_57 : decode cX7_leaves 57 = .ok (.getfield 19, 3) := by decide +kernel
theorem dX7_leaves_60 : decode cX7_leaves 60 = .ok (.invokevirtual 133, 3) := by decide +kernel
theorem dX7_leaves_63 : decode cX7_leaves 63 = .ok (.iinc 2 1, 3) := by decide +kernel
theorem dX7_leaves_66 : decode cX7_leaves 66 = .ok (.goto (-27), 3) := by decide +kernel
theorem dX7_leaves_69 : decode cX7_leaves 69 = .ok (.aload_n 0, 1) := by decide +kernel
theorem dX7_leaves_70 : decode cX7_leaves 70 = .ok (.bipush (-9), 2) := by decide +kernel
theorem dX7_leaves_72 : decode cX7_leaves 72 = .ok (.putfield 32, 3) := by decide +kernel
theorem dX7_leaves_75 : decode cX7_leaves 75 = .ok (.aload_n 0, 1) := by decide +kernel
theorem dX7_leaves_76 : decode cX7_leaves 76 = .ok (.getfield 36, 3) := by decide +kernel
theorem dX7_leaves_79 : decode cX7_leaves 79 = .ok (.ireturn, 1) := by decide +kernel
theorem dX7_bestHold_0 : decode cX7_bestHold 0 = .ok (.aload_n 0, 1) := by decide +kernel
theorem dX7_bestHold_1 : decode cX7_bestHold 1 = .ok (.aload_n 0, 1) := by decide +kernel
theorem dX7_bestHold_2 : decode cX7_bestHold 2 = .ok (.iload_n 1, 1) := by decide +kernel
theorem dX7_bestHold_3 : decode cX7_bestHold 3 = .ok (.invokevirtual 218, 3) := by decide +kernel
theorem dX7_bestHold_6 : decode cX7_bestHold 6 = .ok (.ifCond .eq 7, 3) := by decide +kernel
theorem dX7_bestHold_9 : decode cX7_bestHold 9 = .ok (.iconst 0, 1) := by decide +kernel
theorem dX7_bestHold_10 : decode cX7_bestHold 10 = .ok (.goto 4, 3) := by decide +kernel
theorem dX7_bestHold_13 : decode cX7_bestHold 13 = .ok (.iconst 1, 1) := by decide +kernel
theorem dX7_bestHold_14 : decode cX7_bestHold 14 = .ok (.invokevirtual 146, 3) := by decide +kernel
theorem dX7_bestHold_17 : decode cX7_bestHold 17 = .ok (.ifCond .eq 5, 3) := by decide +kernel
theorem dX7_bestHold_20 : decode cX7_bestHold 20 = .ok (.iconst 0, 1) := by decide +kernel
theorem dX7_bestHold_21 : decode cX7_bestHold 21 = .ok (.ireturn, 1) := by decide +kernel
theorem dX7_bestHold_22 : decode cX7_bestHold 22 = .ok (.aload_n 0, 1) := by decide +kernel
theorem dX7_bestHold_23 : decode cX7_bestHold 23 = .ok (.getfield 16, 3) := by decide +kernel
theorem dX7_bestHold_26 : decode cX7_bestHold 26 = .ok (.iload_n 1, 1) := by decide +kernel
theorem dX7_bestHold_27 : decode cX7_bestHold 27 = .ok (.invokestatic 118, 3) := by decide +kernel
theorem dX7_bestHold_30 : decode cX7_bestHold 30 = .ok (.ifCond .eq 5, 3) := by decide +kernel
theorem dX7_bestHold_33 : decode cX7_bestHold 33 = .ok (.iconst 0, 1) := by decide +kernel
theorem dX7_bestHold_34 : decode cX7_bestHold 34 = .ok (.ireturn, 1) := by decide +kernel
theorem dX7_bestHold_35 : decode cX7_bestHold 35 = .ok (.bipush (-9), 2) := by decide +kernel
theorem dX7_bestHold_37 : decode cX7_bestHold 37 = .ok (.istore_n 2, 1) := by decide +kernel
theorem dX7_bestHold_38 : decode cX7_bestHold 38 = .ok (.iconst 0, 1) := by decide +kernel
theorem dX7_bestHold_39 : decode cX7_bestHold 39 = .ok (.istore_n 3, 1) := by decide +kernel
theorem dX7_bestHold_40 : decode cX7_bestHold 40 = .ok (.iconst 0, 1) := by decide +kernel
theorem dX7_bestHold_41 : decode cX7_bestHold 41 = .ok (.istore 4, 2) := by decide +kernel
theorem dX7_bestHold_43 : decode cX7_bestHold 43 = .ok (.iload 4, 2) := by decide +kernel
theorem dX7_bestHold_45 : decode cX7_bestHold 45 = .ok (.bipush 24, 2) := by decide +kernel
theorem dX7_bestHold_47 : decode cX7_bestHold 47 = .ok (.if_icmp .ge 63, 3) := by decide +kernel
theorem dX7_bestHold_50 : decode cX7_bestHold 50 = .ok (.aload_n 0, 1) := by decide +kernel
theorem dX7_bestHold_51 : decode cX7_bestHold 51 = .ok (.invokevirtual 264, 3) := by decide +kernel
theorem dX7_bestHold_54 : decode cX7_bestHold 54 = .ok (.aload_n 0, 1) := by decide +kernel
theorem dX7_bestHold_55 : decode cX7_bestHold 55 = .ok (.getfield 19, 3) := by decide +kernel
theorem dX7_bestHold_58 : decode cX7_bestHold 58 = .ok (.iload_n 1, 1) := by decide +kernel
theorem dX7_bestHold_59 : decode cX7_bestHold 59 = .ok (.iconst 2, 1) := by decide +kernel
theorem dX7_bestHold_60 : decode cX7_bestHold 60 = .ok (.invokestatic 51, 3) := by decide +kernel
theorem dX7_bestHold_63 : decode cX7_bestHold 63 = .ok (.iload 4, 2) := by decide +kernel
theorem dX7_bestHold_65 : decode cX7_bestHold 65 = .ok (.iastore, 1) := by decide +kernel
theorem dX7_bestHold_66 : decode cX7_bestHold 66 = .ok (.aload_n 0, 1) := by decide +kernel
theorem dX7_bestHold_67 : decode cX7_bestHold 67 = .ok (.iload_n 1, 1) := by decide +kernel
theorem dX7_bestHold_68 : decode cX7_bestHold 68 = .ok (.invokevirtual 267, 3) := by decide +kernel
theorem dX7_bestHold_71 : decode cX7_bestHold 71 = .ok (.istore 5, 2) := by decide +kernel
theorem dX7_bestHold_73 : decode cX7_bestHold 73 = .ok (.iload 5, 2) := by decide +kernel
theorem dX7_bestHold_75 : decode cX7_bestHold 75 = .ok (.bipush (-9), 2) := by decide +kernel
theorem dX7_bestHold_77 : decode cX7_bestHold 77 = .ok (.if_icmp .eq 27, 3) := by decide +kernel
theorem dX7_bestHold_80 : decode cX7_bestHold 80 = .ok (.iload_n 2, 1) := by decide +kernel
theorem dX7_bestHold_81 : decode cX7_bestHold 81 = .ok (.bipush (-9), 2) := by decide +kernel
theorem dX7_bestHold_83 : decode cX7_bestHold 83 = .ok (.if_icmp .eq 12, 3) := by decide +kernel
theorem dX7_bestHold_86 : decode cX7_bestHold 86 = .ok (.iload 5, 2) := by decide +kernel
theorem dX7_bestHold_88 : decode cX7_bestHold 88 = .ok (.iload 4, 2) := by decide +kernel
theorem dX7_bestHold_90 : decode cX7_bestHold 90 = .ok (.isub, 1) := by decide +kernel
theorem dX7_bestHold_91 : decode cX7_bestHold 91 = .ok (.iload_n 3, 1) := by decide +kernel
theorem dX7_bestHold_92 : decode cX7_bestHold 92 = .ok (.if_icmp .ge 12, 3) := by decide +kernel
theorem dX7_bestHold_95 : decode cX7_bestHold 95 = .ok (.iload 4, 2) := by decide +kernel
theorem dX7_bestHold_97 : decode cX7_bestHold 97 = .ok (.istore_n 2, 1) := by decide +kernel
theorem dX7_bestHold_98 : decode cX7_bestHold 98 = .ok (.iload 5, 2) := by decide +kernel
theorem dX7_bestHold_100 : decode cX7_bestHold 100 = .ok (.iload 4, 2) := by decide +kernel
