theorem dL_cell_0 : decode cL_cell 0 = .ok (.iload_n 1, 1) := by decide +kernel
theorem dL_cell_1 : decode cL_cell 1 = .ok (.aload_n 0, 1) := by decide +kernel
theorem dL_cell_2 : decode cL_cell 2 = .ok (.arraylength, 1) := by decide +kernel
theorem dL_cell_3 : decode cL_cell 3 = .ok (.if_icmp .ge 9, 3) := by decide +kernel
theorem dL_cell_6 : decode cL_cell 6 = .ok (.aload_n 0, 1) := by decide +kernel
theorem dL_cell_7 : decode cL_cell 7 = .ok (.iload_n 1, 1) := by decide +kernel
theorem dL_cell_8 : decode cL_cell 8 = .ok (.iaload, 1) := by decide +kernel
theorem dL_cell_9 : decode cL_cell 9 = .ok (.goto 9, 3) := by decide +kernel
theorem dL_cell_12 : decode cL_cell 12 = .ok (.ldc 7, 2) := by decide +kernel
theorem dL_cell_14 : decode cL_cell 14 = .ok (.iload_n 1, 1) := by decide +kernel
theorem dL_cell_15 : decode cL_cell 15 = .ok (.iconst 1, 1) := by decide +kernel
theorem dL_cell_16 : decode cL_cell 16 = .ok (.iadd, 1) := by decide +kernel
theorem dL_cell_17 : decode cL_cell 17 = .ok (.imul, 1) := by decide +kernel
theorem dL_cell_18 : decode cL_cell 18 = .ok (.ireturn, 1) := by decide +kernel
theorem dL_low_0 : decode cL_low 0 = .ok (.iload_n 0, 1) := by decide +kernel
theorem dL_low_1 : decode cL_low 1 = .ok (.ldc 8, 2) := by decide +kernel
theorem dL_low_3 : decode cL_low 3 = .ok (.iand, 1) := by decide +kernel
theorem dL_low_4 : decode cL_low 4 = .ok (.iload_n 1, 1) := by decide +kernel
theorem dL_low_5 : decode cL_low 5 = .ok (.irem, 1) := by decide +kernel
theorem dL_low_6 : decode cL_low 6 = .ok (.ireturn, 1) := by decide +kernel
theorem dL_change_0 : decode cL_change 0 = .ok (.aload_n 0, 1) := by decide +kernel
theorem dL_change_1 : decode cL_change 1 = .ok (.iconst 0, 1) := by decide +kernel
theorem dL_change_2 : decode cL_change 2 = .ok (.invokevirtual 9, 3) := by decide +kernel
theorem dL_change_5 : decode cL_change 5 = .ok (.istore_n 3, 1) := by decide +kernel
theorem dL_change_6 : decode cL_change 6 = .ok (.iload_n 1, 1) := by decide +kernel
theorem dL_change_7 : decode cL_change 7 = .ok (.iconst 5, 1) := by decide +kernel
theorem dL_change_8 : decode cL_change 8 = .ok (.ishr, 1) := by decide +kernel
theorem dL_change_9 : decode cL_change 9 = .ok (.iload_n 3, 1) := by decide +kernel
theorem dL_change_10 : decode cL_change 10 = .ok (.invokestatic 15, 3) := by decide +kernel
theorem dL_change_13 : decode cL_change 13 = .ok (.istore 4, 2) := by decide +kernel
theorem dL_change_15 : decode cL_change 15 = .ok (.iload_n 1, 1) := by decide +kernel
theorem dL_change_16 : decode cL_change 16 = .ok (.bipush 12, 2) := by decide +kernel
theorem dL_change_18 : decode cL_change 18 = .ok (.ishr, 1) := by decide +kernel
theorem dL_change_19 : decode cL_change 19 = .ok (.iload_n 3, 1) := by decide +kernel
theorem dL_change_20 : decode cL_change 20 = .ok (.invokestatic 15, 3) := by decide +kernel
theorem dL_change_23 : decode cL_change 23 = .ok (.istore 5, 2) := by decide +kernel
theorem dL_change_25 : decode cL_change 25 = .ok (.iload_n 1, 1) := by decide +kernel
theorem dL_change_26 : decode cL_change 26 = .ok (.bipush 18, 2) := by decide +kernel
theorem dL_change_28 : decode cL_change 28 = .ok (.invokestatic 15, 3) := by decide +kernel
theorem dL_change_31 : decode cL_change 31 = .ok (.tableswitch 246 0 15 #[77, 115, 115, 115, 124, 136, 136, 136, 148, 148, 157, 170, 179, 186, 193, 212], 77) := by decide +kernel
theorem dL_change_108 : decode cL_change 108 = .ok (.iload_n 2, 1) := by decide +kernel
theorem dL_change_109 : decode cL_change 109 = .ok (.iconst 4, 1) := by decide +kernel
theorem dL_change_110 : decode cL_change 110 = .ok (.invokestatic 15, 3) := by decide +kernel
theorem dL_change_113 : decode cL_change 113 = .ok (.ifCond .ne 30, 3) := by decide +kernel
theorem dL_change_116 : decode cL_change 116 = .ok (.aload_n 0, 1) := by decide +kernel
theorem dL_change_117 : decode cL_change 117 = .ok (.iconst 1, 1) := by decide +kernel
theorem dL_change_118 : decode cL_change 118 = .ok (.iload_n 2, 1) := by decide +kernel
theorem dL_change_119 : decode cL_change 119 = .ok (.iconst 2, 1) := by decide +kernel
theorem dL_change_120 : decode cL_change 120 = .ok (.ishr, 1) := by decide +kernel
theorem dL_change_121 : decode cL_change 121 = .ok (.bipush 7, 2) := by decide +kernel
theorem dL_change_123 : decode cL_change 123 = .ok (.invokestatic 15, 3) := by decide +kernel
theorem dL_change_126 : decode cL_change 126 = .ok (.iadd, 1) := by decide +kernel
theorem dL_change_127 : decode cL_change 127 = .ok (.iconst 1, 1) := by decide +kernel
theorem dL_change_128 : decode cL_change 128 = .ok (.iload_n 2, 1) := by decide +kernel
theorem dL_change_129 : decode cL_change 129 = .ok (.iconst 5, 1) := by decide +kernel
theorem dL_change_130 : decode cL_change 130 = .ok (.ishr, 1) := by decide +kernel
theorem dL_change_131 : decode cL_change 131 = .ok (.bipush 7, 2) := by decide +kernel
theorem dL_change_133 : decode cL_change 133 = .ok (.invokestatic 15, 3) := by decide +kernel
theorem dL_change_136 : decode cL_change 136 = .ok (.iadd, 1) := by decide +kernel
theorem dL_change_137 : decode cL_change 137 = .ok (.invokevirtual 21, 3) := by decide +kernel
theorem dL_change_140 : decode cL_change 140 = .ok (.goto 5, 3) := by decide +kernel
theorem dL_change_143 : decode cL_change 143 = .ok (.bipush (-9), 2) := by decide +kernel
theorem dL_change_145 : decode cL_change 145 = .ok (.ireturn, 1) := by decide +kernel
theorem dL_change_146 : decode cL_change 146 = .ok (.aload_n 0, 1) := by decide +kernel
theorem dL_change_147 : decode cL_change 147 = .ok (.iload 4, 2) := by decide +kernel
theorem dL_change_149 : decode cL_change 149 = .ok (.iload 5, 2) := by decide +kernel
theorem dL_change_151 : decode cL_change 151 = .ok (.invokevirtual 24, 3) := by decide +kernel
theorem dL_change_154 : decode cL_change 154 = .ok (.ireturn, 1) := by decide +kernel
theorem dL_change_155 : decode cL_change 155 = .ok (.aload_n 0, 1) := by decide +kernel
theorem dL_change_156 : decode cL_change 156 = .ok (.iload 4, 2) := by decide +kernel
theorem dL_change_158 : decode cL_change 158 = .ok (.iload_n 2, 1) := by decide +kernel
theorem dL_change_159 : decode cL_change 159 = .ok (.iconst 3, 1) := by decide +kernel
theorem dL_change_160 : decode cL_change 160 = .ok (.invokestatic 15, 3) := by decide +kernel
theorem dL_change_163 : decode cL_change 163 = .ok (.invokevirtual 27, 3) := by decide +kernel
theorem dL_change_166 : decode cL_change 166 = .ok (.ireturn, 1) := by decide +kernel
theorem dL_change_167 : decode cL_change 167 = .ok (.aload_n 0, 1) := by decide +kernel
theorem dL_change_168 : decode cL_change 168 = .ok (.iload 4, 2) := by decide +kernel
theorem dL_change_170 : decode cL_change 170 = .ok (.iload_n 2, 1) := by decide +kernel
theorem dL_change_171 : decode cL_change 171 = .ok (.iconst 3, 1) := by decide +kernel
theorem dL_change_172 : decode cL_change 172 = .ok (.invokestatic 15, 3) := by decide +kernel
theorem dL_change_175 : decode cL_change 175 = .ok (.invokevirtual 30, 3) := by decide +kernel
theorem dL_change_178 : decode cL_change 178 = .ok (.ireturn, 1) := by decide +kernel
theorem dL_change_179 : decode cL_change 179 = .ok (.aload_n 0, 1) := by decide +kernel
theorem dL_change_180 : decode cL_change 180 = .ok (.iload 4, 2) := by decide +kernel
theorem dL_change_182 : decode cL_change 182 = .ok (.iload 5, 2) := by decide +kernel
theorem dL_change_184 : decode cL_change 184 = .ok (.invokevirtual 33, 3) := by decide +kernel
theorem dL_change_187 : decode cL_change 187 = .ok (.ireturn, 1) := by decide +kernel
theorem dL_change_188 : decode cL_change 188 = .ok (.aload_n 0, 1) := by decide +kernel
theorem dL_change_189 : decode cL_change 189 = .ok (.iconst 1, 1) := by decide +kernel
theorem dL_change_190 : decode cL_change 190 = .ok (.iload_n 2, 1) := by decide +kernel
theorem dL_change_191 : decode cL_change 191 = .ok (.bipush 20, 2) := by decide +kernel
theorem dL_change_193 : decode cL_change 193 = .ok (.invokestatic 15, 3) := by decide +kernel
theorem dL_change_196 : decode cL_change 196 = .ok (.iadd, 1) := by decide +kernel
theorem dL_change_197 : decode cL_change 197 = .ok (.invokevirtual 36, 3) := by decide +kernel
theorem dL_change_200 : decode cL_change 200 = .ok (.ireturn, 1) := by decide +kernel
theorem dL_change_201 : decode cL_change 201 = .ok (.aload_n 0, 1) := by decide +kernel
theorem dL_change_202 : decode cL_change 202 = .ok (.iload 4, 2) := by decide +kernel
theorem dL_change_204 : decode cL_change 204 = .ok (.iload 5, 2) := by decide +kernel
theorem dL_change_206 : decode cL_change 206 = .ok (.invokevirtual 39, 3) := by decide +kernel
theorem dL_change_209 : decode cL_change 209 = .ok (.ireturn, 1) := by decide +kernel
theorem dL_change_210 : decode cL_change 210 = .ok (.aload_n 0, 1) := by decide +kernel
theorem dL_change_211 : decode cL_change 211 = .ok (.iload 4, 2) := by decide +kernel
theorem dL_change_213 : decode cL_change 213 = .ok (.invokevirtual 42, 3) := by decide +kernel
theorem dL_change_216 : decode cL_change 216 = .ok (.ireturn, 1) := by decide +kernel
theorem dL_change_217 : decode cL_change 217 = .ok (.aload_n 0, 1) := by decide +kernel
theorem dL_change_218 : decode cL_change 218 = .ok (.iload 4, 2) := by decide +kernel
theorem dL_change_220 : decode cL_change 220 = .ok (.invokevirtual 45, 3) := by decide +kernel
theorem dL_change_223 : decode cL_change 223 = .ok (.ireturn, 1) := by decide +kernel
theorem dL_change_224 : decode cL_change 224 = .ok (.aload_n 0, 1) := by decide +kernel
theorem dL_change_225 : decode cL_change 225 = .ok (.iload_n 2, 1) := by decide +kernel
theorem dL_change_226 : decode cL_change 226 = .ok (.iconst 4, 1) := by decide +kernel
theorem dL_change_227 : decode cL_change 227 = .ok (.invokestatic 15, 3) := by decide +kernel
theorem dL_change_230 : decode cL_change 230 = .ok (.iconst 1, 1) := by decide +kernel
theorem dL_change_231 : decode cL_change 231 = .ok (.iload_n 2, 1) := by decide +kernel
theorem dL_change_232 : decode cL_change 232 = .ok (.iconst 2, 1) := by decide +kernel
theorem dL_change_233 : decode cL_change 233 = .ok (.ishr, 1) := by decide +kernel
theorem dL_change_234 : decode cL_change 234 = .ok (.iconst 3, 1) := by decide +kernel
theorem dL_change_235 : decode cL_change 235 = .ok (.invokestatic 15, 3) := by decide +kernel
theorem dL_change_238 : decode cL_change 238 = .ok (.iadd, 1) := by decide +kernel
theorem dL_change_239 : decode cL_change 239 = .ok (.invokevirtual 48, 3) := by decide +kernel
theorem dL_change_242 : decode cL_change 242 = .ok (.ireturn, 1) := by decide +kernel
theorem dL_change_243 : decode cL_change 243 = .ok (.iload_n 2, 1) := by decide +kernel
theorem dL_change_244 : decode cL_change 244 = .ok (.iconst 2, 1) := by decide +kernel
theorem dL_change_245 : decode cL_change 245 = .ok (.invokestatic 15, 3) := by decide +kernel
theorem dL_change_248 : decode cL_change 248 = .ok (.ifCond .ne 17, 3) := by decide +kernel
theorem dL_change_251 : decode cL_change 251 = .ok (.aload_n 0, 1) := by decide +kernel
theorem dL_change_252 : decode cL_change 252 = .ok (.iload_n 2, 1) := by decide +kernel
theorem dL_change_253 : decode cL_change 253 = .ok (.iconst 1, 1) := by decide +kernel
theorem dL_change_254 : decode cL_change 254 = .ok (.ishr, 1) := by decide +kernel
theorem dL_change_255 : decode cL_change 255 = .ok (.iconst 2, 1) := by decide +kernel
theorem dL_change_256 : decode cL_change 256 = .ok (.invokestatic 15, 3) := by decide +kernel
theorem dL_change_259 : decode cL_change 259 = .ok (.invokevirtual 51, 3) := by decide +kernel
theorem dL_change_262 : decode cL_change 262 = .ok (.goto 14, 3) := by decide +kernel
theorem dL_change_265 : decode cL_change 265 = .ok (.aload_n 0, 1) := by decide +kernel
theorem dL_change_266 : decode cL_change 266 = .ok (.iload_n 2, 1) := by decide +kernel
theorem dL_change_267 : decode cL_change 267 = .ok (.iconst 1, 1) := by decide +kernel
theorem dL_change_268 : decode cL_change 268 = .ok (.ishr, 1) := by decide +kernel
theorem dL_change_269 : decode cL_change 269 = .ok (.iconst 2, 1) := by decide +kernel
theorem dL_change_270 : decode cL_change 270 = .ok (.invokestatic 15, 3) := by decide +kernel
theorem dL_change_273 : decode cL_change 273 = .ok (.invokevirtual 54, 3) := by decide +kernel
theorem dL_change_276 : decode cL_change 276 = .ok (.ireturn, 1) := by decide +kernel
theorem dL_change_277 : decode cL_change 277 = .ok (.aload_n 0, 1) := by decide +kernel
theorem dL_change_278 : decode cL_change 278 = .ok (.invokevirtual 57, 3) := by decide +kernel
theorem dL_change_281 : decode cL_change 281 = .ok (.ireturn, 1) := by decide +kernel
theorem dL_isSound_0 : decode cL_isSound 0 = .ok (.aload_n 0, 1) := by decide +kernel
theorem dL_isSound_1 : decode cL_isSound 1 = .ok (.iconst 0, 1) := by decide +kernel
theorem dL_isSound_2 : decode cL_isSound 2 = .ok (.invokevirtual 9, 3) := by decide +kernel
theorem dL_isSound_5 : decode cL_isSound 5 = .ok (.istore_n 1, 1) := by decide +kernel
theorem dL_isSound_6 : decode cL_isSound 6 = .ok (.iconst 0, 1) := by decide +kernel
theorem dL_isSound_7 : decode cL_isSound 7 = .ok (.istore_n 2, 1) := by decide +kernel
theorem dL_isSound_8 : decode cL_isSound 8 = .ok (.iconst 0, 1) := by decide +kernel
theorem dL_isSound_9 : decode cL_isSound 9 = .ok (.istore_n 3, 1) := by decide +kernel
theorem dL_isSound_10 : decode cL_isSound 10 = .ok (.iconst 0, 1) := by decide +kernel
theorem dL_isSound_11 : decode cL_isSound 11 = .ok (.istore 4, 2) := by decide +kernel
theorem dL_isSound_13 : decode cL_isSound 13 = .ok (.iconst 0, 1) := by decide +kernel
theorem dL_isSound_14 : decode cL_isSound 14 = .ok (.istore 5, 2) := by decide +kernel
theorem dL_isSound_16 : decode cL_isSound 16 = .ok (.iconst 0, 1) := by decide +kernel
theorem dL_isSound_17 : decode cL_isSound 17 = .ok (.istore 6, 2) := by decide +kernel
theorem dL_isSound_19 : decode cL_isSound 19 = .ok (.iload 6, 2) := by decide +kernel
theorem dL_isSound_21 : decode cL_isSound 21 = .ok (.iload_n 1, 1) := by decide +kernel
theorem dL_isSound_22 : decode cL_isSound 22 = .ok (.if_icmp .ge 218, 3) := by decide +kernel
theorem dL_isSound_25 : decode cL_isSound 25 = .ok (.aload_n 0, 1) := by decide +kernel
theorem dL_isSound_26 : decode cL_isSound 26 = .ok (.iload 6, 2) := by decide +kernel
theorem dL_isSound_28 : decode cL_isSound 28 = .ok (.iconst 3, 1) := by decide +kernel
theorem dL_isSound_29 : decode cL_isSound 29 = .ok (.invokevirtual 61, 3) := by decide +kernel
theorem dL_isSound_32 : decode cL_isSound 32 = .ok (.istore 7, 2) := by decide +kernel
theorem dL_isSound_34 : decode cL_isSound 34 = .ok (.iload_n 2, 1) := by decide +kernel
theorem dL_isSound_35 : decode cL_isSound 35 = .ok (.aload_n 0, 1) := by decide +kernel
theorem dL_isSound_36 : decode cL_isSound 36 = .ok (.iload 6, 2) := by decide +kernel
theorem dL_isSound_38 : decode cL_isSound 38 = .ok (.iconst 1, 1) := by decide +kernel
theorem dL_isSound_39 : decode cL_isSound 39 = .ok (.invokevirtual 61, 3) := by decide +kernel
theorem dL_isSound_42 : decode cL_isSound 42 = .ok (.iadd, 1) := by decide +kernel
theorem dL_isSound_43 : decode cL_isSound 43 = .ok (.istore_n 2, 1) := by decide +kernel
theorem dL_isSound_44 : decode cL_isSound 44 = .ok (.iload_n 3, 1) := by decide +kernel
theorem dL_isSound_45 : decode cL_isSound 45 = .ok (.iload 7, 2) := by decide +kernel
theorem dL_isSound_47 : decode cL_isSound 47 = .ok (.iadd, 1) := by decide +kernel
theorem dL_isSound_48 : decode cL_isSound 48 = .ok (.istore_n 3, 1) := by decide +kernel
theorem dL_isSound_49 : decode cL_isSound 49 = .ok (.iload 5, 2) := by decide +kernel
theorem dL_isSound_51 : decode cL_isSound 51 = .ok (.aload_n 0, 1) := by decide +kernel
theorem dL_isSound_52 : decode cL_isSound 52 = .ok (.iload 6, 2) := by decide +kernel
theorem dL_isSound_54 : decode cL_isSound 54 = .ok (.iconst 4, 1) := by decide +kernel
theorem dL_isSound_55 : decode cL_isSound 55 = .ok (.invokevirtual 61, 3) := by decide +kernel
theorem dL_isSound_58 : decode cL_isSound 58 = .ok (.iadd, 1) := by decide +kernel
theorem dL_isSound_59 : decode cL_isSound 59 = .ok (.istore 5, 2) := by decide +kernel
theorem dL_isSound_61 : decode cL_isSound 61 = .ok (.iload 7, 2) := by decide +kernel
theorem dL_isSound_63 : decode cL_isSound 63 = .ok (.ifCond .lt 37, 3) := by decide +kernel
theorem dL_isSound_66 : decode cL_isSound 66 = .ok (.iload 7, 2) := by decide +kernel
theorem dL_isSound_68 : decode cL_isSound 68 = .ok (.iconst 3, 1) := by decide +kernel
theorem dL_isSound_69 : decode cL_isSound 69 = .ok (.if_icmp .gt 31, 3) := by decide +kernel
theorem dL_isSound_72 : decode cL_isSound 72 = .ok (.aload_n 0, 1) := by decide +kernel
theorem dL_isSound_73 : decode cL_isSound 73 = .ok (.iload 6, 2) := by decide +kernel
theorem dL_isSound_75 : decode cL_isSound 75 = .ok (.iconst 1, 1) := by decide +kernel
theorem dL_isSound_76 : decode cL_isSound 76 = .ok (.invokevirtual 61, 3) := by decide +kernel
theorem dL_isSound_79 : decode cL_isSound 79 = .ok (.ifCond .ne 8, 3) := by decide +kernel
theorem dL_isSound_82 : decode cL_isSound 82 = .ok (.iload 7, 2) := by decide +kernel
theorem dL_isSound_84 : decode cL_isSound 84 = .ok (.ifCond .gt 16, 3) := by decide +kernel
theorem dL_isSound_87 : decode cL_isSound 87 = .ok (.aload_n 0, 1) := by decide +kernel
theorem dL_isSound_88 : decode cL_isSound 88 = .ok (.iload 6, 2) := by decide +kernel
theorem dL_isSound_90 : decode cL_isSound 90 = .ok (.iload 7, 2) := by decide +kernel
theorem dL_isSound_92 : decode cL_isSound 92 = .ok (.invokevirtual 64, 3) := by decide +kernel
theorem dL_isSound_95 : decode cL_isSound 95 = .ok (.bipush (-9), 2) := by decide +kernel
theorem dL_isSound_97 : decode cL_isSound 97 = .ok (.if_icmp .eq 5, 3) := by decide +kernel
theorem dL_isSound_100 : decode cL_isSound 100 = .ok (.iconst 0, 1) := by decide +kernel
theorem dL_isSound_101 : decode cL_isSound 101 = .ok (.ireturn, 1) := by decide +kernel
theorem dL_isSound_102 : decode cL_isSound 102 = .ok (.iconst 0, 1) := by decide +kernel
theorem dL_isSound_103 : decode cL_isSound 103 = .ok (.istore 8, 2) := by decide +kernel
theorem dL_isSound_105 : decode cL_isSound 105 = .ok (.iload 8, 2) := by decide +kernel
theorem dL_isSound_107 : decode cL_isSound 107 = .ok (.iload 7, 2) := by decide +kernel
theorem dL_isSound_109 : decode cL_isSound 109 = .ok (.if_icmp .ge 90, 3) := by decide +kernel
theorem dL_isSound_112 : decode cL_isSound 112 = .ok (.aload_n 0, 1) := by decide +kernel
theorem dL_isSound_113 : decode cL_isSound 113 = .ok (.iload 6, 2) := by decide +kernel
theorem dL_isSound_115 : decode cL_isSound 115 = .ok (.iload 8, 2) := by decide +kernel
theorem dL_isSound_117 : decode cL_isSound 117 = .ok (.invokevirtual 64, 3) := by decide +kernel
theorem dL_isSound_120 : decode cL_isSound 120 = .ok (.istore 9, 2) := by decide +kernel
theorem dL_isSound_122 : decode cL_isSound 122 = .ok (.iload 4, 2) := by decide +kernel
theorem dL_isSound_124 : decode cL_isSound 124 = .ok (.aload_n 0, 1) := by decide +kernel
theorem dL_isSound_125 : decode cL_isSound 125 = .ok (.iload 6, 2) := by decide +kernel
theorem dL_isSound_127 : decode cL_isSound 127 = .ok (.iload 9, 2) := by decide +kernel
theorem dL_isSound_129 : decode cL_isSound 129 = .ok (.invokevirtual 67, 3) := by decide +kernel
theorem dL_isSound_132 : decode cL_isSound 132 = .ok (.iadd, 1) := by decide +kernel
theorem dL_isSound_133 : decode cL_isSound 133 = .ok (.istore 4, 2) := by decide +kernel
theorem dL_isSound_135 : decode cL_isSound 135 = .ok (.iload 9, 2) := by decide +kernel
theorem dL_isSound_137 : decode cL_isSound 137 = .ok (.iload 6, 2) := by decide +kernel
theorem dL_isSound_139 : decode cL_isSound 139 = .ok (.if_icmp .eq 52, 3) := by decide +kernel
theorem dL_isSound_142 : decode cL_isSound 142 = .ok (.aload_n 0, 1) := by decide +kernel
theorem dL_isSound_143 : decode cL_isSound 143 = .ok (.iload 9, 2) := by decide +kernel
theorem dL_isSound_145 : decode cL_isSound 145 = .ok (.iconst 1, 1) := by decide +kernel
theorem dL_isSound_146 : decode cL_isSound 146 = .ok (.invokevirtual 61, 3) := by decide +kernel
theorem dL_isSound_149 : decode cL_isSound 149 = .ok (.iconst 1, 1) := by decide +kernel
theorem dL_isSound_150 : decode cL_isSound 150 = .ok (.if_icmp .ne 41, 3) := by decide +kernel
theorem dL_isSound_153 : decode cL_isSound 153 = .ok (.iload 8, 2) := by decide +kernel
theorem dL_isSound_155 : decode cL_isSound 155 = .ok (.ifCond .le 18, 3) := by decide +kernel
theorem dL_isSound_158 : decode cL_isSound 158 = .ok (.aload_n 0, 1) := by decide +kernel
theorem dL_isSound_159 : decode cL_isSound 159 = .ok (.iload 6, 2) := by decide +kernel
theorem dL_isSound_161 : decode cL_isSound 161 = .ok (.iload 8, 2) := by decide +kernel
theorem dL_isSound_163 : decode cL_isSound 163 = .ok (.iconst 1, 1) := by decide +kernel
theorem dL_isSound_164 : decode cL_isSound 164 = .ok (.isub, 1) := by decide +kernel
theorem dL_isSound_165 : decode cL_isSound 165 = .ok (.invokevirtual 64, 3) := by decide +kernel
theorem dL_isSound_168 : decode cL_isSound 168 = .ok (.iload 9, 2) := by decide +kernel
theorem dL_isSound_170 : decode cL_isSound 170 = .ok (.if_icmp .eq 21, 3) := by decide +kernel
theorem dL_isSound_173 : decode cL_isSound 173 = .ok (.iload 8, 2) := by decide +kernel
theorem dL_isSound_175 : decode cL_isSound 175 = .ok (.iconst 1, 1) := by decide +kernel
theorem dL_isSound_176 : decode cL_isSound 176 = .ok (.if_icmp .le 17, 3) := by decide +kernel
theorem dL_isSound_179 : decode cL_isSound 179 = .ok (.aload_n 0, 1) := by decide +kernel
theorem dL_isSound_180 : decode cL_isSound 180 = .ok (.iload 6, 2) := by decide +kernel
theorem dL_isSound_182 : decode cL_isSound 182 = .ok (.iconst 0, 1) := by decide +kernel
theorem dL_isSound_183 : decode cL_isSound 183 = .ok (.invokevirtual 64, 3) := by decide +kernel
theorem dL_isSound_186 : decode cL_isSound 186 = .ok (.iload 9, 2) := by decide +kernel
theorem dL_isSound_188 : decode cL_isSound 188 = .ok (.if_icmp .ne 5, 3) := by decide +kernel
theorem dL_isSound_191 : decode cL_isSound 191 = .ok (.iconst 0, 1) := by decide +kernel
theorem dL_isSound_192 : decode cL_isSound 192 = .ok (.ireturn, 1) := by decide +kernel
theorem dL_isSound_193 : decode cL_isSound 193 = .ok (.iinc 8 1, 3) := by decide +kernel
theorem dL_isSound_196 : decode cL_isSound 196 = .ok (.goto (-91), 3) := by decide +kernel
theorem dL_isSound_199 : decode cL_isSound 199 = .ok (.iconst 0, 1) := by decide +kernel
theorem dL_isSound_200 : decode cL_isSound 200 = .ok (.istore 8, 2) := by decide +kernel
theorem dL_isSound_202 : decode cL_isSound 202 = .ok (.iload 8, 2) := by decide +kernel
theorem dL_isSound_204 : decode cL_isSound 204 = .ok (.iload 6, 2) := by decide +kernel
theorem dL_isSound_206 : decode cL_isSound 206 = .ok (.if_icmp .ge 28, 3) := by decide +kernel
theorem dL_isSound_209 : decode cL_isSound 209 = .ok (.aload_n 0, 1) := by decide +kernel
theorem dL_isSound_210 : decode cL_isSound 210 = .ok (.iload 8, 2) := by decide +kernel
theorem dL_isSound_212 : decode cL_isSound 212 = .ok (.iconst 0, 1) := by decide +kernel
theorem dL_isSound_213 : decode cL_isSound 213 = .ok (.invokevirtual 61, 3) := by decide +kernel
theorem dL_isSound_216 : decode cL_isSound 216 = .ok (.aload_n 0, 1) := by decide +kernel
theorem dL_isSound_217 : decode cL_isSound 217 = .ok (.iload 6, 2) := by decide +kernel
theorem dL_isSound_219 : decode cL_isSound 219 = .ok (.iconst 0, 1) := by decide +kernel
theorem dL_isSound_220 : decode cL_isSound 220 = .ok (.invokevirtual 61, 3) := by decide +kernel
theorem dL_isSound_223 : decode cL_isSound 223 = .ok (.if_icmp .ne 5, 3) := by decide +kernel
theorem dL_isSound_226 : decode cL_isSound 226 = .ok (.iconst 0, 1) := by decide +kernel
theorem dL_isSound_227 : decode cL_isSound 227 = .ok (.ireturn, 1) := by decide +kernel
theorem dL_isSound_228 : decode cL_isSound 228 = .ok (.iinc 8 1, 3) := by decide +kernel
theorem dL_isSound_231 : decode cL_isSound 231 = .ok (.goto (-29), 3) := by decide +kernel
theorem dL_isSound_234 : decode cL_isSound 234 = .ok (.iinc 6 1, 3) := by decide +kernel
theorem dL_isSound_237 : decode cL_isSound 237 = .ok (.goto (-218), 3) := by decide +kernel
theorem dL_isSound_240 : decode cL_isSound 240 = .ok (.iload_n 2, 1) := by decide +kernel
theorem dL_isSound_241 : decode cL_isSound 241 = .ok (.ifCond .le 41, 3) := by decide +kernel
theorem dL_isSound_244 : decode cL_isSound 244 = .ok (.aload_n 0, 1) := by decide +kernel
theorem dL_isSound_245 : decode cL_isSound 245 = .ok (.iconst 2, 1) := by decide +kernel
theorem dL_isSound_246 : decode cL_isSound 246 = .ok (.invokevirtual 9, 3) := by decide +kernel
theorem dL_isSound_249 : decode cL_isSound 249 = .ok (.iload_n 2, 1) := by decide +kernel
theorem dL_isSound_250 : decode cL_isSound 250 = .ok (.if_icmp .ne 32, 3) := by decide +kernel
theorem dL_isSound_253 : decode cL_isSound 253 = .ok (.aload_n 0, 1) := by decide +kernel
theorem dL_isSound_254 : decode cL_isSound 254 = .ok (.iconst 3, 1) := by decide +kernel
theorem dL_isSound_255 : decode cL_isSound 255 = .ok (.invokevirtual 9, 3) := by decide +kernel
theorem dL_isSound_258 : decode cL_isSound 258 = .ok (.iload_n 3, 1) := by decide +kernel
theorem dL_isSound_259 : decode cL_isSound 259 = .ok (.if_icmp .ne 23, 3) := by decide +kernel
theorem dL_isSound_262 : decode cL_isSound 262 = .ok (.iload 5, 2) := by decide +kernel
theorem dL_isSound_264 : decode cL_isSound 264 = .ok (.iload_n 3, 1) := by decide +kernel
theorem dL_isSound_265 : decode cL_isSound 265 = .ok (.if_icmp .ne 17, 3) := by decide +kernel
theorem dL_isSound_268 : decode cL_isSound 268 = .ok (.aload_n 0, 1) := by decide +kernel
theorem dL_isSound_269 : decode cL_isSound 269 = .ok (.iconst 4, 1) := by decide +kernel
theorem dL_isSound_270 : decode cL_isSound 270 = .ok (.invokevirtual 9, 3) := by decide +kernel
theorem dL_isSound_273 : decode cL_isSound 273 = .ok (.iload 4, 2) := by decide +kernel
theorem dL_isSound_275 : decode cL_isSound 275 = .ok (.if_icmp .ne 7, 3) := by decide +kernel
theorem dL_isSound_278 : decode cL_isSound 278 = .ok (.iconst 1, 1) := by decide +kernel
theorem dL_isSound_279 : decode cL_isSound 279 = .ok (.goto 4, 3) := by decide +kernel
theorem dL_isSound_282 : decode cL_isSound 282 = .ok (.iconst 0, 1) := by decide +kernel
theorem dL_isSound_283 : decode cL_isSound 283 = .ok (.ireturn, 1) := by decide +kernel
theorem dL_isRoute_0 : decode cL_isRoute 0 = .ok (.aload_n 0, 1) := by decide +kernel
theorem dL_isRoute_1 : decode cL_isRoute 1 = .ok (.iload_n 1, 1) := by decide +kernel
theorem dL_isRoute_2 : decode cL_isRoute 2 = .ok (.iconst 1, 1) := by decide +kernel
theorem dL_isRoute_3 : decode cL_isRoute 3 = .ok (.invokevirtual 61, 3) := by decide +kernel
theorem dL_isRoute_6 : decode cL_isRoute 6 = .ok (.ifCond .eq 12, 3) := by decide +kernel
theorem dL_isRoute_9 : decode cL_isRoute 9 = .ok (.aload_n 0, 1) := by decide +kernel
theorem dL_isRoute_10 : decode cL_isRoute 10 = .ok (.iload_n 2, 1) := by decide +kernel
theorem dL_isRoute_11 : decode cL_isRoute 11 = .ok (.iconst 1, 1) := by decide +kernel
theorem dL_isRoute_12 : decode cL_isRoute 12 = .ok (.invokevirtual 61, 3) := by decide +kernel
theorem dL_isRoute_15 : decode cL_isRoute 15 = .ok (.ifCond .ne 45, 3) := by decide +kernel
theorem dL_isRoute_18 : decode cL_isRoute 18 = .ok (.aload_n 0, 1) := by decide +kernel
theorem dL_isRoute_19 : decode cL_isRoute 19 = .ok (.iload_n 1, 1) := by decide +kernel
theorem dL_isRoute_20 : decode cL_isRoute 20 = .ok (.iload_n 2, 1) := by decide +kernel
theorem dL_isRoute_21 : decode cL_isRoute 21 = .ok (.iconst 0, 1) := by decide +kernel
theorem dL_isRoute_22 : decode cL_isRoute 22 = .ok (.invokevirtual 70, 3) := by decide +kernel
theorem dL_isRoute_25 : decode cL_isRoute 25 = .ok (.bipush (-2), 2) := by decide +kernel
theorem dL_isRoute_27 : decode cL_isRoute 27 = .ok (.if_icmp .ne 31, 3) := by decide +kernel
theorem dL_isRoute_30 : decode cL_isRoute 30 = .ok (.aload_n 0, 1) := by decide +kernel
theorem dL_isRoute_31 : decode cL_isRoute 31 = .ok (.iload_n 1, 1) := by decide +kernel
theorem dL_isRoute_32 : decode cL_isRoute 32 = .ok (.iload_n 2, 1) := by decide +kernel
theorem dL_isRoute_33 : decode cL_isRoute 33 = .ok (.invokevirtual 74, 3) := by decide +kernel
theorem dL_isRoute_36 : decode cL_isRoute 36 = .ok (.bipush (-2), 2) := by decide +kernel
theorem dL_isRoute_38 : decode cL_isRoute 38 = .ok (.if_icmp .ne 20, 3) := by decide +kernel
theorem dL_isRoute_41 : decode cL_isRoute 41 = .ok (.aload_n 0, 1) := by decide +kernel
theorem dL_isRoute_42 : decode cL_isRoute 42 = .ok (.iload_n 1, 1) := by decide +kernel
theorem dL_isRoute_43 : decode cL_isRoute 43 = .ok (.iload_n 2, 1) := by decide +kernel
theorem dL_isRoute_44 : decode cL_isRoute 44 = .ok (.invokevirtual 77, 3) := by decide +kernel
theorem dL_isRoute_47 : decode cL_isRoute 47 = .ok (.ldc2_w 81, 3) := by decide +kernel
theorem dL_isRoute_50 : decode cL_isRoute 50 = .ok (.lcmp, 1) := by decide +kernel
theorem dL_isRoute_51 : decode cL_isRoute 51 = .ok (.ifCond .ne 7, 3) := by decide +kernel
theorem dL_isRoute_54 : decode cL_isRoute 54 = .ok (.iconst 1, 1) := by decide +kernel
theorem dL_isRoute_55 : decode cL_isRoute 55 = .ok (.goto 4, 3) := by decide +kernel
theorem dL_isRoute_58 : decode cL_isRoute 58 = .ok (.iconst 0, 1) := by decide +kernel
theorem dL_isRoute_59 : decode cL_isRoute 59 = .ok (.ireturn, 1) := by decide +kernel
theorem dL_isRoute_60 : decode cL_isRoute 60 = .ok (.aload_n 0, 1) := by decide +kernel
theorem dL_isRoute_61 : decode cL_isRoute 61 = .ok (.iload_n 1, 1) := by decide +kernel
theorem dL_isRoute_62 : decode cL_isRoute 62 = .ok (.iload_n 2, 1) := by decide +kernel
theorem dL_isRoute_63 : decode cL_isRoute 63 = .ok (.iconst (-1), 1) := by decide +kernel
theorem dL_isRoute_64 : decode cL_isRoute 64 = .ok (.invokevirtual 70, 3) := by decide +kernel
theorem dL_isRoute_67 : decode cL_isRoute 67 = .ok (.istore_n 3, 1) := by decide +kernel
theorem dL_isRoute_68 : decode cL_isRoute 68 = .ok (.iload_n 1, 1) := by decide +kernel
theorem dL_isRoute_69 : decode cL_isRoute 69 = .ok (.istore 4, 2) := by decide +kernel
theorem dL_isRoute_71 : decode cL_isRoute 71 = .ok (.iconst 1, 1) := by decide +kernel
theorem dL_isRoute_72 : decode cL_isRoute 72 = .ok (.istore 5, 2) := by decide +kernel
theorem dL_isRoute_74 : decode cL_isRoute 74 = .ok (.iload 5, 2) := by decide +kernel
theorem dL_isRoute_76 : decode cL_isRoute 76 = .ok (.iload_n 3, 1) := by decide +kernel
theorem dL_isRoute_77 : decode cL_isRoute 77 = .ok (.if_icmp .gt 54, 3) := by decide +kernel
theorem dL_isRoute_80 : decode cL_isRoute 80 = .ok (.aload_n 0, 1) := by decide +kernel
theorem dL_isRoute_81 : decode cL_isRoute 81 = .ok (.iload_n 1, 1) := by decide +kernel
theorem dL_isRoute_82 : decode cL_isRoute 82 = .ok (.iload_n 2, 1) := by decide +kernel
theorem dL_isRoute_83 : decode cL_isRoute 83 = .ok (.iload 5, 2) := by decide +kernel
theorem dL_isRoute_85 : decode cL_isRoute 85 = .ok (.invokevirtual 70, 3) := by decide +kernel
theorem dL_isRoute_88 : decode cL_isRoute 88 = .ok (.istore 6, 2) := by decide +kernel
theorem dL_isRoute_90 : decode cL_isRoute 90 = .ok (.aload_n 0, 1) := by decide +kernel
theorem dL_isRoute_91 : decode cL_isRoute 91 = .ok (.iload 6, 2) := by decide +kernel
theorem dL_isRoute_93 : decode cL_isRoute 93 = .ok (.iload_n 2, 1) := by decide +kernel
theorem dL_isRoute_94 : decode cL_isRoute 94 = .ok (.invokevirtual 67, 3) := by decide +kernel
theorem dL_isRoute_97 : decode cL_isRoute 97 = .ok (.aload_n 0, 1) := by decide +kernel
theorem dL_isRoute_98 : decode cL_isRoute 98 = .ok (.iload 4, 2) := by decide +kernel
theorem dL_isRoute_100 : decode cL_isRoute 100 = .ok (.iload_n 2, 1) := by decide +kernel
theorem dL_isRoute_101 : decode cL_isRoute 101 = .ok (.invokevirtual 67, 3) := by decide +kernel
theorem dL_isRoute_104 : decode cL_isRoute 104 = .ok (.if_icmp .ge 15, 3) := by decide +kernel
theorem dL_isRoute_107 : decode cL_isRoute 107 = .ok (.aload_n 0, 1) := by decide +kernel
theorem dL_isRoute_108 : decode cL_isRoute 108 = .ok (.iload 4, 2) := by decide +kernel
theorem dL_isRoute_110 : decode cL_isRoute 110 = .ok (.iload 6, 2) := by decide +kernel
theorem dL_isRoute_112 : decode cL_isRoute 112 = .ok (.invokevirtual 74, 3) := by decide +kernel
theorem dL_isRoute_115 : decode cL_isRoute 115 = .ok (.iconst 1, 1) := by decide +kernel
theorem dL_isRoute_116 : decode cL_isRoute 116 = .ok (.if_icmp .eq 5, 3) := by decide +kernel
theorem dL_isRoute_119 : decode cL_isRoute 119 = .ok (.iconst 0, 1) := by decide +kernel
theorem dL_isRoute_120 : decode cL_isRoute 120 = .ok (.ireturn, 1) := by decide +kernel
theorem dL_isRoute_121 : decode cL_isRoute 121 = .ok (.iload 6, 2) := by decide +kernel
theorem dL_isRoute_123 : decode cL_isRoute 123 = .ok (.istore 4, 2) := by decide +kernel
theorem dL_isRoute_125 : decode cL_isRoute 125 = .ok (.iinc 5 1, 3) := by decide +kernel
theorem dL_isRoute_128 : decode cL_isRoute 128 = .ok (.goto (-54), 3) := by decide +kernel
theorem dL_isRoute_131 : decode cL_isRoute 131 = .ok (.aload_n 0, 1) := by decide +kernel
theorem dL_isRoute_132 : decode cL_isRoute 132 = .ok (.iload_n 1, 1) := by decide +kernel
theorem dL_isRoute_133 : decode cL_isRoute 133 = .ok (.iload_n 2, 1) := by decide +kernel
theorem dL_isRoute_134 : decode cL_isRoute 134 = .ok (.bipush (-2), 2) := by decide +kernel
theorem dL_isRoute_136 : decode cL_isRoute 136 = .ok (.invokevirtual 70, 3) := by decide +kernel
theorem dL_isRoute_139 : decode cL_isRoute 139 = .ok (.iconst 1, 1) := by decide +kernel
theorem dL_isRoute_140 : decode cL_isRoute 140 = .ok (.if_icmp .ne 7, 3) := by decide +kernel
theorem dL_isRoute_143 : decode cL_isRoute 143 = .ok (.iconst 1, 1) := by decide +kernel
theorem dL_isRoute_144 : decode cL_isRoute 144 = .ok (.goto 4, 3) := by decide +kernel
theorem dL_isRoute_147 : decode cL_isRoute 147 = .ok (.iconst 0, 1) := by decide +kernel
theorem dL_isRoute_148 : decode cL_isRoute 148 = .ok (.istore 5, 2) := by decide +kernel
theorem dL_isRoute_150 : decode cL_isRoute 150 = .ok (.aload_n 0, 1) := by decide +kernel
theorem dL_isRoute_151 : decode cL_isRoute 151 = .ok (.iload_n 1, 1) := by decide +kernel
theorem dL_isRoute_152 : decode cL_isRoute 152 = .ok (.iload_n 2, 1) := by decide +kernel
theorem dL_isRoute_153 : decode cL_isRoute 153 = .ok (.invokevirtual 74, 3) := by decide +kernel
theorem dL_isRoute_156 : decode cL_isRoute 156 = .ok (.istore 6, 2) := by decide +kernel
theorem dL_isRoute_158 : decode cL_isRoute 158 = .ok (.aload_n 0, 1) := by decide +kernel
theorem dL_isRoute_159 : decode cL_isRoute 159 = .ok (.iload_n 1, 1) := by decide +kernel
theorem dL_isRoute_160 : decode cL_isRoute 160 = .ok (.iload_n 2, 1) := by decide +kernel
theorem dL_isRoute_161 : decode cL_isRoute 161 = .ok (.iconst 0, 1) := by decide +kernel
theorem dL_isRoute_162 : decode cL_isRoute 162 = .ok (.invokevirtual 70, 3) := by decide +kernel
theorem dL_isRoute_165 : decode cL_isRoute 165 = .ok (.iload_n 1, 1) := by decide +kernel
theorem dL_isRoute_166 : decode cL_isRoute 166 = .ok (.if_icmp .ne 53, 3) := by decide +kernel
theorem dL_isRoute_169 : decode cL_isRoute 169 = .ok (.aload_n 0, 1) := by decide +kernel
theorem dL_isRoute_170 : decode cL_isRoute 170 = .ok (.iload_n 1, 1) := by decide +kernel
theorem dL_isRoute_171 : decode cL_isRoute 171 = .ok (.iload_n 2, 1) := by decide +kernel
theorem dL_isRoute_172 : decode cL_isRoute 172 = .ok (.iload_n 3, 1) := by decide +kernel
theorem dL_isRoute_173 : decode cL_isRoute 173 = .ok (.iconst 1, 1) := by decide +kernel
theorem dL_isRoute_174 : decode cL_isRoute 174 = .ok (.iadd, 1) := by decide +kernel
theorem dL_isRoute_175 : decode cL_isRoute 175 = .ok (.invokevirtual 70, 3) := by decide +kernel
theorem dL_isRoute_178 : decode cL_isRoute 178 = .ok (.bipush (-9), 2) := by decide +kernel
theorem dL_isRoute_180 : decode cL_isRoute 180 = .ok (.if_icmp .ne 39, 3) := by decide +kernel
theorem dL_isRoute_183 : decode cL_isRoute 183 = .ok (.iload 5, 2) := by decide +kernel
theorem dL_isRoute_185 : decode cL_isRoute 185 = .ok (.iload 4, 2) := by decide +kernel
theorem dL_isRoute_187 : decode cL_isRoute 187 = .ok (.iload_n 2, 1) := by decide +kernel
theorem dL_isRoute_188 : decode cL_isRoute 188 = .ok (.if_icmp .ne 7, 3) := by decide +kernel
theorem dL_isRoute_191 : decode cL_isRoute 191 = .ok (.iconst 1, 1) := by decide +kernel
theorem dL_isRoute_192 : decode cL_isRoute 192 = .ok (.goto 4, 3) := by decide +kernel
theorem dL_isRoute_195 : decode cL_isRoute 195 = .ok (.iconst 0, 1) := by decide +kernel
theorem dL_isRoute_196 : decode cL_isRoute 196 = .ok (.if_icmp .ne 23, 3) := by decide +kernel
theorem dL_isRoute_199 : decode cL_isRoute 199 = .ok (.iload 5, 2) := by decide +kernel
theorem dL_isRoute_201 : decode cL_isRoute 201 = .ok (.ifCond .eq 14, 3) := by decide +kernel
theorem dL_isRoute_204 : decode cL_isRoute 204 = .ok (.iload 6, 2) := by decide +kernel
theorem dL_isRoute_206 : decode cL_isRoute 206 = .ok (.ifCond .lt 13, 3) := by decide +kernel
theorem dL_isRoute_209 : decode cL_isRoute 209 = .ok (.iload 6, 2) := by decide +kernel
theorem dL_isRoute_211 : decode cL_isRoute 211 = .ok (.iload_n 3, 1) := by decide +kernel
theorem dL_isRoute_212 : decode cL_isRoute 212 = .ok (.if_icmp .gt 7, 3) := by decide +kernel
theorem dL_isRoute_215 : decode cL_isRoute 215 = .ok (.iconst 1, 1) := by decide +kernel
theorem dL_isRoute_216 : decode cL_isRoute 216 = .ok (.goto 4, 3) := by decide +kernel
theorem dL_isRoute_219 : decode cL_isRoute 219 = .ok (.iconst 0, 1) := by decide +kernel
theorem dL_isRoute_220 : decode cL_isRoute 220 = .ok (.istore 7, 2) := by decide +kernel
theorem dL_isRoute_222 : decode cL_isRoute 222 = .ok (.iload 7, 2) := by decide +kernel
theorem dL_isRoute_224 : decode cL_isRoute 224 = .ok (.ifCond .eq 77, 3) := by decide +kernel
theorem dL_isRoute_227 : decode cL_isRoute 227 = .ok (.iload 6, 2) := by decide +kernel
theorem dL_isRoute_229 : decode cL_isRoute 229 = .ok (.bipush (-9), 2) := by decide +kernel
theorem dL_isRoute_231 : decode cL_isRoute 231 = .ok (.if_icmp .ne 7, 3) := by decide +kernel
theorem dL_isRoute_234 : decode cL_isRoute 234 = .ok (.iconst 1, 1) := by decide +kernel
theorem dL_isRoute_235 : decode cL_isRoute 235 = .ok (.goto 4, 3) := by decide +kernel
theorem dL_isRoute_238 : decode cL_isRoute 238 = .ok (.iconst 0, 1) := by decide +kernel
theorem dL_isRoute_239 : decode cL_isRoute 239 = .ok (.aload_n 0, 1) := by decide +kernel
theorem dL_isRoute_240 : decode cL_isRoute 240 = .ok (.iload_n 1, 1) := by decide +kernel
theorem dL_isRoute_241 : decode cL_isRoute 241 = .ok (.iload_n 2, 1) := by decide +kernel
theorem dL_isRoute_242 : decode cL_isRoute 242 = .ok (.invokevirtual 77, 3) := by decide +kernel
theorem dL_isRoute_245 : decode cL_isRoute 245 = .ok (.lconst 0, 1) := by decide +kernel
theorem dL_isRoute_246 : decode cL_isRoute 246 = .ok (.lcmp, 1) := by decide +kernel
theorem dL_isRoute_247 : decode cL_isRoute 247 = .ok (.ifCond .ne 7, 3) := by decide +kernel
theorem dL_isRoute_250 : decode cL_isRoute 250 = .ok (.iconst 1, 1) := by decide +kernel
theorem dL_isRoute_251 : decode cL_isRoute 251 = .ok (.goto 4, 3) := by decide +kernel
theorem dL_isRoute_254 : decode cL_isRoute 254 = .ok (.iconst 0, 1) := by decide +kernel
theorem dL_isRoute_255 : decode cL_isRoute 255 = .ok (.if_icmp .ne 46, 3) := by decide +kernel
theorem dL_isRoute_258 : decode cL_isRoute 258 = .ok (.iload_n 1, 1) := by decide +kernel
theorem dL_isRoute_259 : decode cL_isRoute 259 = .ok (.iload_n 2, 1) := by decide +kernel
theorem dL_isRoute_260 : decode cL_isRoute 260 = .ok (.if_icmp .ne 7, 3) := by decide +kernel
theorem dL_isRoute_263 : decode cL_isRoute 263 = .ok (.iconst 1, 1) := by decide +kernel
theorem dL_isRoute_264 : decode cL_isRoute 264 = .ok (.goto 4, 3) := by decide +kernel
theorem dL_isRoute_267 : decode cL_isRoute 267 = .ok (.iconst 0, 1) := by decide +kernel
theorem dL_isRoute_268 : decode cL_isRoute 268 = .ok (.iload 6, 2) := by decide +kernel
theorem dL_isRoute_270 : decode cL_isRoute 270 = .ok (.ifCond .ne 7, 3) := by decide +kernel
theorem dL_isRoute_273 : decode cL_isRoute 273 = .ok (.iconst 1, 1) := by decide +kernel
theorem dL_isRoute_274 : decode cL_isRoute 274 = .ok (.goto 4, 3) := by decide +kernel
theorem dL_isRoute_277 : decode cL_isRoute 277 = .ok (.iconst 0, 1) := by decide +kernel
theorem dL_isRoute_278 : decode cL_isRoute 278 = .ok (.if_icmp .ne 23, 3) := by decide +kernel
theorem dL_isRoute_281 : decode cL_isRoute 281 = .ok (.iload_n 1, 1) := by decide +kernel
theorem dL_isRoute_282 : decode cL_isRoute 282 = .ok (.iload_n 2, 1) := by decide +kernel
theorem dL_isRoute_283 : decode cL_isRoute 283 = .ok (.if_icmp .ne 14, 3) := by decide +kernel
theorem dL_isRoute_286 : decode cL_isRoute 286 = .ok (.aload_n 0, 1) := by decide +kernel
theorem dL_isRoute_287 : decode cL_isRoute 287 = .ok (.iload_n 1, 1) := by decide +kernel
theorem dL_isRoute_288 : decode cL_isRoute 288 = .ok (.iload_n 2, 1) := by decide +kernel
theorem dL_isRoute_289 : decode cL_isRoute 289 = .ok (.invokevirtual 77, 3) := by decide +kernel
theorem dL_isRoute_292 : decode cL_isRoute 292 = .ok (.lconst 1, 1) := by decide +kernel
theorem dL_isRoute_293 : decode cL_isRoute 293 = .ok (.lcmp, 1) := by decide +kernel
theorem dL_isRoute_294 : decode cL_isRoute 294 = .ok (.ifCond .ne 7, 3) := by decide +kernel
theorem dL_isRoute_297 : decode cL_isRoute 297 = .ok (.iconst 1, 1) := by decide +kernel
theorem dL_isRoute_298 : decode cL_isRoute 298 = .ok (.goto 4, 3) := by decide +kernel
theorem dL_isRoute_301 : decode cL_isRoute 301 = .ok (.iconst 0, 1) := by decide +kernel
theorem dL_isRoute_302 : decode cL_isRoute 302 = .ok (.ireturn, 1) := by decide +kernel
theorem dL_areMeasures_0 : decode cL_areMeasures 0 = .ok (.aload_n 0, 1) := by decide +kernel
theorem dL_areMeasures_1 : decode cL_areMeasures 1 = .ok (.iconst 2, 1) := by decide +kernel
theorem dL_areMeasures_2 : decode cL_areMeasures 2 = .ok (.invokevirtual 9, 3) := by decide +kernel
theorem dL_areMeasures_5 : decode cL_areMeasures 5 = .ok (.istore_n 1, 1) := by decide +kernel
theorem dL_areMeasures_6 : decode cL_areMeasures 6 = .ok (.aload_n 0, 1) := by decide +kernel
theorem dL_areMeasures_7 : decode cL_areMeasures 7 = .ok (.iconst 0, 1) := by decide +kernel
theorem dL_areMeasures_8 : decode cL_areMeasures 8 = .ok (.invokevirtual 83, 3) := by decide +kernel
theorem dL_areMeasures_11 : decode cL_areMeasures 11 = .ok (.istore_n 2, 1) := by decide +kernel
theorem dL_areMeasures_12 : decode cL_areMeasures 12 = .ok (.iconst 0, 1) := by decide +kernel
theorem dL_areMeasures_13 : decode cL_areMeasures 13 = .ok (.istore_n 3, 1) := by decide +kernel
theorem dL_areMeasures_14 : decode cL_areMeasures 14 = .ok (.iconst 0, 1) := by decide +kernel
theorem dL_areMeasures_15 : decode cL_areMeasures 15 = .ok (.istore 4, 2) := by decide +kernel
theorem dL_areMeasures_17 : decode cL_areMeasures 17 = .ok (.iconst 0, 1) := by decide +kernel
theorem dL_areMeasures_18 : decode cL_areMeasures 18 = .ok (.istore 5, 2) := by decide +kernel
theorem dL_areMeasures_20 : decode cL_areMeasures 20 = .ok (.iload 5, 2) := by decide +kernel
theorem dL_areMeasures_22 : decode cL_areMeasures 22 = .ok (.aload_n 0, 1) := by decide +kernel
theorem dL_areMeasures_23 : decode cL_areMeasures 23 = .ok (.iconst 0, 1) := by decide +kernel
theorem dL_areMeasures_24 : decode cL_areMeasures 24 = .ok (.invokevirtual 9, 3) := by decide +kernel
theorem dL_areMeasures_27 : decode cL_areMeasures 27 = .ok (.if_icmp .ge 47, 3) := by decide +kernel
theorem dL_areMeasures_30 : decode cL_areMeasures 30 = .ok (.iload_n 3, 1) := by decide +kernel
theorem dL_areMeasures_31 : decode cL_areMeasures 31 = .ok (.aload_n 0, 1) := by decide +kernel
theorem dL_areMeasures_32 : decode cL_areMeasures 32 = .ok (.iload 5, 2) := by decide +kernel
theorem dL_areMeasures_34 : decode cL_areMeasures 34 = .ok (.iconst 5, 1) := by decide +kernel
theorem dL_areMeasures_35 : decode cL_areMeasures 35 = .ok (.invokevirtual 61, 3) := by decide +kernel
theorem dL_areMeasures_38 : decode cL_areMeasures 38 = .ok (.iadd, 1) := by decide +kernel
theorem dL_areMeasures_39 : decode cL_areMeasures 39 = .ok (.istore_n 3, 1) := by decide +kernel
theorem dL_areMeasures_40 : decode cL_areMeasures 40 = .ok (.aload_n 0, 1) := by decide +kernel
theorem dL_areMeasures_41 : decode cL_areMeasures 41 = .ok (.iload 5, 2) := by decide +kernel
theorem dL_areMeasures_43 : decode cL_areMeasures 43 = .ok (.bipush 6, 2) := by decide +kernel
theorem dL_areMeasures_45 : decode cL_areMeasures 45 = .ok (.invokevirtual 61, 3) := by decide +kernel
theorem dL_areMeasures_48 : decode cL_areMeasures 48 = .ok (.iload 4, 2) := by decide +kernel
theorem dL_areMeasures_50 : decode cL_areMeasures 50 = .ok (.if_icmp .le 14, 3) := by decide +kernel
theorem dL_areMeasures_53 : decode cL_areMeasures 53 = .ok (.aload_n 0, 1) := by decide +kernel
theorem dL_areMeasures_54 : decode cL_areMeasures 54 = .ok (.iload 5, 2) := by decide +kernel
theorem dL_areMeasures_56 : decode cL_areMeasures 56 = .ok (.bipush 6, 2) := by decide +kernel
theorem dL_areMeasures_58 : decode cL_areMeasures 58 = .ok (.invokevirtual 61, 3) := by decide +kernel
theorem dL_areMeasures_61 : decode cL_areMeasures 61 = .ok (.goto 5, 3) := by decide +kernel
theorem dL_areMeasures_64 : decode cL_areMeasures 64 = .ok (.iload 4, 2) := by decide +kernel
theorem dL_areMeasures_66 : decode cL_areMeasures 66 = .ok (.istore 4, 2) := by decide +kernel
theorem dL_areMeasures_68 : decode cL_areMeasures 68 = .ok (.iinc 5 1, 3) := by decide +kernel
theorem dL_areMeasures_71 : decode cL_areMeasures 71 = .ok (.goto (-51), 3) := by decide +kernel
theorem dL_areMeasures_74 : decode cL_areMeasures 74 = .ok (.iload_n 2, 1) := by decide +kernel
theorem dL_areMeasures_75 : decode cL_areMeasures 75 = .ok (.iload_n 1, 1) := by decide +kernel
theorem dL_areMeasures_76 : decode cL_areMeasures 76 = .ok (.iload_n 1, 1) := by decide +kernel
theorem dL_areMeasures_77 : decode cL_areMeasures 77 = .ok (.iconst 1, 1) := by decide +kernel
theorem dL_areMeasures_78 : decode cL_areMeasures 78 = .ok (.isub, 1) := by decide +kernel
theorem dL_areMeasures_79 : decode cL_areMeasures 79 = .ok (.imul, 1) := by decide +kernel
theorem dL_areMeasures_80 : decode cL_areMeasures 80 = .ok (.if_icmp .ne 80, 3) := by decide +kernel
theorem dL_areMeasures_83 : decode cL_areMeasures 83 = .ok (.aload_n 0, 1) := by decide +kernel
theorem dL_areMeasures_84 : decode cL_areMeasures 84 = .ok (.iconst 1, 1) := by decide +kernel
theorem dL_areMeasures_85 : decode cL_areMeasures 85 = .ok (.invokevirtual 83, 3) := by decide +kernel
theorem dL_areMeasures_88 : decode cL_areMeasures 88 = .ok (.iload_n 3, 1) := by decide +kernel
theorem dL_areMeasures_89 : decode cL_areMeasures 89 = .ok (.if_icmp .ne 71, 3) := by decide +kernel
theorem dL_areMeasures_92 : decode cL_areMeasures 92 = .ok (.aload_n 0, 1) := by decide +kernel
theorem dL_areMeasures_93 : decode cL_areMeasures 93 = .ok (.iconst 2, 1) := by decide +kernel
theorem dL_areMeasures_94 : decode cL_areMeasures 94 = .ok (.invokevirtual 83, 3) := by decide +kernel
theorem dL_areMeasures_97 : decode cL_areMeasures 97 = .ok (.iload 4, 2) := by decide +kernel
theorem dL_areMeasures_99 : decode cL_areMeasures 99 = .ok (.if_icmp .ne 61, 3) := by decide +kernel
theorem dL_areMeasures_102 : decode cL_areMeasures 102 = .ok (.aload_n 0, 1) := by decide +kernel
theorem dL_areMeasures_103 : decode cL_areMeasures 103 = .ok (.iconst 3, 1) := by decide +kernel
theorem dL_areMeasures_104 : decode cL_areMeasures 104 = .ok (.invokevirtual 83, 3) := by decide +kernel
theorem dL_areMeasures_107 : decode cL_areMeasures 107 = .ok (.aload_n 0, 1) := by decide +kernel
theorem dL_areMeasures_108 : decode cL_areMeasures 108 = .ok (.iconst 1, 1) := by decide +kernel
theorem dL_areMeasures_109 : decode cL_areMeasures 109 = .ok (.invokevirtual 83, 3) := by decide +kernel
theorem dL_areMeasures_112 : decode cL_areMeasures 112 = .ok (.if_icmp .lt 48, 3) := by decide +kernel
theorem dL_areMeasures_115 : decode cL_areMeasures 115 = .ok (.aload_n 0, 1) := by decide +kernel
theorem dL_areMeasures_116 : decode cL_areMeasures 116 = .ok (.iconst 4, 1) := by decide +kernel
theorem dL_areMeasures_117 : decode cL_areMeasures 117 = .ok (.invokevirtual 83, 3) := by decide +kernel
theorem dL_areMeasures_120 : decode cL_areMeasures 120 = .ok (.aload_n 0, 1) := by decide +kernel
theorem dL_areMeasures_121 : decode cL_areMeasures 121 = .ok (.iconst 1, 1) := by decide +kernel
theorem dL_areMeasures_122 : decode cL_areMeasures 122 = .ok (.invokevirtual 83, 3) := by decide +kernel
theorem dL_areMeasures_125 : decode cL_areMeasures 125 = .ok (.if_icmp .gt 35, 3) := by decide +kernel
theorem dL_areMeasures_128 : decode cL_areMeasures 128 = .ok (.aload_n 0, 1) := by decide +kernel
theorem dL_areMeasures_129 : decode cL_areMeasures 129 = .ok (.bipush 7, 2) := by decide +kernel
theorem dL_areMeasures_131 : decode cL_areMeasures 131 = .ok (.invokevirtual 83, 3) := by decide +kernel
theorem dL_areMeasures_134 : decode cL_areMeasures 134 = .ok (.aload_n 0, 1) := by decide +kernel
theorem dL_areMeasures_135 : decode cL_areMeasures 135 = .ok (.iconst 4, 1) := by decide +kernel
theorem dL_areMeasures_136 : decode cL_areMeasures 136 = .ok (.invokevirtual 83, 3) := by decide +kernel
theorem dL_areMeasures_139 : decode cL_areMeasures 139 = .ok (.if_icmp .gt 21, 3) := by decide +kernel
theorem dL_areMeasures_142 : decode cL_areMeasures 142 = .ok (.aload_n 0, 1) := by decide +kernel
theorem dL_areMeasures_143 : decode cL_areMeasures 143 = .ok (.bipush 6, 2) := by decide +kernel
theorem dL_areMeasures_145 : decode cL_areMeasures 145 = .ok (.invokevirtual 83, 3) := by decide +kernel
theorem dL_areMeasures_148 : decode cL_areMeasures 148 = .ok (.aload_n 0, 1) := by decide +kernel
theorem dL_areMeasures_149 : decode cL_areMeasures 149 = .ok (.iconst 4, 1) := by decide +kernel
theorem dL_areMeasures_150 : decode cL_areMeasures 150 = .ok (.invokevirtual 83, 3) := by decide +kernel
theorem dL_areMeasures_153 : decode cL_areMeasures 153 = .ok (.if_icmp .lt 7, 3) := by decide +kernel
theorem dL_areMeasures_156 : decode cL_areMeasures 156 = .ok (.iconst 1, 1) := by decide +kernel
theorem dL_areMeasures_157 : decode cL_areMeasures 157 = .ok (.goto 4, 3) := by decide +kernel
theorem dL_areMeasures_160 : decode cL_areMeasures 160 = .ok (.iconst 0, 1) := by decide +kernel
theorem dL_areMeasures_161 : decode cL_areMeasures 161 = .ok (.istore 5, 2) := by decide +kernel
theorem dL_areMeasures_163 : decode cL_areMeasures 163 = .ok (.aload_n 0, 1) := by decide +kernel
theorem dL_areMeasures_164 : decode cL_areMeasures 164 = .ok (.invokevirtual 86, 3) := by decide +kernel
theorem dL_areMeasures_167 : decode cL_areMeasures 167 = .ok (.fstore 6, 2) := by decide +kernel
theorem dL_areMeasures_169 : decode cL_areMeasures 169 = .ok (.iload 5, 2) := by decide +kernel
theorem dL_areMeasures_171 : decode cL_areMeasures 171 = .ok (.ifCond .eq 54, 3) := by decide +kernel
theorem dL_areMeasures_174 : decode cL_areMeasures 174 = .ok (.aload_n 0, 1) := by decide +kernel
theorem dL_areMeasures_175 : decode cL_areMeasures 175 = .ok (.iconst 4, 1) := by decide +kernel
theorem dL_areMeasures_176 : decode cL_areMeasures 176 = .ok (.invokevirtual 83, 3) := by decide +kernel
theorem dL_areMeasures_179 : decode cL_areMeasures 179 = .ok (.ifCond .ne 13, 3) := by decide +kernel
theorem dL_areMeasures_182 : decode cL_areMeasures 182 = .ok (.fload 6, 2) := by decide +kernel
theorem dL_areMeasures_184 : decode cL_areMeasures 184 = .ok (.fconst 0, 1) := by decide +kernel
theorem dL_areMeasures_185 : decode cL_areMeasures 185 = .ok (.fcmp .l, 1) := by decide +kernel
theorem dL_areMeasures_186 : decode cL_areMeasures 186 = .ok (.ifCond .ne 39, 3) := by decide +kernel
theorem dL_areMeasures_189 : decode cL_areMeasures 189 = .ok (.goto 22, 3) := by decide +kernel
theorem dL_areMeasures_192 : decode cL_areMeasures 192 = .ok (.fload 6, 2) := by decide +kernel
theorem dL_areMeasures_194 : decode cL_areMeasures 194 = .ok (.fconst 1, 1) := by decide +kernel
theorem dL_areMeasures_195 : decode cL_areMeasures 195 = .ok (.fcmp .l, 1) := by decide +kernel
theorem dL_areMeasures_196 : decode cL_areMeasures 196 = .ok (.ifCond .lt 29, 3) := by decide +kernel
theorem dL_areMeasures_199 : decode cL_areMeasures 199 = .ok (.fload 6, 2) := by decide +kernel
theorem dL_areMeasures_201 : decode cL_areMeasures 201 = .ok (.aload_n 0, 1) := by decide +kernel
theorem dL_areMeasures_202 : decode cL_areMeasures 202 = .ok (.iconst 5, 1) := by decide +kernel
theorem dL_areMeasures_203 : decode cL_areMeasures 203 = .ok (.invokevirtual 83, 3) := by decide +kernel
theorem dL_areMeasures_206 : decode cL_areMeasures 206 = .ok (.i2f, 1) := by decide +kernel
theorem dL_areMeasures_207 : decode cL_areMeasures 207 = .ok (.fcmp .g, 1) := by decide +kernel
theorem dL_areMeasures_208 : decode cL_areMeasures 208 = .ok (.ifCond .gt 17, 3) := by decide +kernel
theorem dL_areMeasures_211 : decode cL_areMeasures 211 = .ok (.aload_n 0, 1) := by decide +kernel
theorem dL_areMeasures_212 : decode cL_areMeasures 212 = .ok (.bipush 8, 2) := by decide +kernel
theorem dL_areMeasures_214 : decode cL_areMeasures 214 = .ok (.invokevirtual 83, 3) := by decide +kernel
theorem dL_areMeasures_217 : decode cL_areMeasures 217 = .ok (.iconst (-1), 1) := by decide +kernel
theorem dL_areMeasures_218 : decode cL_areMeasures 218 = .ok (.if_icmp .ne 7, 3) := by decide +kernel
theorem dL_areMeasures_221 : decode cL_areMeasures 221 = .ok (.iconst 1, 1) := by decide +kernel
theorem dL_areMeasures_222 : decode cL_areMeasures 222 = .ok (.goto 4, 3) := by decide +kernel
theorem dL_areMeasures_225 : decode cL_areMeasures 225 = .ok (.iconst 0, 1) := by decide +kernel
theorem dL_areMeasures_226 : decode cL_areMeasures 226 = .ok (.ireturn, 1) := by decide +kernel
theorem dL_areAlike_0 : decode cL_areAlike 0 = .ok (.iconst 1, 1) := by decide +kernel
theorem dL_areAlike_1 : decode cL_areAlike 1 = .ok (.istore_n 2, 1) := by decide +kernel
theorem dL_areAlike_2 : decode cL_areAlike 2 = .ok (.iconst 0, 1) := by decide +kernel
theorem dL_areAlike_3 : decode cL_areAlike 3 = .ok (.istore_n 3, 1) := by decide +kernel
theorem dL_areAlike_4 : decode cL_areAlike 4 = .ok (.iload_n 3, 1) := by decide +kernel
theorem dL_areAlike_5 : decode cL_areAlike 5 = .ok (.bipush 10, 2) := by decide +kernel
theorem dL_areAlike_7 : decode cL_areAlike 7 = .ok (.if_icmp .ge 32, 3) := by decide +kernel
theorem dL_areAlike_10 : decode cL_areAlike 10 = .ok (.iload_n 2, 1) := by decide +kernel
theorem dL_areAlike_11 : decode cL_areAlike 11 = .ok (.ifCond .eq 20, 3) := by decide +kernel
theorem dL_areAlike_14 : decode cL_areAlike 14 = .ok (.aload_n 0, 1) := by decide +kernel
theorem dL_areAlike_15 : decode cL_areAlike 15 = .ok (.iload_n 3, 1) := by decide +kernel
theorem dL_areAlike_16 : decode cL_areAlike 16 = .ok (.invokevirtual 9, 3) := by decide +kernel
theorem dL_areAlike_19 : decode cL_areAlike 19 = .ok (.aload_n 1, 1) := by decide +kernel
theorem dL_areAlike_20 : decode cL_areAlike 20 = .ok (.iload_n 3, 1) := by decide +kernel
theorem dL_areAlike_21 : decode cL_areAlike 21 = .ok (.invokevirtual 9, 3) := by decide +kernel
theorem dL_areAlike_24 : decode cL_areAlike 24 = .ok (.if_icmp .ne 7, 3) := by decide +kernel
theorem dL_areAlike_27 : decode cL_areAlike 27 = .ok (.iconst 1, 1) := by decide +kernel
theorem dL_areAlike_28 : decode cL_areAlike 28 = .ok (.goto 4, 3) := by decide +kernel
theorem dL_areAlike_31 : decode cL_areAlike 31 = .ok (.iconst 0, 1) := by decide +kernel
theorem dL_areAlike_32 : decode cL_areAlike 32 = .ok (.istore_n 2, 1) := by decide +kernel
theorem dL_areAlike_33 : decode cL_areAlike 33 = .ok (.iinc 3 1, 3) := by decide +kernel
theorem dL_areAlike_36 : decode cL_areAlike 36 = .ok (.goto (-32), 3) := by decide +kernel
theorem dL_areAlike_39 : decode cL_areAlike 39 = .ok (.iconst 0, 1) := by decide +kernel
theorem dL_areAlike_40 : decode cL_areAlike 40 = .ok (.istore_n 3, 1) := by decide +kernel
theorem dL_areAlike_41 : decode cL_areAlike 41 = .ok (.iload_n 3, 1) := by decide +kernel
theorem dL_areAlike_42 : decode cL_areAlike 42 = .ok (.aload_n 0, 1) := by decide +kernel
theorem dL_areAlike_43 : decode cL_areAlike 43 = .ok (.iconst 0, 1) := by decide +kernel
theorem dL_areAlike_44 : decode cL_areAlike 44 = .ok (.invokevirtual 9, 3) := by decide +kernel
theorem dL_areAlike_47 : decode cL_areAlike 47 = .ok (.if_icmp .ge 91, 3) := by decide +kernel
theorem dL_areAlike_50 : decode cL_areAlike 50 = .ok (.iload_n 2, 1) := by decide +kernel
theorem dL_areAlike_51 : decode cL_areAlike 51 = .ok (.ifCond .eq 37, 3) := by decide +kernel
theorem dL_areAlike_54 : decode cL_areAlike 54 = .ok (.aload_n 0, 1) := by decide +kernel
theorem dL_areAlike_55 : decode cL_areAlike 55 = .ok (.iload_n 3, 1) := by decide +kernel
theorem dL_areAlike_56 : decode cL_areAlike 56 = .ok (.iconst 0, 1) := by decide +kernel
theorem dL_areAlike_57 : decode cL_areAlike 57 = .ok (.invokevirtual 61, 3) := by decide +kernel
theorem dL_areAlike_60 : decode cL_areAlike 60 = .ok (.aload_n 1, 1) := by decide +kernel
theorem dL_areAlike_61 : decode cL_areAlike 61 = .ok (.iload_n 3, 1) := by decide +kernel
theorem dL_areAlike_62 : decode cL_areAlike 62 = .ok (.iconst 0, 1) := by decide +kernel
theorem dL_areAlike_63 : decode cL_areAlike 63 = .ok (.invokevirtual 61, 3) := by decide +kernel
theorem dL_areAlike_66 : decode cL_areAlike 66 = .ok (.if_icmp .ne 22, 3) := by decide +kernel
theorem dL_areAlike_69 : decode cL_areAlike 69 = .ok (.aload_n 0, 1) := by decide +kernel
theorem dL_areAlike_70 : decode cL_areAlike 70 = .ok (.iload_n 3, 1) := by decide +kernel
theorem dL_areAlike_71 : decode cL_areAlike 71 = .ok (.iconst 1, 1) := by decide +kernel
theorem dL_areAlike_72 : decode cL_areAlike 72 = .ok (.invokevirtual 61, 3) := by decide +kernel
theorem dL_areAlike_75 : decode cL_areAlike 75 = .ok (.aload_n 1, 1) := by decide +kernel
theorem dL_areAlike_76 : decode cL_areAlike 76 = .ok (.iload_n 3, 1) := by decide +kernel
theorem dL_areAlike_77 : decode cL_areAlike 77 = .ok (.iconst 1, 1) := by decide +kernel
theorem dL_areAlike_78 : decode cL_areAlike 78 = .ok (.invokevirtual 61, 3) := by decide +kernel
theorem dL_areAlike_81 : decode cL_areAlike 81 = .ok (.if_icmp .ne 7, 3) := by decide +kernel
theorem dL_areAlike_84 : decode cL_areAlike 84 = .ok (.iconst 1, 1) := by decide +kernel
theorem dL_areAlike_85 : decode cL_areAlike 85 = .ok (.goto 4, 3) := by decide +kernel
theorem dL_areAlike_88 : decode cL_areAlike 88 = .ok (.iconst 0, 1) := by decide +kernel
theorem dL_areAlike_89 : decode cL_areAlike 89 = .ok (.istore_n 2, 1) := by decide +kernel
theorem dL_areAlike_90 : decode cL_areAlike 90 = .ok (.iconst 0, 1) := by decide +kernel
theorem dL_areAlike_91 : decode cL_areAlike 91 = .ok (.istore 4, 2) := by decide +kernel
theorem dL_areAlike_93 : decode cL_areAlike 93 = .ok (.iload 4, 2) := by decide +kernel
theorem dL_areAlike_95 : decode cL_areAlike 95 = .ok (.iconst 3, 1) := by decide +kernel
theorem dL_areAlike_96 : decode cL_areAlike 96 = .ok (.if_icmp .ge 36, 3) := by decide +kernel
theorem dL_areAlike_99 : decode cL_areAlike 99 = .ok (.iload_n 2, 1) := by decide +kernel
theorem dL_areAlike_100 : decode cL_areAlike 100 = .ok (.ifCond .eq 24, 3) := by decide +kernel
theorem dL_areAlike_103 : decode cL_areAlike 103 = .ok (.aload_n 0, 1) := by decide +kernel
theorem dL_areAlike_104 : decode cL_areAlike 104 = .ok (.iload_n 3, 1) := by decide +kernel
theorem dL_areAlike_105 : decode cL_areAlike 105 = .ok (.iload 4, 2) := by decide +kernel
theorem dL_areAlike_107 : decode cL_areAlike 107 = .ok (.invokevirtual 64, 3) := by decide +kernel
theorem dL_areAlike_110 : decode cL_areAlike 110 = .ok (.aload_n 1, 1) := by decide +kernel
theorem dL_areAlike_111 : decode cL_areAlike 111 = .ok (.iload_n 3, 1) := by decide +kernel
theorem dL_areAlike_112 : decode cL_areAlike 112 = .ok (.iload 4, 2) := by decide +kernel
theorem dL_areAlike_114 : decode cL_areAlike 114 = .ok (.invokevirtual 64, 3) := by decide +kernel
theorem dL_areAlike_117 : decode cL_areAlike 117 = .ok (.if_icmp .ne 7, 3) := by decide +kernel
theorem dL_areAlike_120 : decode cL_areAlike 120 = .ok (.iconst 1, 1) := by decide +kernel
theorem dL_areAlike_121 : decode cL_areAlike 121 = .ok (.goto 4, 3) := by decide +kernel
theorem dL_areAlike_124 : decode cL_areAlike 124 = .ok (.iconst 0, 1) := by decide +kernel
theorem dL_areAlike_125 : decode cL_areAlike 125 = .ok (.istore_n 2, 1) := by decide +kernel
theorem dL_areAlike_126 : decode cL_areAlike 126 = .ok (.iinc 4 1, 3) := by decide +kernel
theorem dL_areAlike_129 : decode cL_areAlike 129 = .ok (.goto (-36), 3) := by decide +kernel
theorem dL_areAlike_132 : decode cL_areAlike 132 = .ok (.iinc 3 1, 3) := by decide +kernel
theorem dL_areAlike_135 : decode cL_areAlike 135 = .ok (.goto (-94), 3) := by decide +kernel
theorem dL_areAlike_138 : decode cL_areAlike 138 = .ok (.iload_n 2, 1) := by decide +kernel
theorem dL_areAlike_139 : decode cL_areAlike 139 = .ok (.ireturn, 1) := by decide +kernel
theorem dL_law_0 : decode cL_law 0 = .ok (.new 10, 3) := by decide +kernel
theorem dL_law_3 : decode cL_law 3 = .ok (.dup, 1) := by decide +kernel
theorem dL_law_4 : decode cL_law 4 = .ok (.invokespecial 90, 3) := by decide +kernel
theorem dL_law_7 : decode cL_law 7 = .ok (.astore_n 1, 1) := by decide +kernel
theorem dL_law_8 : decode cL_law 8 = .ok (.new 10, 3) := by decide +kernel
theorem dL_law_11 : decode cL_law 11 = .ok (.dup, 1) := by decide +kernel
theorem dL_law_12 : decode cL_law 12 = .ok (.invokespecial 90, 3) := by decide +kernel
theorem dL_law_15 : decode cL_law 15 = .ok (.astore_n 2, 1) := by decide +kernel
theorem dL_law_16 : decode cL_law 16 = .ok (.iconst 0, 1) := by decide +kernel
theorem dL_law_17 : decode cL_law 17 = .ok (.istore_n 3, 1) := by decide +kernel
theorem dL_law_18 : decode cL_law 18 = .ok (.iload_n 3, 1) := by decide +kernel
theorem dL_law_19 : decode cL_law 19 = .ok (.bipush 24, 2) := by decide +kernel
theorem dL_law_21 : decode cL_law 21 = .ok (.if_icmp .ge 108, 3) := by decide +kernel
theorem dL_law_24 : decode cL_law 24 = .ok (.aload_n 0, 1) := by decide +kernel
theorem dL_law_25 : decode cL_law 25 = .ok (.iconst 2, 1) := by decide +kernel
theorem dL_law_26 : decode cL_law 26 = .ok (.iload_n 3, 1) := by decide +kernel
theorem dL_law_27 : decode cL_law 27 = .ok (.imul, 1) := by decide +kernel
theorem dL_law_28 : decode cL_law 28 = .ok (.invokestatic 91, 3) := by decide +kernel
theorem dL_law_31 : decode cL_law 31 = .ok (.istore 4, 2) := by decide +kernel
theorem dL_law_33 : decode cL_law 33 = .ok (.aload_n 0, 1) := by decide +kernel
theorem dL_law_34 : decode cL_law 34 = .ok (.iconst 2, 1) := by decide +kernel
theorem dL_law_35 : decode cL_law 35 = .ok (.iload_n 3, 1) := by decide +kernel
theorem dL_law_36 : decode cL_law 36 = .ok (.imul, 1) := by decide +kernel
theorem dL_law_37 : decode cL_law 37 = .ok (.iconst 1, 1) := by decide +kernel
theorem dL_law_38 : decode cL_law 38 = .ok (.iadd, 1) := by decide +kernel
theorem dL_law_39 : decode cL_law 39 = .ok (.invokestatic 91, 3) := by decide +kernel
theorem dL_law_42 : decode cL_law 42 = .ok (.istore 5, 2) := by decide +kernel
theorem dL_law_44 : decode cL_law 44 = .ok (.aload_n 1, 1) := by decide +kernel
theorem dL_law_45 : decode cL_law 45 = .ok (.iload 4, 2) := by decide +kernel
theorem dL_law_47 : decode cL_law 47 = .ok (.iload 5, 2) := by decide +kernel
theorem dL_law_49 : decode cL_law 49 = .ok (.invokestatic 95, 3) := by decide +kernel
theorem dL_law_52 : decode cL_law 52 = .ok (.aload_n 2, 1) := by decide +kernel
theorem dL_law_53 : decode cL_law 53 = .ok (.iload 4, 2) := by decide +kernel
theorem dL_law_55 : decode cL_law 55 = .ok (.iload 5, 2) := by decide +kernel
theorem dL_law_57 : decode cL_law 57 = .ok (.invokestatic 95, 3) := by decide +kernel
theorem dL_law_60 : decode cL_law 60 = .ok (.if_icmp .ne 10, 3) := by decide +kernel
theorem dL_law_63 : decode cL_law 63 = .ok (.aload_n 1, 1) := by decide +kernel
theorem dL_law_64 : decode cL_law 64 = .ok (.invokestatic 99, 3) := by decide +kernel
theorem dL_law_67 : decode cL_law 67 = .ok (.ifCond .ne 5, 3) := by decide +kernel
theorem dL_law_70 : decode cL_law 70 = .ok (.iconst 0, 1) := by decide +kernel
theorem dL_law_71 : decode cL_law 71 = .ok (.ireturn, 1) := by decide +kernel
theorem dL_law_72 : decode cL_law 72 = .ok (.aload_n 1, 1) := by decide +kernel
theorem dL_law_73 : decode cL_law 73 = .ok (.iconst 0, 1) := by decide +kernel
theorem dL_law_74 : decode cL_law 74 = .ok (.invokevirtual 9, 3) := by decide +kernel
theorem dL_law_77 : decode cL_law 77 = .ok (.istore 6, 2) := by decide +kernel
theorem dL_law_79 : decode cL_law 79 = .ok (.aload_n 1, 1) := by decide +kernel
theorem dL_law_80 : decode cL_law 80 = .ok (.iload 5, 2) := by decide +kernel
theorem dL_law_82 : decode cL_law 82 = .ok (.iconst 3, 1) := by decide +kernel
theorem dL_law_83 : decode cL_law 83 = .ok (.ishr, 1) := by decide +kernel
theorem dL_law_84 : decode cL_law 84 = .ok (.iload 6, 2) := by decide +kernel
theorem dL_law_86 : decode cL_law 86 = .ok (.invokestatic 15, 3) := by decide +kernel
theorem dL_law_89 : decode cL_law 89 = .ok (.iload 5, 2) := by decide +kernel
theorem dL_law_91 : decode cL_law 91 = .ok (.bipush 9, 2) := by decide +kernel
theorem dL_law_93 : decode cL_law 93 = .ok (.ishr, 1) := by decide +kernel
theorem dL_law_94 : decode cL_law 94 = .ok (.iload 6, 2) := by decide +kernel
theorem dL_law_96 : decode cL_law 96 = .ok (.invokestatic 15, 3) := by decide +kernel
theorem dL_law_99 : decode cL_law 99 = .ok (.invokestatic 103, 3) := by decide +kernel
theorem dL_law_102 : decode cL_law 102 = .ok (.ifCond .eq 19, 3) := by decide +kernel
theorem dL_law_105 : decode cL_law 105 = .ok (.iload_n 3, 1) := by decide +kernel
theorem dL_law_106 : decode cL_law 106 = .ok (.bipush 8, 2) := by decide +kernel
theorem dL_law_108 : decode cL_law 108 = .ok (.irem, 1) := by decide +kernel
theorem dL_law_109 : decode cL_law 109 = .ok (.bipush 7, 2) := by decide +kernel
theorem dL_law_111 : decode cL_law 111 = .ok (.if_icmp .ne 12, 3) := by decide +kernel
theorem dL_law_114 : decode cL_law 114 = .ok (.aload_n 1, 1) := by decide +kernel
theorem dL_law_115 : decode cL_law 115 = .ok (.invokestatic 107, 3) := by decide +kernel
theorem dL_law_118 : decode cL_law 118 = .ok (.ifCond .ne 5, 3) := by decide +kernel
theorem dL_law_121 : decode cL_law 121 = .ok (.iconst 0, 1) := by decide +kernel
theorem dL_law_122 : decode cL_law 122 = .ok (.ireturn, 1) := by decide +kernel
theorem dL_law_123 : decode cL_law 123 = .ok (.iinc 3 1, 3) := by decide +kernel
theorem dL_law_126 : decode cL_law 126 = .ok (.goto (-108), 3) := by decide +kernel
theorem dL_law_129 : decode cL_law 129 = .ok (.aload_n 1, 1) := by decide +kernel
theorem dL_law_130 : decode cL_law 130 = .ok (.aload_n 2, 1) := by decide +kernel
theorem dL_law_131 : decode cL_law 131 = .ok (.invokestatic 110, 3) := by decide +kernel
theorem dL_law_134 : decode cL_law 134 = .ok (.ireturn, 1) := by decide +kernel
