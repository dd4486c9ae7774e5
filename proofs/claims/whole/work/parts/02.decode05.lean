theorem dX7_layBest_122 : decode cX7_layBest 122 = .ok (.iadd, 1) := by decide +kernel
theorem dX7_layBest_123 : decode cX7_layBest 123 = .ok (.iaload, 1) := by decide +kernel
theorem dX7_layBest_124 : decode cX7_layBest 124 = .ok (.iadd, 1) := by decide +kernel
theorem dX7_layBest_125 : decode cX7_layBest 125 = .ok (.goto 22, 3) := by decide +kernel
theorem dX7_layBest_128 : decode cX7_layBest 128 = .ok (.aload_n 0, 1) := by decide +kernel
theorem dX7_layBest_129 : decode cX7_layBest 129 = .ok (.iload 9, 2) := by decide +kernel
theorem dX7_layBest_131 : decode cX7_layBest 131 = .ok (.iload_n 3, 1) := by decide +kernel
theorem dX7_layBest_132 : decode cX7_layBest 132 = .ok (.iconst 0, 1) := by decide +kernel
theorem dX7_layBest_133 : decode cX7_layBest 133 = .ok (.invokevirtual 193, 3) := by decide +kernel
theorem dX7_layBest_136 : decode cX7_layBest 136 = .ok (.aload_n 0, 1) := by decide +kernel
theorem dX7_layBest_137 : decode cX7_layBest 137 = .ok (.getfield 50, 3) := by decide +kernel
theorem dX7_layBest_140 : decode cX7_layBest 140 = .ok (.iload 8, 2) := by decide +kernel
theorem dX7_layBest_142 : decode cX7_layBest 142 = .ok (.bipush 17, 2) := by decide +kernel
theorem dX7_layBest_144 : decode cX7_layBest 144 = .ok (.iadd, 1) := by decide +kernel
theorem dX7_layBest_145 : decode cX7_layBest 145 = .ok (.iaload, 1) := by decide +kernel
theorem dX7_layBest_146 : decode cX7_layBest 146 = .ok (.iadd, 1) := by decide +kernel
theorem dX7_layBest_147 : decode cX7_layBest 147 = .ok (.istore 12, 2) := by decide +kernel
theorem dX7_layBest_149 : decode cX7_layBest 149 = .ok (.iload 11, 2) := by decide +kernel
theorem dX7_layBest_151 : decode cX7_layBest 151 = .ok (.ifCond .eq 24, 3) := by decide +kernel
theorem dX7_layBest_154 : decode cX7_layBest 154 = .ok (.aload_n 0, 1) := by decide +kernel
theorem dX7_layBest_155 : decode cX7_layBest 155 = .ok (.iload 10, 2) := by decide +kernel
theorem dX7_layBest_157 : decode cX7_layBest 157 = .ok (.iload_n 2, 1) := by decide +kernel
theorem dX7_layBest_158 : decode cX7_layBest 158 = .ok (.iconst 0, 1) := by decide +kernel
theorem dX7_layBest_159 : decode cX7_layBest 159 = .ok (.invokevirtual 193, 3) := by decide +kernel
theorem dX7_layBest_162 : decode cX7_layBest 162 = .ok (.aload_n 0, 1) := by decide +kernel
theorem dX7_layBest_163 : decode cX7_layBest 163 = .ok (.getfield 47, 3) := by decide +kernel
theorem dX7_layBest_166 : decode cX7_layBest 166 = .ok (.iload 8, 2) := by decide +kernel
theorem dX7_layBest_168 : decode cX7_layBest 168 = .ok (.iconst 1, 1) := by decide +kernel
theorem dX7_layBest_169 : decode cX7_layBest 169 = .ok (.iadd, 1) := by decide +kernel
theorem dX7_layBest_170 : decode cX7_layBest 170 = .ok (.iaload, 1) := by decide +kernel
theorem dX7_layBest_171 : decode cX7_layBest 171 = .ok (.iadd, 1) := by decide +kernel
theorem dX7_layBest_172 : decode cX7_layBest 172 = .ok (.goto 21, 3) := by decide +kernel
theorem dX7_layBest_175 : decode cX7_layBest 175 = .ok (.aload_n 0, 1) := by decide +kernel
theorem dX7_layBest_176 : decode cX7_layBest 176 = .ok (.iload 10, 2) := by decide +kernel
theorem dX7_layBest_178 : decode cX7_layBest 178 = .ok (.iload_n 3, 1) := by decide +kernel
theorem dX7_layBest_179 : decode cX7_layBest 179 = .ok (.iconst 0, 1) := by decide +kernel
theorem dX7_layBest_180 : decode cX7_layBest 180 = .ok (.invokevirtual 193, 3) := by decide +kernel
theorem dX7_layBest_183 : decode cX7_layBest 183 = .ok (.aload_n 0, 1) := by decide +kernel
theorem dX7_layBest_184 : decode cX7_layBest 184 = .ok (.getfield 50, 3) := by decide +kernel
theorem dX7_layBest_187 : decode cX7_layBest 187 = .ok (.iload 8, 2) := by decide +kernel
theorem dX7_layBest_189 : decode cX7_layBest 189 = .ok (.iconst 1, 1) := by decide +kernel
theorem dX7_layBest_190 : decode cX7_layBest 190 = .ok (.iadd, 1) := by decide +kernel
theorem dX7_layBest_191 : decode cX7_layBest 191 = .ok (.iaload, 1) := by decide +kernel
theorem dX7_layBest_192 : decode cX7_layBest 192 = .ok (.iadd, 1) := by decide +kernel
theorem dX7_layBest_193 : decode cX7_layBest 193 = .ok (.istore 13, 2) := by decide +kernel
theorem dX7_layBest_195 : decode cX7_layBest 195 = .ok (.iload 12, 2) := by decide +kernel
theorem dX7_layBest_197 : decode cX7_layBest 197 = .ok (.iload 13, 2) := by decide +kernel
theorem dX7_layBest_199 : decode cX7_layBest 199 = .ok (.if_icmp .lt 11, 3) := by decide +kernel
theorem dX7_layBest_202 : decode cX7_layBest 202 = .ok (.iload 8, 2) := by decide +kernel
theorem dX7_layBest_204 : decode cX7_layBest 204 = .ok (.bipush 17, 2) := by decide +kernel
theorem dX7_layBest_206 : decode cX7_layBest 206 = .ok (.iadd, 1) := by decide +kernel
theorem dX7_layBest_207 : decode cX7_layBest 207 = .ok (.goto 7, 3) := by decide +kernel
theorem dX7_layBest_210 : decode cX7_layBest 210 = .ok (.iload 8, 2) := by decide +kernel
theorem dX7_layBest_212 : decode cX7_layBest 212 = .ok (.iconst 1, 1) := by decide +kernel
theorem dX7_layBest_213 : decode cX7_layBest 213 = .ok (.iadd, 1) := by decide +kernel
theorem dX7_layBest_214 : decode cX7_layBest 214 = .ok (.istore 14, 2) := by decide +kernel
theorem dX7_layBest_216 : decode cX7_layBest 216 = .ok (.iload 12, 2) := by decide +kernel
theorem dX7_layBest_218 : decode cX7_layBest 218 = .ok (.iload 13, 2) := by decide +kernel
theorem dX7_layBest_220 : decode cX7_layBest 220 = .ok (.if_icmp .lt 8, 3) := by decide +kernel
theorem dX7_layBest_223 : decode cX7_layBest 223 = .ok (.iload 12, 2) := by decide +kernel
theorem dX7_layBest_225 : decode cX7_layBest 225 = .ok (.goto 5, 3) := by decide +kernel
theorem dX7_layBest_228 : decode cX7_layBest 228 = .ok (.iload 13, 2) := by decide +kernel
theorem dX7_layBest_230 : decode cX7_layBest 230 = .ok (.istore 15, 2) := by decide +kernel
theorem dX7_layBest_232 : decode cX7_layBest 232 = .ok (.aload_n 0, 1) := by decide +kernel
theorem dX7_layBest_233 : decode cX7_layBest 233 = .ok (.getfield 47, 3) := by decide +kernel
theorem dX7_layBest_236 : decode cX7_layBest 236 = .ok (.iload 8, 2) := by decide +kernel
theorem dX7_layBest_238 : decode cX7_layBest 238 = .ok (.iload 11, 2) := by decide +kernel
theorem dX7_layBest_240 : decode cX7_layBest 240 = .ok (.ifCond .eq 8, 3) := by decide +kernel
theorem dX7_layBest_243 : decode cX7_layBest 243 = .ok (.iload 15, 2) := by decide +kernel
theorem dX7_layBest_245 : decode cX7_layBest 245 = .ok (.goto 10, 3) := by decide +kernel
theorem dX7_layBest_248 : decode cX7_layBest 248 = .ok (.aload_n 0, 1) := by decide +kernel
theorem dX7_layBest_249 : decode cX7_layBest 249 = .ok (.getfield 47, 3) := by decide +kernel
theorem dX7_layBest_252 : decode cX7_layBest 252 = .ok (.iload 14, 2) := by decide +kernel
theorem dX7_layBest_254 : decode cX7_layBest 254 = .ok (.iaload, 1) := by decide +kernel
theorem dX7_layBest_255 : decode cX7_layBest 255 = .ok (.iastore, 1) := by decide +kernel
theorem dX7_layBest_256 : decode cX7_layBest 256 = .ok (.aload_n 0, 1) := by decide +kernel
theorem dX7_layBest_257 : decode cX7_layBest 257 = .ok (.getfield 50, 3) := by decide +kernel
theorem dX7_layBest_260 : decode cX7_layBest 260 = .ok (.iload 8, 2) := by decide +kernel
theorem dX7_layBest_262 : decode cX7_layBest 262 = .ok (.iload 11, 2) := by decide +kernel
theorem dX7_layBest_264 : decode cX7_layBest 264 = .ok (.ifCond .eq 13, 3) := by decide +kernel
theorem dX7_layBest_267 : decode cX7_layBest 267 = .ok (.aload_n 0, 1) := by decide +kernel
theorem dX7_layBest_268 : decode cX7_layBest 268 = .ok (.getfield 50, 3) := by decide +kernel
theorem dX7_layBest_271 : decode cX7_layBest 271 = .ok (.iload 14, 2) := by decide +kernel
theorem dX7_layBest_273 : decode cX7_layBest 273 = .ok (.iaload, 1) := by decide +kernel
theorem dX7_layBest_274 : decode cX7_layBest 274 = .ok (.goto 5, 3) := by decide +kernel
theorem dX7_layBest_277 : decode cX7_layBest 277 = .ok (.iload 15, 2) := by decide +kernel
theorem dX7_layBest_279 : decode cX7_layBest 279 = .ok (.iastore, 1) := by decide +kernel
theorem dX7_layBest_280 : decode cX7_layBest 280 = .ok (.iinc 6 1, 3) := by decide +kernel
theorem dX7_layBest_283 : decode cX7_layBest 283 = .ok (.goto (-272), 3) := by decide +kernel
theorem dX7_layBest_286 : decode cX7_layBest 286 = .ok (.iinc 5 (-1), 3) := by decide +kernel
theorem dX7_layBest_289 : decode cX7_layBest 289 = .ok (.goto (-286), 3) := by decide +kernel
theorem dX7_layBest_292 : decode cX7_layBest 292 = .ok (.return_, 1) := by decide +kernel
theorem dX7_layHeap_0 : decode cX7_layHeap 0 = .ok (.iconst 0, 1) := by decide +kernel
theorem dX7_layHeap_1 : decode cX7_layHeap 1 = .ok (.istore_n 1, 1) := by decide +kernel
theorem dX7_layHeap_2 : decode cX7_layHeap 2 = .ok (.iload_n 1, 1) := by decide +kernel
theorem dX7_layHeap_3 : decode cX7_layHeap 3 = .ok (.aload_n 0, 1) := by decide +kernel
theorem dX7_layHeap_4 : decode cX7_layHeap 4 = .ok (.getfield 28, 3) := by decide +kernel
theorem dX7_layHeap_7 : decode cX7_layHeap 7 = .ok (.iconst 5, 1) := by decide +kernel
theorem dX7_layHeap_8 : decode cX7_layHeap 8 = .ok (.iaload, 1) := by decide +kernel
theorem dX7_layHeap_9 : decode cX7_layHeap 9 = .ok (.if_icmp .ge 20, 3) := by decide +kernel
theorem dX7_layHeap_12 : decode cX7_layHeap 12 = .ok (.aload_n 0, 1) := by decide +kernel
theorem dX7_layHeap_13 : decode cX7_layHeap 13 = .ok (.getfield 44, 3) := by decide +kernel
theorem dX7_layHeap_16 : decode cX7_layHeap 16 = .ok (.iload_n 1, 1) := by decide +kernel
theorem dX7_layHeap_17 : decode cX7_layHeap 17 = .ok (.aload_n 0, 1) := by decide +kernel
theorem dX7_layHeap_18 : decode cX7_layHeap 18 = .ok (.iload_n 1, 1) := by decide +kernel
theorem dX7_layHeap_19 : decode cX7_layHeap 19 = .ok (.invokevirtual 189, 3) := by decide +kernel
theorem dX7_layHeap_22 : decode cX7_layHeap 22 = .ok (.iastore, 1) := by decide +kernel
theorem dX7_layHeap_23 : decode cX7_layHeap 23 = .ok (.iinc 1 1, 3) := by decide +kernel
theorem dX7_layHeap_26 : decode cX7_layHeap 26 = .ok (.goto (-24), 3) := by decide +kernel
theorem dX7_layHeap_29 : decode cX7_layHeap 29 = .ok (.return_, 1) := by decide +kernel
theorem dX7_best_0 : decode cX7_best 0 = .ok (.aload_n 0, 1) := by decide +kernel
theorem dX7_best_1 : decode cX7_best 1 = .ok (.iload_n 1, 1) := by decide +kernel
theorem dX7_best_2 : decode cX7_best 2 = .ok (.iload_n 2, 1) := by decide +kernel
theorem dX7_best_3 : decode cX7_best 3 = .ok (.invokevirtual 224, 3) := by decide +kernel
theorem dX7_best_6 : decode cX7_best 6 = .ok (.ifCond .eq 12, 3) := by decide +kernel
theorem dX7_best_9 : decode cX7_best 9 = .ok (.iload_n 3, 1) := by decide +kernel
theorem dX7_best_10 : decode cX7_best 10 = .ok (.iconst 0, 1) := by decide +kernel
theorem dX7_best_11 : decode cX7_best 11 = .ok (.iconst 2, 1) := by decide +kernel
theorem dX7_best_12 : decode cX7_best 12 = .ok (.invokestatic 67, 3) := by decide +kernel
theorem dX7_best_15 : decode cX7_best 15 = .ok (.ifCond .ne 6, 3) := by decide +kernel
theorem dX7_best_18 : decode cX7_best 18 = .ok (.ldc 75, 2) := by decide +kernel
theorem dX7_best_20 : decode cX7_best 20 = .ok (.ireturn, 1) := by decide +kernel
theorem dX7_best_21 : decode cX7_best 21 = .ok (.aload_n 0, 1) := by decide +kernel
theorem dX7_best_22 : decode cX7_best 22 = .ok (.getfield 28, 3) := by decide +kernel
theorem dX7_best_25 : decode cX7_best 25 = .ok (.iconst 5, 1) := by decide +kernel
theorem dX7_best_26 : decode cX7_best 26 = .ok (.iaload, 1) := by decide +kernel
theorem dX7_best_27 : decode cX7_best 27 = .ok (.istore 4, 2) := by decide +kernel
theorem dX7_best_29 : decode cX7_best 29 = .ok (.aload_n 0, 1) := by decide +kernel
theorem dX7_best_30 : decode cX7_best 30 = .ok (.invokevirtual 227, 3) := by decide +kernel
theorem dX7_best_33 : decode cX7_best 33 = .ok (.aload_n 0, 1) := by decide +kernel
theorem dX7_best_34 : decode cX7_best 34 = .ok (.iload 4, 2) := by decide +kernel
theorem dX7_best_36 : decode cX7_best 36 = .ok (.iload_n 1, 1) := by decide +kernel
theorem dX7_best_37 : decode cX7_best 37 = .ok (.iload_n 2, 1) := by decide +kernel
theorem dX7_best_38 : decode cX7_best 38 = .ok (.iconst 0, 1) := by decide +kernel
theorem dX7_best_39 : decode cX7_best 39 = .ok (.invokevirtual 230, 3) := by decide +kernel
theorem dX7_best_42 : decode cX7_best 42 = .ok (.iload_n 3, 1) := by decide +kernel
theorem dX7_best_43 : decode cX7_best 43 = .ok (.iconst 2, 1) := by decide +kernel
theorem dX7_best_44 : decode cX7_best 44 = .ok (.if_icmp .ge 23, 3) := by decide +kernel
theorem dX7_best_47 : decode cX7_best 47 = .ok (.iload_n 3, 1) := by decide +kernel
theorem dX7_best_48 : decode cX7_best 48 = .ok (.ifCond .ne 12, 3) := by decide +kernel
theorem dX7_best_51 : decode cX7_best 51 = .ok (.aload_n 0, 1) := by decide +kernel
theorem dX7_best_52 : decode cX7_best 52 = .ok (.getfield 47, 3) := by decide +kernel
theorem dX7_best_55 : decode cX7_best 55 = .ok (.iconst 0, 1) := by decide +kernel
theorem dX7_best_56 : decode cX7_best 56 = .ok (.iaload, 1) := by decide +kernel
theorem dX7_best_57 : decode cX7_best 57 = .ok (.goto 9, 3) := by decide +kernel
theorem dX7_best_60 : decode cX7_best 60 = .ok (.aload_n 0, 1) := by decide +kernel
theorem dX7_best_61 : decode cX7_best 61 = .ok (.getfield 50, 3) := by decide +kernel
theorem dX7_best_64 : decode cX7_best 64 = .ok (.iconst 0, 1) := by decide +kernel
theorem dX7_best_65 : decode cX7_best 65 = .ok (.iaload, 1) := by decide +kernel
theorem dX7_best_66 : decode cX7_best 66 = .ok (.ireturn, 1) := by decide +kernel
theorem dX7_best_67 : decode cX7_best 67 = .ok (.iload 4, 2) := by decide +kernel
theorem dX7_best_69 : decode cX7_best 69 = .ok (.ifCond .ne 8, 3) := by decide +kernel
theorem dX7_best_72 : decode cX7_best 72 = .ok (.ldc 172, 2) := by decide +kernel
theorem dX7_best_74 : decode cX7_best 74 = .ok (.goto 53, 3) := by decide +kernel
theorem dX7_best_77 : decode cX7_best 77 = .ok (.aload_n 0, 1) := by decide +kernel
theorem dX7_best_78 : decode cX7_best 78 = .ok (.aload_n 0, 1) := by decide +kernel
theorem dX7_best_79 : decode cX7_best 79 = .ok (.getfield 44, 3) := by decide +kernel
theorem dX7_best_82 : decode cX7_best 82 = .ok (.iconst 0, 1) := by decide +kernel
theorem dX7_best_83 : decode cX7_best 83 = .ok (.iaload, 1) := by decide +kernel
theorem dX7_best_84 : decode cX7_best 84 = .ok (.iload_n 1, 1) := by decide +kernel
theorem dX7_best_85 : decode cX7_best 85 = .ok (.iconst 0, 1) := by decide +kernel
theorem dX7_best_86 : decode cX7_best 86 = .ok (.invokevirtual 193, 3) := by decide +kernel
theorem dX7_best_89 : decode cX7_best 89 = .ok (.aload_n 0, 1) := by decide +kernel
theorem dX7_best_90 : decode cX7_best 90 = .ok (.getfield 47, 3) := by decide +kernel
theorem dX7_best_93 : decode cX7_best 93 = .ok (.bipush 17, 2) := by decide +kernel
theorem dX7_best_95 : decode cX7_best 95 = .ok (.iaload, 1) := by decide +kernel
theorem dX7_best_96 : decode cX7_best 96 = .ok (.iadd, 1) := by decide +kernel
theorem dX7_best_97 : decode cX7_best 97 = .ok (.aload_n 0, 1) := by decide +kernel
theorem dX7_best_98 : decode cX7_best 98 = .ok (.aload_n 0, 1) := by decide +kernel
theorem dX7_best_99 : decode cX7_best 99 = .ok (.getfield 44, 3) := by decide +kernel
theorem dX7_best_102 : decode cX7_best 102 = .ok (.iload 4, 2) := by decide +kernel
theorem dX7_best_104 : decode cX7_best 104 = .ok (.iconst 1, 1) := by decide +kernel
theorem dX7_best_105 : decode cX7_best 105 = .ok (.isub, 1) := by decide +kernel
theorem dX7_best_106 : decode cX7_best 106 = .ok (.iaload, 1) := by decide +kernel
theorem dX7_best_107 : decode cX7_best 107 = .ok (.iload_n 1, 1) := by decide +kernel
theorem dX7_best_108 : decode cX7_best 108 = .ok (.iconst 0, 1) := by decide +kernel
theorem dX7_best_109 : decode cX7_best 109 = .ok (.invokevirtual 193, 3) := by decide +kernel
theorem dX7_best_112 : decode cX7_best 112 = .ok (.aload_n 0, 1) := by decide +kernel
theorem dX7_best_113 : decode cX7_best 113 = .ok (.getfield 47, 3) := by decide +kernel
theorem dX7_best_116 : decode cX7_best 116 = .ok (.iconst 1, 1) := by decide +kernel
theorem dX7_best_117 : decode cX7_best 117 = .ok (.iaload, 1) := by decide +kernel
theorem dX7_best_118 : decode cX7_best 118 = .ok (.iadd, 1) := by decide +kernel
theorem dX7_best_119 : decode cX7_best 119 = .ok (.if_icmp .lt 7, 3) := by decide +kernel
theorem dX7_best_122 : decode cX7_best 122 = .ok (.iconst 0, 1) := by decide +kernel
theorem dX7_best_123 : decode cX7_best 123 = .ok (.goto 4, 3) := by decide +kernel
theorem dX7_best_126 : decode cX7_best 126 = .ok (.iconst 1, 1) := by decide +kernel
theorem dX7_best_127 : decode cX7_best 127 = .ok (.ireturn, 1) := by decide +kernel
theorem dX7_passBy_0 : decode cX7_passBy 0 = .ok (.aload_n 0, 1) := by decide +kernel
theorem dX7_passBy_1 : decode cX7_passBy 1 = .ok (.iload_n 1, 1) := by decide +kernel
theorem dX7_passBy_2 : decode cX7_passBy 2 = .ok (.iload_n 2, 1) := by decide +kernel
theorem dX7_passBy_3 : decode cX7_passBy 3 = .ok (.invokevirtual 224, 3) := by decide +kernel
theorem dX7_passBy_6 : decode cX7_passBy 6 = .ok (.ifCond .ne 6, 3) := by decide +kernel
theorem dX7_passBy_9 : decode cX7_passBy 9 = .ok (.ldc 75, 2) := by decide +kernel
theorem dX7_passBy_11 : decode cX7_passBy 11 = .ok (.ireturn, 1) := by decide +kernel
theorem dX7_passBy_12 : decode cX7_passBy 12 = .ok (.aload_n 0, 1) := by decide +kernel
theorem dX7_passBy_13 : decode cX7_passBy 13 = .ok (.getfield 28, 3) := by decide +kernel
theorem dX7_passBy_16 : decode cX7_passBy 16 = .ok (.iconst 5, 1) := by decide +kernel
theorem dX7_passBy_17 : decode cX7_passBy 17 = .ok (.iaload, 1) := by decide +kernel
theorem dX7_passBy_18 : decode cX7_passBy 18 = .ok (.istore_n 3, 1) := by decide +kernel
theorem dX7_passBy_19 : decode cX7_passBy 19 = .ok (.aload_n 0, 1) := by decide +kernel
theorem dX7_passBy_20 : decode cX7_passBy 20 = .ok (.invokevirtual 227, 3) := by decide +kernel
theorem dX7_passBy_23 : decode cX7_passBy 23 = .ok (.aload_n 0, 1) := by decide +kernel
theorem dX7_passBy_24 : decode cX7_passBy 24 = .ok (.iload_n 3, 1) := by decide +kernel
theorem dX7_passBy_25 : decode cX7_passBy 25 = .ok (.iload_n 1, 1) := by decide +kernel
theorem dX7_passBy_26 : decode cX7_passBy 26 = .ok (.iload_n 2, 1) := by decide +kernel
theorem dX7_passBy_27 : decode cX7_passBy 27 = .ok (.iconst 1, 1) := by decide +kernel
theorem dX7_passBy_28 : decode cX7_passBy 28 = .ok (.invokevirtual 230, 3) := by decide +kernel
theorem dX7_passBy_31 : decode cX7_passBy 31 = .ok (.iconst 0, 1) := by decide +kernel
theorem dX7_passBy_32 : decode cX7_passBy 32 = .ok (.istore 4, 2) := by decide +kernel
theorem dX7_passBy_34 : decode cX7_passBy 34 = .ok (.iload 4, 2) := by decide +kernel
theorem dX7_passBy_36 : decode cX7_passBy 36 = .ok (.sipush 289, 3) := by decide +kernel
theorem dX7_passBy_39 : decode cX7_passBy 39 = .ok (.if_icmp .ge 37, 3) := by decide +kernel
theorem dX7_passBy_42 : decode cX7_passBy 42 = .ok (.aload_n 0, 1) := by decide +kernel
theorem dX7_passBy_43 : decode cX7_passBy 43 = .ok (.getfield 53, 3) := by decide +kernel
theorem dX7_passBy_46 : decode cX7_passBy 46 = .ok (.iload 4, 2) := by decide +kernel
theorem dX7_passBy_48 : decode cX7_passBy 48 = .ok (.aload_n 0, 1) := by decide +kernel
theorem dX7_passBy_49 : decode cX7_passBy 49 = .ok (.getfield 47, 3) := by decide +kernel
theorem dX7_passBy_52 : decode cX7_passBy 52 = .ok (.iload 4, 2) := by decide +kernel
theorem dX7_passBy_54 : decode cX7_passBy 54 = .ok (.iaload, 1) := by decide +kernel
theorem dX7_passBy_55 : decode cX7_passBy 55 = .ok (.iastore, 1) := by decide +kernel
theorem dX7_passBy_56 : decode cX7_passBy 56 = .ok (.aload_n 0, 1) := by decide +kernel
theorem dX7_passBy_57 : decode cX7_passBy 57 = .ok (.getfield 56, 3) := by decide +kernel
theorem dX7_passBy_60 : decode cX7_passBy 60 = .ok (.iload 4, 2) := by decide +kernel
theorem dX7_passBy_62 : decode cX7_passBy 62 = .ok (.aload_n 0, 1) := by decide +kernel
theorem dX7_passBy_63 : decode cX7_passBy 63 = .ok (.getfield 50, 3) := by decide +kernel
theorem dX7_passBy_66 : decode cX7_passBy 66 = .ok (.iload 4, 2) := by decide +kernel
theorem dX7_passBy_68 : decode cX7_passBy 68 = .ok (.iaload, 1) := by decide +kernel
theorem dX7_passBy_69 : decode cX7_passBy 69 = .ok (.iastore, 1) := by decide +kernel
theorem dX7_passBy_70 : decode cX7_passBy 70 = .ok (.iinc 4 1, 3) := by decide +kernel
theorem dX7_passBy_73 : decode cX7_passBy 73 = .ok (.goto (-39), 3) := by decide +kernel
theorem dX7_passBy_76 : decode cX7_passBy 76 = .ok (.aload_n 0, 1) := by decide +kernel
theorem dX7_passBy_77 : decode cX7_passBy 77 = .ok (.iload_n 3, 1) := by decide +kernel
theorem dX7_passBy_78 : decode cX7_passBy 78 = .ok (.iload_n 1, 1) := by decide +kernel
theorem dX7_passBy_79 : decode cX7_passBy 79 = .ok (.iload_n 2, 1) := by decide +kernel
theorem dX7_passBy_80 : decode cX7_passBy 80 = .ok (.iconst 0, 1) := by decide +kernel
theorem dX7_passBy_81 : decode cX7_passBy 81 = .ok (.invokevirtual 230, 3) := by decide +kernel
theorem dX7_passBy_84 : decode cX7_passBy 84 = .ok (.aload_n 0, 1) := by decide +kernel
theorem dX7_passBy_85 : decode cX7_passBy 85 = .ok (.getfield 47, 3) := by decide +kernel
theorem dX7_passBy_88 : decode cX7_passBy 88 = .ok (.iconst 0, 1) := by decide +kernel
theorem dX7_passBy_89 : decode cX7_passBy 89 = .ok (.iaload, 1) := by decide +kernel
theorem dX7_passBy_90 : decode cX7_passBy 90 = .ok (.istore 4, 2) := by decide +kernel
theorem dX7_passBy_92 : decode cX7_passBy 92 = .ok (.iload_n 3, 1) := by decide +kernel
theorem dX7_passBy_93 : decode cX7_passBy 93 = .ok (.iconst 1, 1) := by decide +kernel
theorem dX7_passBy_94 : decode cX7_passBy 94 = .ok (.isub, 1) := by decide +kernel
theorem dX7_passBy_95 : decode cX7_passBy 95 = .ok (.istore 5, 2) := by decide +kernel
theorem dX7_passBy_97 : decode cX7_passBy 97 = .ok (.iload 5, 2) := by decide +kernel
theorem dX7_passBy_99 : decode cX7_passBy 99 = .ok (.ifCond .lt 320, 3) := by decide +kernel
theorem dX7_passBy_102 : decode cX7_passBy 102 = .ok (.iconst 0, 1) := by decide +kernel
theorem dX7_passBy_103 : decode cX7_passBy 103 = .ok (.istore 6, 2) := by decide +kernel
theorem dX7_passBy_105 : decode cX7_passBy 105 = .ok (.iload 6, 2) := by decide +kernel
theorem dX7_passBy_107 : decode cX7_passBy 107 = .ok (.iload 5, 2) := by decide +kernel
theorem dX7_passBy_109 : decode cX7_passBy 109 = .ok (.if_icmp .gt 304, 3) := by decide +kernel
theorem dX7_passBy_112 : decode cX7_passBy 112 = .ok (.bipush 17, 2) := by decide +kernel
theorem dX7_passBy_114 : decode cX7_passBy 114 = .ok (.iload 6, 2) := by decide +kernel
theorem dX7_passBy_116 : decode cX7_passBy 116 = .ok (.imul, 1) := by decide +kernel
theorem dX7_passBy_117 : decode cX7_passBy 117 = .ok (.iload 5, 2) := by decide +kernel
theorem dX7_passBy_119 : decode cX7_passBy 119 = .ok (.iadd, 1) := by decide +kernel
theorem dX7_passBy_120 : decode cX7_passBy 120 = .ok (.iload 6, 2) := by decide +kernel
theorem dX7_passBy_122 : decode cX7_passBy 122 = .ok (.isub, 1) := by decide +kernel
theorem dX7_passBy_123 : decode cX7_passBy 123 = .ok (.istore 7, 2) := by decide +kernel
theorem dX7_passBy_125 : decode cX7_passBy 125 = .ok (.aload_n 0, 1) := by decide +kernel
theorem dX7_passBy_126 : decode cX7_passBy 126 = .ok (.getfield 44, 3) := by decide +kernel
theorem dX7_passBy_129 : decode cX7_passBy 129 = .ok (.iload 6, 2) := by decide +kernel
theorem dX7_passBy_131 : decode cX7_passBy 131 = .ok (.iaload, 1) := by decide +kernel
theorem dX7_passBy_132 : decode cX7_passBy 132 = .ok (.istore 8, 2) := by decide +kernel
theorem dX7_passBy_134 : decode cX7_passBy 134 = .ok (.aload_n 0, 1) := by decide +kernel
theorem dX7_passBy_135 : decode cX7_passBy 135 = .ok (.getfield 44, 3) := by decide +kernel
theorem dX7_passBy_138 : decode cX7_passBy 138 = .ok (.iload_n 3, 1) := by decide +kernel
theorem dX7_passBy_139 : decode cX7_passBy 139 = .ok (.iconst 1, 1) := by decide +kernel
theorem dX7_passBy_140 : decode cX7_passBy 140 = .ok (.isub, 1) := by decide +kernel
theorem dX7_passBy_141 : decode cX7_passBy 141 = .ok (.iload 5, 2) := by decide +kernel
theorem dX7_passBy_143 : decode cX7_passBy 143 = .ok (.isub, 1) := by decide +kernel
theorem dX7_passBy_144 : decode cX7_passBy 144 = .ok (.iload 6, 2) := by decide +kernel
theorem dX7_passBy_146 : decode cX7_passBy 146 = .ok (.iadd, 1) := by decide +kernel
theorem dX7_passBy_147 : decode cX7_passBy 147 = .ok (.iaload, 1) := by decide +kernel
theorem dX7_passBy_148 : decode cX7_passBy 148 = .ok (.istore 9, 2) := by decide +kernel
theorem dX7_passBy_150 : decode cX7_passBy 150 = .ok (.aload_n 0, 1) := by decide +kernel
theorem dX7_passBy_151 : decode cX7_passBy 151 = .ok (.iload 5, 2) := by decide +kernel
theorem dX7_passBy_153 : decode cX7_passBy 153 = .ok (.invokevirtual 221, 3) := by decide +kernel
theorem dX7_passBy_156 : decode cX7_passBy 156 = .ok (.ifCond .ne 7, 3) := by decide +kernel
theorem dX7_passBy_159 : decode cX7_passBy 159 = .ok (.iconst 1, 1) := by decide +kernel
theorem dX7_passBy_160 : decode cX7_passBy 160 = .ok (.goto 4, 3) := by decide +kernel
theorem dX7_passBy_163 : decode cX7_passBy 163 = .ok (.iconst 0, 1) := by decide +kernel
theorem dX7_passBy_164 : decode cX7_passBy 164 = .ok (.istore 10, 2) := by decide +kernel
theorem dX7_passBy_166 : decode cX7_passBy 166 = .ok (.iload 10, 2) := by decide +kernel
theorem dX7_passBy_168 : decode cX7_passBy 168 = .ok (.ifCond .eq 25, 3) := by decide +kernel
theorem dX7_passBy_171 : decode cX7_passBy 171 = .ok (.aload_n 0, 1) := by decide +kernel
theorem dX7_passBy_172 : decode cX7_passBy 172 = .ok (.iload 8, 2) := by decide +kernel
theorem dX7_passBy_174 : decode cX7_passBy 174 = .ok (.iload_n 1, 1) := by decide +kernel
theorem dX7_passBy_175 : decode cX7_passBy 175 = .ok (.iconst 0, 1) := by decide +kernel
theorem dX7_passBy_176 : decode cX7_passBy 176 = .ok (.invokevirtual 193, 3) := by decide +kernel
theorem dX7_passBy_179 : decode cX7_passBy 179 = .ok (.aload_n 0, 1) := by decide +kernel
theorem dX7_passBy_180 : decode cX7_passBy 180 = .ok (.getfield 47, 3) := by decide +kernel
theorem dX7_passBy_183 : decode cX7_passBy 183 = .ok (.iload 7, 2) := by decide +kernel
theorem dX7_passBy_185 : decode cX7_passBy 185 = .ok (.bipush 17, 2) := by decide +kernel
theorem dX7_passBy_187 : decode cX7_passBy 187 = .ok (.iadd, 1) := by decide +kernel
theorem dX7_passBy_188 : decode cX7_passBy 188 = .ok (.iaload, 1) := by decide +kernel
theorem dX7_passBy_189 : decode cX7_passBy 189 = .ok (.iadd, 1) := by decide +kernel
theorem dX7_passBy_190 : decode cX7_passBy 190 = .ok (.goto 22, 3) := by decide +kernel
theorem dX7_passBy_193 : decode cX7_passBy 193 = .ok (.aload_n 0, 1) := by decide +kernel
theorem dX7_passBy_194 : decode cX7_passBy 194 = .ok (.iload 8, 2) := by decide +kernel
theorem dX7_passBy_196 : decode cX7_passBy 196 = .ok (.iload_n 2, 1) := by decide +kernel
theorem dX7_passBy_197 : decode cX7_passBy 197 = .ok (.iconst 0, 1) := by decide +kernel
theorem dX7_passBy_198 : decode cX7_passBy 198 = .ok (.invokevirtual 193, 3) := by decide +kernel
theorem dX7_passBy_201 : decode cX7_passBy 201 = .ok (.aload_n 0, 1) := by decide +kernel
theorem dX7_passBy_202 : decode cX7_passBy 202 = .ok (.getfield 50, 3) := by decide +kernel
theorem dX7_passBy_205 : decode cX7_passBy 205 = .ok (.iload 7, 2) := by decide +kernel
theorem dX7_passBy_207 : decode cX7_passBy 207 = .ok (.bipush 17, 2) := by decide +kernel
theorem dX7_passBy_209 : decode cX7_passBy 209 = .ok (.iadd, 1) := by decide +kernel
theorem dX7_passBy_210 : decode cX7_passBy 210 = .ok (.iaload, 1) := by decide +kernel
theorem dX7_passBy_211 : decode cX7_passBy 211 = .ok (.iadd, 1) := by decide +kernel
theorem dX7_passBy_212 : decode cX7_passBy 212 = .ok (.istore 11, 2) := by decide +kernel
theorem dX7_passBy_214 : decode cX7_passBy 214 = .ok (.iload 10, 2) := by decide +kernel
theorem dX7_passBy_216 : decode cX7_passBy 216 = .ok (.ifCond .eq 24, 3) := by decide +kernel
theorem dX7_passBy_219 : decode cX7_passBy 219 = .ok (.aload_n 0, 1) := by decide +kernel
theorem dX7_passBy_220 : decode cX7_passBy 220 = .ok (.iload 9, 2) := by decide +kernel
theorem dX7_passBy_222 : decode cX7_passBy 222 = .ok (.iload_n 1, 1) := by decide +kernel
theorem dX7_passBy_223 : decode cX7_passBy 223 = .ok (.iconst 0, 1) := by decide +kernel
theorem dX7_passBy_224 : decode cX7_passBy 224 = .ok (.invokevirtual 193, 3) := by decide +kernel
theorem dX7_passBy_227 : decode cX7_passBy 227 = .ok (.aload_n 0, 1) := by decide +kernel
theorem dX7_passBy_228 : decode cX7_passBy 228 = .ok (.getfield 47, 3) := by decide +kernel
theorem dX7_passBy_231 : decode cX7_passBy 231 = .ok (.iload 7, 2) := by decide +kernel
theorem dX7_passBy_233 : decode cX7_passBy 233 = .ok (.iconst 1, 1) := by decide +kernel
theorem dX7_passBy_234 : decode cX7_passBy 234 = .ok (.iadd, 1) := by decide +kernel
theorem dX7_passBy_235 : decode cX7_passBy 235 = .ok (.iaload, 1) := by decide +kernel
theorem dX7_passBy_236 : decode cX7_passBy 236 = .ok (.iadd, 1) := by decide +kernel
theorem dX7_passBy_237 : decode cX7_passBy 237 = .ok (.goto 21, 3) := by decide +kernel
theorem dX7_passBy_240 : decode cX7_passBy 240 = .ok (.aload_n 0, 1) := by decide +kernel
theorem dX7_passBy_241 : decode cX7_passBy 241 = .ok (.iload 9, 2) := by decide +kernel
theorem dX7_passBy_243 : decode cX7_passBy 243 = .ok (.iload_n 2, 1) := by decide +kernel
theorem dX7_passBy_244 : decode cX7_passBy 244 = .ok (.iconst 0, 1) := by decide +kernel
theorem dX7_passBy_245 : decode cX7_passBy 245 = .ok (.invokevirtual 193, 3) := by decide +kernel
theorem dX7_passBy_248 : decode cX7_passBy 248 = .ok (.aload_n 0, 1) := by decide +kernel
theorem dX7_passBy_249 : decode cX7_passBy 249 = .ok (.getfield 50, 3) := by decide +kernel
theorem dX7_passBy_252 : decode cX7_passBy 252 = .ok (.iload 7, 2) := by decide +kernel
theorem dX7_passBy_254 : decode cX7_passBy 254 = .ok (.iconst 1, 1) := by decide +kernel
theorem dX7_passBy_255 : decode cX7_passBy 255 = .ok (.iadd, 1) := by decide +kernel
theorem dX7_passBy_256 : decode cX7_passBy 256 = .ok (.iaload, 1) := by decide +kernel
theorem dX7_passBy_257 : decode cX7_passBy 257 = .ok (.iadd, 1) := by decide +kernel
theorem dX7_passBy_258 : decode cX7_passBy 258 = .ok (.istore 12, 2) := by decide +kernel
theorem dX7_passBy_260 : decode cX7_passBy 260 = .ok (.iload 11, 2) := by decide +kernel
theorem dX7_passBy_262 : decode cX7_passBy 262 = .ok (.iload 12, 2) := by decide +kernel
theorem dX7_passBy_264 : decode cX7_passBy 264 = .ok (.if_icmp .lt 11, 3) := by decide +kernel
theorem dX7_passBy_267 : decode cX7_passBy 267 = .ok (.iload 7, 2) := by decide +kernel
theorem dX7_passBy_269 : decode cX7_passBy 269 = .ok (.bipush 17, 2) := by decide +kernel
theorem dX7_passBy_271 : decode cX7_passBy 271 = .ok (.iadd, 1) := by decide +kernel
theorem dX7_passBy_272 : decode cX7_passBy 272 = .ok (.goto 7, 3) := by decide +kernel
theorem dX7_passBy_275 : decode cX7_passBy 275 = .ok (.iload 7, 2) := by decide +kernel
theorem dX7_passBy_277 : decode cX7_passBy 277 = .ok (.iconst 1, 1) := by decide +kernel
theorem dX7_passBy_278 : decode cX7_passBy 278 = .ok (.iadd, 1) := by decide +kernel
theorem dX7_passBy_279 : decode cX7_passBy 279 = .ok (.istore 13, 2) := by decide +kernel
theorem dX7_passBy_281 : decode cX7_passBy 281 = .ok (.iload 11, 2) := by decide +kernel
theorem dX7_passBy_283 : decode cX7_passBy 283 = .ok (.iload 12, 2) := by decide +kernel
theorem dX7_passBy_285 : decode cX7_passBy 285 = .ok (.if_icmp .lt 8, 3) := by decide +kernel
theorem dX7_passBy_288 : decode cX7_passBy 288 = .ok (.iload 11, 2) := by decide +kernel
theorem dX7_passBy_290 : decode cX7_passBy 290 = .ok (.goto 5, 3) := by decide +kernel
theorem dX7_passBy_293 : decode cX7_passBy 293 = .ok (.iload 12, 2) := by decide +kernel
theorem dX7_passBy_295 : decode cX7_passBy 295 = .ok (.istore 14, 2) := by decide +kernel
theorem dX7_passBy_297 : decode cX7_passBy 297 = .ok (.iload 10, 2) := by decide +kernel
theorem dX7_passBy_299 : decode cX7_passBy 299 = .ok (.ifCond .eq 19, 3) := by decide +kernel
theorem dX7_passBy_302 : decode cX7_passBy 302 = .ok (.aload_n 0, 1) := by decide +kernel
theorem dX7_passBy_303 : decode cX7_passBy 303 = .ok (.getfield 53, 3) := by decide +kernel
theorem dX7_passBy_306 : decode cX7_passBy 306 = .ok (.iload 7, 2) := by decide +kernel
theorem dX7_passBy_308 : decode cX7_passBy 308 = .ok (.iaload, 1) := by decide +kernel
theorem dX7_passBy_309 : decode cX7_passBy 309 = .ok (.iload 14, 2) := by decide +kernel
theorem dX7_passBy_311 : decode cX7_passBy 311 = .ok (.if_icmp .le 7, 3) := by decide +kernel
theorem dX7_passBy_314 : decode cX7_passBy 314 = .ok (.iconst 1, 1) := by decide +kernel
theorem dX7_passBy_315 : decode cX7_passBy 315 = .ok (.goto 4, 3) := by decide +kernel
theorem dX7_passBy_318 : decode cX7_passBy 318 = .ok (.iconst 0, 1) := by decide +kernel
theorem dX7_passBy_319 : decode cX7_passBy 319 = .ok (.istore 15, 2) := by decide +kernel
theorem dX7_passBy_321 : decode cX7_passBy 321 = .ok (.iload 15, 2) := by decide +kernel
theorem dX7_passBy_323 : decode cX7_passBy 323 = .ok (.ifCond .eq 13, 3) := by decide +kernel
theorem dX7_passBy_326 : decode cX7_passBy 326 = .ok (.aload_n 0, 1) := by decide +kernel
theorem dX7_passBy_327 : decode cX7_passBy 327 = .ok (.getfield 53, 3) := by decide +kernel
theorem dX7_passBy_330 : decode cX7_passBy 330 = .ok (.iload 7, 2) := by decide +kernel
theorem dX7_passBy_332 : decode cX7_passBy 332 = .ok (.iaload, 1) := by decide +kernel
theorem dX7_passBy_333 : decode cX7_passBy 333 = .ok (.goto 20, 3) := by decide +kernel
theorem dX7_passBy_336 : decode cX7_passBy 336 = .ok (.iload 10, 2) := by decide +kernel
theorem dX7_passBy_338 : decode cX7_passBy 338 = .ok (.ifCond .eq 8, 3) := by decide +kernel
theorem dX7_passBy_341 : decode cX7_passBy 341 = .ok (.iload 14, 2) := by decide +kernel
theorem dX7_passBy_343 : decode cX7_passBy 343 = .ok (.goto 10, 3) := by decide +kernel
theorem dX7_passBy_346 : decode cX7_passBy 346 = .ok (.aload_n 0, 1) := by decide +kernel
theorem dX7_passBy_347 : decode cX7_passBy 347 = .ok (.getfield 47, 3) := by decide +kernel
theorem dX7_passBy_350 : decode cX7_passBy 350 = .ok (.iload 13, 2) := by decide +kernel
theorem dX7_passBy_352 : decode cX7_passBy 352 = .ok (.iaload, 1) := by decide +kernel
theorem dX7_passBy_353 : decode cX7_passBy 353 = .ok (.istore 16, 2) := by decide +kernel
theorem dX7_passBy_355 : decode cX7_passBy 355 = .ok (.iload 15, 2) := by decide +kernel
theorem dX7_passBy_357 : decode cX7_passBy 357 = .ok (.ifCond .eq 13, 3) := by decide +kernel
theorem dX7_passBy_360 : decode cX7_passBy 360 = .ok (.aload_n 0, 1) := by decide +kernel
theorem dX7_passBy_361 : decode cX7_passBy 361 = .ok (.getfield 56, 3) := by decide +kernel
theorem dX7_passBy_364 : decode cX7_passBy 364 = .ok (.iload 7, 2) := by decide +kernel
theorem dX7_passBy_366 : decode cX7_passBy 366 = .ok (.iaload, 1) := by decide +kernel
theorem dX7_passBy_367 : decode cX7_passBy 367 = .ok (.goto 20, 3) := by decide +kernel
theorem dX7_passBy_370 : decode cX7_passBy 370 = .ok (.iload 10, 2) := by decide +kernel
theorem dX7_passBy_372 : decode cX7_passBy 372 = .ok (.ifCond .eq 13, 3) := by decide +kernel
theorem dX7_passBy_375 : decode cX7_passBy 375 = .ok (.aload_n 0, 1) := by decide +kernel
theorem dX7_passBy_376 : decode cX7_passBy 376 = .ok (.getfield 50, 3) := by decide +kernel
theorem dX7_passBy_379 : decode cX7_passBy 379 = .ok (.iload 13, 2) := by decide +kernel
theorem dX7_passBy_381 : decode cX7_passBy 381 = .ok (.iaload, 1) := by decide +kernel
theorem dX7_passBy_382 : decode cX7_passBy 382 = .ok (.goto 5, 3) := by decide +kernel
theorem dX7_passBy_385 : decode cX7_passBy 385 = .ok (.iload 14, 2) := by decide +kernel
theorem dX7_passBy_387 : decode cX7_passBy 387 = .ok (.istore 17, 2) := by decide +kernel
theorem dX7_passBy_389 : decode cX7_passBy 389 = .ok (.aload_n 0, 1) := by decide +kernel
theorem dX7_passBy_390 : decode cX7_passBy 390 = .ok (.getfield 47, 3) := by decide +kernel
theorem dX7_passBy_393 : decode cX7_passBy 393 = .ok (.iload 7, 2) := by decide +kernel
theorem dX7_passBy_395 : decode cX7_passBy 395 = .ok (.iload 16, 2) := by decide +kernel
theorem dX7_passBy_397 : decode cX7_passBy 397 = .ok (.iastore, 1) := by decide +kernel
theorem dX7_passBy_398 : decode cX7_passBy 398 = .ok (.aload_n 0, 1) := by decide +kernel
theorem dX7_passBy_399 : decode cX7_passBy 399 = .ok (.getfield 50, 3) := by decide +kernel
theorem dX7_passBy_402 : decode cX7_passBy 402 = .ok (.iload 7, 2) := by decide +kernel
theorem dX7_passBy_404 : decode cX7_passBy 404 = .ok (.iload 17, 2) := by decide +kernel
theorem dX7_passBy_406 : decode cX7_passBy 406 = .ok (.iastore, 1) := by decide +kernel
theorem dX7_passBy_407 : decode cX7_passBy 407 = .ok (.iinc 6 1, 3) := by decide +kernel
theorem dX7_passBy_410 : decode cX7_passBy 410 = .ok (.goto (-305), 3) := by decide +kernel
theorem dX7_passBy_413 : decode cX7_passBy 413 = .ok (.iinc 5 (-1), 3) := by decide +kernel
theorem dX7_passBy_416 : decode cX7_passBy 416 = .ok (.goto (-319), 3) := by decide +kernel
theorem dX7_passBy_419 : decode cX7_passBy 419 = .ok (.aload_n 0, 1) := by decide +kernel
theorem dX7_passBy_420 : decode cX7_passBy 420 = .ok (.getfield 47, 3) := by decide +kernel
theorem dX7_passBy_423 : decode cX7_passBy 423 = .ok (.iconst 0, 1) := by decide +kernel
theorem dX7_passBy_424 : decode cX7_passBy 424 = .ok (.iaload, 1) := by decide +kernel
theorem dX7_passBy_425 : decode cX7_passBy 425 = .ok (.iload 4, 2) := by decide +kernel
theorem dX7_passBy_427 : decode cX7_passBy 427 = .ok (.if_icmp .le 15, 3) := by decide +kernel
theorem dX7_passBy_430 : decode cX7_passBy 430 = .ok (.aload_n 0, 1) := by decide +kernel
theorem dX7_passBy_431 : decode cX7_passBy 431 = .ok (.getfield 47, 3) := by decide +kernel
theorem dX7_passBy_434 : decode cX7_passBy 434 = .ok (.iconst 0, 1) := by decide +kernel
theorem dX7_passBy_435 : decode cX7_passBy 435 = .ok (.iaload, 1) := by decide +kernel
theorem dX7_passBy_436 : decode cX7_passBy 436 = .ok (.iload 4, 2) := by decide +kernel
theorem dX7_passBy_438 : decode cX7_passBy 438 = .ok (.isub, 1) := by decide +kernel
theorem dX7_passBy_439 : decode cX7_passBy 439 = .ok (.goto 4, 3) := by decide +kernel
theorem dX7_passBy_442 : decode cX7_passBy 442 = .ok (.iconst 0, 1) := by decide +kernel
theorem dX7_passBy_443 : decode cX7_passBy 443 = .ok (.ireturn, 1) := by decide +kernel
theorem dX7_mostLaid_0 : decode cX7_mostLaid 0 = .ok (.aload_n 0, 1) := by decide +kernel
theorem dX7_mostLaid_1 : decode cX7_mostLaid 1 = .ok (.getfield 28, 3) := by decide +kernel
theorem dX7_mostLaid_4 : decode cX7_mostLaid 4 = .ok (.iconst 5, 1) := by decide +kernel
theorem dX7_mostLaid_5 : decode cX7_mostLaid 5 = .ok (.iaload, 1) := by decide +kernel
theorem dX7_mostLaid_6 : decode cX7_mostLaid 6 = .ok (.istore 4, 2) := by decide +kernel
theorem dX7_mostLaid_8 : decode cX7_mostLaid 8 = .ok (.iconst 1, 1) := by decide +kernel
theorem dX7_mostLaid_9 : decode cX7_mostLaid 9 = .ok (.istore 5, 2) := by decide +kernel
theorem dX7_mostLaid_11 : decode cX7_mostLaid 11 = .ok (.iconst 0, 1) := by decide +kernel
theorem dX7_mostLaid_12 : decode cX7_mostLaid 12 = .ok (.istore 6, 2) := by decide +kernel
theorem dX7_mostLaid_14 : decode cX7_mostLaid 14 = .ok (.iload 6, 2) := by decide +kernel
theorem dX7_mostLaid_16 : decode cX7_mostLaid 16 = .ok (.iload 4, 2) := by decide +kernel
theorem dX7_mostLaid_18 : decode cX7_mostLaid 18 = .ok (.if_icmp .ge 16, 3) := by decide +kernel
theorem dX7_mostLaid_21 : decode cX7_mostLaid 21 = .ok (.iload 5, 2) := by decide +kernel
theorem dX7_mostLaid_23 : decode cX7_mostLaid 23 = .ok (.iload 4, 2) := by decide +kernel
theorem dX7_mostLaid_25 : decode cX7_mostLaid 25 = .ok (.imul, 1) := by decide +kernel
theorem dX7_mostLaid_26 : decode cX7_mostLaid 26 = .ok (.istore 5, 2) := by decide +kernel
theorem dX7_mostLaid_28 : decode cX7_mostLaid 28 = .ok (.iinc 6 1, 3) := by decide +kernel
theorem dX7_mostLaid_31 : decode cX7_mostLaid 31 = .ok (.goto (-17), 3) := by decide +kernel
theorem dX7_mostLaid_34 : decode cX7_mostLaid 34 = .ok (.aload_n 0, 1) := by decide +kernel
theorem dX7_mostLaid_35 : decode cX7_mostLaid 35 = .ok (.getfield 59, 3) := by decide +kernel
theorem dX7_mostLaid_38 : decode cX7_mostLaid 38 = .ok (.astore 6, 2) := by decide +kernel
theorem dX7_mostLaid_40 : decode cX7_mostLaid 40 = .ok (.iconst 0, 1) := by decide +kernel
theorem dX7_mostLaid_41 : decode cX7_mostLaid 41 = .ok (.istore 7, 2) := by decide +kernel
theorem dX7_mostLaid_43 : decode cX7_mostLaid 43 = .ok (.iconst 0, 1) := by decide +kernel
theorem dX7_mostLaid_44 : decode cX7_mostLaid 44 = .ok (.istore 8, 2) := by decide +kernel
theorem dX7_mostLaid_46 : decode cX7_mostLaid 46 = .ok (.iload 8, 2) := by decide +kernel
theorem dX7_mostLaid_48 : decode cX7_mostLaid 48 = .ok (.aload_n 0, 1) := by decide +kernel
theorem dX7_mostLaid_49 : decode cX7_mostLaid 49 = .ok (.getfield 28, 3) := by decide +kernel
theorem dX7_mostLaid_52 : decode cX7_mostLaid 52 = .ok (.iconst 3, 1) := by decide +kernel
theorem dX7_mostLaid_53 : decode cX7_mostLaid 53 = .ok (.iaload, 1) := by decide +kernel
theorem dX7_mostLaid_54 : decode cX7_mostLaid 54 = .ok (.if_icmp .ge 30, 3) := by decide +kernel
theorem dX7_mostLaid_57 : decode cX7_mostLaid 57 = .ok (.aload_n 0, 1) := by decide +kernel
theorem dX7_mostLaid_58 : decode cX7_mostLaid 58 = .ok (.iload 8, 2) := by decide +kernel
theorem dX7_mostLaid_60 : decode cX7_mostLaid 60 = .ok (.invokevirtual 218, 3) := by decide +kernel
theorem dX7_mostLaid_63 : decode cX7_mostLaid 63 = .ok (.ldc 172, 2) := by decide +kernel
theorem dX7_mostLaid_65 : decode cX7_mostLaid 65 = .ok (.if_icmp .eq 13, 3) := by decide +kernel
theorem dX7_mostLaid_68 : decode cX7_mostLaid 68 = .ok (.aload 6, 2) := by decide +kernel
theorem dX7_mostLaid_70 : decode cX7_mostLaid 70 = .ok (.iload 7, 2) := by decide +kernel
theorem dX7_mostLaid_72 : decode cX7_mostLaid 72 = .ok (.iload 8, 2) := by decide +kernel
theorem dX7_mostLaid_74 : decode cX7_mostLaid 74 = .ok (.iastore, 1) := by decide +kernel
theorem dX7_mostLaid_75 : decode cX7_mostLaid 75 = .ok (.iinc 7 1, 3) := by decide +kernel
theorem dX7_mostLaid_78 : decode cX7_mostLaid 78 = .ok (.iinc 8 1, 3) := by decide +kernel
theorem dX7_mostLaid_81 : decode cX7_mostLaid 81 = .ok (.goto (-35), 3) := by decide +kernel
theorem dX7_mostLaid_84 : decode cX7_mostLaid 84 = .ok (.iconst (-1), 1) := by decide +kernel
theorem dX7_mostLaid_85 : decode cX7_mostLaid 85 = .ok (.istore 8, 2) := by decide +kernel
theorem dX7_mostLaid_87 : decode cX7_mostLaid 87 = .ok (.ldc 172, 2) := by decide +kernel
theorem dX7_mostLaid_89 : decode cX7_mostLaid 89 = .ok (.istore 9, 2) := by decide +kernel
theorem dX7_mostLaid_91 : decode cX7_mostLaid 91 = .ok (.iconst 0, 1) := by decide +kernel
theorem dX7_mostLaid_92 : decode cX7_mostLaid 92 = .ok (.istore 10, 2) := by decide +kernel
theorem dX7_mostLaid_94 : decode cX7_mostLaid 94 = .ok (.iload 10, 2) := by decide +kernel
theorem dX7_mostLaid_96 : decode cX7_mostLaid 96 = .ok (.iload 5, 2) := by decide +kernel
theorem dX7_mostLaid_98 : decode cX7_mostLaid 98 = .ok (.if_icmp .ge 131, 3) := by decide +kernel
theorem dX7_mostLaid_101 : decode cX7_mostLaid 101 = .ok (.iload 10, 2) := by decide +kernel
theorem dX7_mostLaid_103 : decode cX7_mostLaid 103 = .ok (.istore 11, 2) := by decide +kernel
theorem dX7_mostLaid_105 : decode cX7_mostLaid 105 = .ok (.iconst 0, 1) := by decide +kernel
theorem dX7_mostLaid_106 : decode cX7_mostLaid 106 = .ok (.istore 12, 2) := by decide +kernel
theorem dX7_mostLaid_108 : decode cX7_mostLaid 108 = .ok (.iload 4, 2) := by decide +kernel
theorem dX7_mostLaid_110 : decode cX7_mostLaid 110 = .ok (.iconst 1, 1) := by decide +kernel
theorem dX7_mostLaid_111 : decode cX7_mostLaid 111 = .ok (.isub, 1) := by decide +kernel
theorem dX7_mostLaid_112 : decode cX7_mostLaid 112 = .ok (.istore 13, 2) := by decide +kernel
theorem dX7_mostLaid_114 : decode cX7_mostLaid 114 = .ok (.iload 13, 2) := by decide +kernel
theorem dX7_mostLaid_116 : decode cX7_mostLaid 116 = .ok (.ifCond .lt 43, 3) := by decide +kernel
theorem dX7_mostLaid_119 : decode cX7_mostLaid 119 = .ok (.aload_n 0, 1) := by decide +kernel
theorem dX7_mostLaid_120 : decode cX7_mostLaid 120 = .ok (.getfield 44, 3) := by decide +kernel
theorem dX7_mostLaid_123 : decode cX7_mostLaid 123 = .ok (.iload 13, 2) := by decide +kernel
theorem dX7_mostLaid_125 : decode cX7_mostLaid 125 = .ok (.aload 6, 2) := by decide +kernel
theorem dX7_mostLaid_127 : decode cX7_mostLaid 127 = .ok (.iload 11, 2) := by decide +kernel
theorem dX7_mostLaid_129 : decode cX7_mostLaid 129 = .ok (.iload 4, 2) := by decide +kernel
theorem dX7_mostLaid_131 : decode cX7_mostLaid 131 = .ok (.irem, 1) := by decide +kernel
theorem dX7_mostLaid_132 : decode cX7_mostLaid 132 = .ok (.iaload, 1) := by decide +kernel
theorem dX7_mostLaid_133 : decode cX7_mostLaid 133 = .ok (.iastore, 1) := by decide +kernel
theorem dX7_mostLaid_134 : decode cX7_mostLaid 134 = .ok (.iload 12, 2) := by decide +kernel
theorem dX7_mostLaid_136 : decode cX7_mostLaid 136 = .ok (.iconst 1, 1) := by decide +kernel
theorem dX7_mostLaid_137 : decode cX7_mostLaid 137 = .ok (.iload 11, 2) := by decide +kernel
theorem dX7_mostLaid_139 : decode cX7_mostLaid 139 = .ok (.iload 4, 2) := by decide +kernel
theorem dX7_mostLaid_141 : decode cX7_mostLaid 141 = .ok (.irem, 1) := by decide +kernel
theorem dX7_mostLaid_142 : decode cX7_mostLaid 142 = .ok (.ishl, 1) := by decide +kernel
theorem dX7_mostLaid_143 : decode cX7_mostLaid 143 = .ok (.ior, 1) := by decide +kernel
theorem dX7_mostLaid_144 : decode cX7_mostLaid 144 = .ok (.istore 12, 2) := by decide +kernel
theorem dX7_mostLaid_146 : decode cX7_mostLaid 146 = .ok (.iload 11, 2) := by decide +kernel
theorem dX7_mostLaid_148 : decode cX7_mostLaid 148 = .ok (.iload 4, 2) := by decide +kernel
theorem dX7_mostLaid_150 : decode cX7_mostLaid 150 = .ok (.idiv, 1) := by decide +kernel
theorem dX7_mostLaid_151 : decode cX7_mostLaid 151 = .ok (.istore 11, 2) := by decide +kernel
theorem dX7_mostLaid_153 : decode cX7_mostLaid 153 = .ok (.iinc 13 (-1), 3) := by decide +kernel
theorem dX7_mostLaid_156 : decode cX7_mostLaid 156 = .ok (.goto (-42), 3) := by decide +kernel
theorem dX7_mostLaid_159 : decode cX7_mostLaid 159 = .ok (.iload 12, 2) := by decide +kernel
theorem dX7_mostLaid_161 : decode cX7_mostLaid 161 = .ok (.iconst 1, 1) := by decide +kernel
theorem dX7_mostLaid_162 : decode cX7_mostLaid 162 = .ok (.iload 4, 2) := by decide +kernel
theorem dX7_mostLaid_164 : decode cX7_mostLaid 164 = .ok (.ishl, 1) := by decide +kernel
theorem dX7_mostLaid_165 : decode cX7_mostLaid 165 = .ok (.iconst 1, 1) := by decide +kernel
theorem dX7_mostLaid_166 : decode cX7_mostLaid 166 = .ok (.isub, 1) := by decide +kernel
theorem dX7_mostLaid_167 : decode cX7_mostLaid 167 = .ok (.if_icmp .ne 56, 3) := by decide +kernel
theorem dX7_mostLaid_170 : decode cX7_mostLaid 170 = .ok (.aload_n 0, 1) := by decide +kernel
theorem dX7_mostLaid_171 : decode cX7_mostLaid 171 = .ok (.iload 4, 2) := by decide +kernel
theorem dX7_mostLaid_173 : decode cX7_mostLaid 173 = .ok (.iload_n 1, 1) := by decide +kernel
theorem dX7_mostLaid_174 : decode cX7_mostLaid 174 = .ok (.iload_n 2, 1) := by decide +kernel
theorem dX7_mostLaid_175 : decode cX7_mostLaid 175 = .ok (.iconst 0, 1) := by decide +kernel
theorem dX7_mostLaid_176 : decode cX7_mostLaid 176 = .ok (.invokevirtual 230, 3) := by decide +kernel
theorem dX7_mostLaid_179 : decode cX7_mostLaid 179 = .ok (.aload_n 0, 1) := by decide +kernel
theorem dX7_mostLaid_180 : decode cX7_mostLaid 180 = .ok (.getfield 47, 3) := by decide +kernel
theorem dX7_mostLaid_183 : decode cX7_mostLaid 183 = .ok (.iconst 0, 1) := by decide +kernel
theorem dX7_mostLaid_184 : decode cX7_mostLaid 184 = .ok (.iaload, 1) := by decide +kernel
theorem dX7_mostLaid_185 : decode cX7_mostLaid 185 = .ok (.iload 8, 2) := by decide +kernel
theorem dX7_mostLaid_187 : decode cX7_mostLaid 187 = .ok (.if_icmp .le 36, 3) := by decide +kernel
theorem dX7_mostLaid_190 : decode cX7_mostLaid 190 = .ok (.aload_n 0, 1) := by decide +kernel
theorem dX7_mostLaid_191 : decode cX7_mostLaid 191 = .ok (.getfield 47, 3) := by decide +kernel
theorem dX7_mostLaid_194 : decode cX7_mostLaid 194 = .ok (.iconst 0, 1) := by decide +kernel
theorem dX7_mostLaid_195 : decode cX7_mostLaid 195 = .ok (.iaload, 1) := by decide +kernel
theorem dX7_mostLaid_196 : decode cX7_mostLaid 196 = .ok (.istore 8, 2) := by decide +kernel
theorem dX7_mostLaid_198 : decode cX7_mostLaid 198 = .ok (.iload_n 3, 1) := by decide +kernel
theorem dX7_mostLaid_199 : decode cX7_mostLaid 199 = .ok (.iconst 0, 1) := by decide +kernel
theorem dX7_mostLaid_200 : decode cX7_mostLaid 200 = .ok (.iload 4, 2) := by decide +kernel
theorem dX7_mostLaid_202 : decode cX7_mostLaid 202 = .ok (.iconst 1, 1) := by decide +kernel
theorem dX7_mostLaid_203 : decode cX7_mostLaid 203 = .ok (.isub, 1) := by decide +kernel
theorem dX7_mostLaid_204 : decode cX7_mostLaid 204 = .ok (.invokestatic 67, 3) := by decide +kernel
theorem dX7_mostLaid_207 : decode cX7_mostLaid 207 = .ok (.ifCond .eq 12, 3) := by decide +kernel
theorem dX7_mostLaid_210 : decode cX7_mostLaid 210 = .ok (.aload_n 0, 1) := by decide +kernel
theorem dX7_mostLaid_211 : decode cX7_mostLaid 211 = .ok (.getfield 44, 3) := by decide +kernel
theorem dX7_mostLaid_214 : decode cX7_mostLaid 214 = .ok (.iload_n 3, 1) := by decide +kernel
theorem dX7_mostLaid_215 : decode cX7_mostLaid 215 = .ok (.iaload, 1) := by decide +kernel
theorem dX7_mostLaid_216 : decode cX7_mostLaid 216 = .ok (.goto 5, 3) := by decide +kernel
theorem dX7_mostLaid_219 : decode cX7_mostLaid 219 = .ok (.ldc 172, 2) := by decide +kernel
theorem dX7_mostLaid_221 : decode cX7_mostLaid 221 = .ok (.istore 9, 2) := by decide +kernel
theorem dX7_mostLaid_223 : decode cX7_mostLaid 223 = .ok (.iinc 10 1, 3) := by decide +kernel
theorem dX7_mostLaid_226 : decode cX7_mostLaid 226 = .ok (.goto (-132), 3) := by decide +kernel
theorem dX7_mostLaid_229 : decode cX7_mostLaid 229 = .ok (.iload_n 3, 1) := by decide +kernel
theorem dX7_mostLaid_230 : decode cX7_mostLaid 230 = .ok (.iconst (-1), 1) := by decide +kernel
theorem dX7_mostLaid_231 : decode cX7_mostLaid 231 = .ok (.if_icmp .ne 8, 3) := by decide +kernel
theorem dX7_mostLaid_234 : decode cX7_mostLaid 234 = .ok (.iload 8, 2) := by decide +kernel
theorem dX7_mostLaid_236 : decode cX7_mostLaid 236 = .ok (.goto 5, 3) := by decide +kernel
theorem dX7_mostLaid_239 : decode cX7_mostLaid 239 = .ok (.iload 9, 2) := by decide +kernel
theorem dX7_mostLaid_241 : decode cX7_mostLaid 241 = .ok (.ireturn, 1) := by decide +kernel
theorem dX7_laid_0 : decode cX7_laid 0 = .ok (.aload_n 0, 1) := by decide +kernel
theorem dX7_laid_1 : decode cX7_laid 1 = .ok (.iload_n 1, 1) := by decide +kernel
theorem dX7_laid_2 : decode cX7_laid 2 = .ok (.iload_n 2, 1) := by decide +kernel
theorem dX7_laid_3 : decode cX7_laid 3 = .ok (.invokevirtual 224, 3) := by decide +kernel
theorem dX7_laid_6 : decode cX7_laid 6 = .ok (.ifCond .eq 8, 3) := by decide +kernel
theorem dX7_laid_9 : decode cX7_laid 9 = .ok (.iload_n 3, 1) := by decide +kernel
theorem dX7_laid_10 : decode cX7_laid 10 = .ok (.iconst (-1), 1) := by decide +kernel
theorem dX7_laid_11 : decode cX7_laid 11 = .ok (.if_icmp .ge 6, 3) := by decide +kernel
theorem dX7_laid_14 : decode cX7_laid 14 = .ok (.ldc 75, 2) := by decide +kernel
theorem dX7_laid_16 : decode cX7_laid 16 = .ok (.ireturn, 1) := by decide +kernel
theorem dX7_laid_17 : decode cX7_laid 17 = .ok (.aload_n 0, 1) := by decide +kernel
theorem dX7_laid_18 : decode cX7_laid 18 = .ok (.getfield 28, 3) := by decide +kernel
theorem dX7_laid_21 : decode cX7_laid 21 = .ok (.iconst 5, 1) := by decide +kernel
theorem dX7_laid_22 : decode cX7_laid 22 = .ok (.iaload, 1) := by decide +kernel
theorem dX7_laid_23 : decode cX7_laid 23 = .ok (.bipush 6, 2) := by decide +kernel
theorem dX7_laid_25 : decode cX7_laid 25 = .ok (.if_icmp .le 6, 3) := by decide +kernel
theorem dX7_laid_28 : decode cX7_laid 28 = .ok (.ldc 89, 2) := by decide +kernel
theorem dX7_laid_30 : decode cX7_laid 30 = .ok (.ireturn, 1) := by decide +kernel
theorem dX7_laid_31 : decode cX7_laid 31 = .ok (.aload_n 0, 1) := by decide +kernel
theorem dX7_laid_32 : decode cX7_laid 32 = .ok (.iload_n 1, 1) := by decide +kernel
theorem dX7_laid_33 : decode cX7_laid 33 = .ok (.iload_n 2, 1) := by decide +kernel
theorem dX7_laid_34 : decode cX7_laid 34 = .ok (.iload_n 3, 1) := by decide +kernel
theorem dX7_laid_35 : decode cX7_laid 35 = .ok (.invokevirtual 234, 3) := by decide +kernel
theorem dX7_laid_38 : decode cX7_laid 38 = .ok (.ireturn, 1) := by decide +kernel
theorem dX7_ring_0 : decode cX7_ring 0 = .ok (.aload_n 0, 1) := by decide +kernel
theorem dX7_ring_1 : decode cX7_ring 1 = .ok (.iload_n 1, 1) := by decide +kernel
theorem dX7_ring_2 : decode cX7_ring 2 = .ok (.iload_n 2, 1) := by decide +kernel
theorem dX7_ring_3 : decode cX7_ring 3 = .ok (.invokevirtual 224, 3) := by decide +kernel
theorem dX7_ring_6 : decode cX7_ring 6 = .ok (.ifCond .eq 12, 3) := by decide +kernel
theorem dX7_ring_9 : decode cX7_ring 9 = .ok (.iload_n 3, 1) := by decide +kernel
theorem dX7_ring_10 : decode cX7_ring 10 = .ok (.iconst 0, 1) := by decide +kernel
theorem dX7_ring_11 : decode cX7_ring 11 = .ok (.iconst 1, 1) := by decide +kernel
theorem dX7_ring_12 : decode cX7_ring 12 = .ok (.invokestatic 67, 3) := by decide +kernel
theorem dX7_ring_15 : decode cX7_ring 15 = .ok (.ifCond .ne 6, 3) := by decide +kernel
theorem dX7_ring_18 : decode cX7_ring 18 = .ok (.ldc 75, 2) := by decide +kernel
theorem dX7_ring_20 : decode cX7_ring 20 = .ok (.ireturn, 1) := by decide +kernel
theorem dX7_ring_21 : decode cX7_ring 21 = .ok (.aload_n 0, 1) := by decide +kernel
theorem dX7_ring_22 : decode cX7_ring 22 = .ok (.getfield 28, 3) := by decide +kernel
theorem dX7_ring_25 : decode cX7_ring 25 = .ok (.iconst 5, 1) := by decide +kernel
theorem dX7_ring_26 : decode cX7_ring 26 = .ok (.iaload, 1) := by decide +kernel
theorem dX7_ring_27 : decode cX7_ring 27 = .ok (.istore 4, 2) := by decide +kernel
theorem dX7_ring_29 : decode cX7_ring 29 = .ok (.ldc 172, 2) := by decide +kernel
theorem dX7_ring_31 : decode cX7_ring 31 = .ok (.istore 5, 2) := by decide +kernel
theorem dX7_ring_33 : decode cX7_ring 33 = .ok (.ldc 172, 2) := by decide +kernel
theorem dX7_ring_35 : decode cX7_ring 35 = .ok (.istore 6, 2) := by decide +kernel
theorem dX7_ring_37 : decode cX7_ring 37 = .ok (.iconst 0, 1) := by decide +kernel
theorem dX7_ring_38 : decode cX7_ring 38 = .ok (.istore 7, 2) := by decide +kernel
theorem dX7_ring_40 : decode cX7_ring 40 = .ok (.iload 7, 2) := by decide +kernel
theorem dX7_ring_42 : decode cX7_ring 42 = .ok (.iload 4, 2) := by decide +kernel
theorem dX7_ring_44 : decode cX7_ring 44 = .ok (.if_icmp .ge 110, 3) := by decide +kernel
theorem dX7_ring_47 : decode cX7_ring 47 = .ok (.iconst 0, 1) := by decide +kernel
theorem dX7_ring_48 : decode cX7_ring 48 = .ok (.istore 8, 2) := by decide +kernel
theorem dX7_ring_50 : decode cX7_ring 50 = .ok (.iload 8, 2) := by decide +kernel
theorem dX7_ring_52 : decode cX7_ring 52 = .ok (.iload 4, 2) := by decide +kernel
theorem dX7_ring_54 : decode cX7_ring 54 = .ok (.if_icmp .ge 28, 3) := by decide +kernel
theorem dX7_ring_57 : decode cX7_ring 57 = .ok (.aload_n 0, 1) := by decide +kernel
theorem dX7_ring_58 : decode cX7_ring 58 = .ok (.getfield 44, 3) := by decide +kernel
theorem dX7_ring_61 : decode cX7_ring 61 = .ok (.iload 8, 2) := by decide +kernel
theorem dX7_ring_63 : decode cX7_ring 63 = .ok (.aload_n 0, 1) := by decide +kernel
theorem dX7_ring_64 : decode cX7_ring 64 = .ok (.iload 7, 2) := by decide +kernel
theorem dX7_ring_66 : decode cX7_ring 66 = .ok (.iload 8, 2) := by decide +kernel
theorem dX7_ring_68 : decode cX7_ring 68 = .ok (.iadd, 1) := by decide +kernel
theorem dX7_ring_69 : decode cX7_ring 69 = .ok (.iload 4, 2) := by decide +kernel
theorem dX7_ring_71 : decode cX7_ring 71 = .ok (.irem, 1) := by decide +kernel
theorem dX7_ring_72 : decode cX7_ring 72 = .ok (.invokevirtual 189, 3) := by decide +kernel
theorem dX7_ring_75 : decode cX7_ring 75 = .ok (.iastore, 1) := by decide +kernel
theorem dX7_ring_76 : decode cX7_ring 76 = .ok (.iinc 8 1, 3) := by decide +kernel
theorem dX7_ring_79 : decode cX7_ring 79 = .ok (.goto (-29), 3) := by decide +kernel
theorem dX7_ring_82 : decode cX7_ring 82 = .ok (.aload_n 0, 1) := by decide +kernel
theorem dX7_ring_83 : decode cX7_ring 83 = .ok (.iload 4, 2) := by decide +kernel
theorem dX7_ring_85 : decode cX7_ring 85 = .ok (.iload_n 1, 1) := by decide +kernel
theorem dX7_ring_86 : decode cX7_ring 86 = .ok (.iload_n 2, 1) := by decide +kernel
theorem dX7_ring_87 : decode cX7_ring 87 = .ok (.iconst 0, 1) := by decide +kernel
theorem dX7_ring_88 : decode cX7_ring 88 = .ok (.invokevirtual 230, 3) := by decide +kernel
theorem dX7_ring_91 : decode cX7_ring 91 = .ok (.iload 6, 2) := by decide +kernel
theorem dX7_ring_93 : decode cX7_ring 93 = .ok (.ldc 172, 2) := by decide +kernel
theorem dX7_ring_95 : decode cX7_ring 95 = .ok (.if_icmp .eq 14, 3) := by decide +kernel
theorem dX7_ring_98 : decode cX7_ring 98 = .ok (.aload_n 0, 1) := by decide +kernel
theorem dX7_ring_99 : decode cX7_ring 99 = .ok (.getfield 47, 3) := by decide +kernel
theorem dX7_ring_102 : decode cX7_ring 102 = .ok (.iconst 0, 1) := by decide +kernel
theorem dX7_ring_103 : decode cX7_ring 103 = .ok (.iaload, 1) := by decide +kernel
theorem dX7_ring_104 : decode cX7_ring 104 = .ok (.iload 5, 2) := by decide +kernel
theorem dX7_ring_106 : decode cX7_ring 106 = .ok (.if_icmp .le 7, 3) := by decide +kernel
theorem dX7_ring_109 : decode cX7_ring 109 = .ok (.iconst 1, 1) := by decide +kernel
theorem dX7_ring_110 : decode cX7_ring 110 = .ok (.goto 4, 3) := by decide +kernel
theorem dX7_ring_113 : decode cX7_ring 113 = .ok (.iconst 0, 1) := by decide +kernel
theorem dX7_ring_114 : decode cX7_ring 114 = .ok (.istore 8, 2) := by decide +kernel
theorem dX7_ring_116 : decode cX7_ring 116 = .ok (.iload 8, 2) := by decide +kernel
theorem dX7_ring_118 : decode cX7_ring 118 = .ok (.ifCond .eq 8, 3) := by decide +kernel
theorem dX7_ring_121 : decode cX7_ring 121 = .ok (.iload 7, 2) := by decide +kernel
theorem dX7_ring_123 : decode cX7_ring 123 = .ok (.goto 5, 3) := by decide +kernel
theorem dX7_ring_126 : decode cX7_ring 126 = .ok (.iload 6, 2) := by decide +kernel
theorem dX7_ring_128 : decode cX7_ring 128 = .ok (.istore 6, 2) := by decide +kernel
theorem dX7_ring_130 : decode cX7_ring 130 = .ok (.iload 8, 2) := by decide +kernel
theorem dX7_ring_132 : decode cX7_ring 132 = .ok (.ifCond .eq 12, 3) := by decide +kernel
theorem dX7_ring_135 : decode cX7_ring 135 = .ok (.aload_n 0, 1) := by decide +kernel
theorem dX7_ring_136 : decode cX7_ring 136 = .ok (.getfield 47, 3) := by decide +kernel
theorem dX7_ring_139 : decode cX7_ring 139 = .ok (.iconst 0, 1) := by decide +kernel
theorem dX7_ring_140 : decode cX7_ring 140 = .ok (.iaload, 1) := by decide +kernel
theorem dX7_ring_141 : decode cX7_ring 141 = .ok (.goto 5, 3) := by decide +kernel
theorem dX7_ring_144 : decode cX7_ring 144 = .ok (.iload 5, 2) := by decide +kernel
theorem dX7_ring_146 : decode cX7_ring 146 = .ok (.istore 5, 2) := by decide +kernel
theorem dX7_ring_148 : decode cX7_ring 148 = .ok (.iinc 7 1, 3) := by decide +kernel
theorem dX7_ring_151 : decode cX7_ring 151 = .ok (.goto (-111), 3) := by decide +kernel
theorem dX7_ring_154 : decode cX7_ring 154 = .ok (.iload_n 3, 1) := by decide +kernel
theorem dX7_ring_155 : decode cX7_ring 155 = .ok (.ifCond .ne 8, 3) := by decide +kernel
theorem dX7_ring_158 : decode cX7_ring 158 = .ok (.iload 5, 2) := by decide +kernel
theorem dX7_ring_160 : decode cX7_ring 160 = .ok (.goto 5, 3) := by decide +kernel
theorem dX7_ring_163 : decode cX7_ring 163 = .ok (.iload 6, 2) := by decide +kernel
theorem dX7_ring_165 : decode cX7_ring 165 = .ok (.ireturn, 1) := by decide +kernel
theorem dX7_line_0 : decode cX7_line 0 = .ok (.aload_n 0, 1) := by decide +kernel
theorem dX7_line_1 : decode cX7_line 1 = .ok (.getfield 28, 3) := by decide +kernel
theorem dX7_line_4 : decode cX7_line 4 = .ok (.iconst 0, 1) := by decide +kernel
theorem dX7_line_5 : decode cX7_line 5 = .ok (.iaload, 1) := by decide +kernel
theorem dX7_line_6 : decode cX7_line 6 = .ok (.ifCond .ne 6, 3) := by decide +kernel
theorem dX7_line_9 : decode cX7_line 9 = .ok (.ldc 192, 2) := by decide +kernel
theorem dX7_line_11 : decode cX7_line 11 = .ok (.ireturn, 1) := by decide +kernel
theorem dX7_line_12 : decode cX7_line 12 = .ok (.iload_n 1, 1) := by decide +kernel
theorem dX7_line_13 : decode cX7_line 13 = .ok (.invokestatic 71, 3) := by decide +kernel
theorem dX7_line_16 : decode cX7_line 16 = .ok (.ifCond .eq 28, 3) := by decide +kernel
theorem dX7_line_19 : decode cX7_line 19 = .ok (.iload_n 3, 1) := by decide +kernel
theorem dX7_line_20 : decode cX7_line 20 = .ok (.iconst 1, 1) := by decide +kernel
theorem dX7_line_21 : decode cX7_line 21 = .ok (.bipush 40, 2) := by decide +kernel
theorem dX7_line_23 : decode cX7_line 23 = .ok (.invokestatic 67, 3) := by decide +kernel
theorem dX7_line_26 : decode cX7_line 26 = .ok (.ifCond .eq 18, 3) := by decide +kernel
theorem dX7_line_29 : decode cX7_line 29 = .ok (.iload 4, 2) := by decide +kernel
theorem dX7_line_31 : decode cX7_line 31 = .ok (.iconst (-1), 1) := by decide +kernel
theorem dX7_line_32 : decode cX7_line 32 = .ok (.if_icmp .eq 15, 3) := by decide +kernel
theorem dX7_line_35 : decode cX7_line 35 = .ok (.aload_n 0, 1) := by decide +kernel
theorem dX7_line_36 : decode cX7_line 36 = .ok (.iload 4, 2) := by decide +kernel
theorem dX7_line_38 : decode cX7_line 38 = .ok (.invokevirtual 176, 3) := by decide +kernel
theorem dX7_line_41 : decode cX7_line 41 = .ok (.ifCond .ne 6, 3) := by decide +kernel
theorem dX7_line_44 : decode cX7_line 44 = .ok (.ldc 75, 2) := by decide +kernel
theorem dX7_line_46 : decode cX7_line 46 = .ok (.ireturn, 1) := by decide +kernel
theorem dX7_line_47 : decode cX7_line 47 = .ok (.aload_n 0, 1) := by decide +kernel
theorem dX7_line_48 : decode cX7_line 48 = .ok (.iload_n 1, 1) := by decide +kernel
theorem dX7_line_49 : decode cX7_line 49 = .ok (.iload_n 2, 1) := by decide +kernel
theorem dX7_line_50 : decode cX7_line 50 = .ok (.iload_n 3, 1) := by decide +kernel
theorem dX7_line_51 : decode cX7_line 51 = .ok (.invokevirtual 237, 3) := by decide +kernel
theorem dX7_line_54 : decode cX7_line 54 = .ok (.istore 5, 2) := by decide +kernel
theorem dX7_line_56 : decode cX7_line 56 = .ok (.iload 5, 2) := by decide +kernel
theorem dX7_line_58 : decode cX7_line 58 = .ok (.ifCond .eq 10, 3) := by decide +kernel
theorem dX7_line_61 : decode cX7_line 61 = .ok (.aload_n 0, 1) := by decide +kernel
theorem dX7_line_62 : decode cX7_line 62 = .ok (.iload 5, 2) := by decide +kernel
theorem dX7_line_64 : decode cX7_line 64 = .ok (.invokevirtual 76, 3) := by decide +kernel
theorem dX7_line_67 : decode cX7_line 67 = .ok (.ireturn, 1) := by decide +kernel
theorem dX7_line_68 : decode cX7_line 68 = .ok (.iconst 0, 1) := by decide +kernel
theorem dX7_line_69 : decode cX7_line 69 = .ok (.istore 6, 2) := by decide +kernel
theorem dX7_line_71 : decode cX7_line 71 = .ok (.iload 6, 2) := by decide +kernel
theorem dX7_line_73 : decode cX7_line 73 = .ok (.iload_n 3, 1) := by decide +kernel
theorem dX7_line_74 : decode cX7_line 74 = .ok (.if_icmp .ge 33, 3) := by decide +kernel
theorem dX7_line_77 : decode cX7_line 77 = .ok (.aload_n 0, 1) := by decide +kernel
theorem dX7_line_78 : decode cX7_line 78 = .ok (.aload_n 0, 1) := by decide +kernel
theorem dX7_line_79 : decode cX7_line 79 = .ok (.getfield 16, 3) := by decide +kernel
theorem dX7_line_82 : decode cX7_line 82 = .ok (.bipush 40, 2) := by decide +kernel
theorem dX7_line_84 : decode cX7_line 84 = .ok (.iload_n 1, 1) := by decide +kernel
theorem dX7_line_85 : decode cX7_line 85 = .ok (.imul, 1) := by decide +kernel
theorem dX7_line_86 : decode cX7_line 86 = .ok (.iload_n 2, 1) := by decide +kernel
theorem dX7_line_87 : decode cX7_line 87 = .ok (.iadd, 1) := by decide +kernel
theorem dX7_line_88 : decode cX7_line 88 = .ok (.iload 6, 2) := by decide +kernel
theorem dX7_line_90 : decode cX7_line 90 = .ok (.iadd, 1) := by decide +kernel
theorem dX7_line_91 : decode cX7_line 91 = .ok (.iaload, 1) := by decide +kernel
theorem dX7_line_92 : decode cX7_line 92 = .ok (.invokevirtual 176, 3) := by decide +kernel
theorem dX7_line_95 : decode cX7_line 95 = .ok (.ifCond .ne 6, 3) := by decide +kernel
theorem dX7_line_98 : decode cX7_line 98 = .ok (.ldc 75, 2) := by decide +kernel
theorem dX7_line_100 : decode cX7_line 100 = .ok (.ireturn, 1) := by decide +kernel
theorem dX7_line_101 : decode cX7_line 101 = .ok (.iinc 6 1, 3) := by decide +kernel
theorem dX7_line_104 : decode cX7_line 104 = .ok (.goto (-33), 3) := by decide +kernel
theorem dX7_line_107 : decode cX7_line 107 = .ok (.iconst 0, 1) := by decide +kernel
theorem dX7_line_108 : decode cX7_line 108 = .ok (.istore 6, 2) := by decide +kernel
theorem dX7_line_110 : decode cX7_line 110 = .ok (.aload_n 0, 1) := by decide +kernel
theorem dX7_line_111 : decode cX7_line 111 = .ok (.getfield 28, 3) := by decide +kernel
theorem dX7_line_114 : decode cX7_line 114 = .ok (.iconst 5, 1) := by decide +kernel
theorem dX7_line_115 : decode cX7_line 115 = .ok (.iaload, 1) := by decide +kernel
theorem dX7_line_116 : decode cX7_line 116 = .ok (.iconst 1, 1) := by decide +kernel
theorem dX7_line_117 : decode cX7_line 117 = .ok (.isub, 1) := by decide +kernel
theorem dX7_line_118 : decode cX7_line 118 = .ok (.istore 7, 2) := by decide +kernel
theorem dX7_line_120 : decode cX7_line 120 = .ok (.iconst 0, 1) := by decide +kernel
theorem dX7_line_121 : decode cX7_line 121 = .ok (.istore 8, 2) := by decide +kernel
theorem dX7_line_123 : decode cX7_line 123 = .ok (.iconst 0, 1) := by decide +kernel
theorem dX7_line_124 : decode cX7_line 124 = .ok (.istore 9, 2) := by decide +kernel
theorem dX7_line_126 : decode cX7_line 126 = .ok (.iload 9, 2) := by decide +kernel
theorem dX7_line_128 : decode cX7_line 128 = .ok (.iload_n 3, 1) := by decide +kernel
theorem dX7_line_129 : decode cX7_line 129 = .ok (.if_icmp .ge 126, 3) := by decide +kernel
theorem dX7_line_132 : decode cX7_line 132 = .ok (.iload 6, 2) := by decide +kernel
theorem dX7_line_134 : decode cX7_line 134 = .ok (.iload 7, 2) := by decide +kernel
theorem dX7_line_136 : decode cX7_line 136 = .ok (.if_icmp .gt 119, 3) := by decide +kernel
theorem dX7_line_139 : decode cX7_line 139 = .ok (.aload_n 0, 1) := by decide +kernel
theorem dX7_line_140 : decode cX7_line 140 = .ok (.getfield 16, 3) := by decide +kernel
theorem dX7_line_143 : decode cX7_line 143 = .ok (.bipush 40, 2) := by decide +kernel
theorem dX7_line_145 : decode cX7_line 145 = .ok (.iload_n 1, 1) := by decide +kernel
theorem dX7_line_146 : decode cX7_line 146 = .ok (.imul, 1) := by decide +kernel
theorem dX7_line_147 : decode cX7_line 147 = .ok (.iload_n 2, 1) := by decide +kernel
theorem dX7_line_148 : decode cX7_line 148 = .ok (.iadd, 1) := by decide +kernel
theorem dX7_line_149 : decode cX7_line 149 = .ok (.iload 9, 2) := by decide +kernel
theorem dX7_line_151 : decode cX7_line 151 = .ok (.iadd, 1) := by decide +kernel
theorem dX7_line_152 : decode cX7_line 152 = .ok (.iaload, 1) := by decide +kernel
theorem dX7_line_153 : decode cX7_line 153 = .ok (.istore 10, 2) := by decide +kernel
theorem dX7_line_155 : decode cX7_line 155 = .ok (.aload_n 0, 1) := by decide +kernel
theorem dX7_line_156 : decode cX7_line 156 = .ok (.aload_n 0, 1) := by decide +kernel
theorem dX7_line_157 : decode cX7_line 157 = .ok (.iload 6, 2) := by decide +kernel
theorem dX7_line_159 : decode cX7_line 159 = .ok (.invokevirtual 189, 3) := by decide +kernel
theorem dX7_line_162 : decode cX7_line 162 = .ok (.iload 10, 2) := by decide +kernel
theorem dX7_line_164 : decode cX7_line 164 = .ok (.iconst 0, 1) := by decide +kernel
theorem dX7_line_165 : decode cX7_line 165 = .ok (.invokevirtual 193, 3) := by decide +kernel
theorem dX7_line_168 : decode cX7_line 168 = .ok (.istore 11, 2) := by decide +kernel
theorem dX7_line_170 : decode cX7_line 170 = .ok (.aload_n 0, 1) := by decide +kernel
theorem dX7_line_171 : decode cX7_line 171 = .ok (.aload_n 0, 1) := by decide +kernel
theorem dX7_line_172 : decode cX7_line 172 = .ok (.iload 7, 2) := by decide +kernel
theorem dX7_line_174 : decode cX7_line 174 = .ok (.invokevirtual 189, 3) := by decide +kernel
theorem dX7_line_177 : decode cX7_line 177 = .ok (.iload 10, 2) := by decide +kernel
theorem dX7_line_179 : decode cX7_line 179 = .ok (.iconst 0, 1) := by decide +kernel
theorem dX7_line_180 : decode cX7_line 180 = .ok (.invokevirtual 193, 3) := by decide +kernel
theorem dX7_line_183 : decode cX7_line 183 = .ok (.istore 12, 2) := by decide +kernel
theorem dX7_line_185 : decode cX7_line 185 = .ok (.iload 8, 2) := by decide +kernel
theorem dX7_line_187 : decode cX7_line 187 = .ok (.iload 10, 2) := by decide +kernel
theorem dX7_line_189 : decode cX7_line 189 = .ok (.iload 4, 2) := by decide +kernel
theorem dX7_line_191 : decode cX7_line 191 = .ok (.if_icmp .eq 7, 3) := by decide +kernel
theorem dX7_line_194 : decode cX7_line 194 = .ok (.iconst 0, 1) := by decide +kernel
theorem dX7_line_195 : decode cX7_line 195 = .ok (.goto 17, 3) := by decide +kernel
theorem dX7_line_198 : decode cX7_line 198 = .ok (.iload 11, 2) := by decide +kernel
theorem dX7_line_200 : decode cX7_line 200 = .ok (.iload 12, 2) := by decide +kernel
theorem dX7_line_202 : decode cX7_line 202 = .ok (.if_icmp .lt 8, 3) := by decide +kernel
theorem dX7_line_205 : decode cX7_line 205 = .ok (.iload 11, 2) := by decide +kernel
theorem dX7_line_207 : decode cX7_line 207 = .ok (.goto 5, 3) := by decide +kernel
theorem dX7_line_210 : decode cX7_line 210 = .ok (.iload 12, 2) := by decide +kernel
theorem dX7_line_212 : decode cX7_line 212 = .ok (.iadd, 1) := by decide +kernel
theorem dX7_line_213 : decode cX7_line 213 = .ok (.istore 8, 2) := by decide +kernel
theorem dX7_line_215 : decode cX7_line 215 = .ok (.iload 6, 2) := by decide +kernel
theorem dX7_line_217 : decode cX7_line 217 = .ok (.iload 11, 2) := by decide +kernel
theorem dX7_line_219 : decode cX7_line 219 = .ok (.iload 12, 2) := by decide +kernel
theorem dX7_line_221 : decode cX7_line 221 = .ok (.if_icmp .lt 7, 3) := by decide +kernel
theorem dX7_line_224 : decode cX7_line 224 = .ok (.iconst 1, 1) := by decide +kernel
theorem dX7_line_225 : decode cX7_line 225 = .ok (.goto 4, 3) := by decide +kernel
theorem dX7_line_228 : decode cX7_line 228 = .ok (.iconst 0, 1) := by decide +kernel
theorem dX7_line_229 : decode cX7_line 229 = .ok (.iadd, 1) := by decide +kernel
theorem dX7_line_230 : decode cX7_line 230 = .ok (.istore 6, 2) := by decide +kernel
theorem dX7_line_232 : decode cX7_line 232 = .ok (.iload 7, 2) := by decide +kernel
theorem dX7_line_234 : decode cX7_line 234 = .ok (.iload 11, 2) := by decide +kernel
theorem dX7_line_236 : decode cX7_line 236 = .ok (.iload 12, 2) := by decide +kernel
theorem dX7_line_238 : decode cX7_line 238 = .ok (.if_icmp .lt 7, 3) := by decide +kernel
theorem dX7_line_241 : decode cX7_line 241 = .ok (.iconst 0, 1) := by decide +kernel
theorem dX7_line_242 : decode cX7_line 242 = .ok (.goto 4, 3) := by decide +kernel
theorem dX7_line_245 : decode cX7_line 245 = .ok (.iconst 1, 1) := by decide +kernel
theorem dX7_line_246 : decode cX7_line 246 = .ok (.isub, 1) := by decide +kernel
theorem dX7_line_247 : decode cX7_line 247 = .ok (.istore 7, 2) := by decide +kernel
theorem dX7_line_249 : decode cX7_line 249 = .ok (.iinc 9 1, 3) := by decide +kernel
theorem dX7_line_252 : decode cX7_line 252 = .ok (.goto (-126), 3) := by decide +kernel
theorem dX7_line_255 : decode cX7_line 255 = .ok (.aload_n 0, 1) := by decide +kernel
theorem dX7_line_256 : decode cX7_line 256 = .ok (.iload 4, 2) := by decide +kernel
theorem dX7_line_258 : decode cX7_line 258 = .ok (.iconst (-1), 1) := by decide +kernel
theorem dX7_line_259 : decode cX7_line 259 = .ok (.if_icmp .ne 13, 3) := by decide +kernel
theorem dX7_line_262 : decode cX7_line 262 = .ok (.iload 7, 2) := by decide +kernel
theorem dX7_line_264 : decode cX7_line 264 = .ok (.iload 6, 2) := by decide +kernel
theorem dX7_line_266 : decode cX7_line 266 = .ok (.isub, 1) := by decide +kernel
theorem dX7_line_267 : decode cX7_line 267 = .ok (.iconst 1, 1) := by decide +kernel
theorem dX7_line_268 : decode cX7_line 268 = .ok (.iadd, 1) := by decide +kernel
theorem dX7_line_269 : decode cX7_line 269 = .ok (.goto 5, 3) := by decide +kernel
theorem dX7_line_272 : decode cX7_line 272 = .ok (.iload 8, 2) := by decide +kernel
theorem dX7_line_274 : decode cX7_line 274 = .ok (.invokevirtual 80, 3) := by decide +kernel
theorem dX7_line_277 : decode cX7_line 277 = .ok (.ireturn, 1) := by decide +kernel
theorem dX7_bits_0 : decode cX7_bits 0 = .ok (.iconst 0, 1) := by decide +kernel
theorem dX7_bits_1 : decode cX7_bits 1 = .ok (.istore_n 1, 1) := by decide +kernel
theorem dX7_bits_2 : decode cX7_bits 2 = .ok (.iconst 0, 1) := by decide +kernel
theorem dX7_bits_3 : decode cX7_bits 3 = .ok (.istore_n 2, 1) := by decide +kernel
theorem dX7_bits_4 : decode cX7_bits 4 = .ok (.iload_n 2, 1) := by decide +kernel
theorem dX7_bits_5 : decode cX7_bits 5 = .ok (.bipush 16, 2) := by decide +kernel
theorem dX7_bits_7 : decode cX7_bits 7 = .ok (.if_icmp .ge 17, 3) := by decide +kernel
theorem dX7_bits_10 : decode cX7_bits 10 = .ok (.iload_n 1, 1) := by decide +kernel
theorem dX7_bits_11 : decode cX7_bits 11 = .ok (.iload_n 0, 1) := by decide +kernel
theorem dX7_bits_12 : decode cX7_bits 12 = .ok (.iload_n 2, 1) := by decide +kernel
theorem dX7_bits_13 : decode cX7_bits 13 = .ok (.ishr, 1) := by decide +kernel
theorem dX7_bits_14 : decode cX7_bits 14 = .ok (.iconst 1, 1) := by decide +kernel
theorem dX7_bits_15 : decode cX7_bits 15 = .ok (.iand, 1) := by decide +kernel
theorem dX7_bits_16 : decode cX7_bits 16 = .ok (.iadd, 1) := by decide +kernel
theorem dX7_bits_17 : decode cX7_bits 17 = .ok (.istore_n 1, 1) := by decide +kernel
theorem dX7_bits_18 : decode cX7_bits 18 = .ok (.iinc 2 1, 3) := by decide +kernel
theorem dX7_bits_21 : decode cX7_bits 21 = .ok (.goto (-17), 3) := by decide +kernel
theorem dX7_bits_24 : decode cX7_bits 24 = .ok (.iload_n 1, 1) := by decide +kernel
theorem dX7_bits_25 : decode cX7_bits 25 = .ok (.ireturn, 1) := by decide +kernel
theorem dX7_rots_0 : decode cX7_rots 0 = .ok (.aload_n 0, 1) := by decide +kernel
theorem dX7_rots_1 : decode cX7_rots 1 = .ok (.getfield 28, 3) := by decide +kernel
theorem dX7_rots_4 : decode cX7_rots 4 = .ok (.iconst 0, 1) := by decide +kernel
theorem dX7_rots_5 : decode cX7_rots 5 = .ok (.iaload, 1) := by decide +kernel
theorem dX7_rots_6 : decode cX7_rots 6 = .ok (.ifCond .ne 6, 3) := by decide +kernel
theorem dX7_rots_9 : decode cX7_rots 9 = .ok (.ldc 192, 2) := by decide +kernel
theorem dX7_rots_11 : decode cX7_rots 11 = .ok (.ireturn, 1) := by decide +kernel
theorem dX7_rots_12 : decode cX7_rots 12 = .ok (.iload_n 1, 1) := by decide +kernel
theorem dX7_rots_13 : decode cX7_rots 13 = .ok (.iconst 0, 1) := by decide +kernel
theorem dX7_rots_14 : decode cX7_rots 14 = .ok (.bipush 99, 2) := by decide +kernel
theorem dX7_rots_16 : decode cX7_rots 16 = .ok (.invokestatic 67, 3) := by decide +kernel
theorem dX7_rots_19 : decode cX7_rots 19 = .ok (.ifCond .eq 12, 3) := by decide +kernel
theorem dX7_rots_22 : decode cX7_rots 22 = .ok (.iload_n 2, 1) := by decide +kernel
theorem dX7_rots_23 : decode cX7_rots 23 = .ok (.iconst 0, 1) := by decide +kernel
theorem dX7_rots_24 : decode cX7_rots 24 = .ok (.iconst 2, 1) := by decide +kernel
theorem dX7_rots_25 : decode cX7_rots 25 = .ok (.invokestatic 67, 3) := by decide +kernel
theorem dX7_rots_28 : decode cX7_rots 28 = .ok (.ifCond .ne 6, 3) := by decide +kernel
theorem dX7_rots_31 : decode cX7_rots 31 = .ok (.ldc 75, 2) := by decide +kernel
theorem dX7_rots_33 : decode cX7_rots 33 = .ok (.ireturn, 1) := by decide +kernel
theorem dX7_rots_34 : decode cX7_rots 34 = .ok (.aload_n 0, 1) := by decide +kernel
theorem dX7_rots_35 : decode cX7_rots 35 = .ok (.iload_n 1, 1) := by decide +kernel
theorem dX7_rots_36 : decode cX7_rots 36 = .ok (.invokevirtual 208, 3) := by decide +kernel
theorem dX7_rots_39 : decode cX7_rots 39 = .ok (.istore_n 3, 1) := by decide +kernel
theorem dX7_rots_40 : decode cX7_rots 40 = .ok (.aload_n 0, 1) := by decide +kernel
theorem dX7_rots_41 : decode cX7_rots 41 = .ok (.getfield 28, 3) := by decide +kernel
theorem dX7_rots_44 : decode cX7_rots 44 = .ok (.iconst 5, 1) := by decide +kernel
theorem dX7_rots_45 : decode cX7_rots 45 = .ok (.iaload, 1) := by decide +kernel
theorem dX7_rots_46 : decode cX7_rots 46 = .ok (.ifCond .ne 7, 3) := by decide +kernel
theorem dX7_rots_49 : decode cX7_rots 49 = .ok (.iconst 0, 1) := by decide +kernel
theorem dX7_rots_50 : decode cX7_rots 50 = .ok (.goto 25, 3) := by decide +kernel
theorem dX7_rots_53 : decode cX7_rots 53 = .ok (.iconst 1, 1) := by decide +kernel
theorem dX7_rots_54 : decode cX7_rots 54 = .ok (.aload_n 0, 1) := by decide +kernel
theorem dX7_rots_55 : decode cX7_rots 55 = .ok (.iconst 0, 1) := by decide +kernel
theorem dX7_rots_56 : decode cX7_rots 56 = .ok (.invokevirtual 189, 3) := by decide +kernel
theorem dX7_rots_59 : decode cX7_rots 59 = .ok (.ishl, 1) := by decide +kernel
theorem dX7_rots_60 : decode cX7_rots 60 = .ok (.iconst 1, 1) := by decide +kernel
theorem dX7_rots_61 : decode cX7_rots 61 = .ok (.aload_n 0, 1) := by decide +kernel
theorem dX7_rots_62 : decode cX7_rots 62 = .ok (.aload_n 0, 1) := by decide +kernel
theorem dX7_rots_63 : decode cX7_rots 63 = .ok (.getfield 28, 3) := by decide +kernel
theorem dX7_rots_66 : decode cX7_rots 66 = .ok (.iconst 5, 1) := by decide +kernel
theorem dX7_rots_67 : decode cX7_rots 67 = .ok (.iaload, 1) := by decide +kernel
theorem dX7_rots_68 : decode cX7_rots 68 = .ok (.iconst 1, 1) := by decide +kernel
theorem dX7_rots_69 : decode cX7_rots 69 = .ok (.isub, 1) := by decide +kernel
theorem dX7_rots_70 : decode cX7_rots 70 = .ok (.invokevirtual 189, 3) := by decide +kernel
theorem dX7_rots_73 : decode cX7_rots 73 = .ok (.ishl, 1) := by decide +kernel
theorem dX7_rots_74 : decode cX7_rots 74 = .ok (.ior, 1) := by decide +kernel
theorem dX7_rots_75 : decode cX7_rots 75 = .ok (.istore 4, 2) := by decide +kernel
theorem dX7_rots_77 : decode cX7_rots 77 = .ok (.iload_n 2, 1) := by decide +kernel
theorem dX7_rots_78 : decode cX7_rots 78 = .ok (.ifCond .ne 10, 3) := by decide +kernel
theorem dX7_rots_81 : decode cX7_rots 81 = .ok (.iload_n 3, 1) := by decide +kernel
theorem dX7_rots_82 : decode cX7_rots 82 = .ok (.invokestatic 240, 3) := by decide +kernel
theorem dX7_rots_85 : decode cX7_rots 85 = .ok (.goto 18, 3) := by decide +kernel
theorem dX7_rots_88 : decode cX7_rots 88 = .ok (.iload_n 2, 1) := by decide +kernel
theorem dX7_rots_89 : decode cX7_rots 89 = .ok (.iconst 1, 1) := by decide +kernel
theorem dX7_rots_90 : decode cX7_rots 90 = .ok (.if_icmp .ne 7, 3) := by decide +kernel
theorem dX7_rots_93 : decode cX7_rots 93 = .ok (.iload_n 3, 1) := by decide +kernel
theorem dX7_rots_94 : decode cX7_rots 94 = .ok (.goto 9, 3) := by decide +kernel
theorem dX7_rots_97 : decode cX7_rots 97 = .ok (.iload_n 3, 1) := by decide +kernel
theorem dX7_rots_98 : decode cX7_rots 98 = .ok (.iload 4, 2) := by decide +kernel
theorem dX7_rots_100 : decode cX7_rots 100 = .ok (.iconst (-1), 1) := by decide +kernel
theorem dX7_rots_101 : decode cX7_rots 101 = .ok (.ixor, 1) := by decide +kernel
theorem dX7_rots_102 : decode cX7_rots 102 = .ok (.iand, 1) := by decide +kernel
theorem dX7_rots_103 : decode cX7_rots 103 = .ok (.ireturn, 1) := by decide +kernel
theorem dX7_reach_0 : decode cX7_reach 0 = .ok (.aload_n 0, 1) := by decide +kernel
theorem dX7_reach_1 : decode cX7_reach 1 = .ok (.iload_n 1, 1) := by decide +kernel
theorem dX7_reach_2 : decode cX7_reach 2 = .ok (.invokevirtual 215, 3) := by decide +kernel
theorem dX7_reach_5 : decode cX7_reach 5 = .ok (.ifCond .eq 12, 3) := by decide +kernel
theorem dX7_reach_8 : decode cX7_reach 8 = .ok (.iload_n 2, 1) := by decide +kernel
theorem dX7_reach_9 : decode cX7_reach 9 = .ok (.iconst 0, 1) := by decide +kernel
theorem dX7_reach_10 : decode cX7_reach 10 = .ok (.iconst 1, 1) := by decide +kernel
theorem dX7_reach_11 : decode cX7_reach 11 = .ok (.invokestatic 67, 3) := by decide +kernel
theorem dX7_reach_14 : decode cX7_reach 14 = .ok (.ifCond .ne 6, 3) := by decide +kernel
theorem dX7_reach_17 : decode cX7_reach 17 = .ok (.ldc 75, 2) := by decide +kernel
theorem dX7_reach_19 : decode cX7_reach 19 = .ok (.ireturn, 1) := by decide +kernel
theorem dX7_reach_20 : decode cX7_reach 20 = .ok (.aload_n 0, 1) := by decide +kernel
theorem dX7_reach_21 : decode cX7_reach 21 = .ok (.iload_n 1, 1) := by decide +kernel
theorem dX7_reach_22 : decode cX7_reach 22 = .ok (.invokevirtual 218, 3) := by decide +kernel
theorem dX7_reach_25 : decode cX7_reach 25 = .ok (.istore_n 3, 1) := by decide +kernel
theorem dX7_reach_26 : decode cX7_reach 26 = .ok (.iload_n 3, 1) := by decide +kernel
theorem dX7_reach_27 : decode cX7_reach 27 = .ok (.ldc 172, 2) := by decide +kernel
theorem dX7_reach_29 : decode cX7_reach 29 = .ok (.if_icmp .ne 6, 3) := by decide +kernel
theorem dX7_reach_32 : decode cX7_reach 32 = .ok (.ldc 192, 2) := by decide +kernel
theorem dX7_reach_34 : decode cX7_reach 34 = .ok (.ireturn, 1) := by decide +kernel
theorem dX7_reach_35 : decode cX7_reach 35 = .ok (.iconst 0, 1) := by decide +kernel
theorem dX7_reach_36 : decode cX7_reach 36 = .ok (.istore 4, 2) := by decide +kernel
theorem dX7_reach_38 : decode cX7_reach 38 = .ok (.iconst 0, 1) := by decide +kernel
theorem dX7_reach_39 : decode cX7_reach 39 = .ok (.istore 5, 2) := by decide +kernel
theorem dX7_reach_41 : decode cX7_reach 41 = .ok (.iconst 0, 1) := by decide +kernel
theorem dX7_reach_42 : decode cX7_reach 42 = .ok (.istore 6, 2) := by decide +kernel
theorem dX7_reach_44 : decode cX7_reach 44 = .ok (.iload 6, 2) := by decide +kernel
theorem dX7_reach_46 : decode cX7_reach 46 = .ok (.aload_n 0, 1) := by decide +kernel
theorem dX7_reach_47 : decode cX7_reach 47 = .ok (.getfield 28, 3) := by decide +kernel
theorem dX7_reach_50 : decode cX7_reach 50 = .ok (.iconst 5, 1) := by decide +kernel
theorem dX7_reach_51 : decode cX7_reach 51 = .ok (.iaload, 1) := by decide +kernel
theorem dX7_reach_52 : decode cX7_reach 52 = .ok (.if_icmp .ge 61, 3) := by decide +kernel
theorem dX7_reach_55 : decode cX7_reach 55 = .ok (.iload 4, 2) := by decide +kernel
theorem dX7_reach_57 : decode cX7_reach 57 = .ok (.iload 6, 2) := by decide +kernel
theorem dX7_reach_59 : decode cX7_reach 59 = .ok (.iload_n 3, 1) := by decide +kernel
theorem dX7_reach_60 : decode cX7_reach 60 = .ok (.if_icmp .ge 17, 3) := by decide +kernel
theorem dX7_reach_63 : decode cX7_reach 63 = .ok (.aload_n 0, 1) := by decide +kernel
theorem dX7_reach_64 : decode cX7_reach 64 = .ok (.aload_n 0, 1) := by decide +kernel
theorem dX7_reach_65 : decode cX7_reach 65 = .ok (.iload 6, 2) := by decide +kernel
theorem dX7_reach_67 : decode cX7_reach 67 = .ok (.invokevirtual 189, 3) := by decide +kernel
theorem dX7_reach_70 : decode cX7_reach 70 = .ok (.iconst 0, 1) := by decide +kernel
theorem dX7_reach_71 : decode cX7_reach 71 = .ok (.invokevirtual 185, 3) := by decide +kernel
theorem dX7_reach_74 : decode cX7_reach 74 = .ok (.goto 4, 3) := by decide +kernel
theorem dX7_reach_77 : decode cX7_reach 77 = .ok (.iconst 0, 1) := by decide +kernel
theorem dX7_reach_78 : decode cX7_reach 78 = .ok (.iadd, 1) := by decide +kernel
theorem dX7_reach_79 : decode cX7_reach 79 = .ok (.istore 4, 2) := by decide +kernel
theorem dX7_reach_81 : decode cX7_reach 81 = .ok (.iload 5, 2) := by decide +kernel
theorem dX7_reach_83 : decode cX7_reach 83 = .ok (.iload 6, 2) := by decide +kernel
theorem dX7_reach_85 : decode cX7_reach 85 = .ok (.iload_n 3, 1) := by decide +kernel
theorem dX7_reach_86 : decode cX7_reach 86 = .ok (.if_icmp .le 17, 3) := by decide +kernel
theorem dX7_reach_89 : decode cX7_reach 89 = .ok (.aload_n 0, 1) := by decide +kernel
theorem dX7_reach_90 : decode cX7_reach 90 = .ok (.aload_n 0, 1) := by decide +kernel
theorem dX7_reach_91 : decode cX7_reach 91 = .ok (.iload 6, 2) := by decide +kernel
theorem dX7_reach_93 : decode cX7_reach 93 = .ok (.invokevirtual 189, 3) := by decide +kernel
theorem dX7_reach_96 : decode cX7_reach 96 = .ok (.iconst 0, 1) := by decide +kernel
theorem dX7_reach_97 : decode cX7_reach 97 = .ok (.invokevirtual 185, 3) := by decide +kernel
theorem dX7_reach_100 : decode cX7_reach 100 = .ok (.goto 4, 3) := by decide +kernel
theorem dX7_reach_103 : decode cX7_reach 103 = .ok (.iconst 0, 1) := by decide +kernel
theorem dX7_reach_104 : decode cX7_reach 104 = .ok (.iadd, 1) := by decide +kernel
theorem dX7_reach_105 : decode cX7_reach 105 = .ok (.istore 5, 2) := by decide +kernel
theorem dX7_reach_107 : decode cX7_reach 107 = .ok (.iinc 6 1, 3) := by decide +kernel
theorem dX7_reach_110 : decode cX7_reach 110 = .ok (.goto (-66), 3) := by decide +kernel
theorem dX7_reach_113 : decode cX7_reach 113 = .ok (.aload_n 0, 1) := by decide +kernel
theorem dX7_reach_114 : decode cX7_reach 114 = .ok (.getfield 28, 3) := by decide +kernel
theorem dX7_reach_117 : decode cX7_reach 117 = .ok (.iconst 5, 1) := by decide +kernel
theorem dX7_reach_118 : decode cX7_reach 118 = .ok (.iaload, 1) := by decide +kernel
theorem dX7_reach_119 : decode cX7_reach 119 = .ok (.iconst 1, 1) := by decide +kernel
theorem dX7_reach_120 : decode cX7_reach 120 = .ok (.isub, 1) := by decide +kernel
theorem dX7_reach_121 : decode cX7_reach 121 = .ok (.iload_n 3, 1) := by decide +kernel
theorem dX7_reach_122 : decode cX7_reach 122 = .ok (.isub, 1) := by decide +kernel
theorem dX7_reach_123 : decode cX7_reach 123 = .ok (.istore 6, 2) := by decide +kernel
theorem dX7_reach_125 : decode cX7_reach 125 = .ok (.iload_n 2, 1) := by decide +kernel
theorem dX7_reach_126 : decode cX7_reach 126 = .ok (.ifCond .ne 20, 3) := by decide +kernel
theorem dX7_reach_129 : decode cX7_reach 129 = .ok (.iconst 1, 1) := by decide +kernel
theorem dX7_reach_130 : decode cX7_reach 130 = .ok (.iload_n 3, 1) := by decide +kernel
theorem dX7_reach_131 : decode cX7_reach 131 = .ok (.iload 6, 2) := by decide +kernel
theorem dX7_reach_133 : decode cX7_reach 133 = .ok (.if_icmp .ge 7, 3) := by decide +kernel
theorem dX7_reach_136 : decode cX7_reach 136 = .ok (.iload_n 3, 1) := by decide +kernel
theorem dX7_reach_137 : decode cX7_reach 137 = .ok (.goto 5, 3) := by decide +kernel
theorem dX7_reach_140 : decode cX7_reach 140 = .ok (.iload 6, 2) := by decide +kernel
theorem dX7_reach_142 : decode cX7_reach 142 = .ok (.iadd, 1) := by decide +kernel
theorem dX7_reach_143 : decode cX7_reach 143 = .ok (.goto 17, 3) := by decide +kernel
theorem dX7_reach_146 : decode cX7_reach 146 = .ok (.iload 4, 2) := by decide +kernel
theorem dX7_reach_148 : decode cX7_reach 148 = .ok (.iload 5, 2) := by decide +kernel
theorem dX7_reach_150 : decode cX7_reach 150 = .ok (.if_icmp .ge 8, 3) := by decide +kernel
theorem dX7_reach_153 : decode cX7_reach 153 = .ok (.iload 4, 2) := by decide +kernel
theorem dX7_reach_155 : decode cX7_reach 155 = .ok (.goto 5, 3) := by decide +kernel
theorem dX7_reach_158 : decode cX7_reach 158 = .ok (.iload 5, 2) := by decide +kernel
theorem dX7_reach_160 : decode cX7_reach 160 = .ok (.ireturn, 1) := by decide +kernel
theorem dX7_harvest_0 : decode cX7_harvest 0 = .ok (.aload_n 0, 1) := by decide +kernel
theorem dX7_harvest_1 : decode cX7_harvest 1 = .ok (.iload_n 1, 1) := by decide +kernel
theorem dX7_harvest_2 : decode cX7_harvest 2 = .ok (.invokevirtual 176, 3) := by decide +kernel
theorem dX7_harvest_5 : decode cX7_harvest 5 = .ok (.ifCond .eq 8, 3) := by decide +kernel
theorem dX7_harvest_8 : decode cX7_harvest 8 = .ok (.iload_n 2, 1) := by decide +kernel
theorem dX7_harvest_9 : decode cX7_harvest 9 = .ok (.iconst (-1), 1) := by decide +kernel
theorem dX7_harvest_10 : decode cX7_harvest 10 = .ok (.if_icmp .ge 6, 3) := by decide +kernel
theorem dX7_harvest_13 : decode cX7_harvest 13 = .ok (.ldc 75, 2) := by decide +kernel
theorem dX7_harvest_15 : decode cX7_harvest 15 = .ok (.ireturn, 1) := by decide +kernel
theorem dX7_harvest_16 : decode cX7_harvest 16 = .ok (.aload_n 0, 1) := by decide +kernel
theorem dX7_harvest_17 : decode cX7_harvest 17 = .ok (.getfield 28, 3) := by decide +kernel
theorem dX7_harvest_20 : decode cX7_harvest 20 = .ok (.iconst 5, 1) := by decide +kernel
theorem dX7_harvest_21 : decode cX7_harvest 21 = .ok (.iaload, 1) := by decide +kernel
theorem dX7_harvest_22 : decode cX7_harvest 22 = .ok (.istore_n 3, 1) := by decide +kernel
theorem dX7_harvest_23 : decode cX7_harvest 23 = .ok (.iload_n 3, 1) := by decide +kernel
theorem dX7_harvest_24 : decode cX7_harvest 24 = .ok (.istore 4, 2) := by decide +kernel
theorem dX7_harvest_26 : decode cX7_harvest 26 = .ok (.iload 4, 2) := by decide +kernel
theorem dX7_harvest_28 : decode cX7_harvest 28 = .ok (.ifCond .lt 156, 3) := by decide +kernel
theorem dX7_harvest_31 : decode cX7_harvest 31 = .ok (.iconst 0, 1) := by decide +kernel
theorem dX7_harvest_32 : decode cX7_harvest 32 = .ok (.istore 5, 2) := by decide +kernel
theorem dX7_harvest_34 : decode cX7_harvest 34 = .ok (.iload 5, 2) := by decide +kernel
theorem dX7_harvest_36 : decode cX7_harvest 36 = .ok (.iload 4, 2) := by decide +kernel
theorem dX7_harvest_38 : decode cX7_harvest 38 = .ok (.if_icmp .gt 140, 3) := by decide +kernel
theorem dX7_harvest_41 : decode cX7_harvest 41 = .ok (.bipush 17, 2) := by decide +kernel
theorem dX7_harvest_43 : decode cX7_harvest 43 = .ok (.iload 5, 2) := by decide +kernel
theorem dX7_harvest_45 : decode cX7_harvest 45 = .ok (.imul, 1) := by decide +kernel
theorem dX7_harvest_46 : decode cX7_harvest 46 = .ok (.iload 4, 2) := by decide +kernel
theorem dX7_harvest_48 : decode cX7_harvest 48 = .ok (.iadd, 1) := by decide +kernel
theorem dX7_harvest_49 : decode cX7_harvest 49 = .ok (.iload 5, 2) := by decide +kernel
theorem dX7_harvest_51 : decode cX7_harvest 51 = .ok (.isub, 1) := by decide +kernel
theorem dX7_harvest_52 : decode cX7_harvest 52 = .ok (.istore 6, 2) := by decide +kernel
theorem dX7_harvest_54 : decode cX7_harvest 54 = .ok (.iload 4, 2) := by decide +kernel
theorem dX7_harvest_56 : decode cX7_harvest 56 = .ok (.iload_n 3, 1) := by decide +kernel
theorem dX7_harvest_57 : decode cX7_harvest 57 = .ok (.if_icmp .ne 7, 3) := by decide +kernel
theorem dX7_harvest_60 : decode cX7_harvest 60 = .ok (.iconst 0, 1) := by decide +kernel
theorem dX7_harvest_61 : decode cX7_harvest 61 = .ok (.goto 27, 3) := by decide +kernel
theorem dX7_harvest_64 : decode cX7_harvest 64 = .ok (.aload_n 0, 1) := by decide +kernel
theorem dX7_harvest_65 : decode cX7_harvest 65 = .ok (.aload_n 0, 1) := by decide +kernel
theorem dX7_harvest_66 : decode cX7_harvest 66 = .ok (.iload 5, 2) := by decide +kernel
theorem dX7_harvest_68 : decode cX7_harvest 68 = .ok (.invokevirtual 189, 3) := by decide +kernel
theorem dX7_harvest_71 : decode cX7_harvest 71 = .ok (.iload_n 1, 1) := by decide +kernel
theorem dX7_harvest_72 : decode cX7_harvest 72 = .ok (.iload 4, 2) := by decide +kernel
theorem dX7_harvest_74 : decode cX7_harvest 74 = .ok (.invokevirtual 193, 3) := by decide +kernel
theorem dX7_harvest_77 : decode cX7_harvest 77 = .ok (.aload_n 0, 1) := by decide +kernel
theorem dX7_harvest_78 : decode cX7_harvest 78 = .ok (.getfield 47, 3) := by decide +kernel
theorem dX7_harvest_81 : decode cX7_harvest 81 = .ok (.iload 6, 2) := by decide +kernel
theorem dX7_harvest_83 : decode cX7_harvest 83 = .ok (.bipush 17, 2) := by decide +kernel
theorem dX7_harvest_85 : decode cX7_harvest 85 = .ok (.iadd, 1) := by decide +kernel
theorem dX7_harvest_86 : decode cX7_harvest 86 = .ok (.iaload, 1) := by decide +kernel
theorem dX7_harvest_87 : decode cX7_harvest 87 = .ok (.iadd, 1) := by decide +kernel
theorem dX7_harvest_88 : decode cX7_harvest 88 = .ok (.istore 7, 2) := by decide +kernel
theorem dX7_harvest_90 : decode cX7_harvest 90 = .ok (.iload 4, 2) := by decide +kernel
theorem dX7_harvest_92 : decode cX7_harvest 92 = .ok (.iload_n 3, 1) := by decide +kernel
theorem dX7_harvest_93 : decode cX7_harvest 93 = .ok (.if_icmp .ne 7, 3) := by decide +kernel
theorem dX7_harvest_96 : decode cX7_harvest 96 = .ok (.iconst 0, 1) := by decide +kernel
theorem dX7_harvest_97 : decode cX7_harvest 97 = .ok (.goto 33, 3) := by decide +kernel
theorem dX7_harvest_100 : decode cX7_harvest 100 = .ok (.aload_n 0, 1) := by decide +kernel
theorem dX7_harvest_101 : decode cX7_harvest 101 = .ok (.aload_n 0, 1) := by decide +kernel
theorem dX7_harvest_102 : decode cX7_harvest 102 = .ok (.iload_n 3, 1) := by decide +kernel
theorem dX7_harvest_103 : decode cX7_harvest 103 = .ok (.iconst 1, 1) := by decide +kernel
theorem dX7_harvest_104 : decode cX7_harvest 104 = .ok (.isub, 1) := by decide +kernel
theorem dX7_harvest_105 : decode cX7_harvest 105 = .ok (.iload 4, 2) := by decide +kernel
theorem dX7_harvest_107 : decode cX7_harvest 107 = .ok (.isub, 1) := by decide +kernel
theorem dX7_harvest_108 : decode cX7_harvest 108 = .ok (.iload 5, 2) := by decide +kernel
theorem dX7_harvest_110 : decode cX7_harvest 110 = .ok (.iadd, 1) := by decide +kernel
theorem dX7_harvest_111 : decode cX7_harvest 111 = .ok (.invokevirtual 189, 3) := by decide +kernel
theorem dX7_harvest_114 : decode cX7_harvest 114 = .ok (.iload_n 1, 1) := by decide +kernel
theorem dX7_harvest_115 : decode cX7_harvest 115 = .ok (.iload 4, 2) := by decide +kernel
theorem dX7_harvest_117 : decode cX7_harvest 117 = .ok (.invokevirtual 193, 3) := by decide +kernel
theorem dX7_harvest_120 : decode cX7_harvest 120 = .ok (.aload_n 0, 1) := by decide +kernel
theorem dX7_harvest_121 : decode cX7_harvest 121 = .ok (.getfield 47, 3) := by decide +kernel
theorem dX7_harvest_124 : decode cX7_harvest 124 = .ok (.iload 6, 2) := by decide +kernel
theorem dX7_harvest_126 : decode cX7_harvest 126 = .ok (.iconst 1, 1) := by decide +kernel
theorem dX7_harvest_127 : decode cX7_harvest 127 = .ok (.iadd, 1) := by decide +kernel
theorem dX7_harvest_128 : decode cX7_harvest 128 = .ok (.iaload, 1) := by decide +kernel
theorem dX7_harvest_129 : decode cX7_harvest 129 = .ok (.iadd, 1) := by decide +kernel
theorem dX7_harvest_130 : decode cX7_harvest 130 = .ok (.istore 8, 2) := by decide +kernel
theorem dX7_harvest_132 : decode cX7_harvest 132 = .ok (.aload_n 0, 1) := by decide +kernel
theorem dX7_harvest_133 : decode cX7_harvest 133 = .ok (.getfield 47, 3) := by decide +kernel
theorem dX7_harvest_136 : decode cX7_harvest 136 = .ok (.iload 6, 2) := by decide +kernel
theorem dX7_harvest_138 : decode cX7_harvest 138 = .ok (.iload 7, 2) := by decide +kernel
theorem dX7_harvest_140 : decode cX7_harvest 140 = .ok (.iload 8, 2) := by decide +kernel
theorem dX7_harvest_142 : decode cX7_harvest 142 = .ok (.if_icmp .lt 8, 3) := by decide +kernel
theorem dX7_harvest_145 : decode cX7_harvest 145 = .ok (.iload 7, 2) := by decide +kernel
theorem dX7_harvest_147 : decode cX7_harvest 147 = .ok (.goto 5, 3) := by decide +kernel
theorem dX7_harvest_150 : decode cX7_harvest 150 = .ok (.iload 8, 2) := by decide +kernel
theorem dX7_harvest_152 : decode cX7_harvest 152 = .ok (.iastore, 1) := by decide +kernel
theorem dX7_harvest_153 : decode cX7_harvest 153 = .ok (.aload_n 0, 1) := by decide +kernel
theorem dX7_harvest_154 : decode cX7_harvest 154 = .ok (.getfield 50, 3) := by decide +kernel
theorem dX7_harvest_157 : decode cX7_harvest 157 = .ok (.iload 6, 2) := by decide +kernel
theorem dX7_harvest_159 : decode cX7_harvest 159 = .ok (.iload 7, 2) := by decide +kernel
theorem dX7_harvest_161 : decode cX7_harvest 161 = .ok (.iload 8, 2) := by decide +kernel
theorem dX7_harvest_163 : decode cX7_harvest 163 = .ok (.if_icmp .lt 7, 3) := by decide +kernel
theorem dX7_harvest_166 : decode cX7_harvest 166 = .ok (.iconst 0, 1) := by decide +kernel
theorem dX7_harvest_167 : decode cX7_harvest 167 = .ok (.goto 4, 3) := by decide +kernel
theorem dX7_harvest_170 : decode cX7_harvest 170 = .ok (.iconst 1, 1) := by decide +kernel
theorem dX7_harvest_171 : decode cX7_harvest 171 = .ok (.iastore, 1) := by decide +kernel
theorem dX7_harvest_172 : decode cX7_harvest 172 = .ok (.iinc 5 1, 3) := by decide +kernel
theorem dX7_harvest_175 : decode cX7_harvest 175 = .ok (.goto (-141), 3) := by decide +kernel
theorem dX7_harvest_178 : decode cX7_harvest 178 = .ok (.iinc 4 (-1), 3) := by decide +kernel
theorem dX7_harvest_181 : decode cX7_harvest 181 = .ok (.goto (-155), 3) := by decide +kernel
theorem dX7_harvest_184 : decode cX7_harvest 184 = .ok (.iload_n 2, 1) := by decide +kernel
theorem dX7_harvest_185 : decode cX7_harvest 185 = .ok (.iconst (-1), 1) := by decide +kernel
theorem dX7_harvest_186 : decode cX7_harvest 186 = .ok (.if_icmp .ne 10, 3) := by decide +kernel
theorem dX7_harvest_189 : decode cX7_harvest 189 = .ok (.aload_n 0, 1) := by decide +kernel
theorem dX7_harvest_190 : decode cX7_harvest 190 = .ok (.getfield 47, 3) := by decide +kernel
theorem dX7_harvest_193 : decode cX7_harvest 193 = .ok (.iconst 0, 1) := by decide +kernel
theorem dX7_harvest_194 : decode cX7_harvest 194 = .ok (.iaload, 1) := by decide +kernel
theorem dX7_harvest_195 : decode cX7_harvest 195 = .ok (.ireturn, 1) := by decide +kernel
theorem dX7_harvest_196 : decode cX7_harvest 196 = .ok (.iload_n 2, 1) := by decide +kernel
theorem dX7_harvest_197 : decode cX7_harvest 197 = .ok (.iload_n 3, 1) := by decide +kernel
theorem dX7_harvest_198 : decode cX7_harvest 198 = .ok (.if_icmp .lt 6, 3) := by decide +kernel
theorem dX7_harvest_201 : decode cX7_harvest 201 = .ok (.ldc 172, 2) := by decide +kernel
theorem dX7_harvest_203 : decode cX7_harvest 203 = .ok (.ireturn, 1) := by decide +kernel
theorem dX7_harvest_204 : decode cX7_harvest 204 = .ok (.iconst 0, 1) := by decide +kernel
theorem dX7_harvest_205 : decode cX7_harvest 205 = .ok (.istore 4, 2) := by decide +kernel
theorem dX7_harvest_207 : decode cX7_harvest 207 = .ok (.iconst 0, 1) := by decide +kernel
theorem dX7_harvest_208 : decode cX7_harvest 208 = .ok (.istore 5, 2) := by decide +kernel
theorem dX7_harvest_210 : decode cX7_harvest 210 = .ok (.iload 5, 2) := by decide +kernel
theorem dX7_harvest_212 : decode cX7_harvest 212 = .ok (.iload_n 2, 1) := by decide +kernel
theorem dX7_harvest_213 : decode cX7_harvest 213 = .ok (.if_icmp .ge 30, 3) := by decide +kernel
theorem dX7_harvest_216 : decode cX7_harvest 216 = .ok (.iload 4, 2) := by decide +kernel
theorem dX7_harvest_218 : decode cX7_harvest 218 = .ok (.aload_n 0, 1) := by decide +kernel
theorem dX7_harvest_219 : decode cX7_harvest 219 = .ok (.getfield 50, 3) := by decide +kernel
theorem dX7_harvest_222 : decode cX7_harvest 222 = .ok (.iload 4, 2) := by decide +kernel
theorem dX7_harvest_224 : decode cX7_harvest 224 = .ok (.iaload, 1) := by decide +kernel
theorem dX7_harvest_225 : decode cX7_harvest 225 = .ok (.ifCond .ne 8, 3) := by decide +kernel
theorem dX7_harvest_228 : decode cX7_harvest 228 = .ok (.bipush 17, 2) := by decide +kernel
theorem dX7_harvest_230 : decode cX7_harvest 230 = .ok (.goto 4, 3) := by decide +kernel
theorem dX7_harvest_233 : decode cX7_harvest 233 = .ok (.iconst 1, 1) := by decide +kernel
theorem dX7_harvest_234 : decode cX7_harvest 234 = .ok (.iadd, 1) := by decide +kernel
theorem dX7_harvest_235 : decode cX7_harvest 235 = .ok (.istore 4, 2) := by decide +kernel
theorem dX7_harvest_237 : decode cX7_harvest 237 = .ok (.iinc 5 1, 3) := by decide +kernel
theorem dX7_harvest_240 : decode cX7_harvest 240 = .ok (.goto (-30), 3) := by decide +kernel
theorem dX7_harvest_243 : decode cX7_harvest 243 = .ok (.aload_n 0, 1) := by decide +kernel
theorem dX7_harvest_244 : decode cX7_harvest 244 = .ok (.getfield 50, 3) := by decide +kernel
theorem dX7_harvest_247 : decode cX7_harvest 247 = .ok (.iload 4, 2) := by decide +kernel
theorem dX7_harvest_249 : decode cX7_harvest 249 = .ok (.iaload, 1) := by decide +kernel
theorem dX7_harvest_250 : decode cX7_harvest 250 = .ok (.ireturn, 1) := by decide +kernel
theorem dX7_judge_0 : decode cX7_judge 0 = .ok (.aload_n 0, 1) := by decide +kernel
theorem dX7_judge_1 : decode cX7_judge 1 = .ok (.getfield 28, 3) := by decide +kernel
theorem dX7_judge_4 : decode cX7_judge 4 = .ok (.iconst 0, 1) := by decide +kernel
theorem dX7_judge_5 : decode cX7_judge 5 = .ok (.iaload, 1) := by decide +kernel
theorem dX7_judge_6 : decode cX7_judge 6 = .ok (.ifCond .ne 6, 3) := by decide +kernel
theorem dX7_judge_9 : decode cX7_judge 9 = .ok (.ldc 192, 2) := by decide +kernel
theorem dX7_judge_11 : decode cX7_judge 11 = .ok (.ireturn, 1) := by decide +kernel
theorem dX7_judge_12 : decode cX7_judge 12 = .ok (.iload_n 1, 1) := by decide +kernel
theorem dX7_judge_13 : decode cX7_judge 13 = .ok (.invokestatic 71, 3) := by decide +kernel
theorem dX7_judge_16 : decode cX7_judge 16 = .ok (.ifCond .eq 13, 3) := by decide +kernel
theorem dX7_judge_19 : decode cX7_judge 19 = .ok (.iload_n 3, 1) := by decide +kernel
theorem dX7_judge_20 : decode cX7_judge 20 = .ok (.iconst 1, 1) := by decide +kernel
theorem dX7_judge_21 : decode cX7_judge 21 = .ok (.bipush 16, 2) := by decide +kernel
theorem dX7_judge_23 : decode cX7_judge 23 = .ok (.invokestatic 67, 3) := by decide +kernel
theorem dX7_judge_26 : decode cX7_judge 26 = .ok (.ifCond .ne 6, 3) := by decide +kernel
theorem dX7_judge_29 : decode cX7_judge 29 = .ok (.ldc 75, 2) := by decide +kernel
theorem dX7_judge_31 : decode cX7_judge 31 = .ok (.ireturn, 1) := by decide +kernel
theorem dX7_judge_32 : decode cX7_judge 32 = .ok (.aload_n 0, 1) := by decide +kernel
theorem dX7_judge_33 : decode cX7_judge 33 = .ok (.iload_n 1, 1) := by decide +kernel
theorem dX7_judge_34 : decode cX7_judge 34 = .ok (.iload_n 2, 1) := by decide +kernel
theorem dX7_judge_35 : decode cX7_judge 35 = .ok (.iload_n 3, 1) := by decide +kernel
theorem dX7_judge_36 : decode cX7_judge 36 = .ok (.invokevirtual 237, 3) := by decide +kernel
theorem dX7_judge_39 : decode cX7_judge 39 = .ok (.istore 4, 2) := by decide +kernel
theorem dX7_judge_41 : decode cX7_judge 41 = .ok (.iload 4, 2) := by decide +kernel
theorem dX7_judge_43 : decode cX7_judge 43 = .ok (.ifCond .eq 10, 3) := by decide +kernel
theorem dX7_judge_46 : decode cX7_judge 46 = .ok (.aload_n 0, 1) := by decide +kernel
theorem dX7_judge_47 : decode cX7_judge 47 = .ok (.iload 4, 2) := by decide +kernel
theorem dX7_judge_49 : decode cX7_judge 49 = .ok (.invokevirtual 76, 3) := by decide +kernel
theorem dX7_judge_52 : decode cX7_judge 52 = .ok (.ireturn, 1) := by decide +kernel
theorem dX7_judge_53 : decode cX7_judge 53 = .ok (.iconst 0, 1) := by decide +kernel
theorem dX7_judge_54 : decode cX7_judge 54 = .ok (.istore 5, 2) := by decide +kernel
theorem dX7_judge_56 : decode cX7_judge 56 = .ok (.iload 5, 2) := by decide +kernel
theorem dX7_judge_58 : decode cX7_judge 58 = .ok (.iload_n 3, 1) := by decide +kernel
theorem dX7_judge_59 : decode cX7_judge 59 = .ok (.if_icmp .ge 33, 3) := by decide +kernel
theorem dX7_judge_62 : decode cX7_judge 62 = .ok (.aload_n 0, 1) := by decide +kernel
theorem dX7_judge_63 : decode cX7_judge 63 = .ok (.aload_n 0, 1) := by decide +kernel
theorem dX7_judge_64 : decode cX7_judge 64 = .ok (.getfield 16, 3) := by decide +kernel
theorem dX7_judge_67 : decode cX7_judge 67 = .ok (.bipush 40, 2) := by decide +kernel
theorem dX7_judge_69 : decode cX7_judge 69 = .ok (.iload_n 1, 1) := by decide +kernel
theorem dX7_judge_70 : decode cX7_judge 70 = .ok (.imul, 1) := by decide +kernel
theorem dX7_judge_71 : decode cX7_judge 71 = .ok (.iload_n 2, 1) := by decide +kernel
theorem dX7_judge_72 : decode cX7_judge 72 = .ok (.iadd, 1) := by decide +kernel
theorem dX7_judge_73 : decode cX7_judge 73 = .ok (.iload 5, 2) := by decide +kernel
theorem dX7_judge_75 : decode cX7_judge 75 = .ok (.iadd, 1) := by decide +kernel
theorem dX7_judge_76 : decode cX7_judge 76 = .ok (.iaload, 1) := by decide +kernel
theorem dX7_judge_77 : decode cX7_judge 77 = .ok (.invokevirtual 215, 3) := by decide +kernel
theorem dX7_judge_80 : decode cX7_judge 80 = .ok (.ifCond .ne 6, 3) := by decide +kernel
theorem dX7_judge_83 : decode cX7_judge 83 = .ok (.ldc 75, 2) := by decide +kernel
theorem dX7_judge_85 : decode cX7_judge 85 = .ok (.ireturn, 1) := by decide +kernel
theorem dX7_judge_86 : decode cX7_judge 86 = .ok (.iinc 5 1, 3) := by decide +kernel
theorem dX7_judge_89 : decode cX7_judge 89 = .ok (.goto (-33), 3) := by decide +kernel
theorem dX7_judge_92 : decode cX7_judge 92 = .ok (.iconst 0, 1) := by decide +kernel
theorem dX7_judge_93 : decode cX7_judge 93 = .ok (.istore 5, 2) := by decide +kernel
theorem dX7_judge_95 : decode cX7_judge 95 = .ok (.aload_n 0, 1) := by decide +kernel
theorem dX7_judge_96 : decode cX7_judge 96 = .ok (.getfield 28, 3) := by decide +kernel
theorem dX7_judge_99 : decode cX7_judge 99 = .ok (.iconst 5, 1) := by decide +kernel
theorem dX7_judge_100 : decode cX7_judge 100 = .ok (.iaload, 1) := by decide +kernel
theorem dX7_judge_101 : decode cX7_judge 101 = .ok (.iconst 1, 1) := by decide +kernel
theorem dX7_judge_102 : decode cX7_judge 102 = .ok (.isub, 1) := by decide +kernel
theorem dX7_judge_103 : decode cX7_judge 103 = .ok (.istore 6, 2) := by decide +kernel
theorem dX7_judge_105 : decode cX7_judge 105 = .ok (.iconst 0, 1) := by decide +kernel
theorem dX7_judge_106 : decode cX7_judge 106 = .ok (.istore 7, 2) := by decide +kernel
theorem dX7_judge_108 : decode cX7_judge 108 = .ok (.iload 7, 2) := by decide +kernel
theorem dX7_judge_110 : decode cX7_judge 110 = .ok (.iload_n 3, 1) := by decide +kernel
theorem dX7_judge_111 : decode cX7_judge 111 = .ok (.if_icmp .ge 80, 3) := by decide +kernel
theorem dX7_judge_114 : decode cX7_judge 114 = .ok (.aload_n 0, 1) := by decide +kernel
theorem dX7_judge_115 : decode cX7_judge 115 = .ok (.getfield 16, 3) := by decide +kernel
theorem dX7_judge_118 : decode cX7_judge 118 = .ok (.bipush 40, 2) := by decide +kernel
theorem dX7_judge_120 : decode cX7_judge 120 = .ok (.iload_n 1, 1) := by decide +kernel
theorem dX7_judge_121 : decode cX7_judge 121 = .ok (.imul, 1) := by decide +kernel
theorem dX7_judge_122 : decode cX7_judge 122 = .ok (.iload_n 2, 1) := by decide +kernel
theorem dX7_judge_123 : decode cX7_judge 123 = .ok (.iadd, 1) := by decide +kernel
theorem dX7_judge_124 : decode cX7_judge 124 = .ok (.iload 7, 2) := by decide +kernel
theorem dX7_judge_126 : decode cX7_judge 126 = .ok (.iadd, 1) := by decide +kernel
theorem dX7_judge_127 : decode cX7_judge 127 = .ok (.iaload, 1) := by decide +kernel
theorem dX7_judge_128 : decode cX7_judge 128 = .ok (.istore 8, 2) := by decide +kernel
theorem dX7_judge_130 : decode cX7_judge 130 = .ok (.iload 5, 2) := by decide +kernel
theorem dX7_judge_132 : decode cX7_judge 132 = .ok (.iload 6, 2) := by decide +kernel
theorem dX7_judge_134 : decode cX7_judge 134 = .ok (.if_icmp .gt 20, 3) := by decide +kernel
theorem dX7_judge_137 : decode cX7_judge 137 = .ok (.aload_n 0, 1) := by decide +kernel
theorem dX7_judge_138 : decode cX7_judge 138 = .ok (.iload 5, 2) := by decide +kernel
theorem dX7_judge_140 : decode cX7_judge 140 = .ok (.invokevirtual 189, 3) := by decide +kernel
theorem dX7_judge_143 : decode cX7_judge 143 = .ok (.iload 8, 2) := by decide +kernel
theorem dX7_judge_145 : decode cX7_judge 145 = .ok (.if_icmp .ne 9, 3) := by decide +kernel
theorem dX7_judge_148 : decode cX7_judge 148 = .ok (.iinc 5 1, 3) := by decide +kernel
theorem dX7_judge_151 : decode cX7_judge 151 = .ok (.goto 34, 3) := by decide +kernel
theorem dX7_judge_154 : decode cX7_judge 154 = .ok (.iload 5, 2) := by decide +kernel
theorem dX7_judge_156 : decode cX7_judge 156 = .ok (.iload 6, 2) := by decide +kernel
theorem dX7_judge_158 : decode cX7_judge 158 = .ok (.if_icmp .gt 20, 3) := by decide +kernel
theorem dX7_judge_161 : decode cX7_judge 161 = .ok (.aload_n 0, 1) := by decide +kernel
theorem dX7_judge_162 : decode cX7_judge 162 = .ok (.iload 6, 2) := by decide +kernel
theorem dX7_judge_164 : decode cX7_judge 164 = .ok (.invokevirtual 189, 3) := by decide +kernel
theorem dX7_judge_167 : decode cX7_judge 167 = .ok (.iload 8, 2) := by decide +kernel
theorem dX7_judge_169 : decode cX7_judge 169 = .ok (.if_icmp .ne 9, 3) := by decide +kernel
theorem dX7_judge_172 : decode cX7_judge 172 = .ok (.iinc 6 (-1), 3) := by decide +kernel
theorem dX7_judge_175 : decode cX7_judge 175 = .ok (.goto 10, 3) := by decide +kernel
theorem dX7_judge_178 : decode cX7_judge 178 = .ok (.aload_n 0, 1) := by decide +kernel
theorem dX7_judge_179 : decode cX7_judge 179 = .ok (.iload 7, 2) := by decide +kernel
theorem dX7_judge_181 : decode cX7_judge 181 = .ok (.invokevirtual 80, 3) := by decide +kernel
theorem dX7_judge_184 : decode cX7_judge 184 = .ok (.ireturn, 1) := by decide +kernel
theorem dX7_judge_185 : decode cX7_judge 185 = .ok (.iinc 7 1, 3) := by decide +kernel
theorem dX7_judge_188 : decode cX7_judge 188 = .ok (.goto (-80), 3) := by decide +kernel
theorem dX7_judge_191 : decode cX7_judge 191 = .ok (.aload_n 0, 1) := by decide +kernel
theorem dX7_judge_192 : decode cX7_judge 192 = .ok (.ldc 172, 2) := by decide +kernel
theorem dX7_judge_194 : decode cX7_judge 194 = .ok (.invokevirtual 80, 3) := by decide +kernel
theorem dX7_judge_197 : decode cX7_judge 197 = .ok (.ireturn, 1) := by decide +kernel
theorem dX7_heard_0 : decode cX7_heard 0 = .ok (.aload_n 0, 1) := by decide +kernel
theorem dX7_heard_1 : decode cX7_heard 1 = .ok (.iload_n 1, 1) := by decide +kernel
theorem dX7_heard_2 : decode cX7_heard 2 = .ok (.invokevirtual 176, 3) := by decide +kernel
theorem dX7_heard_5 : decode cX7_heard 5 = .ok (.ifCond .eq 31, 3) := by decide +kernel
theorem dX7_heard_8 : decode cX7_heard 8 = .ok (.iload_n 2, 1) := by decide +kernel
theorem dX7_heard_9 : decode cX7_heard 9 = .ok (.invokestatic 71, 3) := by decide +kernel
theorem dX7_heard_12 : decode cX7_heard 12 = .ok (.ifCond .eq 24, 3) := by decide +kernel
theorem dX7_heard_15 : decode cX7_heard 15 = .ok (.iload 4, 2) := by decide +kernel
theorem dX7_heard_17 : decode cX7_heard 17 = .ok (.iconst 1, 1) := by decide +kernel
theorem dX7_heard_18 : decode cX7_heard 18 = .ok (.bipush 10, 2) := by decide +kernel
theorem dX7_heard_20 : decode cX7_heard 20 = .ok (.invokestatic 67, 3) := by decide +kernel
theorem dX7_heard_23 : decode cX7_heard 23 = .ok (.ifCond .eq 13, 3) := by decide +kernel
theorem dX7_heard_26 : decode cX7_heard 26 = .ok (.iload 5, 2) := by decide +kernel
theorem dX7_heard_28 : decode cX7_heard 28 = .ok (.iconst 0, 1) := by decide +kernel
theorem dX7_heard_29 : decode cX7_heard 29 = .ok (.iconst 1, 1) := by decide +kernel
theorem dX7_heard_30 : decode cX7_heard 30 = .ok (.invokestatic 67, 3) := by decide +kernel
theorem dX7_heard_33 : decode cX7_heard 33 = .ok (.ifCond .ne 6, 3) := by decide +kernel
theorem dX7_heard_36 : decode cX7_heard 36 = .ok (.ldc 75, 2) := by decide +kernel
theorem dX7_heard_38 : decode cX7_heard 38 = .ok (.ireturn, 1) := by decide +kernel
theorem dX7_heard_39 : decode cX7_heard 39 = .ok (.aload_n 0, 1) := by decide +kernel
theorem dX7_heard_40 : decode cX7_heard 40 = .ok (.iload_n 2, 1) := by decide +kernel
theorem dX7_heard_41 : decode cX7_heard 41 = .ok (.iload_n 3, 1) := by decide +kernel
theorem dX7_heard_42 : decode cX7_heard 42 = .ok (.iload 4, 2) := by decide +kernel
theorem dX7_heard_44 : decode cX7_heard 44 = .ok (.invokevirtual 237, 3) := by decide +kernel
theorem dX7_heard_47 : decode cX7_heard 47 = .ok (.istore 6, 2) := by decide +kernel
theorem dX7_heard_49 : decode cX7_heard 49 = .ok (.iload 6, 2) := by decide +kernel
theorem dX7_heard_51 : decode cX7_heard 51 = .ok (.ifCond .eq 10, 3) := by decide +kernel
theorem dX7_heard_54 : decode cX7_heard 54 = .ok (.aload_n 0, 1) := by decide +kernel
theorem dX7_heard_55 : decode cX7_heard 55 = .ok (.iload 6, 2) := by decide +kernel
theorem dX7_heard_57 : decode cX7_heard 57 = .ok (.invokevirtual 76, 3) := by decide +kernel
theorem dX7_heard_60 : decode cX7_heard 60 = .ok (.ireturn, 1) := by decide +kernel
theorem dX7_heard_61 : decode cX7_heard 61 = .ok (.aload_n 0, 1) := by decide +kernel
theorem dX7_heard_62 : decode cX7_heard 62 = .ok (.getfield 28, 3) := by decide +kernel
theorem dX7_heard_65 : decode cX7_heard 65 = .ok (.iconst 5, 1) := by decide +kernel
theorem dX7_heard_66 : decode cX7_heard 66 = .ok (.iaload, 1) := by decide +kernel
theorem dX7_heard_67 : decode cX7_heard 67 = .ok (.istore 7, 2) := by decide +kernel
theorem dX7_heard_69 : decode cX7_heard 69 = .ok (.iload 4, 2) := by decide +kernel
theorem dX7_heard_71 : decode cX7_heard 71 = .ok (.iload 7, 2) := by decide +kernel
theorem dX7_heard_73 : decode cX7_heard 73 = .ok (.if_icmp .le 19, 3) := by decide +kernel
theorem dX7_heard_76 : decode cX7_heard 76 = .ok (.aload_n 0, 1) := by decide +kernel
theorem dX7_heard_77 : decode cX7_heard 77 = .ok (.iload 5, 2) := by decide +kernel
theorem dX7_heard_79 : decode cX7_heard 79 = .ok (.ifCond .ne 7, 3) := by decide +kernel
theorem dX7_heard_82 : decode cX7_heard 82 = .ok (.iconst 0, 1) := by decide +kernel
theorem dX7_heard_83 : decode cX7_heard 83 = .ok (.goto 5, 3) := by decide +kernel
theorem dX7_heard_86 : decode cX7_heard 86 = .ok (.ldc 172, 2) := by decide +kernel
theorem dX7_heard_88 : decode cX7_heard 88 = .ok (.invokevirtual 80, 3) := by decide +kernel
theorem dX7_heard_91 : decode cX7_heard 91 = .ok (.ireturn, 1) := by decide +kernel
theorem dX7_heard_92 : decode cX7_heard 92 = .ok (.iconst 0, 1) := by decide +kernel
theorem dX7_heard_93 : decode cX7_heard 93 = .ok (.istore 8, 2) := by decide +kernel
theorem dX7_heard_95 : decode cX7_heard 95 = .ok (.iload 8, 2) := by decide +kernel
theorem dX7_heard_97 : decode cX7_heard 97 = .ok (.sipush 289, 3) := by decide +kernel
theorem dX7_heard_100 : decode cX7_heard 100 = .ok (.if_icmp .ge 17, 3) := by decide +kernel
theorem dX7_heard_103 : decode cX7_heard 103 = .ok (.aload_n 0, 1) := by decide +kernel
theorem dX7_heard_104 : decode cX7_heard 104 = .ok (.getfield 47, 3) := by decide +kernel
theorem dX7_heard_107 : decode cX7_heard 107 = .ok (.iload 8, 2) := by decide +kernel
theorem dX7_heard_109 : decode cX7_heard 109 = .ok (.iconst 0, 1) := by decide +kernel
theorem dX7_heard_110 : decode cX7_heard 110 = .ok (.iastore, 1) := by decide +kernel
theorem dX7_heard_111 : decode cX7_heard 111 = .ok (.iinc 8 1, 3) := by decide +kernel
theorem dX7_heard_114 : decode cX7_heard 114 = .ok (.goto (-19), 3) := by decide +kernel
theorem dX7_heard_117 : decode cX7_heard 117 = .ok (.aload_n 0, 1) := by decide +kernel
theorem dX7_heard_118 : decode cX7_heard 118 = .ok (.getfield 47, 3) := by decide +kernel
theorem dX7_heard_121 : decode cX7_heard 121 = .ok (.iconst 0, 1) := by decide +kernel
theorem dX7_heard_122 : decode cX7_heard 122 = .ok (.iconst 1, 1) := by decide +kernel
theorem dX7_heard_123 : decode cX7_heard 123 = .ok (.iastore, 1) := by decide +kernel
theorem dX7_heard_124 : decode cX7_heard 124 = .ok (.iconst 0, 1) := by decide +kernel
theorem dX7_heard_125 : decode cX7_heard 125 = .ok (.istore 8, 2) := by decide +kernel
theorem dX7_heard_127 : decode cX7_heard 127 = .ok (.iload 8, 2) := by decide +kernel
theorem dX7_heard_129 : decode cX7_heard 129 = .ok (.iload 4, 2) := by decide +kernel
theorem dX7_heard_131 : decode cX7_heard 131 = .ok (.if_icmp .ge 144, 3) := by decide +kernel
theorem dX7_heard_134 : decode cX7_heard 134 = .ok (.iconst 0, 1) := by decide +kernel
theorem dX7_heard_135 : decode cX7_heard 135 = .ok (.istore 9, 2) := by decide +kernel
theorem dX7_heard_137 : decode cX7_heard 137 = .ok (.iload 9, 2) := by decide +kernel
theorem dX7_heard_139 : decode cX7_heard 139 = .ok (.iload 8, 2) := by decide +kernel
theorem dX7_heard_141 : decode cX7_heard 141 = .ok (.if_icmp .gt 128, 3) := by decide +kernel
theorem dX7_heard_144 : decode cX7_heard 144 = .ok (.bipush 17, 2) := by decide +kernel
theorem dX7_heard_146 : decode cX7_heard 146 = .ok (.iload 9, 2) := by decide +kernel
theorem dX7_heard_148 : decode cX7_heard 148 = .ok (.imul, 1) := by decide +kernel
theorem dX7_heard_149 : decode cX7_heard 149 = .ok (.iload 8, 2) := by decide +kernel
theorem dX7_heard_151 : decode cX7_heard 151 = .ok (.iadd, 1) := by decide +kernel
theorem dX7_heard_152 : decode cX7_heard 152 = .ok (.iload 9, 2) := by decide +kernel
theorem dX7_heard_154 : decode cX7_heard 154 = .ok (.isub, 1) := by decide +kernel
theorem dX7_heard_155 : decode cX7_heard 155 = .ok (.istore 10, 2) := by decide +kernel
theorem dX7_heard_157 : decode cX7_heard 157 = .ok (.aload_n 0, 1) := by decide +kernel
theorem dX7_heard_158 : decode cX7_heard 158 = .ok (.getfield 16, 3) := by decide +kernel
theorem dX7_heard_161 : decode cX7_heard 161 = .ok (.bipush 40, 2) := by decide +kernel
theorem dX7_heard_163 : decode cX7_heard 163 = .ok (.iload_n 2, 1) := by decide +kernel
theorem dX7_heard_164 : decode cX7_heard 164 = .ok (.imul, 1) := by decide +kernel
theorem dX7_heard_165 : decode cX7_heard 165 = .ok (.iload_n 3, 1) := by decide +kernel
theorem dX7_heard_166 : decode cX7_heard 166 = .ok (.iadd, 1) := by decide +kernel
theorem dX7_heard_167 : decode cX7_heard 167 = .ok (.iload 8, 2) := by decide +kernel
theorem dX7_heard_169 : decode cX7_heard 169 = .ok (.iadd, 1) := by decide +kernel
theorem dX7_heard_170 : decode cX7_heard 170 = .ok (.iaload, 1) := by decide +kernel
theorem dX7_heard_171 : decode cX7_heard 171 = .ok (.istore 11, 2) := by decide +kernel
theorem dX7_heard_173 : decode cX7_heard 173 = .ok (.aload_n 0, 1) := by decide +kernel
theorem dX7_heard_174 : decode cX7_heard 174 = .ok (.aload_n 0, 1) := by decide +kernel
theorem dX7_heard_175 : decode cX7_heard 175 = .ok (.iload 9, 2) := by decide +kernel
theorem dX7_heard_177 : decode cX7_heard 177 = .ok (.invokevirtual 189, 3) := by decide +kernel
theorem dX7_heard_180 : decode cX7_heard 180 = .ok (.iload_n 1, 1) := by decide +kernel
theorem dX7_heard_181 : decode cX7_heard 181 = .ok (.iconst 0, 1) := by decide +kernel
theorem dX7_heard_182 : decode cX7_heard 182 = .ok (.invokevirtual 193, 3) := by decide +kernel
theorem dX7_heard_185 : decode cX7_heard 185 = .ok (.iload 11, 2) := by decide +kernel
theorem dX7_heard_187 : decode cX7_heard 187 = .ok (.if_icmp .ne 23, 3) := by decide +kernel
theorem dX7_heard_190 : decode cX7_heard 190 = .ok (.aload_n 0, 1) := by decide +kernel
theorem dX7_heard_191 : decode cX7_heard 191 = .ok (.getfield 47, 3) := by decide +kernel
theorem dX7_heard_194 : decode cX7_heard 194 = .ok (.iload 10, 2) := by decide +kernel
theorem dX7_heard_196 : decode cX7_heard 196 = .ok (.bipush 17, 2) := by decide +kernel
theorem dX7_heard_198 : decode cX7_heard 198 = .ok (.iadd, 1) := by decide +kernel
theorem dX7_heard_199 : decode cX7_heard 199 = .ok (.dup2, 1) := by decide +kernel
theorem dX7_heard_200 : decode cX7_heard 200 = .ok (.iaload, 1) := by decide +kernel
theorem dX7_heard_201 : decode cX7_heard 201 = .ok (.aload_n 0, 1) := by decide +kernel
theorem dX7_heard_202 : decode cX7_heard 202 = .ok (.getfield 47, 3) := by decide +kernel
theorem dX7_heard_205 : decode cX7_heard 205 = .ok (.iload 10, 2) := by decide +kernel
theorem dX7_heard_207 : decode cX7_heard 207 = .ok (.iaload, 1) := by decide +kernel
theorem dX7_heard_208 : decode cX7_heard 208 = .ok (.iadd, 1) := by decide +kernel
theorem dX7_heard_209 : decode cX7_heard 209 = .ok (.iastore, 1) := by decide +kernel
theorem dX7_heard_210 : decode cX7_heard 210 = .ok (.iload 8, 2) := by decide +kernel
theorem dX7_heard_212 : decode cX7_heard 212 = .ok (.iload 7, 2) := by decide +kernel
theorem dX7_heard_214 : decode cX7_heard 214 = .ok (.iconst 1, 1) := by decide +kernel
theorem dX7_heard_215 : decode cX7_heard 215 = .ok (.isub, 1) := by decide +kernel
theorem dX7_heard_216 : decode cX7_heard 216 = .ok (.if_icmp .ge 47, 3) := by decide +kernel
theorem dX7_heard_219 : decode cX7_heard 219 = .ok (.aload_n 0, 1) := by decide +kernel
theorem dX7_heard_220 : decode cX7_heard 220 = .ok (.aload_n 0, 1) := by decide +kernel
theorem dX7_heard_221 : decode cX7_heard 221 = .ok (.iload 7, 2) := by decide +kernel
theorem dX7_heard_223 : decode cX7_heard 223 = .ok (.iconst 1, 1) := by decide +kernel
theorem dX7_heard_224 : decode cX7_heard 224 = .ok (.isub, 1) := by decide +kernel
theorem dX7_heard_225 : decode cX7_heard 225 = .ok (.iload 8, 2) := by decide +kernel
theorem dX7_heard_227 : decode cX7_heard 227 = .ok (.isub, 1) := by decide +kernel
theorem dX7_heard_228 : decode cX7_heard 228 = .ok (.iload 9, 2) := by decide +kernel
theorem dX7_heard_230 : decode cX7_heard 230 = .ok (.iadd, 1) := by decide +kernel
theorem dX7_heard_231 : decode cX7_heard 231 = .ok (.invokevirtual 189, 3) := by decide +kernel
theorem dX7_heard_234 : decode cX7_heard 234 = .ok (.iload_n 1, 1) := by decide +kernel
theorem dX7_heard_235 : decode cX7_heard 235 = .ok (.iconst 0, 1) := by decide +kernel
theorem dX7_heard_236 : decode cX7_heard 236 = .ok (.invokevirtual 193, 3) := by decide +kernel
theorem dX7_heard_239 : decode cX7_heard 239 = .ok (.iload 11, 2) := by decide +kernel
theorem dX7_heard_241 : decode cX7_heard 241 = .ok (.if_icmp .ne 22, 3) := by decide +kernel
theorem dX7_heard_244 : decode cX7_heard 244 = .ok (.aload_n 0, 1) := by decide +kernel
theorem dX7_heard_245 : decode cX7_heard 245 = .ok (.getfield 47, 3) := by decide +kernel
theorem dX7_heard_248 : decode cX7_heard 248 = .ok (.iload 10, 2) := by decide +kernel
theorem dX7_heard_250 : decode cX7_heard 250 = .ok (.iconst 1, 1) := by decide +kernel
theorem dX7_heard_251 : decode cX7_heard 251 = .ok (.iadd, 1) := by decide +kernel
theorem dX7_heard_252 : decode cX7_heard 252 = .ok (.dup2, 1) := by decide +kernel
theorem dX7_heard_253 : decode cX7_heard 253 = .ok (.iaload, 1) := by decide +kernel
theorem dX7_heard_254 : decode cX7_heard 254 = .ok (.aload_n 0, 1) := by decide +kernel
theorem dX7_heard_255 : decode cX7_heard 255 = .ok (.getfield 47, 3) := by decide +kernel
theorem dX7_heard_258 : decode cX7_heard 258 = .ok (.iload 10, 2) := by decide +kernel
theorem dX7_heard_260 : decode cX7_heard 260 = .ok (.iaload, 1) := by decide +kernel
theorem dX7_heard_261 : decode cX7_heard 261 = .ok (.iadd, 1) := by decide +kernel
theorem dX7_heard_262 : decode cX7_heard 262 = .ok (.iastore, 1) := by decide +kernel
theorem dX7_heard_263 : decode cX7_heard 263 = .ok (.iinc 9 1, 3) := by decide +kernel
theorem dX7_heard_266 : decode cX7_heard 266 = .ok (.goto (-129), 3) := by decide +kernel
theorem dX7_heard_269 : decode cX7_heard 269 = .ok (.iinc 8 1, 3) := by decide +kernel
theorem dX7_heard_272 : decode cX7_heard 272 = .ok (.goto (-145), 3) := by decide +kernel
theorem dX7_heard_275 : decode cX7_heard 275 = .ok (.iconst 0, 1) := by decide +kernel
theorem dX7_heard_276 : decode cX7_heard 276 = .ok (.istore 8, 2) := by decide +kernel
theorem dX7_heard_278 : decode cX7_heard 278 = .ok (.iconst (-1), 1) := by decide +kernel
theorem dX7_heard_279 : decode cX7_heard 279 = .ok (.istore 9, 2) := by decide +kernel
theorem dX7_heard_281 : decode cX7_heard 281 = .ok (.iconst 0, 1) := by decide +kernel
theorem dX7_heard_282 : decode cX7_heard 282 = .ok (.istore 10, 2) := by decide +kernel
theorem dX7_heard_284 : decode cX7_heard 284 = .ok (.iload 10, 2) := by decide +kernel
theorem dX7_heard_286 : decode cX7_heard 286 = .ok (.iload 4, 2) := by decide +kernel
theorem dX7_heard_288 : decode cX7_heard 288 = .ok (.if_icmp .gt 107, 3) := by decide +kernel
theorem dX7_heard_291 : decode cX7_heard 291 = .ok (.aload_n 0, 1) := by decide +kernel
theorem dX7_heard_292 : decode cX7_heard 292 = .ok (.getfield 47, 3) := by decide +kernel
theorem dX7_heard_295 : decode cX7_heard 295 = .ok (.bipush 17, 2) := by decide +kernel
theorem dX7_heard_297 : decode cX7_heard 297 = .ok (.iload 10, 2) := by decide +kernel
theorem dX7_heard_299 : decode cX7_heard 299 = .ok (.imul, 1) := by decide +kernel
theorem dX7_heard_300 : decode cX7_heard 300 = .ok (.iload 4, 2) := by decide +kernel
theorem dX7_heard_302 : decode cX7_heard 302 = .ok (.iadd, 1) := by decide +kernel
theorem dX7_heard_303 : decode cX7_heard 303 = .ok (.iload 10, 2) := by decide +kernel
theorem dX7_heard_305 : decode cX7_heard 305 = .ok (.isub, 1) := by decide +kernel
theorem dX7_heard_306 : decode cX7_heard 306 = .ok (.iaload, 1) := by decide +kernel
theorem dX7_heard_307 : decode cX7_heard 307 = .ok (.istore 11, 2) := by decide +kernel
theorem dX7_heard_309 : decode cX7_heard 309 = .ok (.iconst 0, 1) := by decide +kernel
theorem dX7_heard_310 : decode cX7_heard 310 = .ok (.istore 12, 2) := by decide +kernel
theorem dX7_heard_312 : decode cX7_heard 312 = .ok (.iconst 0, 1) := by decide +kernel
theorem dX7_heard_313 : decode cX7_heard 313 = .ok (.istore 13, 2) := by decide +kernel
theorem dX7_heard_315 : decode cX7_heard 315 = .ok (.iload 13, 2) := by decide +kernel
theorem dX7_heard_317 : decode cX7_heard 317 = .ok (.iload 7, 2) := by decide +kernel
theorem dX7_heard_319 : decode cX7_heard 319 = .ok (.if_icmp .ge 46, 3) := by decide +kernel
theorem dX7_heard_322 : decode cX7_heard 322 = .ok (.iload 12, 2) := by decide +kernel
theorem dX7_heard_324 : decode cX7_heard 324 = .ok (.iload 13, 2) := by decide +kernel
theorem dX7_heard_326 : decode cX7_heard 326 = .ok (.iload 10, 2) := by decide +kernel
theorem dX7_heard_328 : decode cX7_heard 328 = .ok (.if_icmp .lt 16, 3) := by decide +kernel
theorem dX7_heard_331 : decode cX7_heard 331 = .ok (.iload 13, 2) := by decide +kernel
theorem dX7_heard_333 : decode cX7_heard 333 = .ok (.iload 7, 2) := by decide +kernel
theorem dX7_heard_335 : decode cX7_heard 335 = .ok (.iload 4, 2) := by decide +kernel
theorem dX7_heard_337 : decode cX7_heard 337 = .ok (.isub, 1) := by decide +kernel
theorem dX7_heard_338 : decode cX7_heard 338 = .ok (.iload 10, 2) := by decide +kernel
theorem dX7_heard_340 : decode cX7_heard 340 = .ok (.iadd, 1) := by decide +kernel
theorem dX7_heard_341 : decode cX7_heard 341 = .ok (.if_icmp .lt 14, 3) := by decide +kernel
theorem dX7_heard_344 : decode cX7_heard 344 = .ok (.iconst 1, 1) := by decide +kernel
theorem dX7_heard_345 : decode cX7_heard 345 = .ok (.aload_n 0, 1) := by decide +kernel
theorem dX7_heard_346 : decode cX7_heard 346 = .ok (.iload 13, 2) := by decide +kernel
theorem dX7_heard_348 : decode cX7_heard 348 = .ok (.invokevirtual 189, 3) := by decide +kernel
theorem dX7_heard_351 : decode cX7_heard 351 = .ok (.ishl, 1) := by decide +kernel
theorem dX7_heard_352 : decode cX7_heard 352 = .ok (.goto 4, 3) := by decide +kernel
theorem dX7_heard_355 : decode cX7_heard 355 = .ok (.iconst 0, 1) := by decide +kernel
theorem dX7_heard_356 : decode cX7_heard 356 = .ok (.ior, 1) := by decide +kernel
theorem dX7_heard_357 : decode cX7_heard 357 = .ok (.istore 12, 2) := by decide +kernel
theorem dX7_heard_359 : decode cX7_heard 359 = .ok (.iinc 13 1, 3) := by decide +kernel
theorem dX7_heard_362 : decode cX7_heard 362 = .ok (.goto (-47), 3) := by decide +kernel
theorem dX7_heard_365 : decode cX7_heard 365 = .ok (.iload 8, 2) := by decide +kernel
theorem dX7_heard_367 : decode cX7_heard 367 = .ok (.iload 11, 2) := by decide +kernel
theorem dX7_heard_369 : decode cX7_heard 369 = .ok (.iadd, 1) := by decide +kernel
theorem dX7_heard_370 : decode cX7_heard 370 = .ok (.istore 8, 2) := by decide +kernel
theorem dX7_heard_372 : decode cX7_heard 372 = .ok (.iload 11, 2) := by decide +kernel
theorem dX7_heard_374 : decode cX7_heard 374 = .ok (.ifCond .le 11, 3) := by decide +kernel
theorem dX7_heard_377 : decode cX7_heard 377 = .ok (.iload 9, 2) := by decide +kernel
theorem dX7_heard_379 : decode cX7_heard 379 = .ok (.iload 12, 2) := by decide +kernel
theorem dX7_heard_381 : decode cX7_heard 381 = .ok (.iand, 1) := by decide +kernel
theorem dX7_heard_382 : decode cX7_heard 382 = .ok (.goto 5, 3) := by decide +kernel
theorem dX7_heard_385 : decode cX7_heard 385 = .ok (.iload 9, 2) := by decide +kernel
theorem dX7_heard_387 : decode cX7_heard 387 = .ok (.istore 9, 2) := by decide +kernel
theorem dX7_heard_389 : decode cX7_heard 389 = .ok (.iinc 10 1, 3) := by decide +kernel
theorem dX7_heard_392 : decode cX7_heard 392 = .ok (.goto (-108), 3) := by decide +kernel
theorem dX7_heard_395 : decode cX7_heard 395 = .ok (.aload_n 0, 1) := by decide +kernel
theorem dX7_heard_396 : decode cX7_heard 396 = .ok (.iload 5, 2) := by decide +kernel
theorem dX7_heard_398 : decode cX7_heard 398 = .ok (.ifCond .ne 8, 3) := by decide +kernel
theorem dX7_heard_401 : decode cX7_heard 401 = .ok (.iload 8, 2) := by decide +kernel
theorem dX7_heard_403 : decode cX7_heard 403 = .ok (.goto 15, 3) := by decide +kernel
theorem dX7_heard_406 : decode cX7_heard 406 = .ok (.iload 8, 2) := by decide +kernel
theorem dX7_heard_408 : decode cX7_heard 408 = .ok (.ifCond .ne 8, 3) := by decide +kernel
theorem dX7_heard_411 : decode cX7_heard 411 = .ok (.ldc 172, 2) := by decide +kernel
theorem dX7_heard_413 : decode cX7_heard 413 = .ok (.goto 5, 3) := by decide +kernel
theorem dX7_heard_416 : decode cX7_heard 416 = .ok (.iload 9, 2) := by decide +kernel
theorem dX7_heard_418 : decode cX7_heard 418 = .ok (.invokevirtual 80, 3) := by decide +kernel
theorem dX7_heard_421 : decode cX7_heard 421 = .ok (.ireturn, 1) := by decide +kernel
theorem dX7_mostOf_0 : decode cX7_mostOf 0 = .ok (.iconst 0, 1) := by decide +kernel
theorem dX7_mostOf_1 : decode cX7_mostOf 1 = .ok (.istore 5, 2) := by decide +kernel
theorem dX7_mostOf_3 : decode cX7_mostOf 3 = .ok (.iconst 0, 1) := by decide +kernel
theorem dX7_mostOf_4 : decode cX7_mostOf 4 = .ok (.istore 6, 2) := by decide +kernel
theorem dX7_mostOf_6 : decode cX7_mostOf 6 = .ok (.iload 6, 2) := by decide +kernel
theorem dX7_mostOf_8 : decode cX7_mostOf 8 = .ok (.iload 4, 2) := by decide +kernel
theorem dX7_mostOf_10 : decode cX7_mostOf 10 = .ok (.if_icmp .gt 85, 3) := by decide +kernel
theorem dX7_mostOf_13 : decode cX7_mostOf 13 = .ok (.iconst 0, 1) := by decide +kernel
theorem dX7_mostOf_14 : decode cX7_mostOf 14 = .ok (.istore 7, 2) := by decide +kernel
theorem dX7_mostOf_16 : decode cX7_mostOf 16 = .ok (.iload_n 2, 1) := by decide +kernel
theorem dX7_mostOf_17 : decode cX7_mostOf 17 = .ok (.istore 8, 2) := by decide +kernel
theorem dX7_mostOf_19 : decode cX7_mostOf 19 = .ok (.iload 8, 2) := by decide +kernel
theorem dX7_mostOf_21 : decode cX7_mostOf 21 = .ok (.iload_n 3, 1) := by decide +kernel
theorem dX7_mostOf_22 : decode cX7_mostOf 22 = .ok (.if_icmp .ge 51, 3) := by decide +kernel
theorem dX7_mostOf_25 : decode cX7_mostOf 25 = .ok (.iload 7, 2) := by decide +kernel
theorem dX7_mostOf_27 : decode cX7_mostOf 27 = .ok (.iload 8, 2) := by decide +kernel
theorem dX7_mostOf_29 : decode cX7_mostOf 29 = .ok (.iload_n 2, 1) := by decide +kernel
theorem dX7_mostOf_30 : decode cX7_mostOf 30 = .ok (.iload 6, 2) := by decide +kernel
theorem dX7_mostOf_32 : decode cX7_mostOf 32 = .ok (.iadd, 1) := by decide +kernel
theorem dX7_mostOf_33 : decode cX7_mostOf 33 = .ok (.if_icmp .lt 15, 3) := by decide +kernel
theorem dX7_mostOf_36 : decode cX7_mostOf 36 = .ok (.iload 8, 2) := by decide +kernel
theorem dX7_mostOf_38 : decode cX7_mostOf 38 = .ok (.iload_n 3, 1) := by decide +kernel
theorem dX7_mostOf_39 : decode cX7_mostOf 39 = .ok (.iload 4, 2) := by decide +kernel
theorem dX7_mostOf_41 : decode cX7_mostOf 41 = .ok (.isub, 1) := by decide +kernel
theorem dX7_mostOf_42 : decode cX7_mostOf 42 = .ok (.iload 6, 2) := by decide +kernel
theorem dX7_mostOf_44 : decode cX7_mostOf 44 = .ok (.iadd, 1) := by decide +kernel
theorem dX7_mostOf_45 : decode cX7_mostOf 45 = .ok (.if_icmp .lt 18, 3) := by decide +kernel
theorem dX7_mostOf_48 : decode cX7_mostOf 48 = .ok (.aload_n 0, 1) := by decide +kernel
theorem dX7_mostOf_49 : decode cX7_mostOf 49 = .ok (.aload_n 0, 1) := by decide +kernel
theorem dX7_mostOf_50 : decode cX7_mostOf 50 = .ok (.iload 8, 2) := by decide +kernel
theorem dX7_mostOf_52 : decode cX7_mostOf 52 = .ok (.invokevirtual 189, 3) := by decide +kernel
theorem dX7_mostOf_55 : decode cX7_mostOf 55 = .ok (.iload_n 1, 1) := by decide +kernel
theorem dX7_mostOf_56 : decode cX7_mostOf 56 = .ok (.iconst 0, 1) := by decide +kernel
