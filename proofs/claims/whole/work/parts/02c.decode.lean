theorem dX7_setPrices_51 : decode cX7_setPrices 51 = .ok (.if_icmp .ge 83, 3) := by decide +kernel
theorem dX7_setPrices_54 : decode cX7_setPrices 54 = .ok (.aload_n 0, 1) := by decide +kernel
theorem dX7_setPrices_55 : decode cX7_setPrices 55 = .ok (.getfield 50, 3) := by decide +kernel
theorem dX7_setPrices_58 : decode cX7_setPrices 58 = .ok (.iload_n 1, 1) := by decide +kernel
theorem dX7_setPrices_59 : decode cX7_setPrices 59 = .ok (.aload_n 0, 1) := by decide +kernel
theorem dX7_setPrices_60 : decode cX7_setPrices 60 = .ok (.getfield 12, 3) := by decide +kernel
theorem dX7_setPrices_63 : decode cX7_setPrices 63 = .ok (.aload_n 0, 1) := by decide +kernel
theorem dX7_setPrices_64 : decode cX7_setPrices 64 = .ok (.getfield 45, 3) := by decide +kernel
theorem dX7_setPrices_67 : decode cX7_setPrices 67 = .ok (.getfield 102, 3) := by decide +kernel
theorem dX7_setPrices_70 : decode cX7_setPrices 70 = .ok (.iload_n 1, 1) := by decide +kernel
theorem dX7_setPrices_71 : decode cX7_setPrices 71 = .ok (.iaload, 1) := by decide +kernel
theorem dX7_setPrices_72 : decode cX7_setPrices 72 = .ok (.invokevirtual 108, 3) := by decide +kernel
theorem dX7_setPrices_75 : decode cX7_setPrices 75 = .ok (.iastore, 1) := by decide +kernel
theorem dX7_setPrices_76 : decode cX7_setPrices 76 = .ok (.iconst 0, 1) := by decide +kernel
theorem dX7_setPrices_77 : decode cX7_setPrices 77 = .ok (.istore_n 2, 1) := by decide +kernel
theorem dX7_setPrices_78 : decode cX7_setPrices 78 = .ok (.iload_n 2, 1) := by decide +kernel
theorem dX7_setPrices_79 : decode cX7_setPrices 79 = .ok (.aload_n 0, 1) := by decide +kernel
theorem dX7_setPrices_80 : decode cX7_setPrices 80 = .ok (.getfield 49, 3) := by decide +kernel
theorem dX7_setPrices_83 : decode cX7_setPrices 83 = .ok (.getfield 82, 3) := by decide +kernel
theorem dX7_setPrices_86 : decode cX7_setPrices 86 = .ok (.if_icmp .ge 42, 3) := by decide +kernel
theorem dX7_setPrices_89 : decode cX7_setPrices 89 = .ok (.aload_n 0, 1) := by decide +kernel
theorem dX7_setPrices_90 : decode cX7_setPrices 90 = .ok (.getfield 38, 3) := by decide +kernel
theorem dX7_setPrices_93 : decode cX7_setPrices 93 = .ok (.iload_n 1, 1) := by decide +kernel
theorem dX7_setPrices_94 : decode cX7_setPrices 94 = .ok (.aaload, 1) := by decide +kernel
theorem dX7_setPrices_95 : decode cX7_setPrices 95 = .ok (.iload_n 2, 1) := by decide +kernel
theorem dX7_setPrices_96 : decode cX7_setPrices 96 = .ok (.aload_n 0, 1) := by decide +kernel
theorem dX7_setPrices_97 : decode cX7_setPrices 97 = .ok (.getfield 12, 3) := by decide +kernel
theorem dX7_setPrices_100 : decode cX7_setPrices 100 = .ok (.aload_n 0, 1) := by decide +kernel
theorem dX7_setPrices_101 : decode cX7_setPrices 101 = .ok (.getfield 45, 3) := by decide +kernel
theorem dX7_setPrices_104 : decode cX7_setPrices 104 = .ok (.getfield 102, 3) := by decide +kernel
theorem dX7_setPrices_107 : decode cX7_setPrices 107 = .ok (.iload_n 1, 1) := by decide +kernel
theorem dX7_setPrices_108 : decode cX7_setPrices 108 = .ok (.iaload, 1) := by decide +kernel
theorem dX7_setPrices_109 : decode cX7_setPrices 109 = .ok (.aload_n 0, 1) := by decide +kernel
theorem dX7_setPrices_110 : decode cX7_setPrices 110 = .ok (.getfield 49, 3) := by decide +kernel
theorem dX7_setPrices_113 : decode cX7_setPrices 113 = .ok (.getfield 102, 3) := by decide +kernel
theorem dX7_setPrices_116 : decode cX7_setPrices 116 = .ok (.iload_n 2, 1) := by decide +kernel
theorem dX7_setPrices_117 : decode cX7_setPrices 117 = .ok (.iaload, 1) := by decide +kernel
theorem dX7_setPrices_118 : decode cX7_setPrices 118 = .ok (.invokevirtual 111, 3) := by decide +kernel
theorem dX7_setPrices_121 : decode cX7_setPrices 121 = .ok (.iastore, 1) := by decide +kernel
theorem dX7_setPrices_122 : decode cX7_setPrices 122 = .ok (.iinc 2 1, 3) := by decide +kernel
theorem dX7_setPrices_125 : decode cX7_setPrices 125 = .ok (.goto (-47), 3) := by decide +kernel
theorem dX7_setPrices_128 : decode cX7_setPrices 128 = .ok (.iinc 1 1, 3) := by decide +kernel
theorem dX7_setPrices_131 : decode cX7_setPrices 131 = .ok (.goto (-88), 3) := by decide +kernel
theorem dX7_setPrices_134 : decode cX7_setPrices 134 = .ok (.return_, 1) := by decide +kernel
theorem dX7_fill_0 : decode cX7_fill 0 = .ok (.aload_n 0, 1) := by decide +kernel
theorem dX7_fill_1 : decode cX7_fill 1 = .ok (.getfield 60, 3) := by decide +kernel
theorem dX7_fill_4 : decode cX7_fill 4 = .ok (.iload_n 1, 1) := by decide +kernel
theorem dX7_fill_5 : decode cX7_fill 5 = .ok (.aaload, 1) := by decide +kernel
theorem dX7_fill_6 : decode cX7_fill 6 = .ok (.iload_n 3, 1) := by decide +kernel
theorem dX7_fill_7 : decode cX7_fill 7 = .ok (.iconst 0, 1) := by decide +kernel
theorem dX7_fill_8 : decode cX7_fill 8 = .ok (.iastore, 1) := by decide +kernel
theorem dX7_fill_9 : decode cX7_fill 9 = .ok (.iload_n 3, 1) := by decide +kernel
theorem dX7_fill_10 : decode cX7_fill 10 = .ok (.istore 5, 2) := by decide +kernel
theorem dX7_fill_12 : decode cX7_fill 12 = .ok (.iload 5, 2) := by decide +kernel
theorem dX7_fill_14 : decode cX7_fill 14 = .ok (.iload 4, 2) := by decide +kernel
theorem dX7_fill_16 : decode cX7_fill 16 = .ok (.if_icmp .gt 37, 3) := by decide +kernel
theorem dX7_fill_19 : decode cX7_fill 19 = .ok (.aload_n 0, 1) := by decide +kernel
theorem dX7_fill_20 : decode cX7_fill 20 = .ok (.getfield 60, 3) := by decide +kernel
theorem dX7_fill_23 : decode cX7_fill 23 = .ok (.iload_n 1, 1) := by decide +kernel
theorem dX7_fill_24 : decode cX7_fill 24 = .ok (.aaload, 1) := by decide +kernel
theorem dX7_fill_25 : decode cX7_fill 25 = .ok (.iload 5, 2) := by decide +kernel
theorem dX7_fill_27 : decode cX7_fill 27 = .ok (.iconst 1, 1) := by decide +kernel
theorem dX7_fill_28 : decode cX7_fill 28 = .ok (.iadd, 1) := by decide +kernel
theorem dX7_fill_29 : decode cX7_fill 29 = .ok (.aload_n 0, 1) := by decide +kernel
theorem dX7_fill_30 : decode cX7_fill 30 = .ok (.getfield 60, 3) := by decide +kernel
theorem dX7_fill_33 : decode cX7_fill 33 = .ok (.iload_n 1, 1) := by decide +kernel
theorem dX7_fill_34 : decode cX7_fill 34 = .ok (.aaload, 1) := by decide +kernel
theorem dX7_fill_35 : decode cX7_fill 35 = .ok (.iload 5, 2) := by decide +kernel
theorem dX7_fill_37 : decode cX7_fill 37 = .ok (.iaload, 1) := by decide +kernel
theorem dX7_fill_38 : decode cX7_fill 38 = .ok (.aload_n 0, 1) := by decide +kernel
theorem dX7_fill_39 : decode cX7_fill 39 = .ok (.getfield 54, 3) := by decide +kernel
theorem dX7_fill_42 : decode cX7_fill 42 = .ok (.iload 5, 2) := by decide +kernel
theorem dX7_fill_44 : decode cX7_fill 44 = .ok (.iaload, 1) := by decide +kernel
theorem dX7_fill_45 : decode cX7_fill 45 = .ok (.iadd, 1) := by decide +kernel
theorem dX7_fill_46 : decode cX7_fill 46 = .ok (.iastore, 1) := by decide +kernel
theorem dX7_fill_47 : decode cX7_fill 47 = .ok (.iinc 5 1, 3) := by decide +kernel
theorem dX7_fill_50 : decode cX7_fill 50 = .ok (.goto (-38), 3) := by decide +kernel
theorem dX7_fill_53 : decode cX7_fill 53 = .ok (.iload_n 1, 1) := by decide +kernel
theorem dX7_fill_54 : decode cX7_fill 54 = .ok (.istore 5, 2) := by decide +kernel
theorem dX7_fill_56 : decode cX7_fill 56 = .ok (.iload 5, 2) := by decide +kernel
theorem dX7_fill_58 : decode cX7_fill 58 = .ok (.iload_n 2, 1) := by decide +kernel
theorem dX7_fill_59 : decode cX7_fill 59 = .ok (.if_icmp .gt 244, 3) := by decide +kernel
theorem dX7_fill_62 : decode cX7_fill 62 = .ok (.aload_n 0, 1) := by decide +kernel
theorem dX7_fill_63 : decode cX7_fill 63 = .ok (.getfield 45, 3) := by decide +kernel
theorem dX7_fill_66 : decode cX7_fill 66 = .ok (.iload 5, 2) := by decide +kernel
theorem dX7_fill_68 : decode cX7_fill 68 = .ok (.invokevirtual 94, 3) := by decide +kernel
theorem dX7_fill_71 : decode cX7_fill 71 = .ok (.istore 6, 2) := by decide +kernel
theorem dX7_fill_73 : decode cX7_fill 73 = .ok (.aload_n 0, 1) := by decide +kernel
theorem dX7_fill_74 : decode cX7_fill 74 = .ok (.getfield 60, 3) := by decide +kernel
theorem dX7_fill_77 : decode cX7_fill 77 = .ok (.iload 5, 2) := by decide +kernel
theorem dX7_fill_79 : decode cX7_fill 79 = .ok (.iconst 1, 1) := by decide +kernel
theorem dX7_fill_80 : decode cX7_fill 80 = .ok (.iadd, 1) := by decide +kernel
theorem dX7_fill_81 : decode cX7_fill 81 = .ok (.aaload, 1) := by decide +kernel
theorem dX7_fill_82 : decode cX7_fill 82 = .ok (.iload_n 3, 1) := by decide +kernel
theorem dX7_fill_83 : decode cX7_fill 83 = .ok (.aload_n 0, 1) := by decide +kernel
theorem dX7_fill_84 : decode cX7_fill 84 = .ok (.getfield 60, 3) := by decide +kernel
theorem dX7_fill_87 : decode cX7_fill 87 = .ok (.iload 5, 2) := by decide +kernel
theorem dX7_fill_89 : decode cX7_fill 89 = .ok (.aaload, 1) := by decide +kernel
theorem dX7_fill_90 : decode cX7_fill 90 = .ok (.iload_n 3, 1) := by decide +kernel
theorem dX7_fill_91 : decode cX7_fill 91 = .ok (.iaload, 1) := by decide +kernel
theorem dX7_fill_92 : decode cX7_fill 92 = .ok (.aload_n 0, 1) := by decide +kernel
theorem dX7_fill_93 : decode cX7_fill 93 = .ok (.getfield 50, 3) := by decide +kernel
theorem dX7_fill_96 : decode cX7_fill 96 = .ok (.iload 5, 2) := by decide +kernel
theorem dX7_fill_98 : decode cX7_fill 98 = .ok (.iaload, 1) := by decide +kernel
theorem dX7_fill_99 : decode cX7_fill 99 = .ok (.iadd, 1) := by decide +kernel
theorem dX7_fill_100 : decode cX7_fill 100 = .ok (.iastore, 1) := by decide +kernel
theorem dX7_fill_101 : decode cX7_fill 101 = .ok (.iload_n 3, 1) := by decide +kernel
theorem dX7_fill_102 : decode cX7_fill 102 = .ok (.istore 7, 2) := by decide +kernel
theorem dX7_fill_104 : decode cX7_fill 104 = .ok (.iload 7, 2) := by decide +kernel
theorem dX7_fill_106 : decode cX7_fill 106 = .ok (.iload 4, 2) := by decide +kernel
theorem dX7_fill_108 : decode cX7_fill 108 = .ok (.if_icmp .gt 189, 3) := by decide +kernel
theorem dX7_fill_111 : decode cX7_fill 111 = .ok (.aload_n 0, 1) := by decide +kernel
theorem dX7_fill_112 : decode cX7_fill 112 = .ok (.getfield 49, 3) := by decide +kernel
theorem dX7_fill_115 : decode cX7_fill 115 = .ok (.iload 7, 2) := by decide +kernel
theorem dX7_fill_117 : decode cX7_fill 117 = .ok (.invokevirtual 94, 3) := by decide +kernel
theorem dX7_fill_120 : decode cX7_fill 120 = .ok (.istore 8, 2) := by decide +kernel
theorem dX7_fill_122 : decode cX7_fill 122 = .ok (.iload 6, 2) := by decide +kernel
theorem dX7_fill_124 : decode cX7_fill 124 = .ok (.iload_n 1, 1) := by decide +kernel
theorem dX7_fill_125 : decode cX7_fill 125 = .ok (.if_icmp .ne 13, 3) := by decide +kernel
theorem dX7_fill_128 : decode cX7_fill 128 = .ok (.iload 8, 2) := by decide +kernel
theorem dX7_fill_130 : decode cX7_fill 130 = .ok (.iload_n 3, 1) := by decide +kernel
theorem dX7_fill_131 : decode cX7_fill 131 = .ok (.if_icmp .ne 7, 3) := by decide +kernel
theorem dX7_fill_134 : decode cX7_fill 134 = .ok (.iconst 1, 1) := by decide +kernel
theorem dX7_fill_135 : decode cX7_fill 135 = .ok (.goto 4, 3) := by decide +kernel
theorem dX7_fill_138 : decode cX7_fill 138 = .ok (.iconst 0, 1) := by decide +kernel
theorem dX7_fill_139 : decode cX7_fill 139 = .ok (.istore 9, 2) := by decide +kernel
theorem dX7_fill_141 : decode cX7_fill 141 = .ok (.iload 9, 2) := by decide +kernel
theorem dX7_fill_143 : decode cX7_fill 143 = .ok (.ifCond .eq 34, 3) := by decide +kernel
theorem dX7_fill_146 : decode cX7_fill 146 = .ok (.aload_n 0, 1) := by decide +kernel
theorem dX7_fill_147 : decode cX7_fill 147 = .ok (.getfield 57, 3) := by decide +kernel
theorem dX7_fill_150 : decode cX7_fill 150 = .ok (.iload 5, 2) := by decide +kernel
theorem dX7_fill_152 : decode cX7_fill 152 = .ok (.aaload, 1) := by decide +kernel
theorem dX7_fill_153 : decode cX7_fill 153 = .ok (.iload 7, 2) := by decide +kernel
theorem dX7_fill_155 : decode cX7_fill 155 = .ok (.aload_n 0, 1) := by decide +kernel
theorem dX7_fill_156 : decode cX7_fill 156 = .ok (.getfield 60, 3) := by decide +kernel
theorem dX7_fill_159 : decode cX7_fill 159 = .ok (.iload 5, 2) := by decide +kernel
theorem dX7_fill_161 : decode cX7_fill 161 = .ok (.aaload, 1) := by decide +kernel
theorem dX7_fill_162 : decode cX7_fill 162 = .ok (.iload 7, 2) := by decide +kernel
theorem dX7_fill_164 : decode cX7_fill 164 = .ok (.iaload, 1) := by decide +kernel
theorem dX7_fill_165 : decode cX7_fill 165 = .ok (.aload_n 0, 1) := by decide +kernel
theorem dX7_fill_166 : decode cX7_fill 166 = .ok (.getfield 38, 3) := by decide +kernel
theorem dX7_fill_169 : decode cX7_fill 169 = .ok (.iload 5, 2) := by decide +kernel
theorem dX7_fill_171 : decode cX7_fill 171 = .ok (.aaload, 1) := by decide +kernel
theorem dX7_fill_172 : decode cX7_fill 172 = .ok (.iload 7, 2) := by decide +kernel
theorem dX7_fill_174 : decode cX7_fill 174 = .ok (.iaload, 1) := by decide +kernel
theorem dX7_fill_175 : decode cX7_fill 175 = .ok (.iadd, 1) := by decide +kernel
theorem dX7_fill_176 : decode cX7_fill 176 = .ok (.iastore, 1) := by decide +kernel
theorem dX7_fill_177 : decode cX7_fill 177 = .ok (.aload_n 0, 1) := by decide +kernel
theorem dX7_fill_178 : decode cX7_fill 178 = .ok (.getfield 60, 3) := by decide +kernel
theorem dX7_fill_181 : decode cX7_fill 181 = .ok (.iload 5, 2) := by decide +kernel
theorem dX7_fill_183 : decode cX7_fill 183 = .ok (.aaload, 1) := by decide +kernel
theorem dX7_fill_184 : decode cX7_fill 184 = .ok (.iload 7, 2) := by decide +kernel
theorem dX7_fill_186 : decode cX7_fill 186 = .ok (.iconst 1, 1) := by decide +kernel
theorem dX7_fill_187 : decode cX7_fill 187 = .ok (.iadd, 1) := by decide +kernel
theorem dX7_fill_188 : decode cX7_fill 188 = .ok (.iaload, 1) := by decide +kernel
theorem dX7_fill_189 : decode cX7_fill 189 = .ok (.aload_n 0, 1) := by decide +kernel
theorem dX7_fill_190 : decode cX7_fill 190 = .ok (.getfield 50, 3) := by decide +kernel
theorem dX7_fill_193 : decode cX7_fill 193 = .ok (.iload 5, 2) := by decide +kernel
theorem dX7_fill_195 : decode cX7_fill 195 = .ok (.iaload, 1) := by decide +kernel
theorem dX7_fill_196 : decode cX7_fill 196 = .ok (.iadd, 1) := by decide +kernel
theorem dX7_fill_197 : decode cX7_fill 197 = .ok (.aload_n 0, 1) := by decide +kernel
theorem dX7_fill_198 : decode cX7_fill 198 = .ok (.getfield 60, 3) := by decide +kernel
theorem dX7_fill_201 : decode cX7_fill 201 = .ok (.iload 5, 2) := by decide +kernel
theorem dX7_fill_203 : decode cX7_fill 203 = .ok (.iconst 1, 1) := by decide +kernel
theorem dX7_fill_204 : decode cX7_fill 204 = .ok (.iadd, 1) := by decide +kernel
theorem dX7_fill_205 : decode cX7_fill 205 = .ok (.aaload, 1) := by decide +kernel
theorem dX7_fill_206 : decode cX7_fill 206 = .ok (.iload 7, 2) := by decide +kernel
theorem dX7_fill_208 : decode cX7_fill 208 = .ok (.iaload, 1) := by decide +kernel
theorem dX7_fill_209 : decode cX7_fill 209 = .ok (.aload_n 0, 1) := by decide +kernel
theorem dX7_fill_210 : decode cX7_fill 210 = .ok (.getfield 54, 3) := by decide +kernel
theorem dX7_fill_213 : decode cX7_fill 213 = .ok (.iload 7, 2) := by decide +kernel
theorem dX7_fill_215 : decode cX7_fill 215 = .ok (.iaload, 1) := by decide +kernel
theorem dX7_fill_216 : decode cX7_fill 216 = .ok (.iadd, 1) := by decide +kernel
theorem dX7_fill_217 : decode cX7_fill 217 = .ok (.invokestatic 115, 3) := by decide +kernel
theorem dX7_fill_220 : decode cX7_fill 220 = .ok (.istore 10, 2) := by decide +kernel
theorem dX7_fill_222 : decode cX7_fill 222 = .ok (.aload_n 0, 1) := by decide +kernel
theorem dX7_fill_223 : decode cX7_fill 223 = .ok (.getfield 60, 3) := by decide +kernel
theorem dX7_fill_226 : decode cX7_fill 226 = .ok (.iload 5, 2) := by decide +kernel
theorem dX7_fill_228 : decode cX7_fill 228 = .ok (.iconst 1, 1) := by decide +kernel
theorem dX7_fill_229 : decode cX7_fill 229 = .ok (.iadd, 1) := by decide +kernel
theorem dX7_fill_230 : decode cX7_fill 230 = .ok (.aaload, 1) := by decide +kernel
theorem dX7_fill_231 : decode cX7_fill 231 = .ok (.iload 7, 2) := by decide +kernel
theorem dX7_fill_233 : decode cX7_fill 233 = .ok (.iconst 1, 1) := by decide +kernel
theorem dX7_fill_234 : decode cX7_fill 234 = .ok (.iadd, 1) := by decide +kernel
theorem dX7_fill_235 : decode cX7_fill 235 = .ok (.iload 10, 2) := by decide +kernel
theorem dX7_fill_237 : decode cX7_fill 237 = .ok (.aload_n 0, 1) := by decide +kernel
theorem dX7_fill_238 : decode cX7_fill 238 = .ok (.getfield 60, 3) := by decide +kernel
theorem dX7_fill_241 : decode cX7_fill 241 = .ok (.iload 6, 2) := by decide +kernel
theorem dX7_fill_243 : decode cX7_fill 243 = .ok (.aaload, 1) := by decide +kernel
theorem dX7_fill_244 : decode cX7_fill 244 = .ok (.iload 8, 2) := by decide +kernel
theorem dX7_fill_246 : decode cX7_fill 246 = .ok (.iaload, 1) := by decide +kernel
theorem dX7_fill_247 : decode cX7_fill 247 = .ok (.aload_n 0, 1) := by decide +kernel
theorem dX7_fill_248 : decode cX7_fill 248 = .ok (.getfield 57, 3) := by decide +kernel
theorem dX7_fill_251 : decode cX7_fill 251 = .ok (.iload 5, 2) := by decide +kernel
theorem dX7_fill_253 : decode cX7_fill 253 = .ok (.aaload, 1) := by decide +kernel
theorem dX7_fill_254 : decode cX7_fill 254 = .ok (.iload 7, 2) := by decide +kernel
theorem dX7_fill_256 : decode cX7_fill 256 = .ok (.iaload, 1) := by decide +kernel
theorem dX7_fill_257 : decode cX7_fill 257 = .ok (.iadd, 1) := by decide +kernel
theorem dX7_fill_258 : decode cX7_fill 258 = .ok (.invokestatic 115, 3) := by decide +kernel
theorem dX7_fill_261 : decode cX7_fill 261 = .ok (.iastore, 1) := by decide +kernel
theorem dX7_fill_262 : decode cX7_fill 262 = .ok (.iload 9, 2) := by decide +kernel
theorem dX7_fill_264 : decode cX7_fill 264 = .ok (.ifCond .eq 27, 3) := by decide +kernel
theorem dX7_fill_267 : decode cX7_fill 267 = .ok (.aload_n 0, 1) := by decide +kernel
theorem dX7_fill_268 : decode cX7_fill 268 = .ok (.getfield 35, 3) := by decide +kernel
theorem dX7_fill_271 : decode cX7_fill 271 = .ok (.iload 5, 2) := by decide +kernel
theorem dX7_fill_273 : decode cX7_fill 273 = .ok (.aaload, 1) := by decide +kernel
theorem dX7_fill_274 : decode cX7_fill 274 = .ok (.iload 7, 2) := by decide +kernel
theorem dX7_fill_276 : decode cX7_fill 276 = .ok (.aload_n 0, 1) := by decide +kernel
theorem dX7_fill_277 : decode cX7_fill 277 = .ok (.getfield 60, 3) := by decide +kernel
theorem dX7_fill_280 : decode cX7_fill 280 = .ok (.iload 5, 2) := by decide +kernel
theorem dX7_fill_282 : decode cX7_fill 282 = .ok (.iconst 1, 1) := by decide +kernel
theorem dX7_fill_283 : decode cX7_fill 283 = .ok (.iadd, 1) := by decide +kernel
theorem dX7_fill_284 : decode cX7_fill 284 = .ok (.aaload, 1) := by decide +kernel
theorem dX7_fill_285 : decode cX7_fill 285 = .ok (.iload 7, 2) := by decide +kernel
theorem dX7_fill_287 : decode cX7_fill 287 = .ok (.iconst 1, 1) := by decide +kernel
theorem dX7_fill_288 : decode cX7_fill 288 = .ok (.iadd, 1) := by decide +kernel
theorem dX7_fill_289 : decode cX7_fill 289 = .ok (.iaload, 1) := by decide +kernel
theorem dX7_fill_290 : decode cX7_fill 290 = .ok (.iastore, 1) := by decide +kernel
theorem dX7_fill_291 : decode cX7_fill 291 = .ok (.iinc 7 1, 3) := by decide +kernel
theorem dX7_fill_294 : decode cX7_fill 294 = .ok (.goto (-190), 3) := by decide +kernel
theorem dX7_fill_297 : decode cX7_fill 297 = .ok (.iinc 5 1, 3) := by decide +kernel
theorem dX7_fill_300 : decode cX7_fill 300 = .ok (.goto (-244), 3) := by decide +kernel
theorem dX7_fill_303 : decode cX7_fill 303 = .ok (.return_, 1) := by decide +kernel
theorem dX7_pairUp_0 : decode cX7_pairUp 0 = .ok (.aload_n 0, 1) := by decide +kernel
theorem dX7_pairUp_1 : decode cX7_pairUp 1 = .ok (.iconst 0, 1) := by decide +kernel
theorem dX7_pairUp_2 : decode cX7_pairUp 2 = .ok (.putfield 22, 3) := by decide +kernel
theorem dX7_pairUp_5 : decode cX7_pairUp 5 = .ok (.iconst 0, 1) := by decide +kernel
theorem dX7_pairUp_6 : decode cX7_pairUp 6 = .ok (.istore_n 1, 1) := by decide +kernel
theorem dX7_pairUp_7 : decode cX7_pairUp 7 = .ok (.iload_n 1, 1) := by decide +kernel
theorem dX7_pairUp_8 : decode cX7_pairUp 8 = .ok (.bipush 12, 2) := by decide +kernel
theorem dX7_pairUp_10 : decode cX7_pairUp 10 = .ok (.if_icmp .ge 25, 3) := by decide +kernel
theorem dX7_pairUp_13 : decode cX7_pairUp 13 = .ok (.aload_n 0, 1) := by decide +kernel
theorem dX7_pairUp_14 : decode cX7_pairUp 14 = .ok (.getfield 63, 3) := by decide +kernel
theorem dX7_pairUp_17 : decode cX7_pairUp 17 = .ok (.iload_n 1, 1) := by decide +kernel
theorem dX7_pairUp_18 : decode cX7_pairUp 18 = .ok (.bipush (-9), 2) := by decide +kernel
theorem dX7_pairUp_20 : decode cX7_pairUp 20 = .ok (.iastore, 1) := by decide +kernel
theorem dX7_pairUp_21 : decode cX7_pairUp 21 = .ok (.aload_n 0, 1) := by decide +kernel
theorem dX7_pairUp_22 : decode cX7_pairUp 22 = .ok (.getfield 66, 3) := by decide +kernel
theorem dX7_pairUp_25 : decode cX7_pairUp 25 = .ok (.iload_n 1, 1) := by decide +kernel
theorem dX7_pairUp_26 : decode cX7_pairUp 26 = .ok (.bipush (-9), 2) := by decide +kernel
theorem dX7_pairUp_28 : decode cX7_pairUp 28 = .ok (.iastore, 1) := by decide +kernel
theorem dX7_pairUp_29 : decode cX7_pairUp 29 = .ok (.iinc 1 1, 3) := by decide +kernel
theorem dX7_pairUp_32 : decode cX7_pairUp 32 = .ok (.goto (-25), 3) := by decide +kernel
theorem dX7_pairUp_35 : decode cX7_pairUp 35 = .ok (.aload_n 0, 1) := by decide +kernel
theorem dX7_pairUp_36 : decode cX7_pairUp 36 = .ok (.iconst 0, 1) := by decide +kernel
theorem dX7_pairUp_37 : decode cX7_pairUp 37 = .ok (.aload_n 0, 1) := by decide +kernel
theorem dX7_pairUp_38 : decode cX7_pairUp 38 = .ok (.getfield 45, 3) := by decide +kernel
theorem dX7_pairUp_41 : decode cX7_pairUp 41 = .ok (.getfield 82, 3) := by decide +kernel
theorem dX7_pairUp_44 : decode cX7_pairUp 44 = .ok (.iconst 1, 1) := by decide +kernel
theorem dX7_pairUp_45 : decode cX7_pairUp 45 = .ok (.isub, 1) := by decide +kernel
theorem dX7_pairUp_46 : decode cX7_pairUp 46 = .ok (.iconst 0, 1) := by decide +kernel
theorem dX7_pairUp_47 : decode cX7_pairUp 47 = .ok (.aload_n 0, 1) := by decide +kernel
theorem dX7_pairUp_48 : decode cX7_pairUp 48 = .ok (.getfield 49, 3) := by decide +kernel
theorem dX7_pairUp_51 : decode cX7_pairUp 51 = .ok (.getfield 82, 3) := by decide +kernel
theorem dX7_pairUp_54 : decode cX7_pairUp 54 = .ok (.iconst 1, 1) := by decide +kernel
theorem dX7_pairUp_55 : decode cX7_pairUp 55 = .ok (.isub, 1) := by decide +kernel
theorem dX7_pairUp_56 : decode cX7_pairUp 56 = .ok (.invokevirtual 120, 3) := by decide +kernel
theorem dX7_pairUp_59 : decode cX7_pairUp 59 = .ok (.aload_n 0, 1) := by decide +kernel
theorem dX7_pairUp_60 : decode cX7_pairUp 60 = .ok (.getfield 45, 3) := by decide +kernel
theorem dX7_pairUp_63 : decode cX7_pairUp 63 = .ok (.getfield 82, 3) := by decide +kernel
theorem dX7_pairUp_66 : decode cX7_pairUp 66 = .ok (.iconst 1, 1) := by decide +kernel
theorem dX7_pairUp_67 : decode cX7_pairUp 67 = .ok (.isub, 1) := by decide +kernel
theorem dX7_pairUp_68 : decode cX7_pairUp 68 = .ok (.istore_n 1, 1) := by decide +kernel
theorem dX7_pairUp_69 : decode cX7_pairUp 69 = .ok (.iload_n 1, 1) := by decide +kernel
theorem dX7_pairUp_70 : decode cX7_pairUp 70 = .ok (.ifCond .lt 48, 3) := by decide +kernel
theorem dX7_pairUp_73 : decode cX7_pairUp 73 = .ok (.aload_n 0, 1) := by decide +kernel
theorem dX7_pairUp_74 : decode cX7_pairUp 74 = .ok (.getfield 63, 3) := by decide +kernel
theorem dX7_pairUp_77 : decode cX7_pairUp 77 = .ok (.iload_n 1, 1) := by decide +kernel
theorem dX7_pairUp_78 : decode cX7_pairUp 78 = .ok (.iaload, 1) := by decide +kernel
theorem dX7_pairUp_79 : decode cX7_pairUp 79 = .ok (.istore_n 2, 1) := by decide +kernel
theorem dX7_pairUp_80 : decode cX7_pairUp 80 = .ok (.iload_n 2, 1) := by decide +kernel
theorem dX7_pairUp_81 : decode cX7_pairUp 81 = .ok (.bipush (-9), 2) := by decide +kernel
theorem dX7_pairUp_83 : decode cX7_pairUp 83 = .ok (.if_icmp .eq 29, 3) := by decide +kernel
theorem dX7_pairUp_86 : decode cX7_pairUp 86 = .ok (.aload_n 0, 1) := by decide +kernel
theorem dX7_pairUp_87 : decode cX7_pairUp 87 = .ok (.aload_n 0, 1) := by decide +kernel
theorem dX7_pairUp_88 : decode cX7_pairUp 88 = .ok (.getfield 45, 3) := by decide +kernel
theorem dX7_pairUp_91 : decode cX7_pairUp 91 = .ok (.iload_n 1, 1) := by decide +kernel
theorem dX7_pairUp_92 : decode cX7_pairUp 92 = .ok (.invokevirtual 94, 3) := by decide +kernel
theorem dX7_pairUp_95 : decode cX7_pairUp 95 = .ok (.iload_n 1, 1) := by decide +kernel
theorem dX7_pairUp_96 : decode cX7_pairUp 96 = .ok (.iconst 1, 1) := by decide +kernel
theorem dX7_pairUp_97 : decode cX7_pairUp 97 = .ok (.isub, 1) := by decide +kernel
theorem dX7_pairUp_98 : decode cX7_pairUp 98 = .ok (.aload_n 0, 1) := by decide +kernel
theorem dX7_pairUp_99 : decode cX7_pairUp 99 = .ok (.getfield 49, 3) := by decide +kernel
theorem dX7_pairUp_102 : decode cX7_pairUp 102 = .ok (.iload_n 2, 1) := by decide +kernel
theorem dX7_pairUp_103 : decode cX7_pairUp 103 = .ok (.invokevirtual 94, 3) := by decide +kernel
theorem dX7_pairUp_106 : decode cX7_pairUp 106 = .ok (.iload_n 2, 1) := by decide +kernel
theorem dX7_pairUp_107 : decode cX7_pairUp 107 = .ok (.iconst 1, 1) := by decide +kernel
theorem dX7_pairUp_108 : decode cX7_pairUp 108 = .ok (.isub, 1) := by decide +kernel
theorem dX7_pairUp_109 : decode cX7_pairUp 109 = .ok (.invokevirtual 120, 3) := by decide +kernel
theorem dX7_pairUp_112 : decode cX7_pairUp 112 = .ok (.iinc 1 (-1), 3) := by decide +kernel
theorem dX7_pairUp_115 : decode cX7_pairUp 115 = .ok (.goto (-46), 3) := by decide +kernel
theorem dX7_pairUp_118 : decode cX7_pairUp 118 = .ok (.return_, 1) := by decide +kernel
theorem dX7_pairForests_0 : decode cX7_pairForests 0 = .ok (.aload_n 0, 1) := by decide +kernel
theorem dX7_pairForests_1 : decode cX7_pairForests 1 = .ok (.iload_n 1, 1) := by decide +kernel
theorem dX7_pairForests_2 : decode cX7_pairForests 2 = .ok (.iload_n 2, 1) := by decide +kernel
theorem dX7_pairForests_3 : decode cX7_pairForests 3 = .ok (.iload_n 3, 1) := by decide +kernel
theorem dX7_pairForests_4 : decode cX7_pairForests 4 = .ok (.iload 4, 2) := by decide +kernel
theorem dX7_pairForests_6 : decode cX7_pairForests 6 = .ok (.invokevirtual 98, 3) := by decide +kernel
theorem dX7_pairForests_9 : decode cX7_pairForests 9 = .ok (.iload_n 2, 1) := by decide +kernel
theorem dX7_pairForests_10 : decode cX7_pairForests 10 = .ok (.istore 5, 2) := by decide +kernel
theorem dX7_pairForests_12 : decode cX7_pairForests 12 = .ok (.iload 4, 2) := by decide +kernel
theorem dX7_pairForests_14 : decode cX7_pairForests 14 = .ok (.istore 6, 2) := by decide +kernel
theorem dX7_pairForests_16 : decode cX7_pairForests 16 = .ok (.iload_n 2, 1) := by decide +kernel
theorem dX7_pairForests_17 : decode cX7_pairForests 17 = .ok (.istore 7, 2) := by decide +kernel
theorem dX7_pairForests_19 : decode cX7_pairForests 19 = .ok (.iload 7, 2) := by decide +kernel
theorem dX7_pairForests_21 : decode cX7_pairForests 21 = .ok (.iload_n 1, 1) := by decide +kernel
theorem dX7_pairForests_22 : decode cX7_pairForests 22 = .ok (.if_icmp .lt 93, 3) := by decide +kernel
theorem dX7_pairForests_25 : decode cX7_pairForests 25 = .ok (.iload 7, 2) := by decide +kernel
theorem dX7_pairForests_27 : decode cX7_pairForests 27 = .ok (.iload 5, 2) := by decide +kernel
theorem dX7_pairForests_29 : decode cX7_pairForests 29 = .ok (.if_icmp .gt 15, 3) := by decide +kernel
theorem dX7_pairForests_32 : decode cX7_pairForests 32 = .ok (.aload_n 0, 1) := by decide +kernel
theorem dX7_pairForests_33 : decode cX7_pairForests 33 = .ok (.iload 7, 2) := by decide +kernel
theorem dX7_pairForests_35 : decode cX7_pairForests 35 = .ok (.iload_n 3, 1) := by decide +kernel
theorem dX7_pairForests_36 : decode cX7_pairForests 36 = .ok (.iload 6, 2) := by decide +kernel
theorem dX7_pairForests_38 : decode cX7_pairForests 38 = .ok (.invokevirtual 123, 3) := by decide +kernel
theorem dX7_pairForests_41 : decode cX7_pairForests 41 = .ok (.goto 5, 3) := by decide +kernel
theorem dX7_pairForests_44 : decode cX7_pairForests 44 = .ok (.bipush (-9), 2) := by decide +kernel
theorem dX7_pairForests_46 : decode cX7_pairForests 46 = .ok (.istore 8, 2) := by decide +kernel
theorem dX7_pairForests_48 : decode cX7_pairForests 48 = .ok (.iload 8, 2) := by decide +kernel
theorem dX7_pairForests_50 : decode cX7_pairForests 50 = .ok (.bipush (-9), 2) := by decide +kernel
theorem dX7_pairForests_52 : decode cX7_pairForests 52 = .ok (.if_icmp .eq 57, 3) := by decide +kernel
theorem dX7_pairForests_55 : decode cX7_pairForests 55 = .ok (.aload_n 0, 1) := by decide +kernel
theorem dX7_pairForests_56 : decode cX7_pairForests 56 = .ok (.getfield 63, 3) := by decide +kernel
theorem dX7_pairForests_59 : decode cX7_pairForests 59 = .ok (.iload 7, 2) := by decide +kernel
theorem dX7_pairForests_61 : decode cX7_pairForests 61 = .ok (.iload 8, 2) := by decide +kernel
theorem dX7_pairForests_63 : decode cX7_pairForests 63 = .ok (.iastore, 1) := by decide +kernel
theorem dX7_pairForests_64 : decode cX7_pairForests 64 = .ok (.aload_n 0, 1) := by decide +kernel
theorem dX7_pairForests_65 : decode cX7_pairForests 65 = .ok (.getfield 66, 3) := by decide +kernel
theorem dX7_pairForests_68 : decode cX7_pairForests 68 = .ok (.iload 8, 2) := by decide +kernel
theorem dX7_pairForests_70 : decode cX7_pairForests 70 = .ok (.iload 7, 2) := by decide +kernel
theorem dX7_pairForests_72 : decode cX7_pairForests 72 = .ok (.iastore, 1) := by decide +kernel
theorem dX7_pairForests_73 : decode cX7_pairForests 73 = .ok (.aload_n 0, 1) := by decide +kernel
theorem dX7_pairForests_74 : decode cX7_pairForests 74 = .ok (.dup, 1) := by decide +kernel
theorem dX7_pairForests_75 : decode cX7_pairForests 75 = .ok (.getfield 22, 3) := by decide +kernel
theorem dX7_pairForests_78 : decode cX7_pairForests 78 = .ok (.iconst 1, 1) := by decide +kernel
theorem dX7_pairForests_79 : decode cX7_pairForests 79 = .ok (.iadd, 1) := by decide +kernel
theorem dX7_pairForests_80 : decode cX7_pairForests 80 = .ok (.putfield 22, 3) := by decide +kernel
theorem dX7_pairForests_83 : decode cX7_pairForests 83 = .ok (.aload_n 0, 1) := by decide +kernel
theorem dX7_pairForests_84 : decode cX7_pairForests 84 = .ok (.getfield 45, 3) := by decide +kernel
theorem dX7_pairForests_87 : decode cX7_pairForests 87 = .ok (.iload 7, 2) := by decide +kernel
theorem dX7_pairForests_89 : decode cX7_pairForests 89 = .ok (.invokevirtual 94, 3) := by decide +kernel
theorem dX7_pairForests_92 : decode cX7_pairForests 92 = .ok (.iconst 1, 1) := by decide +kernel
theorem dX7_pairForests_93 : decode cX7_pairForests 93 = .ok (.isub, 1) := by decide +kernel
theorem dX7_pairForests_94 : decode cX7_pairForests 94 = .ok (.istore 5, 2) := by decide +kernel
theorem dX7_pairForests_96 : decode cX7_pairForests 96 = .ok (.aload_n 0, 1) := by decide +kernel
theorem dX7_pairForests_97 : decode cX7_pairForests 97 = .ok (.getfield 49, 3) := by decide +kernel
theorem dX7_pairForests_100 : decode cX7_pairForests 100 = .ok (.iload 8, 2) := by decide +kernel
theorem dX7_pairForests_102 : decode cX7_pairForests 102 = .ok (.invokevirtual 94, 3) := by decide +kernel
theorem dX7_pairForests_105 : decode cX7_pairForests 105 = .ok (.iconst 1, 1) := by decide +kernel
theorem dX7_pairForests_106 : decode cX7_pairForests 106 = .ok (.isub, 1) := by decide +kernel
theorem dX7_pairForests_107 : decode cX7_pairForests 107 = .ok (.istore 6, 2) := by decide +kernel
theorem dX7_pairForests_109 : decode cX7_pairForests 109 = .ok (.iinc 7 (-1), 3) := by decide +kernel
theorem dX7_pairForests_112 : decode cX7_pairForests 112 = .ok (.goto (-93), 3) := by decide +kernel
theorem dX7_pairForests_115 : decode cX7_pairForests 115 = .ok (.return_, 1) := by decide +kernel
theorem dX7_greatestPartner_0 : decode cX7_greatestPartner 0 = .ok (.iconst 0, 1) := by decide +kernel
theorem dX7_greatestPartner_1 : decode cX7_greatestPartner 1 = .ok (.istore 4, 2) := by decide +kernel
theorem dX7_greatestPartner_3 : decode cX7_greatestPartner 3 = .ok (.iload_n 3, 1) := by decide +kernel
theorem dX7_greatestPartner_4 : decode cX7_greatestPartner 4 = .ok (.istore 5, 2) := by decide +kernel
theorem dX7_greatestPartner_6 : decode cX7_greatestPartner 6 = .ok (.iload 5, 2) := by decide +kernel
theorem dX7_greatestPartner_8 : decode cX7_greatestPartner 8 = .ok (.iload_n 2, 1) := by decide +kernel
theorem dX7_greatestPartner_9 : decode cX7_greatestPartner 9 = .ok (.if_icmp .lt 79, 3) := by decide +kernel
theorem dX7_greatestPartner_12 : decode cX7_greatestPartner 12 = .ok (.aload_n 0, 1) := by decide +kernel
theorem dX7_greatestPartner_13 : decode cX7_greatestPartner 13 = .ok (.getfield 60, 3) := by decide +kernel
theorem dX7_greatestPartner_16 : decode cX7_greatestPartner 16 = .ok (.aload_n 0, 1) := by decide +kernel
theorem dX7_greatestPartner_17 : decode cX7_greatestPartner 17 = .ok (.getfield 45, 3) := by decide +kernel
theorem dX7_greatestPartner_20 : decode cX7_greatestPartner 20 = .ok (.iload_n 1, 1) := by decide +kernel
theorem dX7_greatestPartner_21 : decode cX7_greatestPartner 21 = .ok (.invokevirtual 94, 3) := by decide +kernel
theorem dX7_greatestPartner_24 : decode cX7_greatestPartner 24 = .ok (.aaload, 1) := by decide +kernel
theorem dX7_greatestPartner_25 : decode cX7_greatestPartner 25 = .ok (.aload_n 0, 1) := by decide +kernel
theorem dX7_greatestPartner_26 : decode cX7_greatestPartner 26 = .ok (.getfield 49, 3) := by decide +kernel
theorem dX7_greatestPartner_29 : decode cX7_greatestPartner 29 = .ok (.iload 5, 2) := by decide +kernel
theorem dX7_greatestPartner_31 : decode cX7_greatestPartner 31 = .ok (.invokevirtual 94, 3) := by decide +kernel
theorem dX7_greatestPartner_34 : decode cX7_greatestPartner 34 = .ok (.iaload, 1) := by decide +kernel
theorem dX7_greatestPartner_35 : decode cX7_greatestPartner 35 = .ok (.istore 6, 2) := by decide +kernel
theorem dX7_greatestPartner_37 : decode cX7_greatestPartner 37 = .ok (.iload 6, 2) := by decide +kernel
theorem dX7_greatestPartner_39 : decode cX7_greatestPartner 39 = .ok (.aload_n 0, 1) := by decide +kernel
theorem dX7_greatestPartner_40 : decode cX7_greatestPartner 40 = .ok (.getfield 57, 3) := by decide +kernel
theorem dX7_greatestPartner_43 : decode cX7_greatestPartner 43 = .ok (.iload_n 1, 1) := by decide +kernel
theorem dX7_greatestPartner_44 : decode cX7_greatestPartner 44 = .ok (.aaload, 1) := by decide +kernel
theorem dX7_greatestPartner_45 : decode cX7_greatestPartner 45 = .ok (.iload 5, 2) := by decide +kernel
theorem dX7_greatestPartner_47 : decode cX7_greatestPartner 47 = .ok (.iaload, 1) := by decide +kernel
theorem dX7_greatestPartner_48 : decode cX7_greatestPartner 48 = .ok (.iadd, 1) := by decide +kernel
theorem dX7_greatestPartner_49 : decode cX7_greatestPartner 49 = .ok (.iload 4, 2) := by decide +kernel
theorem dX7_greatestPartner_51 : decode cX7_greatestPartner 51 = .ok (.iadd, 1) := by decide +kernel
theorem dX7_greatestPartner_52 : decode cX7_greatestPartner 52 = .ok (.aload_n 0, 1) := by decide +kernel
theorem dX7_greatestPartner_53 : decode cX7_greatestPartner 53 = .ok (.getfield 60, 3) := by decide +kernel
theorem dX7_greatestPartner_56 : decode cX7_greatestPartner 56 = .ok (.iload_n 1, 1) := by decide +kernel
theorem dX7_greatestPartner_57 : decode cX7_greatestPartner 57 = .ok (.iconst 1, 1) := by decide +kernel
theorem dX7_greatestPartner_58 : decode cX7_greatestPartner 58 = .ok (.iadd, 1) := by decide +kernel
theorem dX7_greatestPartner_59 : decode cX7_greatestPartner 59 = .ok (.aaload, 1) := by decide +kernel
theorem dX7_greatestPartner_60 : decode cX7_greatestPartner 60 = .ok (.iload_n 3, 1) := by decide +kernel
theorem dX7_greatestPartner_61 : decode cX7_greatestPartner 61 = .ok (.iconst 1, 1) := by decide +kernel
theorem dX7_greatestPartner_62 : decode cX7_greatestPartner 62 = .ok (.iadd, 1) := by decide +kernel
theorem dX7_greatestPartner_63 : decode cX7_greatestPartner 63 = .ok (.iaload, 1) := by decide +kernel
theorem dX7_greatestPartner_64 : decode cX7_greatestPartner 64 = .ok (.if_icmp .ne 6, 3) := by decide +kernel
theorem dX7_greatestPartner_67 : decode cX7_greatestPartner 67 = .ok (.iload 5, 2) := by decide +kernel
theorem dX7_greatestPartner_69 : decode cX7_greatestPartner 69 = .ok (.ireturn, 1) := by decide +kernel
theorem dX7_greatestPartner_70 : decode cX7_greatestPartner 70 = .ok (.iload 4, 2) := by decide +kernel
theorem dX7_greatestPartner_72 : decode cX7_greatestPartner 72 = .ok (.aload_n 0, 1) := by decide +kernel
theorem dX7_greatestPartner_73 : decode cX7_greatestPartner 73 = .ok (.getfield 54, 3) := by decide +kernel
theorem dX7_greatestPartner_76 : decode cX7_greatestPartner 76 = .ok (.iload 5, 2) := by decide +kernel
theorem dX7_greatestPartner_78 : decode cX7_greatestPartner 78 = .ok (.iaload, 1) := by decide +kernel
theorem dX7_greatestPartner_79 : decode cX7_greatestPartner 79 = .ok (.iadd, 1) := by decide +kernel
theorem dX7_greatestPartner_80 : decode cX7_greatestPartner 80 = .ok (.istore 4, 2) := by decide +kernel
theorem dX7_greatestPartner_82 : decode cX7_greatestPartner 82 = .ok (.iinc 5 (-1), 3) := by decide +kernel
theorem dX7_greatestPartner_85 : decode cX7_greatestPartner 85 = .ok (.goto (-79), 3) := by decide +kernel
theorem dX7_greatestPartner_88 : decode cX7_greatestPartner 88 = .ok (.bipush (-9), 2) := by decide +kernel
theorem dX7_greatestPartner_90 : decode cX7_greatestPartner 90 = .ok (.ireturn, 1) := by decide +kernel
theorem dX7_listSteps_0 : decode cX7_listSteps 0 = .ok (.aload_n 0, 1) := by decide +kernel
theorem dX7_listSteps_1 : decode cX7_listSteps 1 = .ok (.getfield 29, 3) := by decide +kernel
theorem dX7_listSteps_4 : decode cX7_listSteps 4 = .ok (.iconst 0, 1) := by decide +kernel
theorem dX7_listSteps_5 : decode cX7_listSteps 5 = .ok (.putfield 127, 3) := by decide +kernel
theorem dX7_listSteps_8 : decode cX7_listSteps 8 = .ok (.iconst 0, 1) := by decide +kernel
theorem dX7_listSteps_9 : decode cX7_listSteps 9 = .ok (.istore_n 1, 1) := by decide +kernel
theorem dX7_listSteps_10 : decode cX7_listSteps 10 = .ok (.iload_n 1, 1) := by decide +kernel
theorem dX7_listSteps_11 : decode cX7_listSteps 11 = .ok (.aload_n 0, 1) := by decide +kernel
theorem dX7_listSteps_12 : decode cX7_listSteps 12 = .ok (.getfield 45, 3) := by decide +kernel
theorem dX7_listSteps_15 : decode cX7_listSteps 15 = .ok (.getfield 82, 3) := by decide +kernel
theorem dX7_listSteps_18 : decode cX7_listSteps 18 = .ok (.if_icmp .ge 35, 3) := by decide +kernel
theorem dX7_listSteps_21 : decode cX7_listSteps 21 = .ok (.aload_n 0, 1) := by decide +kernel
theorem dX7_listSteps_22 : decode cX7_listSteps 22 = .ok (.getfield 63, 3) := by decide +kernel
theorem dX7_listSteps_25 : decode cX7_listSteps 25 = .ok (.iload_n 1, 1) := by decide +kernel
theorem dX7_listSteps_26 : decode cX7_listSteps 26 = .ok (.iaload, 1) := by decide +kernel
theorem dX7_listSteps_27 : decode cX7_listSteps 27 = .ok (.bipush (-9), 2) := by decide +kernel
theorem dX7_listSteps_29 : decode cX7_listSteps 29 = .ok (.if_icmp .ne 18, 3) := by decide +kernel
theorem dX7_listSteps_32 : decode cX7_listSteps 32 = .ok (.aload_n 0, 1) := by decide +kernel
theorem dX7_listSteps_33 : decode cX7_listSteps 33 = .ok (.getfield 29, 3) := by decide +kernel
theorem dX7_listSteps_36 : decode cX7_listSteps 36 = .ok (.iconst 0, 1) := by decide +kernel
theorem dX7_listSteps_37 : decode cX7_listSteps 37 = .ok (.iload_n 1, 1) := by decide +kernel
theorem dX7_listSteps_38 : decode cX7_listSteps 38 = .ok (.aload_n 0, 1) := by decide +kernel
theorem dX7_listSteps_39 : decode cX7_listSteps 39 = .ok (.getfield 50, 3) := by decide +kernel
theorem dX7_listSteps_42 : decode cX7_listSteps 42 = .ok (.iload_n 1, 1) := by decide +kernel
theorem dX7_listSteps_43 : decode cX7_listSteps 43 = .ok (.iaload, 1) := by decide +kernel
theorem dX7_listSteps_44 : decode cX7_listSteps 44 = .ok (.invokevirtual 130, 3) := by decide +kernel
theorem dX7_listSteps_47 : decode cX7_listSteps 47 = .ok (.iinc 1 1, 3) := by decide +kernel
theorem dX7_listSteps_50 : decode cX7_listSteps 50 = .ok (.goto (-40), 3) := by decide +kernel
theorem dX7_listSteps_53 : decode cX7_listSteps 53 = .ok (.iconst 0, 1) := by decide +kernel
theorem dX7_listSteps_54 : decode cX7_listSteps 54 = .ok (.istore_n 1, 1) := by decide +kernel
theorem dX7_listSteps_55 : decode cX7_listSteps 55 = .ok (.iload_n 1, 1) := by decide +kernel
theorem dX7_listSteps_56 : decode cX7_listSteps 56 = .ok (.aload_n 0, 1) := by decide +kernel
theorem dX7_listSteps_57 : decode cX7_listSteps 57 = .ok (.getfield 45, 3) := by decide +kernel
theorem dX7_listSteps_60 : decode cX7_listSteps 60 = .ok (.getfield 82, 3) := by decide +kernel
theorem dX7_listSteps_63 : decode cX7_listSteps 63 = .ok (.if_icmp .ge 60, 3) := by decide +kernel
theorem dX7_listSteps_66 : decode cX7_listSteps 66 = .ok (.aload_n 0, 1) := by decide +kernel
theorem dX7_listSteps_67 : decode cX7_listSteps 67 = .ok (.getfield 63, 3) := by decide +kernel
theorem dX7_listSteps_70 : decode cX7_listSteps 70 = .ok (.iload_n 1, 1) := by decide +kernel
theorem dX7_listSteps_71 : decode cX7_listSteps 71 = .ok (.iaload, 1) := by decide +kernel
theorem dX7_listSteps_72 : decode cX7_listSteps 72 = .ok (.istore_n 2, 1) := by decide +kernel
theorem dX7_listSteps_73 : decode cX7_listSteps 73 = .ok (.iload_n 2, 1) := by decide +kernel
theorem dX7_listSteps_74 : decode cX7_listSteps 74 = .ok (.bipush (-9), 2) := by decide +kernel
theorem dX7_listSteps_76 : decode cX7_listSteps 76 = .ok (.if_icmp .eq 41, 3) := by decide +kernel
theorem dX7_listSteps_79 : decode cX7_listSteps 79 = .ok (.aload_n 0, 1) := by decide +kernel
theorem dX7_listSteps_80 : decode cX7_listSteps 80 = .ok (.getfield 45, 3) := by decide +kernel
theorem dX7_listSteps_83 : decode cX7_listSteps 83 = .ok (.getfield 102, 3) := by decide +kernel
theorem dX7_listSteps_86 : decode cX7_listSteps 86 = .ok (.iload_n 1, 1) := by decide +kernel
theorem dX7_listSteps_87 : decode cX7_listSteps 87 = .ok (.iaload, 1) := by decide +kernel
theorem dX7_listSteps_88 : decode cX7_listSteps 88 = .ok (.aload_n 0, 1) := by decide +kernel
theorem dX7_listSteps_89 : decode cX7_listSteps 89 = .ok (.getfield 49, 3) := by decide +kernel
theorem dX7_listSteps_92 : decode cX7_listSteps 92 = .ok (.getfield 102, 3) := by decide +kernel
theorem dX7_listSteps_95 : decode cX7_listSteps 95 = .ok (.iload_n 2, 1) := by decide +kernel
theorem dX7_listSteps_96 : decode cX7_listSteps 96 = .ok (.iaload, 1) := by decide +kernel
theorem dX7_listSteps_97 : decode cX7_listSteps 97 = .ok (.if_icmp .eq 20, 3) := by decide +kernel
theorem dX7_listSteps_100 : decode cX7_listSteps 100 = .ok (.aload_n 0, 1) := by decide +kernel
theorem dX7_listSteps_101 : decode cX7_listSteps 101 = .ok (.getfield 29, 3) := by decide +kernel
theorem dX7_listSteps_104 : decode cX7_listSteps 104 = .ok (.iconst 1, 1) := by decide +kernel
theorem dX7_listSteps_105 : decode cX7_listSteps 105 = .ok (.iload_n 1, 1) := by decide +kernel
theorem dX7_listSteps_106 : decode cX7_listSteps 106 = .ok (.aload_n 0, 1) := by decide +kernel
theorem dX7_listSteps_107 : decode cX7_listSteps 107 = .ok (.getfield 38, 3) := by decide +kernel
theorem dX7_listSteps_110 : decode cX7_listSteps 110 = .ok (.iload_n 1, 1) := by decide +kernel
theorem dX7_listSteps_111 : decode cX7_listSteps 111 = .ok (.aaload, 1) := by decide +kernel
theorem dX7_listSteps_112 : decode cX7_listSteps 112 = .ok (.iload_n 2, 1) := by decide +kernel
theorem dX7_listSteps_113 : decode cX7_listSteps 113 = .ok (.iaload, 1) := by decide +kernel
theorem dX7_listSteps_114 : decode cX7_listSteps 114 = .ok (.invokevirtual 130, 3) := by decide +kernel
theorem dX7_listSteps_117 : decode cX7_listSteps 117 = .ok (.iinc 1 1, 3) := by decide +kernel
theorem dX7_listSteps_120 : decode cX7_listSteps 120 = .ok (.goto (-65), 3) := by decide +kernel
theorem dX7_listSteps_123 : decode cX7_listSteps 123 = .ok (.aload_n 0, 1) := by decide +kernel
theorem dX7_listSteps_124 : decode cX7_listSteps 124 = .ok (.getfield 49, 3) := by decide +kernel
theorem dX7_listSteps_127 : decode cX7_listSteps 127 = .ok (.getfield 82, 3) := by decide +kernel
theorem dX7_listSteps_130 : decode cX7_listSteps 130 = .ok (.iconst 1, 1) := by decide +kernel
theorem dX7_listSteps_131 : decode cX7_listSteps 131 = .ok (.isub, 1) := by decide +kernel
theorem dX7_listSteps_132 : decode cX7_listSteps 132 = .ok (.istore_n 1, 1) := by decide +kernel
theorem dX7_listSteps_133 : decode cX7_listSteps 133 = .ok (.iload_n 1, 1) := by decide +kernel
theorem dX7_listSteps_134 : decode cX7_listSteps 134 = .ok (.ifCond .lt 35, 3) := by decide +kernel
theorem dX7_listSteps_137 : decode cX7_listSteps 137 = .ok (.aload_n 0, 1) := by decide +kernel
theorem dX7_listSteps_138 : decode cX7_listSteps 138 = .ok (.getfield 66, 3) := by decide +kernel
theorem dX7_listSteps_141 : decode cX7_listSteps 141 = .ok (.iload_n 1, 1) := by decide +kernel
theorem dX7_listSteps_142 : decode cX7_listSteps 142 = .ok (.iaload, 1) := by decide +kernel
theorem dX7_listSteps_143 : decode cX7_listSteps 143 = .ok (.bipush (-9), 2) := by decide +kernel
theorem dX7_listSteps_145 : decode cX7_listSteps 145 = .ok (.if_icmp .ne 18, 3) := by decide +kernel
theorem dX7_listSteps_148 : decode cX7_listSteps 148 = .ok (.aload_n 0, 1) := by decide +kernel
theorem dX7_listSteps_149 : decode cX7_listSteps 149 = .ok (.getfield 29, 3) := by decide +kernel
theorem dX7_listSteps_152 : decode cX7_listSteps 152 = .ok (.iconst 2, 1) := by decide +kernel
theorem dX7_listSteps_153 : decode cX7_listSteps 153 = .ok (.iload_n 1, 1) := by decide +kernel
theorem dX7_listSteps_154 : decode cX7_listSteps 154 = .ok (.aload_n 0, 1) := by decide +kernel
theorem dX7_listSteps_155 : decode cX7_listSteps 155 = .ok (.getfield 54, 3) := by decide +kernel
theorem dX7_listSteps_158 : decode cX7_listSteps 158 = .ok (.iload_n 1, 1) := by decide +kernel
theorem dX7_listSteps_159 : decode cX7_listSteps 159 = .ok (.iaload, 1) := by decide +kernel
theorem dX7_listSteps_160 : decode cX7_listSteps 160 = .ok (.invokevirtual 130, 3) := by decide +kernel
theorem dX7_listSteps_163 : decode cX7_listSteps 163 = .ok (.iinc 1 (-1), 3) := by decide +kernel
theorem dX7_listSteps_166 : decode cX7_listSteps 166 = .ok (.goto (-33), 3) := by decide +kernel
theorem dX7_listSteps_169 : decode cX7_listSteps 169 = .ok (.return_, 1) := by decide +kernel
theorem dX7_grow_0 : decode cX7_grow 0 = .ok (.iload_n 1, 1) := by decide +kernel
theorem dX7_grow_1 : decode cX7_grow 1 = .ok (.aload_n 0, 1) := by decide +kernel
theorem dX7_grow_2 : decode cX7_grow 2 = .ok (.getfield 29, 3) := by decide +kernel
theorem dX7_grow_5 : decode cX7_grow 5 = .ok (.getfield 127, 3) := by decide +kernel
theorem dX7_grow_8 : decode cX7_grow 8 = .ok (.if_icmp .ge 54, 3) := by decide +kernel
theorem dX7_grow_11 : decode cX7_grow 11 = .ok (.aload_n 0, 1) := by decide +kernel
theorem dX7_grow_12 : decode cX7_grow 12 = .ok (.getfield 29, 3) := by decide +kernel
theorem dX7_grow_15 : decode cX7_grow 15 = .ok (.getfield 134, 3) := by decide +kernel
theorem dX7_grow_18 : decode cX7_grow 18 = .ok (.iload_n 1, 1) := by decide +kernel
theorem dX7_grow_19 : decode cX7_grow 19 = .ok (.iaload, 1) := by decide +kernel
theorem dX7_grow_20 : decode cX7_grow 20 = .ok (.iconst 2, 1) := by decide +kernel
theorem dX7_grow_21 : decode cX7_grow 21 = .ok (.if_icmp .eq 41, 3) := by decide +kernel
theorem dX7_grow_24 : decode cX7_grow 24 = .ok (.aload_n 2, 1) := by decide +kernel
theorem dX7_grow_25 : decode cX7_grow 25 = .ok (.aload_n 0, 1) := by decide +kernel
theorem dX7_grow_26 : decode cX7_grow 26 = .ok (.getfield 45, 3) := by decide +kernel
theorem dX7_grow_29 : decode cX7_grow 29 = .ok (.invokevirtual 137, 3) := by decide +kernel
theorem dX7_grow_32 : decode cX7_grow 32 = .ok (.aload_n 0, 1) := by decide +kernel
theorem dX7_grow_33 : decode cX7_grow 33 = .ok (.iload_n 1, 1) := by decide +kernel
theorem dX7_grow_34 : decode cX7_grow 34 = .ok (.aload_n 2, 1) := by decide +kernel
theorem dX7_grow_35 : decode cX7_grow 35 = .ok (.invokevirtual 141, 3) := by decide +kernel
theorem dX7_grow_38 : decode cX7_grow 38 = .ok (.iload_n 1, 1) := by decide +kernel
theorem dX7_grow_39 : decode cX7_grow 39 = .ok (.iconst 1, 1) := by decide +kernel
theorem dX7_grow_40 : decode cX7_grow 40 = .ok (.isub, 1) := by decide +kernel
theorem dX7_grow_41 : decode cX7_grow 41 = .ok (.istore_n 3, 1) := by decide +kernel
theorem dX7_grow_42 : decode cX7_grow 42 = .ok (.iload_n 3, 1) := by decide +kernel
theorem dX7_grow_43 : decode cX7_grow 43 = .ok (.ifCond .lt 16, 3) := by decide +kernel
theorem dX7_grow_46 : decode cX7_grow 46 = .ok (.aload_n 0, 1) := by decide +kernel
theorem dX7_grow_47 : decode cX7_grow 47 = .ok (.iload_n 3, 1) := by decide +kernel
theorem dX7_grow_48 : decode cX7_grow 48 = .ok (.iconst 0, 1) := by decide +kernel
theorem dX7_grow_49 : decode cX7_grow 49 = .ok (.aload_n 2, 1) := by decide +kernel
theorem dX7_grow_50 : decode cX7_grow 50 = .ok (.invokevirtual 145, 3) := by decide +kernel
theorem dX7_grow_53 : decode cX7_grow 53 = .ok (.iinc 3 (-1), 3) := by decide +kernel
theorem dX7_grow_56 : decode cX7_grow 56 = .ok (.goto (-14), 3) := by decide +kernel
theorem dX7_grow_59 : decode cX7_grow 59 = .ok (.goto 37, 3) := by decide +kernel
theorem dX7_grow_62 : decode cX7_grow 62 = .ok (.aload_n 2, 1) := by decide +kernel
theorem dX7_grow_63 : decode cX7_grow 63 = .ok (.aload_n 0, 1) := by decide +kernel
theorem dX7_grow_64 : decode cX7_grow 64 = .ok (.getfield 49, 3) := by decide +kernel
theorem dX7_grow_67 : decode cX7_grow 67 = .ok (.invokevirtual 137, 3) := by decide +kernel
theorem dX7_grow_70 : decode cX7_grow 70 = .ok (.iload_n 1, 1) := by decide +kernel
theorem dX7_grow_71 : decode cX7_grow 71 = .ok (.istore_n 3, 1) := by decide +kernel
theorem dX7_grow_72 : decode cX7_grow 72 = .ok (.iload_n 3, 1) := by decide +kernel
theorem dX7_grow_73 : decode cX7_grow 73 = .ok (.aload_n 0, 1) := by decide +kernel
theorem dX7_grow_74 : decode cX7_grow 74 = .ok (.getfield 29, 3) := by decide +kernel
theorem dX7_grow_77 : decode cX7_grow 77 = .ok (.getfield 127, 3) := by decide +kernel
theorem dX7_grow_80 : decode cX7_grow 80 = .ok (.if_icmp .ge 16, 3) := by decide +kernel
theorem dX7_grow_83 : decode cX7_grow 83 = .ok (.aload_n 0, 1) := by decide +kernel
theorem dX7_grow_84 : decode cX7_grow 84 = .ok (.iload_n 3, 1) := by decide +kernel
theorem dX7_grow_85 : decode cX7_grow 85 = .ok (.iconst 2, 1) := by decide +kernel
theorem dX7_grow_86 : decode cX7_grow 86 = .ok (.aload_n 2, 1) := by decide +kernel
theorem dX7_grow_87 : decode cX7_grow 87 = .ok (.invokevirtual 145, 3) := by decide +kernel
theorem dX7_grow_90 : decode cX7_grow 90 = .ok (.iinc 3 1, 3) := by decide +kernel
theorem dX7_grow_93 : decode cX7_grow 93 = .ok (.goto (-21), 3) := by decide +kernel
theorem dX7_grow_96 : decode cX7_grow 96 = .ok (.return_, 1) := by decide +kernel
theorem dX7_relabelUpTo_0 : decode cX7_relabelUpTo 0 = .ok (.iconst 0, 1) := by decide +kernel
theorem dX7_relabelUpTo_1 : decode cX7_relabelUpTo 1 = .ok (.istore_n 3, 1) := by decide +kernel
theorem dX7_relabelUpTo_2 : decode cX7_relabelUpTo 2 = .ok (.iload_n 3, 1) := by decide +kernel
theorem dX7_relabelUpTo_3 : decode cX7_relabelUpTo 3 = .ok (.iload_n 1, 1) := by decide +kernel
theorem dX7_relabelUpTo_4 : decode cX7_relabelUpTo 4 = .ok (.if_icmp .ge 67, 3) := by decide +kernel
theorem dX7_relabelUpTo_7 : decode cX7_relabelUpTo 7 = .ok (.aload_n 0, 1) := by decide +kernel
theorem dX7_relabelUpTo_8 : decode cX7_relabelUpTo 8 = .ok (.getfield 29, 3) := by decide +kernel
theorem dX7_relabelUpTo_11 : decode cX7_relabelUpTo 11 = .ok (.getfield 149, 3) := by decide +kernel
theorem dX7_relabelUpTo_14 : decode cX7_relabelUpTo 14 = .ok (.iload_n 3, 1) := by decide +kernel
theorem dX7_relabelUpTo_15 : decode cX7_relabelUpTo 15 = .ok (.iaload, 1) := by decide +kernel
theorem dX7_relabelUpTo_16 : decode cX7_relabelUpTo 16 = .ok (.istore 4, 2) := by decide +kernel
theorem dX7_relabelUpTo_18 : decode cX7_relabelUpTo 18 = .ok (.aload_n 0, 1) := by decide +kernel
theorem dX7_relabelUpTo_19 : decode cX7_relabelUpTo 19 = .ok (.getfield 29, 3) := by decide +kernel
theorem dX7_relabelUpTo_22 : decode cX7_relabelUpTo 22 = .ok (.getfield 134, 3) := by decide +kernel
theorem dX7_relabelUpTo_25 : decode cX7_relabelUpTo 25 = .ok (.iload_n 3, 1) := by decide +kernel
theorem dX7_relabelUpTo_26 : decode cX7_relabelUpTo 26 = .ok (.iaload, 1) := by decide +kernel
theorem dX7_relabelUpTo_27 : decode cX7_relabelUpTo 27 = .ok (.iconst 1, 1) := by decide +kernel
theorem dX7_relabelUpTo_28 : decode cX7_relabelUpTo 28 = .ok (.if_icmp .ne 37, 3) := by decide +kernel
theorem dX7_relabelUpTo_31 : decode cX7_relabelUpTo 31 = .ok (.aload_n 0, 1) := by decide +kernel
theorem dX7_relabelUpTo_32 : decode cX7_relabelUpTo 32 = .ok (.getfield 63, 3) := by decide +kernel
theorem dX7_relabelUpTo_35 : decode cX7_relabelUpTo 35 = .ok (.iload 4, 2) := by decide +kernel
theorem dX7_relabelUpTo_37 : decode cX7_relabelUpTo 37 = .ok (.iaload, 1) := by decide +kernel
theorem dX7_relabelUpTo_38 : decode cX7_relabelUpTo 38 = .ok (.bipush (-9), 2) := by decide +kernel
theorem dX7_relabelUpTo_40 : decode cX7_relabelUpTo 40 = .ok (.if_icmp .eq 25, 3) := by decide +kernel
theorem dX7_relabelUpTo_43 : decode cX7_relabelUpTo 43 = .ok (.aload_n 2, 1) := by decide +kernel
theorem dX7_relabelUpTo_44 : decode cX7_relabelUpTo 44 = .ok (.getfield 102, 3) := by decide +kernel
theorem dX7_relabelUpTo_47 : decode cX7_relabelUpTo 47 = .ok (.iload 4, 2) := by decide +kernel
theorem dX7_relabelUpTo_49 : decode cX7_relabelUpTo 49 = .ok (.aload_n 0, 1) := by decide +kernel
theorem dX7_relabelUpTo_50 : decode cX7_relabelUpTo 50 = .ok (.getfield 49, 3) := by decide +kernel
theorem dX7_relabelUpTo_53 : decode cX7_relabelUpTo 53 = .ok (.getfield 102, 3) := by decide +kernel
theorem dX7_relabelUpTo_56 : decode cX7_relabelUpTo 56 = .ok (.aload_n 0, 1) := by decide +kernel
theorem dX7_relabelUpTo_57 : decode cX7_relabelUpTo 57 = .ok (.getfield 63, 3) := by decide +kernel
theorem dX7_relabelUpTo_60 : decode cX7_relabelUpTo 60 = .ok (.iload 4, 2) := by decide +kernel
theorem dX7_relabelUpTo_62 : decode cX7_relabelUpTo 62 = .ok (.iaload, 1) := by decide +kernel
theorem dX7_relabelUpTo_63 : decode cX7_relabelUpTo 63 = .ok (.iaload, 1) := by decide +kernel
theorem dX7_relabelUpTo_64 : decode cX7_relabelUpTo 64 = .ok (.iastore, 1) := by decide +kernel
theorem dX7_relabelUpTo_65 : decode cX7_relabelUpTo 65 = .ok (.iinc 3 1, 3) := by decide +kernel
theorem dX7_relabelUpTo_68 : decode cX7_relabelUpTo 68 = .ok (.goto (-66), 3) := by decide +kernel
theorem dX7_relabelUpTo_71 : decode cX7_relabelUpTo 71 = .ok (.return_, 1) := by decide +kernel
theorem dX7_removeStep_0 : decode cX7_removeStep 0 = .ok (.aload_n 0, 1) := by decide +kernel
theorem dX7_removeStep_1 : decode cX7_removeStep 1 = .ok (.getfield 29, 3) := by decide +kernel
theorem dX7_removeStep_4 : decode cX7_removeStep 4 = .ok (.getfield 134, 3) := by decide +kernel
theorem dX7_removeStep_7 : decode cX7_removeStep 7 = .ok (.iload_n 1, 1) := by decide +kernel
theorem dX7_removeStep_8 : decode cX7_removeStep 8 = .ok (.iaload, 1) := by decide +kernel
theorem dX7_removeStep_9 : decode cX7_removeStep 9 = .ok (.iload_n 2, 1) := by decide +kernel
theorem dX7_removeStep_10 : decode cX7_removeStep 10 = .ok (.if_icmp .ne 32, 3) := by decide +kernel
theorem dX7_removeStep_13 : decode cX7_removeStep 13 = .ok (.aload_n 3, 1) := by decide +kernel
theorem dX7_removeStep_14 : decode cX7_removeStep 14 = .ok (.aload_n 0, 1) := by decide +kernel
theorem dX7_removeStep_15 : decode cX7_removeStep 15 = .ok (.getfield 29, 3) := by decide +kernel
theorem dX7_removeStep_18 : decode cX7_removeStep 18 = .ok (.getfield 149, 3) := by decide +kernel
theorem dX7_removeStep_21 : decode cX7_removeStep 21 = .ok (.iload_n 1, 1) := by decide +kernel
theorem dX7_removeStep_22 : decode cX7_removeStep 22 = .ok (.iaload, 1) := by decide +kernel
theorem dX7_removeStep_23 : decode cX7_removeStep 23 = .ok (.invokevirtual 152, 3) := by decide +kernel
theorem dX7_removeStep_26 : decode cX7_removeStep 26 = .ok (.ifCond .eq 16, 3) := by decide +kernel
theorem dX7_removeStep_29 : decode cX7_removeStep 29 = .ok (.aload_n 3, 1) := by decide +kernel
theorem dX7_removeStep_30 : decode cX7_removeStep 30 = .ok (.aload_n 0, 1) := by decide +kernel
theorem dX7_removeStep_31 : decode cX7_removeStep 31 = .ok (.getfield 29, 3) := by decide +kernel
theorem dX7_removeStep_34 : decode cX7_removeStep 34 = .ok (.getfield 149, 3) := by decide +kernel
theorem dX7_removeStep_37 : decode cX7_removeStep 37 = .ok (.iload_n 1, 1) := by decide +kernel
theorem dX7_removeStep_38 : decode cX7_removeStep 38 = .ok (.iaload, 1) := by decide +kernel
theorem dX7_removeStep_39 : decode cX7_removeStep 39 = .ok (.invokevirtual 156, 3) := by decide +kernel
theorem dX7_removeStep_42 : decode cX7_removeStep 42 = .ok (.return_, 1) := by decide +kernel
theorem dX8_init_0 : decode cX8_init 0 = .ok (.aload_n 0, 1) := by decide +kernel
theorem dX8_init_1 : decode cX8_init 1 = .ok (.invokespecial 1, 3) := by decide +kernel
theorem dX8_init_4 : decode cX8_init 4 = .ok (.aload_n 0, 1) := by decide +kernel
theorem dX8_init_5 : decode cX8_init 5 = .ok (.bipush 6, 2) := by decide +kernel
theorem dX8_init_7 : decode cX8_init 7 = .ok (.anewarray 9, 3) := by decide +kernel
theorem dX8_init_10 : decode cX8_init 10 = .ok (.putfield 11, 3) := by decide +kernel
theorem dX8_init_13 : decode cX8_init 13 = .ok (.aload_n 0, 1) := by decide +kernel
theorem dX8_init_14 : decode cX8_init 14 = .ok (.iconst 4, 1) := by decide +kernel
theorem dX8_init_15 : decode cX8_init 15 = .ok (.anewarray 15, 3) := by decide +kernel
theorem dX8_init_18 : decode cX8_init 18 = .ok (.putfield 17, 3) := by decide +kernel
theorem dX8_init_21 : decode cX8_init 21 = .ok (.aload_n 0, 1) := by decide +kernel
theorem dX8_init_22 : decode cX8_init 22 = .ok (.new 21, 3) := by decide +kernel
theorem dX8_init_25 : decode cX8_init 25 = .ok (.dup, 1) := by decide +kernel
theorem dX8_init_26 : decode cX8_init 26 = .ok (.invokespecial 23, 3) := by decide +kernel
theorem dX8_init_29 : decode cX8_init 29 = .ok (.putfield 24, 3) := by decide +kernel
theorem dX8_init_32 : decode cX8_init 32 = .ok (.aload_n 0, 1) := by decide +kernel
theorem dX8_init_33 : decode cX8_init 33 = .ok (.aload_n 0, 1) := by decide +kernel
theorem dX8_init_34 : decode cX8_init 34 = .ok (.getfield 24, 3) := by decide +kernel
theorem dX8_init_37 : decode cX8_init 37 = .ok (.getfield 28, 3) := by decide +kernel
theorem dX8_init_40 : decode cX8_init 40 = .ok (.putfield 32, 3) := by decide +kernel
theorem dX8_init_43 : decode cX8_init 43 = .ok (.aload_n 0, 1) := by decide +kernel
theorem dX8_init_44 : decode cX8_init 44 = .ok (.new 33, 3) := by decide +kernel
theorem dX8_init_47 : decode cX8_init 47 = .ok (.dup, 1) := by decide +kernel
theorem dX8_init_48 : decode cX8_init 48 = .ok (.iconst 0, 1) := by decide +kernel
theorem dX8_init_49 : decode cX8_init 49 = .ok (.invokespecial 35, 3) := by decide +kernel
theorem dX8_init_52 : decode cX8_init 52 = .ok (.putfield 38, 3) := by decide +kernel
theorem dX8_init_55 : decode cX8_init 55 = .ok (.aload_n 0, 1) := by decide +kernel
theorem dX8_init_56 : decode cX8_init 56 = .ok (.iconst 3, 1) := by decide +kernel
theorem dX8_init_57 : decode cX8_init 57 = .ok (.anewarray 33, 3) := by decide +kernel
theorem dX8_init_60 : decode cX8_init 60 = .ok (.putfield 42, 3) := by decide +kernel
theorem dX8_init_63 : decode cX8_init 63 = .ok (.aload_n 0, 1) := by decide +kernel
theorem dX8_init_64 : decode cX8_init 64 = .ok (.new 46, 3) := by decide +kernel
theorem dX8_init_67 : decode cX8_init 67 = .ok (.dup, 1) := by decide +kernel
theorem dX8_init_68 : decode cX8_init 68 = .ok (.invokespecial 48, 3) := by decide +kernel
theorem dX8_init_71 : decode cX8_init 71 = .ok (.putfield 49, 3) := by decide +kernel
theorem dX8_init_74 : decode cX8_init 74 = .ok (.aload_n 0, 1) := by decide +kernel
theorem dX8_init_75 : decode cX8_init 75 = .ok (.new 53, 3) := by decide +kernel
theorem dX8_init_78 : decode cX8_init 78 = .ok (.dup, 1) := by decide +kernel
theorem dX8_init_79 : decode cX8_init 79 = .ok (.invokespecial 55, 3) := by decide +kernel
theorem dX8_init_82 : decode cX8_init 82 = .ok (.putfield 56, 3) := by decide +kernel
theorem dX8_init_85 : decode cX8_init 85 = .ok (.aload_n 0, 1) := by decide +kernel
theorem dX8_init_86 : decode cX8_init 86 = .ok (.bipush 6, 2) := by decide +kernel
theorem dX8_init_88 : decode cX8_init 88 = .ok (.newarray .int, 2) := by decide +kernel
theorem dX8_init_90 : decode cX8_init 90 = .ok (.putfield 60, 3) := by decide +kernel
theorem dX8_init_93 : decode cX8_init 93 = .ok (.aload_n 0, 1) := by decide +kernel
theorem dX8_init_94 : decode cX8_init 94 = .ok (.iconst 0, 1) := by decide +kernel
theorem dX8_init_95 : decode cX8_init 95 = .ok (.putfield 64, 3) := by decide +kernel
theorem dX8_init_98 : decode cX8_init 98 = .ok (.aload_n 0, 1) := by decide +kernel
theorem dX8_init_99 : decode cX8_init 99 = .ok (.iconst 0, 1) := by decide +kernel
theorem dX8_init_100 : decode cX8_init 100 = .ok (.putfield 68, 3) := by decide +kernel
theorem dX8_init_103 : decode cX8_init 103 = .ok (.iconst 0, 1) := by decide +kernel
theorem dX8_init_104 : decode cX8_init 104 = .ok (.istore_n 1, 1) := by decide +kernel
theorem dX8_init_105 : decode cX8_init 105 = .ok (.iload_n 1, 1) := by decide +kernel
theorem dX8_init_106 : decode cX8_init 106 = .ok (.bipush 6, 2) := by decide +kernel
theorem dX8_init_108 : decode cX8_init 108 = .ok (.if_icmp .ge 22, 3) := by decide +kernel
theorem dX8_init_111 : decode cX8_init 111 = .ok (.aload_n 0, 1) := by decide +kernel
theorem dX8_init_112 : decode cX8_init 112 = .ok (.getfield 11, 3) := by decide +kernel
theorem dX8_init_115 : decode cX8_init 115 = .ok (.iload_n 1, 1) := by decide +kernel
theorem dX8_init_116 : decode cX8_init 116 = .ok (.new 9, 3) := by decide +kernel
theorem dX8_init_119 : decode cX8_init 119 = .ok (.dup, 1) := by decide +kernel
theorem dX8_init_120 : decode cX8_init 120 = .ok (.invokespecial 71, 3) := by decide +kernel
theorem dX8_init_123 : decode cX8_init 123 = .ok (.aastore, 1) := by decide +kernel
theorem dX8_init_124 : decode cX8_init 124 = .ok (.iinc 1 1, 3) := by decide +kernel
theorem dX8_init_127 : decode cX8_init 127 = .ok (.goto (-22), 3) := by decide +kernel
theorem dX8_init_130 : decode cX8_init 130 = .ok (.iconst 0, 1) := by decide +kernel
theorem dX8_init_131 : decode cX8_init 131 = .ok (.istore_n 1, 1) := by decide +kernel
theorem dX8_init_132 : decode cX8_init 132 = .ok (.iload_n 1, 1) := by decide +kernel
theorem dX8_init_133 : decode cX8_init 133 = .ok (.iconst 4, 1) := by decide +kernel
theorem dX8_init_134 : decode cX8_init 134 = .ok (.if_icmp .ge 22, 3) := by decide +kernel
theorem dX8_init_137 : decode cX8_init 137 = .ok (.aload_n 0, 1) := by decide +kernel
theorem dX8_init_138 : decode cX8_init 138 = .ok (.getfield 17, 3) := by decide +kernel
theorem dX8_init_141 : decode cX8_init 141 = .ok (.iload_n 1, 1) := by decide +kernel
theorem dX8_init_142 : decode cX8_init 142 = .ok (.new 15, 3) := by decide +kernel
theorem dX8_init_145 : decode cX8_init 145 = .ok (.dup, 1) := by decide +kernel
theorem dX8_init_146 : decode cX8_init 146 = .ok (.invokespecial 72, 3) := by decide +kernel
theorem dX8_init_149 : decode cX8_init 149 = .ok (.aastore, 1) := by decide +kernel
theorem dX8_init_150 : decode cX8_init 150 = .ok (.iinc 1 1, 3) := by decide +kernel
theorem dX8_init_153 : decode cX8_init 153 = .ok (.goto (-21), 3) := by decide +kernel
theorem dX8_init_156 : decode cX8_init 156 = .ok (.iconst 0, 1) := by decide +kernel
theorem dX8_init_157 : decode cX8_init 157 = .ok (.istore_n 1, 1) := by decide +kernel
theorem dX8_init_158 : decode cX8_init 158 = .ok (.iload_n 1, 1) := by decide +kernel
theorem dX8_init_159 : decode cX8_init 159 = .ok (.iconst 3, 1) := by decide +kernel
theorem dX8_init_160 : decode cX8_init 160 = .ok (.if_icmp .ge 23, 3) := by decide +kernel
theorem dX8_init_163 : decode cX8_init 163 = .ok (.aload_n 0, 1) := by decide +kernel
