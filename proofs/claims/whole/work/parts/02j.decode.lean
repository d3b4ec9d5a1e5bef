theorem dX9_behind_75 : decode cX9_behind 75 = .ok (.if_icmp .ne 50, 3) := by decide +kernel
theorem dX9_behind_78 : decode cX9_behind 78 = .ok (.iconst 0, 1) := by decide +kernel
theorem dX9_behind_79 : decode cX9_behind 79 = .ok (.istore 4, 2) := by decide +kernel
theorem dX9_behind_81 : decode cX9_behind 81 = .ok (.iconst 0, 1) := by decide +kernel
theorem dX9_behind_82 : decode cX9_behind 82 = .ok (.istore 5, 2) := by decide +kernel
theorem dX9_behind_84 : decode cX9_behind 84 = .ok (.iload 5, 2) := by decide +kernel
theorem dX9_behind_86 : decode cX9_behind 86 = .ok (.aload_n 0, 1) := by decide +kernel
theorem dX9_behind_87 : decode cX9_behind 87 = .ok (.iconst 1, 1) := by decide +kernel
theorem dX9_behind_88 : decode cX9_behind 88 = .ok (.invokevirtual 119, 3) := by decide +kernel
theorem dX9_behind_91 : decode cX9_behind 91 = .ok (.if_icmp .ge 34, 3) := by decide +kernel
theorem dX9_behind_94 : decode cX9_behind 94 = .ok (.iload 4, 2) := by decide +kernel
theorem dX9_behind_96 : decode cX9_behind 96 = .ok (.aload_n 0, 1) := by decide +kernel
theorem dX9_behind_97 : decode cX9_behind 97 = .ok (.getfield 77, 3) := by decide +kernel
theorem dX9_behind_100 : decode cX9_behind 100 = .ok (.iload 5, 2) := by decide +kernel
theorem dX9_behind_102 : decode cX9_behind 102 = .ok (.iaload, 1) := by decide +kernel
theorem dX9_behind_103 : decode cX9_behind 103 = .ok (.bipush (-9), 2) := by decide +kernel
theorem dX9_behind_105 : decode cX9_behind 105 = .ok (.if_icmp .ne 7, 3) := by decide +kernel
theorem dX9_behind_108 : decode cX9_behind 108 = .ok (.iconst 0, 1) := by decide +kernel
theorem dX9_behind_109 : decode cX9_behind 109 = .ok (.goto 7, 3) := by decide +kernel
theorem dX9_behind_112 : decode cX9_behind 112 = .ok (.iconst 1, 1) := by decide +kernel
theorem dX9_behind_113 : decode cX9_behind 113 = .ok (.iload 5, 2) := by decide +kernel
theorem dX9_behind_115 : decode cX9_behind 115 = .ok (.ishl, 1) := by decide +kernel
theorem dX9_behind_116 : decode cX9_behind 116 = .ok (.ior, 1) := by decide +kernel
theorem dX9_behind_117 : decode cX9_behind 117 = .ok (.istore 4, 2) := by decide +kernel
theorem dX9_behind_119 : decode cX9_behind 119 = .ok (.iinc 5 1, 3) := by decide +kernel
theorem dX9_behind_122 : decode cX9_behind 122 = .ok (.goto (-38), 3) := by decide +kernel
theorem dX9_behind_125 : decode cX9_behind 125 = .ok (.iconst 0, 1) := by decide +kernel
theorem dX9_behind_126 : decode cX9_behind 126 = .ok (.istore 5, 2) := by decide +kernel
theorem dX9_behind_128 : decode cX9_behind 128 = .ok (.iload 5, 2) := by decide +kernel
theorem dX9_behind_130 : decode cX9_behind 130 = .ok (.aload_n 0, 1) := by decide +kernel
theorem dX9_behind_131 : decode cX9_behind 131 = .ok (.iload_n 3, 1) := by decide +kernel
theorem dX9_behind_132 : decode cX9_behind 132 = .ok (.invokevirtual 119, 3) := by decide +kernel
theorem dX9_behind_135 : decode cX9_behind 135 = .ok (.if_icmp .ge 23, 3) := by decide +kernel
theorem dX9_behind_138 : decode cX9_behind 138 = .ok (.aload_n 0, 1) := by decide +kernel
theorem dX9_behind_139 : decode cX9_behind 139 = .ok (.getfield 53, 3) := by decide +kernel
theorem dX9_behind_142 : decode cX9_behind 142 = .ok (.iload 5, 2) := by decide +kernel
theorem dX9_behind_144 : decode cX9_behind 144 = .ok (.aload_n 0, 1) := by decide +kernel
theorem dX9_behind_145 : decode cX9_behind 145 = .ok (.iload_n 3, 1) := by decide +kernel
theorem dX9_behind_146 : decode cX9_behind 146 = .ok (.iload 5, 2) := by decide +kernel
theorem dX9_behind_148 : decode cX9_behind 148 = .ok (.invokevirtual 169, 3) := by decide +kernel
theorem dX9_behind_151 : decode cX9_behind 151 = .ok (.iastore, 1) := by decide +kernel
theorem dX9_behind_152 : decode cX9_behind 152 = .ok (.iinc 5 1, 3) := by decide +kernel
theorem dX9_behind_155 : decode cX9_behind 155 = .ok (.goto (-27), 3) := by decide +kernel
theorem dX9_behind_158 : decode cX9_behind 158 = .ok (.iconst 0, 1) := by decide +kernel
theorem dX9_behind_159 : decode cX9_behind 159 = .ok (.istore 5, 2) := by decide +kernel
theorem dX9_behind_161 : decode cX9_behind 161 = .ok (.iload 5, 2) := by decide +kernel
theorem dX9_behind_163 : decode cX9_behind 163 = .ok (.iload_n 1, 1) := by decide +kernel
theorem dX9_behind_164 : decode cX9_behind 164 = .ok (.if_icmp .ge 108, 3) := by decide +kernel
theorem dX9_behind_167 : decode cX9_behind 167 = .ok (.aload_n 0, 1) := by decide +kernel
theorem dX9_behind_168 : decode cX9_behind 168 = .ok (.getfield 80, 3) := by decide +kernel
theorem dX9_behind_171 : decode cX9_behind 171 = .ok (.iconst 3, 1) := by decide +kernel
theorem dX9_behind_172 : decode cX9_behind 172 = .ok (.iload 5, 2) := by decide +kernel
theorem dX9_behind_174 : decode cX9_behind 174 = .ok (.imul, 1) := by decide +kernel
theorem dX9_behind_175 : decode cX9_behind 175 = .ok (.iaload, 1) := by decide +kernel
theorem dX9_behind_176 : decode cX9_behind 176 = .ok (.istore 6, 2) := by decide +kernel
theorem dX9_behind_178 : decode cX9_behind 178 = .ok (.aload_n 0, 1) := by decide +kernel
theorem dX9_behind_179 : decode cX9_behind 179 = .ok (.getfield 80, 3) := by decide +kernel
theorem dX9_behind_182 : decode cX9_behind 182 = .ok (.iconst 3, 1) := by decide +kernel
theorem dX9_behind_183 : decode cX9_behind 183 = .ok (.iload 5, 2) := by decide +kernel
theorem dX9_behind_185 : decode cX9_behind 185 = .ok (.imul, 1) := by decide +kernel
theorem dX9_behind_186 : decode cX9_behind 186 = .ok (.iconst 1, 1) := by decide +kernel
theorem dX9_behind_187 : decode cX9_behind 187 = .ok (.iadd, 1) := by decide +kernel
theorem dX9_behind_188 : decode cX9_behind 188 = .ok (.iaload, 1) := by decide +kernel
theorem dX9_behind_189 : decode cX9_behind 189 = .ok (.istore 7, 2) := by decide +kernel
theorem dX9_behind_191 : decode cX9_behind 191 = .ok (.iload_n 3, 1) := by decide +kernel
theorem dX9_behind_192 : decode cX9_behind 192 = .ok (.ifCond .ne 22, 3) := by decide +kernel
theorem dX9_behind_195 : decode cX9_behind 195 = .ok (.iload 6, 2) := by decide +kernel
theorem dX9_behind_197 : decode cX9_behind 197 = .ok (.ifCond .ne 17, 3) := by decide +kernel
theorem dX9_behind_200 : decode cX9_behind 200 = .ok (.iload 4, 2) := by decide +kernel
theorem dX9_behind_202 : decode cX9_behind 202 = .ok (.iconst 1, 1) := by decide +kernel
theorem dX9_behind_203 : decode cX9_behind 203 = .ok (.iload 7, 2) := by decide +kernel
theorem dX9_behind_205 : decode cX9_behind 205 = .ok (.ishl, 1) := by decide +kernel
theorem dX9_behind_206 : decode cX9_behind 206 = .ok (.iconst (-1), 1) := by decide +kernel
theorem dX9_behind_207 : decode cX9_behind 207 = .ok (.ixor, 1) := by decide +kernel
theorem dX9_behind_208 : decode cX9_behind 208 = .ok (.iand, 1) := by decide +kernel
theorem dX9_behind_209 : decode cX9_behind 209 = .ok (.istore 4, 2) := by decide +kernel
theorem dX9_behind_211 : decode cX9_behind 211 = .ok (.goto 55, 3) := by decide +kernel
theorem dX9_behind_214 : decode cX9_behind 214 = .ok (.iload_n 3, 1) := by decide +kernel
theorem dX9_behind_215 : decode cX9_behind 215 = .ok (.ifCond .ne 31, 3) := by decide +kernel
theorem dX9_behind_218 : decode cX9_behind 218 = .ok (.iload 6, 2) := by decide +kernel
theorem dX9_behind_220 : decode cX9_behind 220 = .ok (.iconst 1, 1) := by decide +kernel
theorem dX9_behind_221 : decode cX9_behind 221 = .ok (.if_icmp .ne 25, 3) := by decide +kernel
theorem dX9_behind_224 : decode cX9_behind 224 = .ok (.aload_n 0, 1) := by decide +kernel
theorem dX9_behind_225 : decode cX9_behind 225 = .ok (.getfield 53, 3) := by decide +kernel
theorem dX9_behind_228 : decode cX9_behind 228 = .ok (.iload 7, 2) := by decide +kernel
theorem dX9_behind_230 : decode cX9_behind 230 = .ok (.aload_n 0, 1) := by decide +kernel
theorem dX9_behind_231 : decode cX9_behind 231 = .ok (.iconst 1, 1) := by decide +kernel
theorem dX9_behind_232 : decode cX9_behind 232 = .ok (.aload_n 0, 1) := by decide +kernel
theorem dX9_behind_233 : decode cX9_behind 233 = .ok (.getfield 74, 3) := by decide +kernel
theorem dX9_behind_236 : decode cX9_behind 236 = .ok (.iload 7, 2) := by decide +kernel
theorem dX9_behind_238 : decode cX9_behind 238 = .ok (.iaload, 1) := by decide +kernel
theorem dX9_behind_239 : decode cX9_behind 239 = .ok (.invokevirtual 169, 3) := by decide +kernel
theorem dX9_behind_242 : decode cX9_behind 242 = .ok (.iastore, 1) := by decide +kernel
theorem dX9_behind_243 : decode cX9_behind 243 = .ok (.goto 23, 3) := by decide +kernel
theorem dX9_behind_246 : decode cX9_behind 246 = .ok (.iload_n 3, 1) := by decide +kernel
theorem dX9_behind_247 : decode cX9_behind 247 = .ok (.iconst 1, 1) := by decide +kernel
theorem dX9_behind_248 : decode cX9_behind 248 = .ok (.if_icmp .ne 18, 3) := by decide +kernel
theorem dX9_behind_251 : decode cX9_behind 251 = .ok (.iload 6, 2) := by decide +kernel
theorem dX9_behind_253 : decode cX9_behind 253 = .ok (.iconst 2, 1) := by decide +kernel
theorem dX9_behind_254 : decode cX9_behind 254 = .ok (.if_icmp .ne 12, 3) := by decide +kernel
theorem dX9_behind_257 : decode cX9_behind 257 = .ok (.iload 4, 2) := by decide +kernel
theorem dX9_behind_259 : decode cX9_behind 259 = .ok (.iconst 1, 1) := by decide +kernel
theorem dX9_behind_260 : decode cX9_behind 260 = .ok (.iload 7, 2) := by decide +kernel
theorem dX9_behind_262 : decode cX9_behind 262 = .ok (.ishl, 1) := by decide +kernel
theorem dX9_behind_263 : decode cX9_behind 263 = .ok (.ior, 1) := by decide +kernel
theorem dX9_behind_264 : decode cX9_behind 264 = .ok (.istore 4, 2) := by decide +kernel
theorem dX9_behind_266 : decode cX9_behind 266 = .ok (.iinc 5 1, 3) := by decide +kernel
theorem dX9_behind_269 : decode cX9_behind 269 = .ok (.goto (-108), 3) := by decide +kernel
theorem dX9_behind_272 : decode cX9_behind 272 = .ok (.aload_n 0, 1) := by decide +kernel
theorem dX9_behind_273 : decode cX9_behind 273 = .ok (.iload_n 3, 1) := by decide +kernel
theorem dX9_behind_274 : decode cX9_behind 274 = .ok (.iload 4, 2) := by decide +kernel
theorem dX9_behind_276 : decode cX9_behind 276 = .ok (.invokevirtual 172, 3) := by decide +kernel
theorem dX9_behind_279 : decode cX9_behind 279 = .ok (.aload_n 0, 1) := by decide +kernel
theorem dX9_behind_280 : decode cX9_behind 280 = .ok (.iload_n 2, 1) := by decide +kernel
theorem dX9_behind_281 : decode cX9_behind 281 = .ok (.invokevirtual 175, 3) := by decide +kernel
theorem dX9_behind_284 : decode cX9_behind 284 = .ok (.ireturn, 1) := by decide +kernel
theorem dX9_keys_0 : decode cX9_keys 0 = .ok (.iconst 0, 1) := by decide +kernel
theorem dX9_keys_1 : decode cX9_keys 1 = .ok (.istore_n 3, 1) := by decide +kernel
theorem dX9_keys_2 : decode cX9_keys 2 = .ok (.iconst 0, 1) := by decide +kernel
theorem dX9_keys_3 : decode cX9_keys 3 = .ok (.istore 4, 2) := by decide +kernel
theorem dX9_keys_5 : decode cX9_keys 5 = .ok (.iload 4, 2) := by decide +kernel
theorem dX9_keys_7 : decode cX9_keys 7 = .ok (.aload_n 0, 1) := by decide +kernel
theorem dX9_keys_8 : decode cX9_keys 8 = .ok (.iload_n 1, 1) := by decide +kernel
theorem dX9_keys_9 : decode cX9_keys 9 = .ok (.invokevirtual 119, 3) := by decide +kernel
theorem dX9_keys_12 : decode cX9_keys 12 = .ok (.if_icmp .ge 28, 3) := by decide +kernel
theorem dX9_keys_15 : decode cX9_keys 15 = .ok (.iload_n 3, 1) := by decide +kernel
theorem dX9_keys_16 : decode cX9_keys 16 = .ok (.aload_n 0, 1) := by decide +kernel
theorem dX9_keys_17 : decode cX9_keys 17 = .ok (.iload_n 1, 1) := by decide +kernel
theorem dX9_keys_18 : decode cX9_keys 18 = .ok (.iload 4, 2) := by decide +kernel
theorem dX9_keys_20 : decode cX9_keys 20 = .ok (.iload_n 2, 1) := by decide +kernel
theorem dX9_keys_21 : decode cX9_keys 21 = .ok (.invokevirtual 190, 3) := by decide +kernel
theorem dX9_keys_24 : decode cX9_keys 24 = .ok (.ifCond .eq 7, 3) := by decide +kernel
theorem dX9_keys_27 : decode cX9_keys 27 = .ok (.iconst 1, 1) := by decide +kernel
theorem dX9_keys_28 : decode cX9_keys 28 = .ok (.goto 4, 3) := by decide +kernel
theorem dX9_keys_31 : decode cX9_keys 31 = .ok (.iconst 0, 1) := by decide +kernel
theorem dX9_keys_32 : decode cX9_keys 32 = .ok (.iadd, 1) := by decide +kernel
theorem dX9_keys_33 : decode cX9_keys 33 = .ok (.istore_n 3, 1) := by decide +kernel
theorem dX9_keys_34 : decode cX9_keys 34 = .ok (.iinc 4 1, 3) := by decide +kernel
theorem dX9_keys_37 : decode cX9_keys 37 = .ok (.goto (-32), 3) := by decide +kernel
theorem dX9_keys_40 : decode cX9_keys 40 = .ok (.iload_n 3, 1) := by decide +kernel
theorem dX9_keys_41 : decode cX9_keys 41 = .ok (.ireturn, 1) := by decide +kernel
theorem dX9_keySizes_0 : decode cX9_keySizes 0 = .ok (.iconst 0, 1) := by decide +kernel
theorem dX9_keySizes_1 : decode cX9_keySizes 1 = .ok (.istore_n 3, 1) := by decide +kernel
theorem dX9_keySizes_2 : decode cX9_keySizes 2 = .ok (.iconst 0, 1) := by decide +kernel
theorem dX9_keySizes_3 : decode cX9_keySizes 3 = .ok (.istore 4, 2) := by decide +kernel
theorem dX9_keySizes_5 : decode cX9_keySizes 5 = .ok (.iload 4, 2) := by decide +kernel
theorem dX9_keySizes_7 : decode cX9_keySizes 7 = .ok (.aload_n 0, 1) := by decide +kernel
theorem dX9_keySizes_8 : decode cX9_keySizes 8 = .ok (.iload_n 1, 1) := by decide +kernel
theorem dX9_keySizes_9 : decode cX9_keySizes 9 = .ok (.invokevirtual 119, 3) := by decide +kernel
theorem dX9_keySizes_12 : decode cX9_keySizes 12 = .ok (.if_icmp .ge 39, 3) := by decide +kernel
theorem dX9_keySizes_15 : decode cX9_keySizes 15 = .ok (.iload_n 3, 1) := by decide +kernel
theorem dX9_keySizes_16 : decode cX9_keySizes 16 = .ok (.aload_n 0, 1) := by decide +kernel
theorem dX9_keySizes_17 : decode cX9_keySizes 17 = .ok (.iload_n 1, 1) := by decide +kernel
theorem dX9_keySizes_18 : decode cX9_keySizes 18 = .ok (.iload 4, 2) := by decide +kernel
theorem dX9_keySizes_20 : decode cX9_keySizes 20 = .ok (.iload_n 2, 1) := by decide +kernel
theorem dX9_keySizes_21 : decode cX9_keySizes 21 = .ok (.invokevirtual 190, 3) := by decide +kernel
theorem dX9_keySizes_24 : decode cX9_keySizes 24 = .ok (.ifCond .eq 18, 3) := by decide +kernel
theorem dX9_keySizes_27 : decode cX9_keySizes 27 = .ok (.iload 4, 2) := by decide +kernel
theorem dX9_keySizes_29 : decode cX9_keySizes 29 = .ok (.aload_n 0, 1) := by decide +kernel
theorem dX9_keySizes_30 : decode cX9_keySizes 30 = .ok (.iload_n 1, 1) := by decide +kernel
theorem dX9_keySizes_31 : decode cX9_keySizes 31 = .ok (.iload 4, 2) := by decide +kernel
theorem dX9_keySizes_33 : decode cX9_keySizes 33 = .ok (.invokevirtual 154, 3) := by decide +kernel
theorem dX9_keySizes_36 : decode cX9_keySizes 36 = .ok (.isub, 1) := by decide +kernel
theorem dX9_keySizes_37 : decode cX9_keySizes 37 = .ok (.iconst 1, 1) := by decide +kernel
theorem dX9_keySizes_38 : decode cX9_keySizes 38 = .ok (.iadd, 1) := by decide +kernel
theorem dX9_keySizes_39 : decode cX9_keySizes 39 = .ok (.goto 4, 3) := by decide +kernel
theorem dX9_keySizes_42 : decode cX9_keySizes 42 = .ok (.iconst 0, 1) := by decide +kernel
theorem dX9_keySizes_43 : decode cX9_keySizes 43 = .ok (.iadd, 1) := by decide +kernel
theorem dX9_keySizes_44 : decode cX9_keySizes 44 = .ok (.istore_n 3, 1) := by decide +kernel
theorem dX9_keySizes_45 : decode cX9_keySizes 45 = .ok (.iinc 4 1, 3) := by decide +kernel
theorem dX9_keySizes_48 : decode cX9_keySizes 48 = .ok (.goto (-43), 3) := by decide +kernel
theorem dX9_keySizes_51 : decode cX9_keySizes 51 = .ok (.iload_n 3, 1) := by decide +kernel
theorem dX9_keySizes_52 : decode cX9_keySizes 52 = .ok (.ireturn, 1) := by decide +kernel
theorem dX9_work_0 : decode cX9_work 0 = .ok (.iload_n 1, 1) := by decide +kernel
theorem dX9_work_1 : decode cX9_work 1 = .ok (.iconst 0, 1) := by decide +kernel
theorem dX9_work_2 : decode cX9_work 2 = .ok (.iconst 1, 1) := by decide +kernel
theorem dX9_work_3 : decode cX9_work 3 = .ok (.invokestatic 90, 3) := by decide +kernel
theorem dX9_work_6 : decode cX9_work 6 = .ok (.ifCond .ne 5, 3) := by decide +kernel
theorem dX9_work_9 : decode cX9_work 9 = .ok (.iconst (-1), 1) := by decide +kernel
theorem dX9_work_10 : decode cX9_work 10 = .ok (.ireturn, 1) := by decide +kernel
theorem dX9_work_11 : decode cX9_work 11 = .ok (.aload_n 0, 1) := by decide +kernel
theorem dX9_work_12 : decode cX9_work 12 = .ok (.invokevirtual 224, 3) := by decide +kernel
theorem dX9_work_15 : decode cX9_work 15 = .ok (.ifCond .ne 6, 3) := by decide +kernel
theorem dX9_work_18 : decode cX9_work 18 = .ok (.bipush (-4), 2) := by decide +kernel
theorem dX9_work_20 : decode cX9_work 20 = .ok (.ireturn, 1) := by decide +kernel
theorem dX9_work_21 : decode cX9_work 21 = .ok (.aload_n 0, 1) := by decide +kernel
theorem dX9_work_22 : decode cX9_work 22 = .ok (.aload_n 0, 1) := by decide +kernel
theorem dX9_work_23 : decode cX9_work 23 = .ok (.iconst 0, 1) := by decide +kernel
theorem dX9_work_24 : decode cX9_work 24 = .ok (.iload_n 1, 1) := by decide +kernel
theorem dX9_work_25 : decode cX9_work 25 = .ok (.invokevirtual 250, 3) := by decide +kernel
theorem dX9_work_28 : decode cX9_work 28 = .ok (.aload_n 0, 1) := by decide +kernel
theorem dX9_work_29 : decode cX9_work 29 = .ok (.iconst 1, 1) := by decide +kernel
theorem dX9_work_30 : decode cX9_work 30 = .ok (.iload_n 1, 1) := by decide +kernel
theorem dX9_work_31 : decode cX9_work 31 = .ok (.invokevirtual 250, 3) := by decide +kernel
theorem dX9_work_34 : decode cX9_work 34 = .ok (.imul, 1) := by decide +kernel
theorem dX9_work_35 : decode cX9_work 35 = .ok (.aload_n 0, 1) := by decide +kernel
theorem dX9_work_36 : decode cX9_work 36 = .ok (.iconst 0, 1) := by decide +kernel
theorem dX9_work_37 : decode cX9_work 37 = .ok (.iload_n 1, 1) := by decide +kernel
theorem dX9_work_38 : decode cX9_work 38 = .ok (.invokevirtual 253, 3) := by decide +kernel
theorem dX9_work_41 : decode cX9_work 41 = .ok (.aload_n 0, 1) := by decide +kernel
theorem dX9_work_42 : decode cX9_work 42 = .ok (.iconst 1, 1) := by decide +kernel
theorem dX9_work_43 : decode cX9_work 43 = .ok (.iload_n 1, 1) := by decide +kernel
theorem dX9_work_44 : decode cX9_work 44 = .ok (.invokevirtual 253, 3) := by decide +kernel
theorem dX9_work_47 : decode cX9_work 47 = .ok (.imul, 1) := by decide +kernel
theorem dX9_work_48 : decode cX9_work 48 = .ok (.invokevirtual 110, 3) := by decide +kernel
theorem dX9_work_51 : decode cX9_work 51 = .ok (.ireturn, 1) := by decide +kernel
theorem dX9_nearest_0 : decode cX9_nearest 0 = .ok (.aload_n 0, 1) := by decide +kernel
theorem dX9_nearest_1 : decode cX9_nearest 1 = .ok (.iload_n 1, 1) := by decide +kernel
theorem dX9_nearest_2 : decode cX9_nearest 2 = .ok (.iload_n 2, 1) := by decide +kernel
theorem dX9_nearest_3 : decode cX9_nearest 3 = .ok (.invokevirtual 184, 3) := by decide +kernel
theorem dX9_nearest_6 : decode cX9_nearest 6 = .ok (.ifCond .ne 5, 3) := by decide +kernel
theorem dX9_nearest_9 : decode cX9_nearest 9 = .ok (.iconst (-1), 1) := by decide +kernel
theorem dX9_nearest_10 : decode cX9_nearest 10 = .ok (.ireturn, 1) := by decide +kernel
theorem dX9_nearest_11 : decode cX9_nearest 11 = .ok (.aload_n 0, 1) := by decide +kernel
theorem dX9_nearest_12 : decode cX9_nearest 12 = .ok (.invokevirtual 224, 3) := by decide +kernel
theorem dX9_nearest_15 : decode cX9_nearest 15 = .ok (.ifCond .ne 6, 3) := by decide +kernel
theorem dX9_nearest_18 : decode cX9_nearest 18 = .ok (.bipush (-4), 2) := by decide +kernel
theorem dX9_nearest_20 : decode cX9_nearest 20 = .ok (.ireturn, 1) := by decide +kernel
theorem dX9_nearest_21 : decode cX9_nearest 21 = .ok (.aload_n 0, 1) := by decide +kernel
theorem dX9_nearest_22 : decode cX9_nearest 22 = .ok (.invokevirtual 228, 3) := by decide +kernel
theorem dX9_nearest_25 : decode cX9_nearest 25 = .ok (.pop, 1) := by decide +kernel
theorem dX9_nearest_26 : decode cX9_nearest 26 = .ok (.bipush (-9), 2) := by decide +kernel
theorem dX9_nearest_28 : decode cX9_nearest 28 = .ok (.istore_n 3, 1) := by decide +kernel
theorem dX9_nearest_29 : decode cX9_nearest 29 = .ok (.ldc 231, 2) := by decide +kernel
theorem dX9_nearest_31 : decode cX9_nearest 31 = .ok (.istore 4, 2) := by decide +kernel
theorem dX9_nearest_33 : decode cX9_nearest 33 = .ok (.iconst 0, 1) := by decide +kernel
theorem dX9_nearest_34 : decode cX9_nearest 34 = .ok (.istore 5, 2) := by decide +kernel
theorem dX9_nearest_36 : decode cX9_nearest 36 = .ok (.iload 5, 2) := by decide +kernel
theorem dX9_nearest_38 : decode cX9_nearest 38 = .ok (.aload_n 0, 1) := by decide +kernel
theorem dX9_nearest_39 : decode cX9_nearest 39 = .ok (.iconst 1, 1) := by decide +kernel
theorem dX9_nearest_40 : decode cX9_nearest 40 = .ok (.iload_n 1, 1) := by decide +kernel
theorem dX9_nearest_41 : decode cX9_nearest 41 = .ok (.isub, 1) := by decide +kernel
theorem dX9_nearest_42 : decode cX9_nearest 42 = .ok (.invokevirtual 119, 3) := by decide +kernel
theorem dX9_nearest_45 : decode cX9_nearest 45 = .ok (.if_icmp .ge 65, 3) := by decide +kernel
theorem dX9_nearest_48 : decode cX9_nearest 48 = .ok (.iload_n 1, 1) := by decide +kernel
theorem dX9_nearest_49 : decode cX9_nearest 49 = .ok (.ifCond .ne 18, 3) := by decide +kernel
theorem dX9_nearest_52 : decode cX9_nearest 52 = .ok (.aload_n 0, 1) := by decide +kernel
theorem dX9_nearest_53 : decode cX9_nearest 53 = .ok (.getfield 68, 3) := by decide +kernel
theorem dX9_nearest_56 : decode cX9_nearest 56 = .ok (.bipush 12, 2) := by decide +kernel
theorem dX9_nearest_58 : decode cX9_nearest 58 = .ok (.iload_n 2, 1) := by decide +kernel
theorem dX9_nearest_59 : decode cX9_nearest 59 = .ok (.imul, 1) := by decide +kernel
theorem dX9_nearest_60 : decode cX9_nearest 60 = .ok (.iload 5, 2) := by decide +kernel
theorem dX9_nearest_62 : decode cX9_nearest 62 = .ok (.iadd, 1) := by decide +kernel
theorem dX9_nearest_63 : decode cX9_nearest 63 = .ok (.iaload, 1) := by decide +kernel
theorem dX9_nearest_64 : decode cX9_nearest 64 = .ok (.goto 15, 3) := by decide +kernel
theorem dX9_nearest_67 : decode cX9_nearest 67 = .ok (.aload_n 0, 1) := by decide +kernel
theorem dX9_nearest_68 : decode cX9_nearest 68 = .ok (.getfield 68, 3) := by decide +kernel
theorem dX9_nearest_71 : decode cX9_nearest 71 = .ok (.bipush 12, 2) := by decide +kernel
theorem dX9_nearest_73 : decode cX9_nearest 73 = .ok (.iload 5, 2) := by decide +kernel
theorem dX9_nearest_75 : decode cX9_nearest 75 = .ok (.imul, 1) := by decide +kernel
theorem dX9_nearest_76 : decode cX9_nearest 76 = .ok (.iload_n 2, 1) := by decide +kernel
theorem dX9_nearest_77 : decode cX9_nearest 77 = .ok (.iadd, 1) := by decide +kernel
theorem dX9_nearest_78 : decode cX9_nearest 78 = .ok (.iaload, 1) := by decide +kernel
theorem dX9_nearest_79 : decode cX9_nearest 79 = .ok (.istore 6, 2) := by decide +kernel
theorem dX9_nearest_81 : decode cX9_nearest 81 = .ok (.iload 6, 2) := by decide +kernel
theorem dX9_nearest_83 : decode cX9_nearest 83 = .ok (.iload 4, 2) := by decide +kernel
theorem dX9_nearest_85 : decode cX9_nearest 85 = .ok (.if_icmp .ge 8, 3) := by decide +kernel
theorem dX9_nearest_88 : decode cX9_nearest 88 = .ok (.iload 5, 2) := by decide +kernel
theorem dX9_nearest_90 : decode cX9_nearest 90 = .ok (.goto 4, 3) := by decide +kernel
theorem dX9_nearest_93 : decode cX9_nearest 93 = .ok (.iload_n 3, 1) := by decide +kernel
theorem dX9_nearest_94 : decode cX9_nearest 94 = .ok (.istore_n 3, 1) := by decide +kernel
theorem dX9_nearest_95 : decode cX9_nearest 95 = .ok (.iload 6, 2) := by decide +kernel
theorem dX9_nearest_97 : decode cX9_nearest 97 = .ok (.iload 4, 2) := by decide +kernel
theorem dX9_nearest_99 : decode cX9_nearest 99 = .ok (.invokestatic 211, 3) := by decide +kernel
theorem dX9_nearest_102 : decode cX9_nearest 102 = .ok (.istore 4, 2) := by decide +kernel
theorem dX9_nearest_104 : decode cX9_nearest 104 = .ok (.iinc 5 1, 3) := by decide +kernel
theorem dX9_nearest_107 : decode cX9_nearest 107 = .ok (.goto (-71), 3) := by decide +kernel
theorem dX9_nearest_110 : decode cX9_nearest 110 = .ok (.aload_n 0, 1) := by decide +kernel
theorem dX9_nearest_111 : decode cX9_nearest 111 = .ok (.iload 4, 2) := by decide +kernel
theorem dX9_nearest_113 : decode cX9_nearest 113 = .ok (.iload_n 3, 1) := by decide +kernel
theorem dX9_nearest_114 : decode cX9_nearest 114 = .ok (.invokevirtual 110, 3) := by decide +kernel
theorem dX9_nearest_117 : decode cX9_nearest 117 = .ok (.ireturn, 1) := by decide +kernel
theorem dX9_would_0 : decode cX9_would 0 = .ok (.aload_n 0, 1) := by decide +kernel
theorem dX9_would_1 : decode cX9_would 1 = .ok (.iload_n 1, 1) := by decide +kernel
theorem dX9_would_2 : decode cX9_would 2 = .ok (.iload_n 2, 1) := by decide +kernel
theorem dX9_would_3 : decode cX9_would 3 = .ok (.invokevirtual 184, 3) := by decide +kernel
theorem dX9_would_6 : decode cX9_would 6 = .ok (.ifCond .eq 10, 3) := by decide +kernel
theorem dX9_would_9 : decode cX9_would 9 = .ok (.iload_n 3, 1) := by decide +kernel
theorem dX9_would_10 : decode cX9_would 10 = .ok (.invokestatic 131, 3) := by decide +kernel
theorem dX9_would_13 : decode cX9_would 13 = .ok (.ifCond .ne 5, 3) := by decide +kernel
theorem dX9_would_16 : decode cX9_would 16 = .ok (.iconst (-1), 1) := by decide +kernel
theorem dX9_would_17 : decode cX9_would 17 = .ok (.ireturn, 1) := by decide +kernel
theorem dX9_would_18 : decode cX9_would 18 = .ok (.aload_n 0, 1) := by decide +kernel
theorem dX9_would_19 : decode cX9_would 19 = .ok (.invokevirtual 224, 3) := by decide +kernel
theorem dX9_would_22 : decode cX9_would 22 = .ok (.ifCond .ne 6, 3) := by decide +kernel
theorem dX9_would_25 : decode cX9_would 25 = .ok (.bipush (-4), 2) := by decide +kernel
theorem dX9_would_27 : decode cX9_would 27 = .ok (.ireturn, 1) := by decide +kernel
theorem dX9_would_28 : decode cX9_would 28 = .ok (.bipush 25, 2) := by decide +kernel
theorem dX9_would_30 : decode cX9_would 30 = .ok (.iload_n 1, 1) := by decide +kernel
theorem dX9_would_31 : decode cX9_would 31 = .ok (.imul, 1) := by decide +kernel
theorem dX9_would_32 : decode cX9_would 32 = .ok (.iconst 1, 1) := by decide +kernel
theorem dX9_would_33 : decode cX9_would 33 = .ok (.iadd, 1) := by decide +kernel
theorem dX9_would_34 : decode cX9_would 34 = .ok (.iload_n 2, 1) := by decide +kernel
theorem dX9_would_35 : decode cX9_would 35 = .ok (.iadd, 1) := by decide +kernel
theorem dX9_would_36 : decode cX9_would 36 = .ok (.istore 4, 2) := by decide +kernel
theorem dX9_would_38 : decode cX9_would 38 = .ok (.aload_n 0, 1) := by decide +kernel
theorem dX9_would_39 : decode cX9_would 39 = .ok (.getfield 22, 3) := by decide +kernel
theorem dX9_would_42 : decode cX9_would 42 = .ok (.iload 4, 2) := by decide +kernel
theorem dX9_would_44 : decode cX9_would 44 = .ok (.iaload, 1) := by decide +kernel
theorem dX9_would_45 : decode cX9_would 45 = .ok (.istore 5, 2) := by decide +kernel
theorem dX9_would_47 : decode cX9_would 47 = .ok (.aload_n 0, 1) := by decide +kernel
theorem dX9_would_48 : decode cX9_would 48 = .ok (.getfield 22, 3) := by decide +kernel
theorem dX9_would_51 : decode cX9_would 51 = .ok (.iload 4, 2) := by decide +kernel
theorem dX9_would_53 : decode cX9_would 53 = .ok (.iload_n 3, 1) := by decide +kernel
theorem dX9_would_54 : decode cX9_would 54 = .ok (.iastore, 1) := by decide +kernel
theorem dX9_would_55 : decode cX9_would 55 = .ok (.aload_n 0, 1) := by decide +kernel
theorem dX9_would_56 : decode cX9_would 56 = .ok (.invokevirtual 228, 3) := by decide +kernel
theorem dX9_would_59 : decode cX9_would 59 = .ok (.istore 6, 2) := by decide +kernel
theorem dX9_would_61 : decode cX9_would 61 = .ok (.aload_n 0, 1) := by decide +kernel
theorem dX9_would_62 : decode cX9_would 62 = .ok (.getfield 22, 3) := by decide +kernel
theorem dX9_would_65 : decode cX9_would 65 = .ok (.iload 4, 2) := by decide +kernel
theorem dX9_would_67 : decode cX9_would 67 = .ok (.iload 5, 2) := by decide +kernel
theorem dX9_would_69 : decode cX9_would 69 = .ok (.iastore, 1) := by decide +kernel
theorem dX9_would_70 : decode cX9_would 70 = .ok (.aload_n 0, 1) := by decide +kernel
theorem dX9_would_71 : decode cX9_would 71 = .ok (.iload 6, 2) := by decide +kernel
theorem dX9_would_73 : decode cX9_would 73 = .ok (.iconst 1, 1) := by decide +kernel
theorem dX9_would_74 : decode cX9_would 74 = .ok (.invokevirtual 110, 3) := by decide +kernel
theorem dX9_would_77 : decode cX9_would 77 = .ok (.ireturn, 1) := by decide +kernel
theorem dX9_notes_0 : decode cX9_notes 0 = .ok (.aload_n 0, 1) := by decide +kernel
theorem dX9_notes_1 : decode cX9_notes 1 = .ok (.getfield 22, 3) := by decide +kernel
theorem dX9_notes_4 : decode cX9_notes 4 = .ok (.iconst 0, 1) := by decide +kernel
theorem dX9_notes_5 : decode cX9_notes 5 = .ok (.aload_n 0, 1) := by decide +kernel
theorem dX9_notes_6 : decode cX9_notes 6 = .ok (.getfield 25, 3) := by decide +kernel
theorem dX9_notes_9 : decode cX9_notes 9 = .ok (.bipush 53, 2) := by decide +kernel
theorem dX9_notes_11 : decode cX9_notes 11 = .ok (.aload_n 0, 1) := by decide +kernel
theorem dX9_notes_12 : decode cX9_notes 12 = .ok (.getfield 144, 3) := by decide +kernel
theorem dX9_notes_15 : decode cX9_notes 15 = .ok (.imul, 1) := by decide +kernel
theorem dX9_notes_16 : decode cX9_notes 16 = .ok (.bipush 53, 2) := by decide +kernel
theorem dX9_notes_18 : decode cX9_notes 18 = .ok (.invokestatic 140, 3) := by decide +kernel
theorem dX9_notes_21 : decode cX9_notes 21 = .ok (.aload_n 0, 1) := by decide +kernel
theorem dX9_notes_22 : decode cX9_notes 22 = .ok (.dup, 1) := by decide +kernel
theorem dX9_notes_23 : decode cX9_notes 23 = .ok (.getfield 144, 3) := by decide +kernel
theorem dX9_notes_26 : decode cX9_notes 26 = .ok (.iconst 1, 1) := by decide +kernel
theorem dX9_notes_27 : decode cX9_notes 27 = .ok (.iadd, 1) := by decide +kernel
theorem dX9_notes_28 : decode cX9_notes 28 = .ok (.putfield 144, 3) := by decide +kernel
theorem dX9_notes_31 : decode cX9_notes 31 = .ok (.return_, 1) := by decide +kernel
theorem dX9_change_0 : decode cX9_change 0 = .ok (.aload_n 0, 1) := by decide +kernel
theorem dX9_change_1 : decode cX9_change 1 = .ok (.iload_n 1, 1) := by decide +kernel
theorem dX9_change_2 : decode cX9_change 2 = .ok (.iload_n 2, 1) := by decide +kernel
theorem dX9_change_3 : decode cX9_change 3 = .ok (.invokevirtual 184, 3) := by decide +kernel
theorem dX9_change_6 : decode cX9_change 6 = .ok (.ifCond .eq 10, 3) := by decide +kernel
theorem dX9_change_9 : decode cX9_change 9 = .ok (.iload_n 3, 1) := by decide +kernel
theorem dX9_change_10 : decode cX9_change 10 = .ok (.invokestatic 131, 3) := by decide +kernel
theorem dX9_change_13 : decode cX9_change 13 = .ok (.ifCond .ne 5, 3) := by decide +kernel
theorem dX9_change_16 : decode cX9_change 16 = .ok (.iconst (-1), 1) := by decide +kernel
theorem dX9_change_17 : decode cX9_change 17 = .ok (.ireturn, 1) := by decide +kernel
theorem dX9_change_18 : decode cX9_change 18 = .ok (.aload_n 0, 1) := by decide +kernel
theorem dX9_change_19 : decode cX9_change 19 = .ok (.iload_n 1, 1) := by decide +kernel
theorem dX9_change_20 : decode cX9_change 20 = .ok (.iload_n 2, 1) := by decide +kernel
theorem dX9_change_21 : decode cX9_change 21 = .ok (.invokevirtual 169, 3) := by decide +kernel
theorem dX9_change_24 : decode cX9_change 24 = .ok (.istore 4, 2) := by decide +kernel
theorem dX9_change_26 : decode cX9_change 26 = .ok (.iload 4, 2) := by decide +kernel
theorem dX9_change_28 : decode cX9_change 28 = .ok (.iload_n 3, 1) := by decide +kernel
theorem dX9_change_29 : decode cX9_change 29 = .ok (.if_icmp .ne 6, 3) := by decide +kernel
theorem dX9_change_32 : decode cX9_change 32 = .ok (.bipush (-4), 2) := by decide +kernel
theorem dX9_change_34 : decode cX9_change 34 = .ok (.ireturn, 1) := by decide +kernel
theorem dX9_change_35 : decode cX9_change 35 = .ok (.aload_n 0, 1) := by decide +kernel
theorem dX9_change_36 : decode cX9_change 36 = .ok (.getfield 144, 3) := by decide +kernel
theorem dX9_change_39 : decode cX9_change 39 = .ok (.bipush 40, 2) := by decide +kernel
theorem dX9_change_41 : decode cX9_change 41 = .ok (.if_icmp .ne 6, 3) := by decide +kernel
theorem dX9_change_44 : decode cX9_change 44 = .ok (.bipush (-2), 2) := by decide +kernel
theorem dX9_change_46 : decode cX9_change 46 = .ok (.ireturn, 1) := by decide +kernel
theorem dX9_change_47 : decode cX9_change 47 = .ok (.aload_n 0, 1) := by decide +kernel
theorem dX9_change_48 : decode cX9_change 48 = .ok (.invokevirtual 256, 3) := by decide +kernel
theorem dX9_change_51 : decode cX9_change 51 = .ok (.aload_n 0, 1) := by decide +kernel
theorem dX9_change_52 : decode cX9_change 52 = .ok (.getfield 22, 3) := by decide +kernel
theorem dX9_change_55 : decode cX9_change 55 = .ok (.bipush 25, 2) := by decide +kernel
theorem dX9_change_57 : decode cX9_change 57 = .ok (.iload_n 1, 1) := by decide +kernel
theorem dX9_change_58 : decode cX9_change 58 = .ok (.imul, 1) := by decide +kernel
theorem dX9_change_59 : decode cX9_change 59 = .ok (.iconst 1, 1) := by decide +kernel
theorem dX9_change_60 : decode cX9_change 60 = .ok (.iadd, 1) := by decide +kernel
theorem dX9_change_61 : decode cX9_change 61 = .ok (.iload_n 2, 1) := by decide +kernel
theorem dX9_change_62 : decode cX9_change 62 = .ok (.iadd, 1) := by decide +kernel
theorem dX9_change_63 : decode cX9_change 63 = .ok (.iload_n 3, 1) := by decide +kernel
theorem dX9_change_64 : decode cX9_change 64 = .ok (.iastore, 1) := by decide +kernel
theorem dX9_change_65 : decode cX9_change 65 = .ok (.iload 4, 2) := by decide +kernel
theorem dX9_change_67 : decode cX9_change 67 = .ok (.ireturn, 1) := by decide +kernel
theorem dX9_mayCut_0 : decode cX9_mayCut 0 = .ok (.iload_n 2, 1) := by decide +kernel
theorem dX9_mayCut_1 : decode cX9_mayCut 1 = .ok (.aload_n 0, 1) := by decide +kernel
theorem dX9_mayCut_2 : decode cX9_mayCut 2 = .ok (.iload_n 1, 1) := by decide +kernel
theorem dX9_mayCut_3 : decode cX9_mayCut 3 = .ok (.invokevirtual 119, 3) := by decide +kernel
theorem dX9_mayCut_6 : decode cX9_mayCut 6 = .ok (.iconst 1, 1) := by decide +kernel
theorem dX9_mayCut_7 : decode cX9_mayCut 7 = .ok (.isub, 1) := by decide +kernel
theorem dX9_mayCut_8 : decode cX9_mayCut 8 = .ok (.if_icmp .lt 13, 3) := by decide +kernel
theorem dX9_mayCut_11 : decode cX9_mayCut 11 = .ok (.aload_n 0, 1) := by decide +kernel
theorem dX9_mayCut_12 : decode cX9_mayCut 12 = .ok (.iload_n 1, 1) := by decide +kernel
theorem dX9_mayCut_13 : decode cX9_mayCut 13 = .ok (.iload_n 2, 1) := by decide +kernel
theorem dX9_mayCut_14 : decode cX9_mayCut 14 = .ok (.invokevirtual 187, 3) := by decide +kernel
theorem dX9_mayCut_17 : decode cX9_mayCut 17 = .ok (.iconst 1, 1) := by decide +kernel
theorem dX9_mayCut_18 : decode cX9_mayCut 18 = .ok (.if_icmp .ne 7, 3) := by decide +kernel
theorem dX9_mayCut_21 : decode cX9_mayCut 21 = .ok (.iconst 1, 1) := by decide +kernel
theorem dX9_mayCut_22 : decode cX9_mayCut 22 = .ok (.goto 4, 3) := by decide +kernel
theorem dX9_mayCut_25 : decode cX9_mayCut 25 = .ok (.iconst 0, 1) := by decide +kernel
theorem dX9_mayCut_26 : decode cX9_mayCut 26 = .ok (.ireturn, 1) := by decide +kernel
theorem dX9_cuts_0 : decode cX9_cuts 0 = .ok (.bipush 25, 2) := by decide +kernel
theorem dX9_cuts_2 : decode cX9_cuts 2 = .ok (.iload_n 1, 1) := by decide +kernel
theorem dX9_cuts_3 : decode cX9_cuts 3 = .ok (.imul, 1) := by decide +kernel
theorem dX9_cuts_4 : decode cX9_cuts 4 = .ok (.istore_n 3, 1) := by decide +kernel
theorem dX9_cuts_5 : decode cX9_cuts 5 = .ok (.aload_n 0, 1) := by decide +kernel
theorem dX9_cuts_6 : decode cX9_cuts 6 = .ok (.getfield 22, 3) := by decide +kernel
theorem dX9_cuts_9 : decode cX9_cuts 9 = .ok (.iload_n 3, 1) := by decide +kernel
theorem dX9_cuts_10 : decode cX9_cuts 10 = .ok (.dup2, 1) := by decide +kernel
theorem dX9_cuts_11 : decode cX9_cuts 11 = .ok (.iaload, 1) := by decide +kernel
theorem dX9_cuts_12 : decode cX9_cuts 12 = .ok (.iconst 1, 1) := by decide +kernel
theorem dX9_cuts_13 : decode cX9_cuts 13 = .ok (.isub, 1) := by decide +kernel
theorem dX9_cuts_14 : decode cX9_cuts 14 = .ok (.iastore, 1) := by decide +kernel
theorem dX9_cuts_15 : decode cX9_cuts 15 = .ok (.iconst 0, 1) := by decide +kernel
theorem dX9_cuts_16 : decode cX9_cuts 16 = .ok (.istore 4, 2) := by decide +kernel
theorem dX9_cuts_18 : decode cX9_cuts 18 = .ok (.iload 4, 2) := by decide +kernel
theorem dX9_cuts_20 : decode cX9_cuts 20 = .ok (.aload_n 0, 1) := by decide +kernel
theorem dX9_cuts_21 : decode cX9_cuts 21 = .ok (.getfield 22, 3) := by decide +kernel
theorem dX9_cuts_24 : decode cX9_cuts 24 = .ok (.iload_n 3, 1) := by decide +kernel
theorem dX9_cuts_25 : decode cX9_cuts 25 = .ok (.iaload, 1) := by decide +kernel
theorem dX9_cuts_26 : decode cX9_cuts 26 = .ok (.if_icmp .ge 89, 3) := by decide +kernel
theorem dX9_cuts_29 : decode cX9_cuts 29 = .ok (.iload 4, 2) := by decide +kernel
theorem dX9_cuts_31 : decode cX9_cuts 31 = .ok (.iload_n 2, 1) := by decide +kernel
theorem dX9_cuts_32 : decode cX9_cuts 32 = .ok (.if_icmp .ge 8, 3) := by decide +kernel
theorem dX9_cuts_35 : decode cX9_cuts 35 = .ok (.iload 4, 2) := by decide +kernel
theorem dX9_cuts_37 : decode cX9_cuts 37 = .ok (.goto 7, 3) := by decide +kernel
theorem dX9_cuts_40 : decode cX9_cuts 40 = .ok (.iload 4, 2) := by decide +kernel
theorem dX9_cuts_42 : decode cX9_cuts 42 = .ok (.iconst 1, 1) := by decide +kernel
theorem dX9_cuts_43 : decode cX9_cuts 43 = .ok (.iadd, 1) := by decide +kernel
theorem dX9_cuts_44 : decode cX9_cuts 44 = .ok (.istore 5, 2) := by decide +kernel
theorem dX9_cuts_46 : decode cX9_cuts 46 = .ok (.aload_n 0, 1) := by decide +kernel
theorem dX9_cuts_47 : decode cX9_cuts 47 = .ok (.getfield 22, 3) := by decide +kernel
theorem dX9_cuts_50 : decode cX9_cuts 50 = .ok (.iload_n 3, 1) := by decide +kernel
theorem dX9_cuts_51 : decode cX9_cuts 51 = .ok (.bipush 13, 2) := by decide +kernel
theorem dX9_cuts_53 : decode cX9_cuts 53 = .ok (.iadd, 1) := by decide +kernel
theorem dX9_cuts_54 : decode cX9_cuts 54 = .ok (.iload 5, 2) := by decide +kernel
theorem dX9_cuts_56 : decode cX9_cuts 56 = .ok (.iadd, 1) := by decide +kernel
theorem dX9_cuts_57 : decode cX9_cuts 57 = .ok (.iaload, 1) := by decide +kernel
theorem dX9_cuts_58 : decode cX9_cuts 58 = .ok (.istore 6, 2) := by decide +kernel
theorem dX9_cuts_60 : decode cX9_cuts 60 = .ok (.aload_n 0, 1) := by decide +kernel
theorem dX9_cuts_61 : decode cX9_cuts 61 = .ok (.getfield 22, 3) := by decide +kernel
theorem dX9_cuts_64 : decode cX9_cuts 64 = .ok (.iload_n 3, 1) := by decide +kernel
theorem dX9_cuts_65 : decode cX9_cuts 65 = .ok (.iconst 1, 1) := by decide +kernel
theorem dX9_cuts_66 : decode cX9_cuts 66 = .ok (.iadd, 1) := by decide +kernel
theorem dX9_cuts_67 : decode cX9_cuts 67 = .ok (.iload 4, 2) := by decide +kernel
theorem dX9_cuts_69 : decode cX9_cuts 69 = .ok (.iadd, 1) := by decide +kernel
theorem dX9_cuts_70 : decode cX9_cuts 70 = .ok (.aload_n 0, 1) := by decide +kernel
theorem dX9_cuts_71 : decode cX9_cuts 71 = .ok (.getfield 22, 3) := by decide +kernel
theorem dX9_cuts_74 : decode cX9_cuts 74 = .ok (.iload_n 3, 1) := by decide +kernel
theorem dX9_cuts_75 : decode cX9_cuts 75 = .ok (.iconst 1, 1) := by decide +kernel
theorem dX9_cuts_76 : decode cX9_cuts 76 = .ok (.iadd, 1) := by decide +kernel
theorem dX9_cuts_77 : decode cX9_cuts 77 = .ok (.iload 5, 2) := by decide +kernel
theorem dX9_cuts_79 : decode cX9_cuts 79 = .ok (.iadd, 1) := by decide +kernel
theorem dX9_cuts_80 : decode cX9_cuts 80 = .ok (.iaload, 1) := by decide +kernel
theorem dX9_cuts_81 : decode cX9_cuts 81 = .ok (.iastore, 1) := by decide +kernel
theorem dX9_cuts_82 : decode cX9_cuts 82 = .ok (.aload_n 0, 1) := by decide +kernel
theorem dX9_cuts_83 : decode cX9_cuts 83 = .ok (.getfield 22, 3) := by decide +kernel
theorem dX9_cuts_86 : decode cX9_cuts 86 = .ok (.iload_n 3, 1) := by decide +kernel
theorem dX9_cuts_87 : decode cX9_cuts 87 = .ok (.bipush 13, 2) := by decide +kernel
theorem dX9_cuts_89 : decode cX9_cuts 89 = .ok (.iadd, 1) := by decide +kernel
theorem dX9_cuts_90 : decode cX9_cuts 90 = .ok (.iload 4, 2) := by decide +kernel
theorem dX9_cuts_92 : decode cX9_cuts 92 = .ok (.iadd, 1) := by decide +kernel
theorem dX9_cuts_93 : decode cX9_cuts 93 = .ok (.iload 6, 2) := by decide +kernel
theorem dX9_cuts_95 : decode cX9_cuts 95 = .ok (.iload_n 2, 1) := by decide +kernel
theorem dX9_cuts_96 : decode cX9_cuts 96 = .ok (.if_icmp .le 10, 3) := by decide +kernel
theorem dX9_cuts_99 : decode cX9_cuts 99 = .ok (.iload 6, 2) := by decide +kernel
theorem dX9_cuts_101 : decode cX9_cuts 101 = .ok (.iconst 1, 1) := by decide +kernel
theorem dX9_cuts_102 : decode cX9_cuts 102 = .ok (.isub, 1) := by decide +kernel
theorem dX9_cuts_103 : decode cX9_cuts 103 = .ok (.goto 5, 3) := by decide +kernel
theorem dX9_cuts_106 : decode cX9_cuts 106 = .ok (.iload 6, 2) := by decide +kernel
theorem dX9_cuts_108 : decode cX9_cuts 108 = .ok (.iastore, 1) := by decide +kernel
theorem dX9_cuts_109 : decode cX9_cuts 109 = .ok (.iinc 4 1, 3) := by decide +kernel
theorem dX9_cuts_112 : decode cX9_cuts 112 = .ok (.goto (-94), 3) := by decide +kernel
theorem dX9_cuts_115 : decode cX9_cuts 115 = .ok (.return_, 1) := by decide +kernel
theorem dX9_cut_0 : decode cX9_cut 0 = .ok (.aload_n 0, 1) := by decide +kernel
theorem dX9_cut_1 : decode cX9_cut 1 = .ok (.iload_n 1, 1) := by decide +kernel
theorem dX9_cut_2 : decode cX9_cut 2 = .ok (.iload_n 2, 1) := by decide +kernel
theorem dX9_cut_3 : decode cX9_cut 3 = .ok (.invokevirtual 184, 3) := by decide +kernel
theorem dX9_cut_6 : decode cX9_cut 6 = .ok (.ifCond .ne 5, 3) := by decide +kernel
theorem dX9_cut_9 : decode cX9_cut 9 = .ok (.iconst (-1), 1) := by decide +kernel
theorem dX9_cut_10 : decode cX9_cut 10 = .ok (.ireturn, 1) := by decide +kernel
theorem dX9_cut_11 : decode cX9_cut 11 = .ok (.aload_n 0, 1) := by decide +kernel
theorem dX9_cut_12 : decode cX9_cut 12 = .ok (.iload_n 1, 1) := by decide +kernel
theorem dX9_cut_13 : decode cX9_cut 13 = .ok (.iload_n 2, 1) := by decide +kernel
theorem dX9_cut_14 : decode cX9_cut 14 = .ok (.invokevirtual 259, 3) := by decide +kernel
theorem dX9_cut_17 : decode cX9_cut 17 = .ok (.ifCond .ne 6, 3) := by decide +kernel
theorem dX9_cut_20 : decode cX9_cut 20 = .ok (.bipush (-4), 2) := by decide +kernel
theorem dX9_cut_22 : decode cX9_cut 22 = .ok (.ireturn, 1) := by decide +kernel
theorem dX9_cut_23 : decode cX9_cut 23 = .ok (.aload_n 0, 1) := by decide +kernel
theorem dX9_cut_24 : decode cX9_cut 24 = .ok (.getfield 144, 3) := by decide +kernel
theorem dX9_cut_27 : decode cX9_cut 27 = .ok (.bipush 40, 2) := by decide +kernel
theorem dX9_cut_29 : decode cX9_cut 29 = .ok (.if_icmp .ne 6, 3) := by decide +kernel
theorem dX9_cut_32 : decode cX9_cut 32 = .ok (.bipush (-2), 2) := by decide +kernel
theorem dX9_cut_34 : decode cX9_cut 34 = .ok (.ireturn, 1) := by decide +kernel
theorem dX9_cut_35 : decode cX9_cut 35 = .ok (.aload_n 0, 1) := by decide +kernel
theorem dX9_cut_36 : decode cX9_cut 36 = .ok (.invokevirtual 256, 3) := by decide +kernel
theorem dX9_cut_39 : decode cX9_cut 39 = .ok (.aload_n 0, 1) := by decide +kernel
theorem dX9_cut_40 : decode cX9_cut 40 = .ok (.iload_n 1, 1) := by decide +kernel
theorem dX9_cut_41 : decode cX9_cut 41 = .ok (.iload_n 2, 1) := by decide +kernel
theorem dX9_cut_42 : decode cX9_cut 42 = .ok (.invokevirtual 262, 3) := by decide +kernel
theorem dX9_cut_45 : decode cX9_cut 45 = .ok (.aload_n 0, 1) := by decide +kernel
theorem dX9_cut_46 : decode cX9_cut 46 = .ok (.iload_n 1, 1) := by decide +kernel
theorem dX9_cut_47 : decode cX9_cut 47 = .ok (.invokevirtual 119, 3) := by decide +kernel
theorem dX9_cut_50 : decode cX9_cut 50 = .ok (.ireturn, 1) := by decide +kernel
theorem dX9_childOf_0 : decode cX9_childOf 0 = .ok (.iconst (-1), 1) := by decide +kernel
theorem dX9_childOf_1 : decode cX9_childOf 1 = .ok (.istore 4, 2) := by decide +kernel
theorem dX9_childOf_3 : decode cX9_childOf 3 = .ok (.aload_n 0, 1) := by decide +kernel
theorem dX9_childOf_4 : decode cX9_childOf 4 = .ok (.iload_n 1, 1) := by decide +kernel
theorem dX9_childOf_5 : decode cX9_childOf 5 = .ok (.iload_n 2, 1) := by decide +kernel
theorem dX9_childOf_6 : decode cX9_childOf 6 = .ok (.invokevirtual 154, 3) := by decide +kernel
theorem dX9_childOf_9 : decode cX9_childOf 9 = .ok (.iconst 1, 1) := by decide +kernel
theorem dX9_childOf_10 : decode cX9_childOf 10 = .ok (.isub, 1) := by decide +kernel
theorem dX9_childOf_11 : decode cX9_childOf 11 = .ok (.istore 5, 2) := by decide +kernel
theorem dX9_childOf_13 : decode cX9_childOf 13 = .ok (.iload 4, 2) := by decide +kernel
theorem dX9_childOf_15 : decode cX9_childOf 15 = .ok (.iload_n 3, 1) := by decide +kernel
theorem dX9_childOf_16 : decode cX9_childOf 16 = .ok (.if_icmp .ge 30, 3) := by decide +kernel
theorem dX9_childOf_19 : decode cX9_childOf 19 = .ok (.iinc 5 1, 3) := by decide +kernel
theorem dX9_childOf_22 : decode cX9_childOf 22 = .ok (.iload 4, 2) := by decide +kernel
theorem dX9_childOf_24 : decode cX9_childOf 24 = .ok (.aload_n 0, 1) := by decide +kernel
theorem dX9_childOf_25 : decode cX9_childOf 25 = .ok (.iload_n 1, 1) := by decide +kernel
theorem dX9_childOf_26 : decode cX9_childOf 26 = .ok (.iload 5, 2) := by decide +kernel
theorem dX9_childOf_28 : decode cX9_childOf 28 = .ok (.invokevirtual 178, 3) := by decide +kernel
theorem dX9_childOf_31 : decode cX9_childOf 31 = .ok (.iload_n 2, 1) := by decide +kernel
theorem dX9_childOf_32 : decode cX9_childOf 32 = .ok (.if_icmp .ne 7, 3) := by decide +kernel
theorem dX9_childOf_35 : decode cX9_childOf 35 = .ok (.iconst 1, 1) := by decide +kernel
theorem dX9_childOf_36 : decode cX9_childOf 36 = .ok (.goto 4, 3) := by decide +kernel
theorem dX9_childOf_39 : decode cX9_childOf 39 = .ok (.iconst 0, 1) := by decide +kernel
theorem dX9_childOf_40 : decode cX9_childOf 40 = .ok (.iadd, 1) := by decide +kernel
theorem dX9_childOf_41 : decode cX9_childOf 41 = .ok (.istore 4, 2) := by decide +kernel
theorem dX9_childOf_43 : decode cX9_childOf 43 = .ok (.goto (-30), 3) := by decide +kernel
theorem dX9_childOf_46 : decode cX9_childOf 46 = .ok (.iload 5, 2) := by decide +kernel
theorem dX9_childOf_48 : decode cX9_childOf 48 = .ok (.ireturn, 1) := by decide +kernel
theorem dX9_isBeneath_0 : decode cX9_isBeneath 0 = .ok (.iload_n 2, 1) := by decide +kernel
theorem dX9_isBeneath_1 : decode cX9_isBeneath 1 = .ok (.aload_n 0, 1) := by decide +kernel
theorem dX9_isBeneath_2 : decode cX9_isBeneath 2 = .ok (.iload_n 1, 1) := by decide +kernel
theorem dX9_isBeneath_3 : decode cX9_isBeneath 3 = .ok (.iload_n 3, 1) := by decide +kernel
theorem dX9_isBeneath_4 : decode cX9_isBeneath 4 = .ok (.invokevirtual 154, 3) := by decide +kernel
theorem dX9_isBeneath_7 : decode cX9_isBeneath 7 = .ok (.if_icmp .lt 12, 3) := by decide +kernel
theorem dX9_isBeneath_10 : decode cX9_isBeneath 10 = .ok (.iload_n 2, 1) := by decide +kernel
theorem dX9_isBeneath_11 : decode cX9_isBeneath 11 = .ok (.iload_n 3, 1) := by decide +kernel
theorem dX9_isBeneath_12 : decode cX9_isBeneath 12 = .ok (.if_icmp .gt 7, 3) := by decide +kernel
theorem dX9_isBeneath_15 : decode cX9_isBeneath 15 = .ok (.iconst 1, 1) := by decide +kernel
theorem dX9_isBeneath_16 : decode cX9_isBeneath 16 = .ok (.goto 4, 3) := by decide +kernel
theorem dX9_isBeneath_19 : decode cX9_isBeneath 19 = .ok (.iconst 0, 1) := by decide +kernel
theorem dX9_isBeneath_20 : decode cX9_isBeneath 20 = .ok (.ireturn, 1) := by decide +kernel
theorem dX9_adds_0 : decode cX9_adds 0 = .ok (.bipush 25, 2) := by decide +kernel
theorem dX9_adds_2 : decode cX9_adds 2 = .ok (.iload_n 1, 1) := by decide +kernel
theorem dX9_adds_3 : decode cX9_adds 3 = .ok (.imul, 1) := by decide +kernel
theorem dX9_adds_4 : decode cX9_adds 4 = .ok (.istore 6, 2) := by decide +kernel
theorem dX9_adds_6 : decode cX9_adds 6 = .ok (.iload_n 3, 1) := by decide +kernel
theorem dX9_adds_7 : decode cX9_adds 7 = .ok (.aload_n 0, 1) := by decide +kernel
theorem dX9_adds_8 : decode cX9_adds 8 = .ok (.iload_n 1, 1) := by decide +kernel
theorem dX9_adds_9 : decode cX9_adds 9 = .ok (.iload_n 2, 1) := by decide +kernel
theorem dX9_adds_10 : decode cX9_adds 10 = .ok (.invokevirtual 187, 3) := by decide +kernel
theorem dX9_adds_13 : decode cX9_adds 13 = .ok (.if_icmp .ne 7, 3) := by decide +kernel
theorem dX9_adds_16 : decode cX9_adds 16 = .ok (.iconst 1, 1) := by decide +kernel
theorem dX9_adds_17 : decode cX9_adds 17 = .ok (.goto 4, 3) := by decide +kernel
theorem dX9_adds_20 : decode cX9_adds 20 = .ok (.iconst 0, 1) := by decide +kernel
theorem dX9_adds_21 : decode cX9_adds 21 = .ok (.istore 7, 2) := by decide +kernel
theorem dX9_adds_23 : decode cX9_adds 23 = .ok (.iload 7, 2) := by decide +kernel
theorem dX9_adds_25 : decode cX9_adds 25 = .ok (.ifCond .eq 7, 3) := by decide +kernel
theorem dX9_adds_28 : decode cX9_adds 28 = .ok (.iload_n 2, 1) := by decide +kernel
theorem dX9_adds_29 : decode cX9_adds 29 = .ok (.goto 15, 3) := by decide +kernel
theorem dX9_adds_32 : decode cX9_adds 32 = .ok (.aload_n 0, 1) := by decide +kernel
theorem dX9_adds_33 : decode cX9_adds 33 = .ok (.iload_n 1, 1) := by decide +kernel
theorem dX9_adds_34 : decode cX9_adds 34 = .ok (.aload_n 0, 1) := by decide +kernel
theorem dX9_adds_35 : decode cX9_adds 35 = .ok (.iload_n 1, 1) := by decide +kernel
theorem dX9_adds_36 : decode cX9_adds 36 = .ok (.iload_n 2, 1) := by decide +kernel
theorem dX9_adds_37 : decode cX9_adds 37 = .ok (.iload_n 3, 1) := by decide +kernel
theorem dX9_adds_38 : decode cX9_adds 38 = .ok (.invokevirtual 265, 3) := by decide +kernel
theorem dX9_adds_41 : decode cX9_adds 41 = .ok (.invokevirtual 154, 3) := by decide +kernel
theorem dX9_adds_44 : decode cX9_adds 44 = .ok (.istore 8, 2) := by decide +kernel
theorem dX9_adds_46 : decode cX9_adds 46 = .ok (.iload 4, 2) := by decide +kernel
theorem dX9_adds_48 : decode cX9_adds 48 = .ok (.ifCond .ne 8, 3) := by decide +kernel
theorem dX9_adds_51 : decode cX9_adds 51 = .ok (.iload 8, 2) := by decide +kernel
theorem dX9_adds_53 : decode cX9_adds 53 = .ok (.goto 17, 3) := by decide +kernel
theorem dX9_adds_56 : decode cX9_adds 56 = .ok (.aload_n 0, 1) := by decide +kernel
theorem dX9_adds_57 : decode cX9_adds 57 = .ok (.iload_n 1, 1) := by decide +kernel
theorem dX9_adds_58 : decode cX9_adds 58 = .ok (.iload_n 2, 1) := by decide +kernel
theorem dX9_adds_59 : decode cX9_adds 59 = .ok (.iload_n 3, 1) := by decide +kernel
theorem dX9_adds_60 : decode cX9_adds 60 = .ok (.iload 4, 2) := by decide +kernel
theorem dX9_adds_62 : decode cX9_adds 62 = .ok (.iadd, 1) := by decide +kernel
theorem dX9_adds_63 : decode cX9_adds 63 = .ok (.iconst 1, 1) := by decide +kernel
theorem dX9_adds_64 : decode cX9_adds 64 = .ok (.isub, 1) := by decide +kernel
theorem dX9_adds_65 : decode cX9_adds 65 = .ok (.invokevirtual 265, 3) := by decide +kernel
theorem dX9_adds_68 : decode cX9_adds 68 = .ok (.iconst 1, 1) := by decide +kernel
theorem dX9_adds_69 : decode cX9_adds 69 = .ok (.iadd, 1) := by decide +kernel
theorem dX9_adds_70 : decode cX9_adds 70 = .ok (.istore 9, 2) := by decide +kernel
theorem dX9_adds_72 : decode cX9_adds 72 = .ok (.aload_n 0, 1) := by decide +kernel
theorem dX9_adds_73 : decode cX9_adds 73 = .ok (.getfield 22, 3) := by decide +kernel
theorem dX9_adds_76 : decode cX9_adds 76 = .ok (.iload 6, 2) := by decide +kernel
theorem dX9_adds_78 : decode cX9_adds 78 = .ok (.iaload, 1) := by decide +kernel
theorem dX9_adds_79 : decode cX9_adds 79 = .ok (.iconst 1, 1) := by decide +kernel
theorem dX9_adds_80 : decode cX9_adds 80 = .ok (.isub, 1) := by decide +kernel
theorem dX9_adds_81 : decode cX9_adds 81 = .ok (.istore 10, 2) := by decide +kernel
theorem dX9_adds_83 : decode cX9_adds 83 = .ok (.iload 10, 2) := by decide +kernel
theorem dX9_adds_85 : decode cX9_adds 85 = .ok (.ifCond .lt 129, 3) := by decide +kernel
theorem dX9_adds_88 : decode cX9_adds 88 = .ok (.aload_n 0, 1) := by decide +kernel
theorem dX9_adds_89 : decode cX9_adds 89 = .ok (.getfield 22, 3) := by decide +kernel
theorem dX9_adds_92 : decode cX9_adds 92 = .ok (.iload 6, 2) := by decide +kernel
theorem dX9_adds_94 : decode cX9_adds 94 = .ok (.bipush 13, 2) := by decide +kernel
theorem dX9_adds_96 : decode cX9_adds 96 = .ok (.iadd, 1) := by decide +kernel
theorem dX9_adds_97 : decode cX9_adds 97 = .ok (.iload 10, 2) := by decide +kernel
theorem dX9_adds_99 : decode cX9_adds 99 = .ok (.iadd, 1) := by decide +kernel
theorem dX9_adds_100 : decode cX9_adds 100 = .ok (.iaload, 1) := by decide +kernel
theorem dX9_adds_101 : decode cX9_adds 101 = .ok (.istore 11, 2) := by decide +kernel
theorem dX9_adds_103 : decode cX9_adds 103 = .ok (.aload_n 0, 1) := by decide +kernel
theorem dX9_adds_104 : decode cX9_adds 104 = .ok (.iload_n 1, 1) := by decide +kernel
theorem dX9_adds_105 : decode cX9_adds 105 = .ok (.iload_n 2, 1) := by decide +kernel
theorem dX9_adds_106 : decode cX9_adds 106 = .ok (.iload 10, 2) := by decide +kernel
theorem dX9_adds_108 : decode cX9_adds 108 = .ok (.invokevirtual 268, 3) := by decide +kernel
theorem dX9_adds_111 : decode cX9_adds 111 = .ok (.istore 12, 2) := by decide +kernel
theorem dX9_adds_113 : decode cX9_adds 113 = .ok (.iload 10, 2) := by decide +kernel
theorem dX9_adds_115 : decode cX9_adds 115 = .ok (.iload 9, 2) := by decide +kernel
theorem dX9_adds_117 : decode cX9_adds 117 = .ok (.if_icmp .ge 8, 3) := by decide +kernel
theorem dX9_adds_120 : decode cX9_adds 120 = .ok (.iload 10, 2) := by decide +kernel
theorem dX9_adds_122 : decode cX9_adds 122 = .ok (.goto 7, 3) := by decide +kernel
theorem dX9_adds_125 : decode cX9_adds 125 = .ok (.iload 10, 2) := by decide +kernel
theorem dX9_adds_127 : decode cX9_adds 127 = .ok (.iconst 1, 1) := by decide +kernel
theorem dX9_adds_128 : decode cX9_adds 128 = .ok (.iadd, 1) := by decide +kernel
theorem dX9_adds_129 : decode cX9_adds 129 = .ok (.istore 13, 2) := by decide +kernel
theorem dX9_adds_131 : decode cX9_adds 131 = .ok (.iload 11, 2) := by decide +kernel
theorem dX9_adds_133 : decode cX9_adds 133 = .ok (.iload 9, 2) := by decide +kernel
theorem dX9_adds_135 : decode cX9_adds 135 = .ok (.if_icmp .lt 15, 3) := by decide +kernel
theorem dX9_adds_138 : decode cX9_adds 138 = .ok (.iload 12, 2) := by decide +kernel
theorem dX9_adds_140 : decode cX9_adds 140 = .ok (.ifCond .eq 14, 3) := by decide +kernel
theorem dX9_adds_143 : decode cX9_adds 143 = .ok (.iload 11, 2) := by decide +kernel
theorem dX9_adds_145 : decode cX9_adds 145 = .ok (.iload 8, 2) := by decide +kernel
theorem dX9_adds_147 : decode cX9_adds 147 = .ok (.if_icmp .ne 7, 3) := by decide +kernel
theorem dX9_adds_150 : decode cX9_adds 150 = .ok (.iconst 1, 1) := by decide +kernel
theorem dX9_adds_151 : decode cX9_adds 151 = .ok (.goto 4, 3) := by decide +kernel
theorem dX9_adds_154 : decode cX9_adds 154 = .ok (.iconst 0, 1) := by decide +kernel
theorem dX9_adds_155 : decode cX9_adds 155 = .ok (.istore 14, 2) := by decide +kernel
theorem dX9_adds_157 : decode cX9_adds 157 = .ok (.aload_n 0, 1) := by decide +kernel
theorem dX9_adds_158 : decode cX9_adds 158 = .ok (.getfield 22, 3) := by decide +kernel
theorem dX9_adds_161 : decode cX9_adds 161 = .ok (.iload 6, 2) := by decide +kernel
theorem dX9_adds_163 : decode cX9_adds 163 = .ok (.iconst 1, 1) := by decide +kernel
theorem dX9_adds_164 : decode cX9_adds 164 = .ok (.iadd, 1) := by decide +kernel
theorem dX9_adds_165 : decode cX9_adds 165 = .ok (.iload 13, 2) := by decide +kernel
theorem dX9_adds_167 : decode cX9_adds 167 = .ok (.iadd, 1) := by decide +kernel
theorem dX9_adds_168 : decode cX9_adds 168 = .ok (.aload_n 0, 1) := by decide +kernel
theorem dX9_adds_169 : decode cX9_adds 169 = .ok (.getfield 22, 3) := by decide +kernel
theorem dX9_adds_172 : decode cX9_adds 172 = .ok (.iload 6, 2) := by decide +kernel
theorem dX9_adds_174 : decode cX9_adds 174 = .ok (.iconst 1, 1) := by decide +kernel
theorem dX9_adds_175 : decode cX9_adds 175 = .ok (.iadd, 1) := by decide +kernel
theorem dX9_adds_176 : decode cX9_adds 176 = .ok (.iload 10, 2) := by decide +kernel
theorem dX9_adds_178 : decode cX9_adds 178 = .ok (.iadd, 1) := by decide +kernel
theorem dX9_adds_179 : decode cX9_adds 179 = .ok (.iaload, 1) := by decide +kernel
theorem dX9_adds_180 : decode cX9_adds 180 = .ok (.iastore, 1) := by decide +kernel
theorem dX9_adds_181 : decode cX9_adds 181 = .ok (.aload_n 0, 1) := by decide +kernel
theorem dX9_adds_182 : decode cX9_adds 182 = .ok (.getfield 22, 3) := by decide +kernel
theorem dX9_adds_185 : decode cX9_adds 185 = .ok (.iload 6, 2) := by decide +kernel
theorem dX9_adds_187 : decode cX9_adds 187 = .ok (.bipush 13, 2) := by decide +kernel
theorem dX9_adds_189 : decode cX9_adds 189 = .ok (.iadd, 1) := by decide +kernel
theorem dX9_adds_190 : decode cX9_adds 190 = .ok (.iload 13, 2) := by decide +kernel
theorem dX9_adds_192 : decode cX9_adds 192 = .ok (.iadd, 1) := by decide +kernel
theorem dX9_adds_193 : decode cX9_adds 193 = .ok (.iload 14, 2) := by decide +kernel
theorem dX9_adds_195 : decode cX9_adds 195 = .ok (.ifCond .eq 8, 3) := by decide +kernel
theorem dX9_adds_198 : decode cX9_adds 198 = .ok (.iload 11, 2) := by decide +kernel
theorem dX9_adds_200 : decode cX9_adds 200 = .ok (.goto 7, 3) := by decide +kernel
theorem dX9_adds_203 : decode cX9_adds 203 = .ok (.iload 11, 2) := by decide +kernel
theorem dX9_adds_205 : decode cX9_adds 205 = .ok (.iconst 1, 1) := by decide +kernel
theorem dX9_adds_206 : decode cX9_adds 206 = .ok (.iadd, 1) := by decide +kernel
theorem dX9_adds_207 : decode cX9_adds 207 = .ok (.iastore, 1) := by decide +kernel
theorem dX9_adds_208 : decode cX9_adds 208 = .ok (.iinc 10 (-1), 3) := by decide +kernel
theorem dX9_adds_211 : decode cX9_adds 211 = .ok (.goto (-128), 3) := by decide +kernel
theorem dX9_adds_214 : decode cX9_adds 214 = .ok (.aload_n 0, 1) := by decide +kernel
theorem dX9_adds_215 : decode cX9_adds 215 = .ok (.getfield 22, 3) := by decide +kernel
theorem dX9_adds_218 : decode cX9_adds 218 = .ok (.iload 6, 2) := by decide +kernel
theorem dX9_adds_220 : decode cX9_adds 220 = .ok (.dup2, 1) := by decide +kernel
theorem dX9_adds_221 : decode cX9_adds 221 = .ok (.iaload, 1) := by decide +kernel
theorem dX9_adds_222 : decode cX9_adds 222 = .ok (.iconst 1, 1) := by decide +kernel
theorem dX9_adds_223 : decode cX9_adds 223 = .ok (.iadd, 1) := by decide +kernel
theorem dX9_adds_224 : decode cX9_adds 224 = .ok (.iastore, 1) := by decide +kernel
theorem dX9_adds_225 : decode cX9_adds 225 = .ok (.aload_n 0, 1) := by decide +kernel
theorem dX9_adds_226 : decode cX9_adds 226 = .ok (.getfield 22, 3) := by decide +kernel
theorem dX9_adds_229 : decode cX9_adds 229 = .ok (.iload 6, 2) := by decide +kernel
theorem dX9_adds_231 : decode cX9_adds 231 = .ok (.iconst 1, 1) := by decide +kernel
theorem dX9_adds_232 : decode cX9_adds 232 = .ok (.iadd, 1) := by decide +kernel
theorem dX9_adds_233 : decode cX9_adds 233 = .ok (.iload 9, 2) := by decide +kernel
theorem dX9_adds_235 : decode cX9_adds 235 = .ok (.iadd, 1) := by decide +kernel
theorem dX9_adds_236 : decode cX9_adds 236 = .ok (.iload 5, 2) := by decide +kernel
theorem dX9_adds_238 : decode cX9_adds 238 = .ok (.iastore, 1) := by decide +kernel
theorem dX9_adds_239 : decode cX9_adds 239 = .ok (.aload_n 0, 1) := by decide +kernel
theorem dX9_adds_240 : decode cX9_adds 240 = .ok (.getfield 22, 3) := by decide +kernel
theorem dX9_adds_243 : decode cX9_adds 243 = .ok (.iload 6, 2) := by decide +kernel
theorem dX9_adds_245 : decode cX9_adds 245 = .ok (.bipush 13, 2) := by decide +kernel
theorem dX9_adds_247 : decode cX9_adds 247 = .ok (.iadd, 1) := by decide +kernel
theorem dX9_adds_248 : decode cX9_adds 248 = .ok (.iload 9, 2) := by decide +kernel
theorem dX9_adds_250 : decode cX9_adds 250 = .ok (.iadd, 1) := by decide +kernel
theorem dX9_adds_251 : decode cX9_adds 251 = .ok (.iload 4, 2) := by decide +kernel
theorem dX9_adds_253 : decode cX9_adds 253 = .ok (.ifCond .ne 8, 3) := by decide +kernel
theorem dX9_adds_256 : decode cX9_adds 256 = .ok (.iload 9, 2) := by decide +kernel
theorem dX9_adds_258 : decode cX9_adds 258 = .ok (.goto 5, 3) := by decide +kernel
theorem dX9_adds_261 : decode cX9_adds 261 = .ok (.iload 8, 2) := by decide +kernel
theorem dX9_adds_263 : decode cX9_adds 263 = .ok (.iastore, 1) := by decide +kernel
theorem dX9_adds_264 : decode cX9_adds 264 = .ok (.iload 9, 2) := by decide +kernel
theorem dX9_adds_266 : decode cX9_adds 266 = .ok (.ireturn, 1) := by decide +kernel
theorem dX9_add_0 : decode cX9_add 0 = .ok (.aload_n 0, 1) := by decide +kernel
theorem dX9_add_1 : decode cX9_add 1 = .ok (.iload_n 1, 1) := by decide +kernel
theorem dX9_add_2 : decode cX9_add 2 = .ok (.iload_n 2, 1) := by decide +kernel
theorem dX9_add_3 : decode cX9_add 3 = .ok (.invokevirtual 184, 3) := by decide +kernel
theorem dX9_add_6 : decode cX9_add 6 = .ok (.ifCond .eq 20, 3) := by decide +kernel
theorem dX9_add_9 : decode cX9_add 9 = .ok (.iload 5, 2) := by decide +kernel
theorem dX9_add_11 : decode cX9_add 11 = .ok (.invokestatic 131, 3) := by decide +kernel
theorem dX9_add_14 : decode cX9_add 14 = .ok (.ifCond .eq 12, 3) := by decide +kernel
theorem dX9_add_17 : decode cX9_add 17 = .ok (.iload_n 3, 1) := by decide +kernel
