theorem dX9_laysForest_77 : decode cX9_laysForest 77 = .ok (.istore 6, 2) := by decide +kernel
theorem dX9_laysForest_79 : decode cX9_laysForest 79 = .ok (.iload 6, 2) := by decide +kernel
theorem dX9_laysForest_81 : decode cX9_laysForest 81 = .ok (.iload_n 2, 1) := by decide +kernel
theorem dX9_laysForest_82 : decode cX9_laysForest 82 = .ok (.if_icmp .gt 39, 3) := by decide +kernel
theorem dX9_laysForest_85 : decode cX9_laysForest 85 = .ok (.aload_n 0, 1) := by decide +kernel
theorem dX9_laysForest_86 : decode cX9_laysForest 86 = .ok (.getfield 71, 3) := by decide +kernel
theorem dX9_laysForest_89 : decode cX9_laysForest 89 = .ok (.iload 6, 2) := by decide +kernel
theorem dX9_laysForest_91 : decode cX9_laysForest 91 = .ok (.iload 4, 2) := by decide +kernel
theorem dX9_laysForest_93 : decode cX9_laysForest 93 = .ok (.isub, 1) := by decide +kernel
theorem dX9_laysForest_94 : decode cX9_laysForest 94 = .ok (.iconst 1, 1) := by decide +kernel
theorem dX9_laysForest_95 : decode cX9_laysForest 95 = .ok (.iadd, 1) := by decide +kernel
theorem dX9_laysForest_96 : decode cX9_laysForest 96 = .ok (.aload_n 0, 1) := by decide +kernel
theorem dX9_laysForest_97 : decode cX9_laysForest 97 = .ok (.getfield 71, 3) := by decide +kernel
theorem dX9_laysForest_100 : decode cX9_laysForest 100 = .ok (.iload 6, 2) := by decide +kernel
theorem dX9_laysForest_102 : decode cX9_laysForest 102 = .ok (.iload 4, 2) := by decide +kernel
theorem dX9_laysForest_104 : decode cX9_laysForest 104 = .ok (.isub, 1) := by decide +kernel
theorem dX9_laysForest_105 : decode cX9_laysForest 105 = .ok (.iaload, 1) := by decide +kernel
theorem dX9_laysForest_106 : decode cX9_laysForest 106 = .ok (.aload_n 0, 1) := by decide +kernel
theorem dX9_laysForest_107 : decode cX9_laysForest 107 = .ok (.getfield 62, 3) := by decide +kernel
theorem dX9_laysForest_110 : decode cX9_laysForest 110 = .ok (.iload 6, 2) := by decide +kernel
theorem dX9_laysForest_112 : decode cX9_laysForest 112 = .ok (.iaload, 1) := by decide +kernel
theorem dX9_laysForest_113 : decode cX9_laysForest 113 = .ok (.iadd, 1) := by decide +kernel
theorem dX9_laysForest_114 : decode cX9_laysForest 114 = .ok (.iastore, 1) := by decide +kernel
theorem dX9_laysForest_115 : decode cX9_laysForest 115 = .ok (.iinc 6 1, 3) := by decide +kernel
theorem dX9_laysForest_118 : decode cX9_laysForest 118 = .ok (.goto (-39), 3) := by decide +kernel
theorem dX9_laysForest_121 : decode cX9_laysForest 121 = .ok (.iload_n 3, 1) := by decide +kernel
theorem dX9_laysForest_122 : decode cX9_laysForest 122 = .ok (.istore 6, 2) := by decide +kernel
theorem dX9_laysForest_124 : decode cX9_laysForest 124 = .ok (.iload 6, 2) := by decide +kernel
theorem dX9_laysForest_126 : decode cX9_laysForest 126 = .ok (.iload_n 1, 1) := by decide +kernel
theorem dX9_laysForest_127 : decode cX9_laysForest 127 = .ok (.if_icmp .gt 257, 3) := by decide +kernel
theorem dX9_laysForest_130 : decode cX9_laysForest 130 = .ok (.iload 4, 2) := by decide +kernel
theorem dX9_laysForest_132 : decode cX9_laysForest 132 = .ok (.istore 7, 2) := by decide +kernel
theorem dX9_laysForest_134 : decode cX9_laysForest 134 = .ok (.iload 7, 2) := by decide +kernel
theorem dX9_laysForest_136 : decode cX9_laysForest 136 = .ok (.iload_n 2, 1) := by decide +kernel
theorem dX9_laysForest_137 : decode cX9_laysForest 137 = .ok (.if_icmp .gt 241, 3) := by decide +kernel
theorem dX9_laysForest_140 : decode cX9_laysForest 140 = .ok (.aload_n 0, 1) := by decide +kernel
theorem dX9_laysForest_141 : decode cX9_laysForest 141 = .ok (.getfield 71, 3) := by decide +kernel
theorem dX9_laysForest_144 : decode cX9_laysForest 144 = .ok (.iload 5, 2) := by decide +kernel
theorem dX9_laysForest_146 : decode cX9_laysForest 146 = .ok (.iload 6, 2) := by decide +kernel
theorem dX9_laysForest_148 : decode cX9_laysForest 148 = .ok (.iload_n 3, 1) := by decide +kernel
theorem dX9_laysForest_149 : decode cX9_laysForest 149 = .ok (.isub, 1) := by decide +kernel
theorem dX9_laysForest_150 : decode cX9_laysForest 150 = .ok (.imul, 1) := by decide +kernel
theorem dX9_laysForest_151 : decode cX9_laysForest 151 = .ok (.iload 7, 2) := by decide +kernel
theorem dX9_laysForest_153 : decode cX9_laysForest 153 = .ok (.iadd, 1) := by decide +kernel
theorem dX9_laysForest_154 : decode cX9_laysForest 154 = .ok (.iload 4, 2) := by decide +kernel
theorem dX9_laysForest_156 : decode cX9_laysForest 156 = .ok (.isub, 1) := by decide +kernel
theorem dX9_laysForest_157 : decode cX9_laysForest 157 = .ok (.iconst 1, 1) := by decide +kernel
theorem dX9_laysForest_158 : decode cX9_laysForest 158 = .ok (.iadd, 1) := by decide +kernel
theorem dX9_laysForest_159 : decode cX9_laysForest 159 = .ok (.iaload, 1) := by decide +kernel
theorem dX9_laysForest_160 : decode cX9_laysForest 160 = .ok (.aload_n 0, 1) := by decide +kernel
theorem dX9_laysForest_161 : decode cX9_laysForest 161 = .ok (.getfield 59, 3) := by decide +kernel
theorem dX9_laysForest_164 : decode cX9_laysForest 164 = .ok (.iload 6, 2) := by decide +kernel
theorem dX9_laysForest_166 : decode cX9_laysForest 166 = .ok (.iaload, 1) := by decide +kernel
theorem dX9_laysForest_167 : decode cX9_laysForest 167 = .ok (.iadd, 1) := by decide +kernel
theorem dX9_laysForest_168 : decode cX9_laysForest 168 = .ok (.istore 8, 2) := by decide +kernel
theorem dX9_laysForest_170 : decode cX9_laysForest 170 = .ok (.aload_n 0, 1) := by decide +kernel
theorem dX9_laysForest_171 : decode cX9_laysForest 171 = .ok (.getfield 71, 3) := by decide +kernel
theorem dX9_laysForest_174 : decode cX9_laysForest 174 = .ok (.iload 5, 2) := by decide +kernel
theorem dX9_laysForest_176 : decode cX9_laysForest 176 = .ok (.iload 6, 2) := by decide +kernel
theorem dX9_laysForest_178 : decode cX9_laysForest 178 = .ok (.iload_n 3, 1) := by decide +kernel
theorem dX9_laysForest_179 : decode cX9_laysForest 179 = .ok (.isub, 1) := by decide +kernel
theorem dX9_laysForest_180 : decode cX9_laysForest 180 = .ok (.iconst 1, 1) := by decide +kernel
theorem dX9_laysForest_181 : decode cX9_laysForest 181 = .ok (.iadd, 1) := by decide +kernel
theorem dX9_laysForest_182 : decode cX9_laysForest 182 = .ok (.imul, 1) := by decide +kernel
theorem dX9_laysForest_183 : decode cX9_laysForest 183 = .ok (.iload 7, 2) := by decide +kernel
theorem dX9_laysForest_185 : decode cX9_laysForest 185 = .ok (.iadd, 1) := by decide +kernel
theorem dX9_laysForest_186 : decode cX9_laysForest 186 = .ok (.iload 4, 2) := by decide +kernel
theorem dX9_laysForest_188 : decode cX9_laysForest 188 = .ok (.isub, 1) := by decide +kernel
theorem dX9_laysForest_189 : decode cX9_laysForest 189 = .ok (.iaload, 1) := by decide +kernel
theorem dX9_laysForest_190 : decode cX9_laysForest 190 = .ok (.aload_n 0, 1) := by decide +kernel
theorem dX9_laysForest_191 : decode cX9_laysForest 191 = .ok (.getfield 62, 3) := by decide +kernel
theorem dX9_laysForest_194 : decode cX9_laysForest 194 = .ok (.iload 7, 2) := by decide +kernel
theorem dX9_laysForest_196 : decode cX9_laysForest 196 = .ok (.iaload, 1) := by decide +kernel
theorem dX9_laysForest_197 : decode cX9_laysForest 197 = .ok (.iadd, 1) := by decide +kernel
theorem dX9_laysForest_198 : decode cX9_laysForest 198 = .ok (.istore 9, 2) := by decide +kernel
theorem dX9_laysForest_200 : decode cX9_laysForest 200 = .ok (.aload_n 0, 1) := by decide +kernel
theorem dX9_laysForest_201 : decode cX9_laysForest 201 = .ok (.iconst 0, 1) := by decide +kernel
theorem dX9_laysForest_202 : decode cX9_laysForest 202 = .ok (.iload 6, 2) := by decide +kernel
theorem dX9_laysForest_204 : decode cX9_laysForest 204 = .ok (.invokevirtual 154, 3) := by decide +kernel
theorem dX9_laysForest_207 : decode cX9_laysForest 207 = .ok (.iload_n 3, 1) := by decide +kernel
theorem dX9_laysForest_208 : decode cX9_laysForest 208 = .ok (.if_icmp .ne 19, 3) := by decide +kernel
theorem dX9_laysForest_211 : decode cX9_laysForest 211 = .ok (.aload_n 0, 1) := by decide +kernel
theorem dX9_laysForest_212 : decode cX9_laysForest 212 = .ok (.iconst 1, 1) := by decide +kernel
theorem dX9_laysForest_213 : decode cX9_laysForest 213 = .ok (.iload 7, 2) := by decide +kernel
theorem dX9_laysForest_215 : decode cX9_laysForest 215 = .ok (.invokevirtual 154, 3) := by decide +kernel
theorem dX9_laysForest_218 : decode cX9_laysForest 218 = .ok (.iload 4, 2) := by decide +kernel
theorem dX9_laysForest_220 : decode cX9_laysForest 220 = .ok (.if_icmp .ne 7, 3) := by decide +kernel
theorem dX9_laysForest_223 : decode cX9_laysForest 223 = .ok (.iconst 1, 1) := by decide +kernel
theorem dX9_laysForest_224 : decode cX9_laysForest 224 = .ok (.goto 4, 3) := by decide +kernel
theorem dX9_laysForest_227 : decode cX9_laysForest 227 = .ok (.iconst 0, 1) := by decide +kernel
theorem dX9_laysForest_228 : decode cX9_laysForest 228 = .ok (.istore 10, 2) := by decide +kernel
theorem dX9_laysForest_230 : decode cX9_laysForest 230 = .ok (.iload 10, 2) := by decide +kernel
theorem dX9_laysForest_232 : decode cX9_laysForest 232 = .ok (.ifCond .eq 38, 3) := by decide +kernel
theorem dX9_laysForest_235 : decode cX9_laysForest 235 = .ok (.aload_n 0, 1) := by decide +kernel
theorem dX9_laysForest_236 : decode cX9_laysForest 236 = .ok (.getfield 71, 3) := by decide +kernel
theorem dX9_laysForest_239 : decode cX9_laysForest 239 = .ok (.iload 5, 2) := by decide +kernel
theorem dX9_laysForest_241 : decode cX9_laysForest 241 = .ok (.iload 6, 2) := by decide +kernel
theorem dX9_laysForest_243 : decode cX9_laysForest 243 = .ok (.iload_n 3, 1) := by decide +kernel
theorem dX9_laysForest_244 : decode cX9_laysForest 244 = .ok (.isub, 1) := by decide +kernel
theorem dX9_laysForest_245 : decode cX9_laysForest 245 = .ok (.imul, 1) := by decide +kernel
theorem dX9_laysForest_246 : decode cX9_laysForest 246 = .ok (.iload 7, 2) := by decide +kernel
theorem dX9_laysForest_248 : decode cX9_laysForest 248 = .ok (.iadd, 1) := by decide +kernel
theorem dX9_laysForest_249 : decode cX9_laysForest 249 = .ok (.iload 4, 2) := by decide +kernel
theorem dX9_laysForest_251 : decode cX9_laysForest 251 = .ok (.isub, 1) := by decide +kernel
theorem dX9_laysForest_252 : decode cX9_laysForest 252 = .ok (.iaload, 1) := by decide +kernel
theorem dX9_laysForest_253 : decode cX9_laysForest 253 = .ok (.aload_n 0, 1) := by decide +kernel
theorem dX9_laysForest_254 : decode cX9_laysForest 254 = .ok (.getfield 65, 3) := by decide +kernel
theorem dX9_laysForest_257 : decode cX9_laysForest 257 = .ok (.bipush 12, 2) := by decide +kernel
theorem dX9_laysForest_259 : decode cX9_laysForest 259 = .ok (.iload 6, 2) := by decide +kernel
theorem dX9_laysForest_261 : decode cX9_laysForest 261 = .ok (.imul, 1) := by decide +kernel
theorem dX9_laysForest_262 : decode cX9_laysForest 262 = .ok (.iload 7, 2) := by decide +kernel
theorem dX9_laysForest_264 : decode cX9_laysForest 264 = .ok (.iadd, 1) := by decide +kernel
theorem dX9_laysForest_265 : decode cX9_laysForest 265 = .ok (.iaload, 1) := by decide +kernel
theorem dX9_laysForest_266 : decode cX9_laysForest 266 = .ok (.iadd, 1) := by decide +kernel
theorem dX9_laysForest_267 : decode cX9_laysForest 267 = .ok (.goto 45, 3) := by decide +kernel
theorem dX9_laysForest_270 : decode cX9_laysForest 270 = .ok (.aload_n 0, 1) := by decide +kernel
theorem dX9_laysForest_271 : decode cX9_laysForest 271 = .ok (.getfield 71, 3) := by decide +kernel
theorem dX9_laysForest_274 : decode cX9_laysForest 274 = .ok (.iload 5, 2) := by decide +kernel
theorem dX9_laysForest_276 : decode cX9_laysForest 276 = .ok (.aload_n 0, 1) := by decide +kernel
theorem dX9_laysForest_277 : decode cX9_laysForest 277 = .ok (.iconst 0, 1) := by decide +kernel
theorem dX9_laysForest_278 : decode cX9_laysForest 278 = .ok (.iload 6, 2) := by decide +kernel
theorem dX9_laysForest_280 : decode cX9_laysForest 280 = .ok (.invokevirtual 154, 3) := by decide +kernel
theorem dX9_laysForest_283 : decode cX9_laysForest 283 = .ok (.iload_n 3, 1) := by decide +kernel
theorem dX9_laysForest_284 : decode cX9_laysForest 284 = .ok (.isub, 1) := by decide +kernel
theorem dX9_laysForest_285 : decode cX9_laysForest 285 = .ok (.imul, 1) := by decide +kernel
theorem dX9_laysForest_286 : decode cX9_laysForest 286 = .ok (.aload_n 0, 1) := by decide +kernel
theorem dX9_laysForest_287 : decode cX9_laysForest 287 = .ok (.iconst 1, 1) := by decide +kernel
theorem dX9_laysForest_288 : decode cX9_laysForest 288 = .ok (.iload 7, 2) := by decide +kernel
theorem dX9_laysForest_290 : decode cX9_laysForest 290 = .ok (.invokevirtual 154, 3) := by decide +kernel
theorem dX9_laysForest_293 : decode cX9_laysForest 293 = .ok (.iadd, 1) := by decide +kernel
theorem dX9_laysForest_294 : decode cX9_laysForest 294 = .ok (.iload 4, 2) := by decide +kernel
theorem dX9_laysForest_296 : decode cX9_laysForest 296 = .ok (.isub, 1) := by decide +kernel
theorem dX9_laysForest_297 : decode cX9_laysForest 297 = .ok (.iaload, 1) := by decide +kernel
theorem dX9_laysForest_298 : decode cX9_laysForest 298 = .ok (.aload_n 0, 1) := by decide +kernel
theorem dX9_laysForest_299 : decode cX9_laysForest 299 = .ok (.getfield 68, 3) := by decide +kernel
theorem dX9_laysForest_302 : decode cX9_laysForest 302 = .ok (.bipush 12, 2) := by decide +kernel
theorem dX9_laysForest_304 : decode cX9_laysForest 304 = .ok (.iload 6, 2) := by decide +kernel
theorem dX9_laysForest_306 : decode cX9_laysForest 306 = .ok (.imul, 1) := by decide +kernel
theorem dX9_laysForest_307 : decode cX9_laysForest 307 = .ok (.iload 7, 2) := by decide +kernel
theorem dX9_laysForest_309 : decode cX9_laysForest 309 = .ok (.iadd, 1) := by decide +kernel
theorem dX9_laysForest_310 : decode cX9_laysForest 310 = .ok (.iaload, 1) := by decide +kernel
theorem dX9_laysForest_311 : decode cX9_laysForest 311 = .ok (.iadd, 1) := by decide +kernel
theorem dX9_laysForest_312 : decode cX9_laysForest 312 = .ok (.istore 11, 2) := by decide +kernel
theorem dX9_laysForest_314 : decode cX9_laysForest 314 = .ok (.iload 11, 2) := by decide +kernel
theorem dX9_laysForest_316 : decode cX9_laysForest 316 = .ok (.iload 8, 2) := by decide +kernel
theorem dX9_laysForest_318 : decode cX9_laysForest 318 = .ok (.iload 9, 2) := by decide +kernel
theorem dX9_laysForest_320 : decode cX9_laysForest 320 = .ok (.invokestatic 211, 3) := by decide +kernel
theorem dX9_laysForest_323 : decode cX9_laysForest 323 = .ok (.invokestatic 211, 3) := by decide +kernel
theorem dX9_laysForest_326 : decode cX9_laysForest 326 = .ok (.istore 12, 2) := by decide +kernel
theorem dX9_laysForest_328 : decode cX9_laysForest 328 = .ok (.aload_n 0, 1) := by decide +kernel
theorem dX9_laysForest_329 : decode cX9_laysForest 329 = .ok (.getfield 71, 3) := by decide +kernel
theorem dX9_laysForest_332 : decode cX9_laysForest 332 = .ok (.iload 5, 2) := by decide +kernel
theorem dX9_laysForest_334 : decode cX9_laysForest 334 = .ok (.iload 6, 2) := by decide +kernel
theorem dX9_laysForest_336 : decode cX9_laysForest 336 = .ok (.iload_n 3, 1) := by decide +kernel
theorem dX9_laysForest_337 : decode cX9_laysForest 337 = .ok (.isub, 1) := by decide +kernel
theorem dX9_laysForest_338 : decode cX9_laysForest 338 = .ok (.iconst 1, 1) := by decide +kernel
theorem dX9_laysForest_339 : decode cX9_laysForest 339 = .ok (.iadd, 1) := by decide +kernel
theorem dX9_laysForest_340 : decode cX9_laysForest 340 = .ok (.imul, 1) := by decide +kernel
theorem dX9_laysForest_341 : decode cX9_laysForest 341 = .ok (.iload 7, 2) := by decide +kernel
theorem dX9_laysForest_343 : decode cX9_laysForest 343 = .ok (.iadd, 1) := by decide +kernel
theorem dX9_laysForest_344 : decode cX9_laysForest 344 = .ok (.iload 4, 2) := by decide +kernel
theorem dX9_laysForest_346 : decode cX9_laysForest 346 = .ok (.isub, 1) := by decide +kernel
theorem dX9_laysForest_347 : decode cX9_laysForest 347 = .ok (.iconst 1, 1) := by decide +kernel
theorem dX9_laysForest_348 : decode cX9_laysForest 348 = .ok (.iadd, 1) := by decide +kernel
theorem dX9_laysForest_349 : decode cX9_laysForest 349 = .ok (.iload 12, 2) := by decide +kernel
theorem dX9_laysForest_351 : decode cX9_laysForest 351 = .ok (.iastore, 1) := by decide +kernel
theorem dX9_laysForest_352 : decode cX9_laysForest 352 = .ok (.iload 10, 2) := by decide +kernel
theorem dX9_laysForest_354 : decode cX9_laysForest 354 = .ok (.ifCond .eq 18, 3) := by decide +kernel
theorem dX9_laysForest_357 : decode cX9_laysForest 357 = .ok (.aload_n 0, 1) := by decide +kernel
theorem dX9_laysForest_358 : decode cX9_laysForest 358 = .ok (.getfield 68, 3) := by decide +kernel
theorem dX9_laysForest_361 : decode cX9_laysForest 361 = .ok (.bipush 12, 2) := by decide +kernel
theorem dX9_laysForest_363 : decode cX9_laysForest 363 = .ok (.iload 6, 2) := by decide +kernel
theorem dX9_laysForest_365 : decode cX9_laysForest 365 = .ok (.imul, 1) := by decide +kernel
theorem dX9_laysForest_366 : decode cX9_laysForest 366 = .ok (.iload 7, 2) := by decide +kernel
theorem dX9_laysForest_368 : decode cX9_laysForest 368 = .ok (.iadd, 1) := by decide +kernel
theorem dX9_laysForest_369 : decode cX9_laysForest 369 = .ok (.iload 12, 2) := by decide +kernel
theorem dX9_laysForest_371 : decode cX9_laysForest 371 = .ok (.iastore, 1) := by decide +kernel
theorem dX9_laysForest_372 : decode cX9_laysForest 372 = .ok (.iinc 7 1, 3) := by decide +kernel
theorem dX9_laysForest_375 : decode cX9_laysForest 375 = .ok (.goto (-241), 3) := by decide +kernel
theorem dX9_laysForest_378 : decode cX9_laysForest 378 = .ok (.iinc 6 1, 3) := by decide +kernel
theorem dX9_laysForest_381 : decode cX9_laysForest 381 = .ok (.goto (-257), 3) := by decide +kernel
theorem dX9_laysForest_384 : decode cX9_laysForest 384 = .ok (.return_, 1) := by decide +kernel
theorem dX9_laysCosts_0 : decode cX9_laysCosts 0 = .ok (.iconst 0, 1) := by decide +kernel
theorem dX9_laysCosts_1 : decode cX9_laysCosts 1 = .ok (.istore_n 1, 1) := by decide +kernel
theorem dX9_laysCosts_2 : decode cX9_laysCosts 2 = .ok (.iload_n 1, 1) := by decide +kernel
theorem dX9_laysCosts_3 : decode cX9_laysCosts 3 = .ok (.aload_n 0, 1) := by decide +kernel
theorem dX9_laysCosts_4 : decode cX9_laysCosts 4 = .ok (.iconst 0, 1) := by decide +kernel
theorem dX9_laysCosts_5 : decode cX9_laysCosts 5 = .ok (.invokevirtual 119, 3) := by decide +kernel
theorem dX9_laysCosts_8 : decode cX9_laysCosts 8 = .ok (.if_icmp .ge 52, 3) := by decide +kernel
theorem dX9_laysCosts_11 : decode cX9_laysCosts 11 = .ok (.iconst 0, 1) := by decide +kernel
theorem dX9_laysCosts_12 : decode cX9_laysCosts 12 = .ok (.istore_n 2, 1) := by decide +kernel
theorem dX9_laysCosts_13 : decode cX9_laysCosts 13 = .ok (.iload_n 2, 1) := by decide +kernel
theorem dX9_laysCosts_14 : decode cX9_laysCosts 14 = .ok (.aload_n 0, 1) := by decide +kernel
theorem dX9_laysCosts_15 : decode cX9_laysCosts 15 = .ok (.iconst 1, 1) := by decide +kernel
theorem dX9_laysCosts_16 : decode cX9_laysCosts 16 = .ok (.invokevirtual 119, 3) := by decide +kernel
theorem dX9_laysCosts_19 : decode cX9_laysCosts 19 = .ok (.if_icmp .ge 35, 3) := by decide +kernel
theorem dX9_laysCosts_22 : decode cX9_laysCosts 22 = .ok (.aload_n 0, 1) := by decide +kernel
theorem dX9_laysCosts_23 : decode cX9_laysCosts 23 = .ok (.iconst 0, 1) := by decide +kernel
theorem dX9_laysCosts_24 : decode cX9_laysCosts 24 = .ok (.iload_n 1, 1) := by decide +kernel
theorem dX9_laysCosts_25 : decode cX9_laysCosts 25 = .ok (.iconst 0, 1) := by decide +kernel
theorem dX9_laysCosts_26 : decode cX9_laysCosts 26 = .ok (.invokevirtual 190, 3) := by decide +kernel
theorem dX9_laysCosts_29 : decode cX9_laysCosts 29 = .ok (.ifCond .eq 19, 3) := by decide +kernel
theorem dX9_laysCosts_32 : decode cX9_laysCosts 32 = .ok (.aload_n 0, 1) := by decide +kernel
theorem dX9_laysCosts_33 : decode cX9_laysCosts 33 = .ok (.iconst 1, 1) := by decide +kernel
theorem dX9_laysCosts_34 : decode cX9_laysCosts 34 = .ok (.iload_n 2, 1) := by decide +kernel
theorem dX9_laysCosts_35 : decode cX9_laysCosts 35 = .ok (.iconst 0, 1) := by decide +kernel
theorem dX9_laysCosts_36 : decode cX9_laysCosts 36 = .ok (.invokevirtual 190, 3) := by decide +kernel
theorem dX9_laysCosts_39 : decode cX9_laysCosts 39 = .ok (.ifCond .eq 9, 3) := by decide +kernel
theorem dX9_laysCosts_42 : decode cX9_laysCosts 42 = .ok (.aload_n 0, 1) := by decide +kernel
theorem dX9_laysCosts_43 : decode cX9_laysCosts 43 = .ok (.iload_n 1, 1) := by decide +kernel
theorem dX9_laysCosts_44 : decode cX9_laysCosts 44 = .ok (.iload_n 2, 1) := by decide +kernel
theorem dX9_laysCosts_45 : decode cX9_laysCosts 45 = .ok (.invokevirtual 214, 3) := by decide +kernel
theorem dX9_laysCosts_48 : decode cX9_laysCosts 48 = .ok (.iinc 2 1, 3) := by decide +kernel
theorem dX9_laysCosts_51 : decode cX9_laysCosts 51 = .ok (.goto (-38), 3) := by decide +kernel
theorem dX9_laysCosts_54 : decode cX9_laysCosts 54 = .ok (.iinc 1 1, 3) := by decide +kernel
theorem dX9_laysCosts_57 : decode cX9_laysCosts 57 = .ok (.goto (-55), 3) := by decide +kernel
theorem dX9_laysCosts_60 : decode cX9_laysCosts 60 = .ok (.aload_n 0, 1) := by decide +kernel
theorem dX9_laysCosts_61 : decode cX9_laysCosts 61 = .ok (.getfield 68, 3) := by decide +kernel
theorem dX9_laysCosts_64 : decode cX9_laysCosts 64 = .ok (.bipush 12, 2) := by decide +kernel
theorem dX9_laysCosts_66 : decode cX9_laysCosts 66 = .ok (.aload_n 0, 1) := by decide +kernel
theorem dX9_laysCosts_67 : decode cX9_laysCosts 67 = .ok (.iconst 0, 1) := by decide +kernel
theorem dX9_laysCosts_68 : decode cX9_laysCosts 68 = .ok (.invokevirtual 119, 3) := by decide +kernel
theorem dX9_laysCosts_71 : decode cX9_laysCosts 71 = .ok (.iconst 1, 1) := by decide +kernel
theorem dX9_laysCosts_72 : decode cX9_laysCosts 72 = .ok (.isub, 1) := by decide +kernel
theorem dX9_laysCosts_73 : decode cX9_laysCosts 73 = .ok (.imul, 1) := by decide +kernel
theorem dX9_laysCosts_74 : decode cX9_laysCosts 74 = .ok (.aload_n 0, 1) := by decide +kernel
theorem dX9_laysCosts_75 : decode cX9_laysCosts 75 = .ok (.iconst 1, 1) := by decide +kernel
theorem dX9_laysCosts_76 : decode cX9_laysCosts 76 = .ok (.invokevirtual 119, 3) := by decide +kernel
theorem dX9_laysCosts_79 : decode cX9_laysCosts 79 = .ok (.iadd, 1) := by decide +kernel
theorem dX9_laysCosts_80 : decode cX9_laysCosts 80 = .ok (.iconst 1, 1) := by decide +kernel
theorem dX9_laysCosts_81 : decode cX9_laysCosts 81 = .ok (.isub, 1) := by decide +kernel
theorem dX9_laysCosts_82 : decode cX9_laysCosts 82 = .ok (.iaload, 1) := by decide +kernel
theorem dX9_laysCosts_83 : decode cX9_laysCosts 83 = .ok (.ireturn, 1) := by decide +kernel
theorem dX9_areBoth_0 : decode cX9_areBoth 0 = .ok (.aload_n 0, 1) := by decide +kernel
theorem dX9_areBoth_1 : decode cX9_areBoth 1 = .ok (.iconst 0, 1) := by decide +kernel
theorem dX9_areBoth_2 : decode cX9_areBoth 2 = .ok (.invokevirtual 119, 3) := by decide +kernel
theorem dX9_areBoth_5 : decode cX9_areBoth 5 = .ok (.ifCond .le 15, 3) := by decide +kernel
theorem dX9_areBoth_8 : decode cX9_areBoth 8 = .ok (.aload_n 0, 1) := by decide +kernel
theorem dX9_areBoth_9 : decode cX9_areBoth 9 = .ok (.iconst 1, 1) := by decide +kernel
theorem dX9_areBoth_10 : decode cX9_areBoth 10 = .ok (.invokevirtual 119, 3) := by decide +kernel
theorem dX9_areBoth_13 : decode cX9_areBoth 13 = .ok (.ifCond .le 7, 3) := by decide +kernel
theorem dX9_areBoth_16 : decode cX9_areBoth 16 = .ok (.iconst 1, 1) := by decide +kernel
theorem dX9_areBoth_17 : decode cX9_areBoth 17 = .ok (.goto 4, 3) := by decide +kernel
theorem dX9_areBoth_20 : decode cX9_areBoth 20 = .ok (.iconst 0, 1) := by decide +kernel
theorem dX9_areBoth_21 : decode cX9_areBoth 21 = .ok (.ireturn, 1) := by decide +kernel
theorem dX9_leastOf_0 : decode cX9_leastOf 0 = .ok (.aload_n 0, 1) := by decide +kernel
theorem dX9_leastOf_1 : decode cX9_leastOf 1 = .ok (.invokevirtual 217, 3) := by decide +kernel
theorem dX9_leastOf_4 : decode cX9_leastOf 4 = .ok (.aload_n 0, 1) := by decide +kernel
theorem dX9_leastOf_5 : decode cX9_leastOf 5 = .ok (.invokevirtual 220, 3) := by decide +kernel
theorem dX9_leastOf_8 : decode cX9_leastOf 8 = .ok (.ireturn, 1) := by decide +kernel
theorem dX9_least_0 : decode cX9_least 0 = .ok (.aload_n 0, 1) := by decide +kernel
theorem dX9_least_1 : decode cX9_least 1 = .ok (.invokevirtual 224, 3) := by decide +kernel
theorem dX9_least_4 : decode cX9_least 4 = .ok (.ifCond .eq 10, 3) := by decide +kernel
theorem dX9_least_7 : decode cX9_least 7 = .ok (.aload_n 0, 1) := by decide +kernel
theorem dX9_least_8 : decode cX9_least 8 = .ok (.invokevirtual 228, 3) := by decide +kernel
theorem dX9_least_11 : decode cX9_least 11 = .ok (.goto 5, 3) := by decide +kernel
theorem dX9_least_14 : decode cX9_least 14 = .ok (.bipush (-4), 2) := by decide +kernel
theorem dX9_least_16 : decode cX9_least 16 = .ok (.ireturn, 1) := by decide +kernel
theorem dX9_cost_0 : decode cX9_cost 0 = .ok (.aload_n 0, 1) := by decide +kernel
theorem dX9_cost_1 : decode cX9_cost 1 = .ok (.iconst 0, 1) := by decide +kernel
theorem dX9_cost_2 : decode cX9_cost 2 = .ok (.iload_n 1, 1) := by decide +kernel
theorem dX9_cost_3 : decode cX9_cost 3 = .ok (.invokevirtual 184, 3) := by decide +kernel
theorem dX9_cost_6 : decode cX9_cost 6 = .ok (.ifCond .eq 12, 3) := by decide +kernel
theorem dX9_cost_9 : decode cX9_cost 9 = .ok (.aload_n 0, 1) := by decide +kernel
theorem dX9_cost_10 : decode cX9_cost 10 = .ok (.iconst 1, 1) := by decide +kernel
theorem dX9_cost_11 : decode cX9_cost 11 = .ok (.iload_n 2, 1) := by decide +kernel
theorem dX9_cost_12 : decode cX9_cost 12 = .ok (.invokevirtual 184, 3) := by decide +kernel
theorem dX9_cost_15 : decode cX9_cost 15 = .ok (.ifCond .ne 5, 3) := by decide +kernel
theorem dX9_cost_18 : decode cX9_cost 18 = .ok (.iconst (-1), 1) := by decide +kernel
theorem dX9_cost_19 : decode cX9_cost 19 = .ok (.ireturn, 1) := by decide +kernel
theorem dX9_cost_20 : decode cX9_cost 20 = .ok (.aload_n 0, 1) := by decide +kernel
theorem dX9_cost_21 : decode cX9_cost 21 = .ok (.invokevirtual 228, 3) := by decide +kernel
theorem dX9_cost_24 : decode cX9_cost 24 = .ok (.pop, 1) := by decide +kernel
theorem dX9_cost_25 : decode cX9_cost 25 = .ok (.aload_n 0, 1) := by decide +kernel
theorem dX9_cost_26 : decode cX9_cost 26 = .ok (.aload_n 0, 1) := by decide +kernel
theorem dX9_cost_27 : decode cX9_cost 27 = .ok (.getfield 65, 3) := by decide +kernel
theorem dX9_cost_30 : decode cX9_cost 30 = .ok (.bipush 12, 2) := by decide +kernel
theorem dX9_cost_32 : decode cX9_cost 32 = .ok (.iload_n 1, 1) := by decide +kernel
theorem dX9_cost_33 : decode cX9_cost 33 = .ok (.imul, 1) := by decide +kernel
theorem dX9_cost_34 : decode cX9_cost 34 = .ok (.iload_n 2, 1) := by decide +kernel
theorem dX9_cost_35 : decode cX9_cost 35 = .ok (.iadd, 1) := by decide +kernel
theorem dX9_cost_36 : decode cX9_cost 36 = .ok (.iaload, 1) := by decide +kernel
theorem dX9_cost_37 : decode cX9_cost 37 = .ok (.aload_n 0, 1) := by decide +kernel
theorem dX9_cost_38 : decode cX9_cost 38 = .ok (.getfield 68, 3) := by decide +kernel
theorem dX9_cost_41 : decode cX9_cost 41 = .ok (.bipush 12, 2) := by decide +kernel
theorem dX9_cost_43 : decode cX9_cost 43 = .ok (.iload_n 1, 1) := by decide +kernel
theorem dX9_cost_44 : decode cX9_cost 44 = .ok (.imul, 1) := by decide +kernel
theorem dX9_cost_45 : decode cX9_cost 45 = .ok (.iload_n 2, 1) := by decide +kernel
theorem dX9_cost_46 : decode cX9_cost 46 = .ok (.iadd, 1) := by decide +kernel
theorem dX9_cost_47 : decode cX9_cost 47 = .ok (.iaload, 1) := by decide +kernel
theorem dX9_cost_48 : decode cX9_cost 48 = .ok (.invokevirtual 110, 3) := by decide +kernel
theorem dX9_cost_51 : decode cX9_cost 51 = .ok (.ireturn, 1) := by decide +kernel
theorem dX9_shuts_0 : decode cX9_shuts 0 = .ok (.iconst 0, 1) := by decide +kernel
theorem dX9_shuts_1 : decode cX9_shuts 1 = .ok (.istore_n 3, 1) := by decide +kernel
theorem dX9_shuts_2 : decode cX9_shuts 2 = .ok (.iload_n 3, 1) := by decide +kernel
theorem dX9_shuts_3 : decode cX9_shuts 3 = .ok (.aload_n 0, 1) := by decide +kernel
theorem dX9_shuts_4 : decode cX9_shuts 4 = .ok (.iconst 1, 1) := by decide +kernel
theorem dX9_shuts_5 : decode cX9_shuts 5 = .ok (.invokevirtual 119, 3) := by decide +kernel
theorem dX9_shuts_8 : decode cX9_shuts 8 = .ok (.if_icmp .ge 41, 3) := by decide +kernel
theorem dX9_shuts_11 : decode cX9_shuts 11 = .ok (.aload_n 0, 1) := by decide +kernel
theorem dX9_shuts_12 : decode cX9_shuts 12 = .ok (.getfield 65, 3) := by decide +kernel
theorem dX9_shuts_15 : decode cX9_shuts 15 = .ok (.bipush 12, 2) := by decide +kernel
theorem dX9_shuts_17 : decode cX9_shuts 17 = .ok (.iload_n 1, 1) := by decide +kernel
theorem dX9_shuts_18 : decode cX9_shuts 18 = .ok (.imul, 1) := by decide +kernel
theorem dX9_shuts_19 : decode cX9_shuts 19 = .ok (.iload_n 3, 1) := by decide +kernel
theorem dX9_shuts_20 : decode cX9_shuts 20 = .ok (.iadd, 1) := by decide +kernel
theorem dX9_shuts_21 : decode cX9_shuts 21 = .ok (.iload_n 3, 1) := by decide +kernel
theorem dX9_shuts_22 : decode cX9_shuts 22 = .ok (.iload_n 2, 1) := by decide +kernel
theorem dX9_shuts_23 : decode cX9_shuts 23 = .ok (.if_icmp .ne 17, 3) := by decide +kernel
theorem dX9_shuts_26 : decode cX9_shuts 26 = .ok (.aload_n 0, 1) := by decide +kernel
theorem dX9_shuts_27 : decode cX9_shuts 27 = .ok (.getfield 65, 3) := by decide +kernel
theorem dX9_shuts_30 : decode cX9_shuts 30 = .ok (.bipush 12, 2) := by decide +kernel
theorem dX9_shuts_32 : decode cX9_shuts 32 = .ok (.iload_n 1, 1) := by decide +kernel
theorem dX9_shuts_33 : decode cX9_shuts 33 = .ok (.imul, 1) := by decide +kernel
theorem dX9_shuts_34 : decode cX9_shuts 34 = .ok (.iload_n 3, 1) := by decide +kernel
theorem dX9_shuts_35 : decode cX9_shuts 35 = .ok (.iadd, 1) := by decide +kernel
theorem dX9_shuts_36 : decode cX9_shuts 36 = .ok (.iaload, 1) := by decide +kernel
theorem dX9_shuts_37 : decode cX9_shuts 37 = .ok (.goto 5, 3) := by decide +kernel
theorem dX9_shuts_40 : decode cX9_shuts 40 = .ok (.ldc 231, 2) := by decide +kernel
theorem dX9_shuts_42 : decode cX9_shuts 42 = .ok (.iastore, 1) := by decide +kernel
theorem dX9_shuts_43 : decode cX9_shuts 43 = .ok (.iinc 3 1, 3) := by decide +kernel
theorem dX9_shuts_46 : decode cX9_shuts 46 = .ok (.goto (-44), 3) := by decide +kernel
theorem dX9_shuts_49 : decode cX9_shuts 49 = .ok (.iload_n 2, 1) := by decide +kernel
theorem dX9_shuts_50 : decode cX9_shuts 50 = .ok (.bipush (-9), 2) := by decide +kernel
theorem dX9_shuts_52 : decode cX9_shuts 52 = .ok (.if_icmp .eq 68, 3) := by decide +kernel
theorem dX9_shuts_55 : decode cX9_shuts 55 = .ok (.aload_n 0, 1) := by decide +kernel
theorem dX9_shuts_56 : decode cX9_shuts 56 = .ok (.getfield 59, 3) := by decide +kernel
theorem dX9_shuts_59 : decode cX9_shuts 59 = .ok (.iload_n 1, 1) := by decide +kernel
theorem dX9_shuts_60 : decode cX9_shuts 60 = .ok (.ldc 231, 2) := by decide +kernel
theorem dX9_shuts_62 : decode cX9_shuts 62 = .ok (.iastore, 1) := by decide +kernel
theorem dX9_shuts_63 : decode cX9_shuts 63 = .ok (.aload_n 0, 1) := by decide +kernel
theorem dX9_shuts_64 : decode cX9_shuts 64 = .ok (.getfield 62, 3) := by decide +kernel
theorem dX9_shuts_67 : decode cX9_shuts 67 = .ok (.iload_n 2, 1) := by decide +kernel
theorem dX9_shuts_68 : decode cX9_shuts 68 = .ok (.ldc 231, 2) := by decide +kernel
theorem dX9_shuts_70 : decode cX9_shuts 70 = .ok (.iastore, 1) := by decide +kernel
theorem dX9_shuts_71 : decode cX9_shuts 71 = .ok (.iconst 0, 1) := by decide +kernel
theorem dX9_shuts_72 : decode cX9_shuts 72 = .ok (.istore_n 3, 1) := by decide +kernel
theorem dX9_shuts_73 : decode cX9_shuts 73 = .ok (.iload_n 3, 1) := by decide +kernel
theorem dX9_shuts_74 : decode cX9_shuts 74 = .ok (.aload_n 0, 1) := by decide +kernel
theorem dX9_shuts_75 : decode cX9_shuts 75 = .ok (.iconst 0, 1) := by decide +kernel
theorem dX9_shuts_76 : decode cX9_shuts 76 = .ok (.invokevirtual 119, 3) := by decide +kernel
theorem dX9_shuts_79 : decode cX9_shuts 79 = .ok (.if_icmp .ge 41, 3) := by decide +kernel
theorem dX9_shuts_82 : decode cX9_shuts 82 = .ok (.aload_n 0, 1) := by decide +kernel
theorem dX9_shuts_83 : decode cX9_shuts 83 = .ok (.getfield 65, 3) := by decide +kernel
theorem dX9_shuts_86 : decode cX9_shuts 86 = .ok (.bipush 12, 2) := by decide +kernel
theorem dX9_shuts_88 : decode cX9_shuts 88 = .ok (.iload_n 3, 1) := by decide +kernel
theorem dX9_shuts_89 : decode cX9_shuts 89 = .ok (.imul, 1) := by decide +kernel
theorem dX9_shuts_90 : decode cX9_shuts 90 = .ok (.iload_n 2, 1) := by decide +kernel
theorem dX9_shuts_91 : decode cX9_shuts 91 = .ok (.iadd, 1) := by decide +kernel
theorem dX9_shuts_92 : decode cX9_shuts 92 = .ok (.iload_n 3, 1) := by decide +kernel
theorem dX9_shuts_93 : decode cX9_shuts 93 = .ok (.iload_n 1, 1) := by decide +kernel
theorem dX9_shuts_94 : decode cX9_shuts 94 = .ok (.if_icmp .ne 17, 3) := by decide +kernel
theorem dX9_shuts_97 : decode cX9_shuts 97 = .ok (.aload_n 0, 1) := by decide +kernel
theorem dX9_shuts_98 : decode cX9_shuts 98 = .ok (.getfield 65, 3) := by decide +kernel
theorem dX9_shuts_101 : decode cX9_shuts 101 = .ok (.bipush 12, 2) := by decide +kernel
theorem dX9_shuts_103 : decode cX9_shuts 103 = .ok (.iload_n 3, 1) := by decide +kernel
theorem dX9_shuts_104 : decode cX9_shuts 104 = .ok (.imul, 1) := by decide +kernel
theorem dX9_shuts_105 : decode cX9_shuts 105 = .ok (.iload_n 2, 1) := by decide +kernel
theorem dX9_shuts_106 : decode cX9_shuts 106 = .ok (.iadd, 1) := by decide +kernel
theorem dX9_shuts_107 : decode cX9_shuts 107 = .ok (.iaload, 1) := by decide +kernel
theorem dX9_shuts_108 : decode cX9_shuts 108 = .ok (.goto 5, 3) := by decide +kernel
theorem dX9_shuts_111 : decode cX9_shuts 111 = .ok (.ldc 231, 2) := by decide +kernel
theorem dX9_shuts_113 : decode cX9_shuts 113 = .ok (.iastore, 1) := by decide +kernel
theorem dX9_shuts_114 : decode cX9_shuts 114 = .ok (.iinc 3 1, 3) := by decide +kernel
theorem dX9_shuts_117 : decode cX9_shuts 117 = .ok (.goto (-44), 3) := by decide +kernel
theorem dX9_shuts_120 : decode cX9_shuts 120 = .ok (.return_, 1) := by decide +kernel
theorem dX9_laysKnown_0 : decode cX9_laysKnown 0 = .ok (.aload_n 0, 1) := by decide +kernel
theorem dX9_laysKnown_1 : decode cX9_laysKnown 1 = .ok (.invokevirtual 217, 3) := by decide +kernel
theorem dX9_laysKnown_4 : decode cX9_laysKnown 4 = .ok (.aload_n 0, 1) := by decide +kernel
theorem dX9_laysKnown_5 : decode cX9_laysKnown 5 = .ok (.iconst 0, 1) := by decide +kernel
theorem dX9_laysKnown_6 : decode cX9_laysKnown 6 = .ok (.invokevirtual 119, 3) := by decide +kernel
theorem dX9_laysKnown_9 : decode cX9_laysKnown 9 = .ok (.iconst 1, 1) := by decide +kernel
theorem dX9_laysKnown_10 : decode cX9_laysKnown 10 = .ok (.isub, 1) := by decide +kernel
theorem dX9_laysKnown_11 : decode cX9_laysKnown 11 = .ok (.istore_n 2, 1) := by decide +kernel
theorem dX9_laysKnown_12 : decode cX9_laysKnown 12 = .ok (.iload_n 2, 1) := by decide +kernel
theorem dX9_laysKnown_13 : decode cX9_laysKnown 13 = .ok (.iload_n 1, 1) := by decide +kernel
theorem dX9_laysKnown_14 : decode cX9_laysKnown 14 = .ok (.if_icmp .le 20, 3) := by decide +kernel
theorem dX9_laysKnown_17 : decode cX9_laysKnown 17 = .ok (.aload_n 0, 1) := by decide +kernel
theorem dX9_laysKnown_18 : decode cX9_laysKnown 18 = .ok (.iload_n 2, 1) := by decide +kernel
theorem dX9_laysKnown_19 : decode cX9_laysKnown 19 = .ok (.aload_n 0, 1) := by decide +kernel
theorem dX9_laysKnown_20 : decode cX9_laysKnown 20 = .ok (.getfield 74, 3) := by decide +kernel
theorem dX9_laysKnown_23 : decode cX9_laysKnown 23 = .ok (.iload_n 2, 1) := by decide +kernel
theorem dX9_laysKnown_24 : decode cX9_laysKnown 24 = .ok (.iaload, 1) := by decide +kernel
theorem dX9_laysKnown_25 : decode cX9_laysKnown 25 = .ok (.invokevirtual 232, 3) := by decide +kernel
theorem dX9_laysKnown_28 : decode cX9_laysKnown 28 = .ok (.iinc 2 (-1), 3) := by decide +kernel
theorem dX9_laysKnown_31 : decode cX9_laysKnown 31 = .ok (.goto (-19), 3) := by decide +kernel
theorem dX9_laysKnown_34 : decode cX9_laysKnown 34 = .ok (.return_, 1) := by decide +kernel
theorem dX9_laysWay_0 : decode cX9_laysWay 0 = .ok (.aload_n 0, 1) := by decide +kernel
theorem dX9_laysWay_1 : decode cX9_laysWay 1 = .ok (.invokevirtual 228, 3) := by decide +kernel
theorem dX9_laysWay_4 : decode cX9_laysWay 4 = .ok (.istore_n 1, 1) := by decide +kernel
theorem dX9_laysWay_5 : decode cX9_laysWay 5 = .ok (.iconst 0, 1) := by decide +kernel
theorem dX9_laysWay_6 : decode cX9_laysWay 6 = .ok (.istore_n 2, 1) := by decide +kernel
theorem dX9_laysWay_7 : decode cX9_laysWay 7 = .ok (.iload_n 2, 1) := by decide +kernel
theorem dX9_laysWay_8 : decode cX9_laysWay 8 = .ok (.bipush 12, 2) := by decide +kernel
theorem dX9_laysWay_10 : decode cX9_laysWay 10 = .ok (.if_icmp .ge 17, 3) := by decide +kernel
theorem dX9_laysWay_13 : decode cX9_laysWay 13 = .ok (.aload_n 0, 1) := by decide +kernel
theorem dX9_laysWay_14 : decode cX9_laysWay 14 = .ok (.getfield 77, 3) := by decide +kernel
theorem dX9_laysWay_17 : decode cX9_laysWay 17 = .ok (.iload_n 2, 1) := by decide +kernel
theorem dX9_laysWay_18 : decode cX9_laysWay 18 = .ok (.bipush (-9), 2) := by decide +kernel
theorem dX9_laysWay_20 : decode cX9_laysWay 20 = .ok (.iastore, 1) := by decide +kernel
theorem dX9_laysWay_21 : decode cX9_laysWay 21 = .ok (.iinc 2 1, 3) := by decide +kernel
theorem dX9_laysWay_24 : decode cX9_laysWay 24 = .ok (.goto (-17), 3) := by decide +kernel
theorem dX9_laysWay_27 : decode cX9_laysWay 27 = .ok (.aload_n 0, 1) := by decide +kernel
theorem dX9_laysWay_28 : decode cX9_laysWay 28 = .ok (.iconst 0, 1) := by decide +kernel
theorem dX9_laysWay_29 : decode cX9_laysWay 29 = .ok (.invokevirtual 119, 3) := by decide +kernel
theorem dX9_laysWay_32 : decode cX9_laysWay 32 = .ok (.iconst 1, 1) := by decide +kernel
theorem dX9_laysWay_33 : decode cX9_laysWay 33 = .ok (.isub, 1) := by decide +kernel
theorem dX9_laysWay_34 : decode cX9_laysWay 34 = .ok (.istore_n 2, 1) := by decide +kernel
theorem dX9_laysWay_35 : decode cX9_laysWay 35 = .ok (.iload_n 2, 1) := by decide +kernel
theorem dX9_laysWay_36 : decode cX9_laysWay 36 = .ok (.ifCond .lt 90, 3) := by decide +kernel
theorem dX9_laysWay_39 : decode cX9_laysWay 39 = .ok (.aload_n 0, 1) := by decide +kernel
theorem dX9_laysWay_40 : decode cX9_laysWay 40 = .ok (.getfield 74, 3) := by decide +kernel
theorem dX9_laysWay_43 : decode cX9_laysWay 43 = .ok (.iload_n 2, 1) := by decide +kernel
theorem dX9_laysWay_44 : decode cX9_laysWay 44 = .ok (.bipush (-9), 2) := by decide +kernel
theorem dX9_laysWay_46 : decode cX9_laysWay 46 = .ok (.iastore, 1) := by decide +kernel
theorem dX9_laysWay_47 : decode cX9_laysWay 47 = .ok (.aload_n 0, 1) := by decide +kernel
theorem dX9_laysWay_48 : decode cX9_laysWay 48 = .ok (.iconst 1, 1) := by decide +kernel
theorem dX9_laysWay_49 : decode cX9_laysWay 49 = .ok (.invokevirtual 119, 3) := by decide +kernel
theorem dX9_laysWay_52 : decode cX9_laysWay 52 = .ok (.iconst 1, 1) := by decide +kernel
theorem dX9_laysWay_53 : decode cX9_laysWay 53 = .ok (.isub, 1) := by decide +kernel
theorem dX9_laysWay_54 : decode cX9_laysWay 54 = .ok (.istore_n 3, 1) := by decide +kernel
theorem dX9_laysWay_55 : decode cX9_laysWay 55 = .ok (.iload_n 3, 1) := by decide +kernel
theorem dX9_laysWay_56 : decode cX9_laysWay 56 = .ok (.ifCond .lt 64, 3) := by decide +kernel
theorem dX9_laysWay_59 : decode cX9_laysWay 59 = .ok (.aload_n 0, 1) := by decide +kernel
theorem dX9_laysWay_60 : decode cX9_laysWay 60 = .ok (.getfield 74, 3) := by decide +kernel
theorem dX9_laysWay_63 : decode cX9_laysWay 63 = .ok (.iload_n 2, 1) := by decide +kernel
theorem dX9_laysWay_64 : decode cX9_laysWay 64 = .ok (.iaload, 1) := by decide +kernel
theorem dX9_laysWay_65 : decode cX9_laysWay 65 = .ok (.bipush (-9), 2) := by decide +kernel
theorem dX9_laysWay_67 : decode cX9_laysWay 67 = .ok (.if_icmp .ne 53, 3) := by decide +kernel
theorem dX9_laysWay_70 : decode cX9_laysWay 70 = .ok (.aload_n 0, 1) := by decide +kernel
theorem dX9_laysWay_71 : decode cX9_laysWay 71 = .ok (.getfield 77, 3) := by decide +kernel
theorem dX9_laysWay_74 : decode cX9_laysWay 74 = .ok (.iload_n 3, 1) := by decide +kernel
theorem dX9_laysWay_75 : decode cX9_laysWay 75 = .ok (.iaload, 1) := by decide +kernel
theorem dX9_laysWay_76 : decode cX9_laysWay 76 = .ok (.bipush (-9), 2) := by decide +kernel
theorem dX9_laysWay_78 : decode cX9_laysWay 78 = .ok (.if_icmp .ne 36, 3) := by decide +kernel
theorem dX9_laysWay_81 : decode cX9_laysWay 81 = .ok (.aload_n 0, 1) := by decide +kernel
theorem dX9_laysWay_82 : decode cX9_laysWay 82 = .ok (.iload_n 2, 1) := by decide +kernel
theorem dX9_laysWay_83 : decode cX9_laysWay 83 = .ok (.invokevirtual 235, 3) := by decide +kernel
theorem dX9_laysWay_86 : decode cX9_laysWay 86 = .ok (.aload_n 0, 1) := by decide +kernel
theorem dX9_laysWay_87 : decode cX9_laysWay 87 = .ok (.iload_n 2, 1) := by decide +kernel
theorem dX9_laysWay_88 : decode cX9_laysWay 88 = .ok (.iload_n 3, 1) := by decide +kernel
theorem dX9_laysWay_89 : decode cX9_laysWay 89 = .ok (.invokevirtual 232, 3) := by decide +kernel
theorem dX9_laysWay_92 : decode cX9_laysWay 92 = .ok (.aload_n 0, 1) := by decide +kernel
theorem dX9_laysWay_93 : decode cX9_laysWay 93 = .ok (.invokevirtual 220, 3) := by decide +kernel
theorem dX9_laysWay_96 : decode cX9_laysWay 96 = .ok (.iload_n 1, 1) := by decide +kernel
theorem dX9_laysWay_97 : decode cX9_laysWay 97 = .ok (.if_icmp .ne 17, 3) := by decide +kernel
theorem dX9_laysWay_100 : decode cX9_laysWay 100 = .ok (.aload_n 0, 1) := by decide +kernel
theorem dX9_laysWay_101 : decode cX9_laysWay 101 = .ok (.getfield 74, 3) := by decide +kernel
theorem dX9_laysWay_104 : decode cX9_laysWay 104 = .ok (.iload_n 2, 1) := by decide +kernel
theorem dX9_laysWay_105 : decode cX9_laysWay 105 = .ok (.iload_n 3, 1) := by decide +kernel
theorem dX9_laysWay_106 : decode cX9_laysWay 106 = .ok (.iastore, 1) := by decide +kernel
theorem dX9_laysWay_107 : decode cX9_laysWay 107 = .ok (.aload_n 0, 1) := by decide +kernel
theorem dX9_laysWay_108 : decode cX9_laysWay 108 = .ok (.getfield 77, 3) := by decide +kernel
theorem dX9_laysWay_111 : decode cX9_laysWay 111 = .ok (.iload_n 3, 1) := by decide +kernel
theorem dX9_laysWay_112 : decode cX9_laysWay 112 = .ok (.iload_n 2, 1) := by decide +kernel
theorem dX9_laysWay_113 : decode cX9_laysWay 113 = .ok (.iastore, 1) := by decide +kernel
theorem dX9_laysWay_114 : decode cX9_laysWay 114 = .ok (.iinc 3 (-1), 3) := by decide +kernel
theorem dX9_laysWay_117 : decode cX9_laysWay 117 = .ok (.goto (-62), 3) := by decide +kernel
theorem dX9_laysWay_120 : decode cX9_laysWay 120 = .ok (.iinc 2 (-1), 3) := by decide +kernel
theorem dX9_laysWay_123 : decode cX9_laysWay 123 = .ok (.goto (-88), 3) := by decide +kernel
theorem dX9_laysWay_126 : decode cX9_laysWay 126 = .ok (.aload_n 0, 1) := by decide +kernel
theorem dX9_laysWay_127 : decode cX9_laysWay 127 = .ok (.invokevirtual 228, 3) := by decide +kernel
theorem dX9_laysWay_130 : decode cX9_laysWay 130 = .ok (.pop, 1) := by decide +kernel
theorem dX9_laysWay_131 : decode cX9_laysWay 131 = .ok (.return_, 1) := by decide +kernel
theorem dX9_partner_0 : decode cX9_partner 0 = .ok (.aload_n 0, 1) := by decide +kernel
theorem dX9_partner_1 : decode cX9_partner 1 = .ok (.iload_n 1, 1) := by decide +kernel
theorem dX9_partner_2 : decode cX9_partner 2 = .ok (.iload_n 2, 1) := by decide +kernel
theorem dX9_partner_3 : decode cX9_partner 3 = .ok (.invokevirtual 184, 3) := by decide +kernel
theorem dX9_partner_6 : decode cX9_partner 6 = .ok (.ifCond .ne 5, 3) := by decide +kernel
theorem dX9_partner_9 : decode cX9_partner 9 = .ok (.iconst (-1), 1) := by decide +kernel
theorem dX9_partner_10 : decode cX9_partner 10 = .ok (.ireturn, 1) := by decide +kernel
theorem dX9_partner_11 : decode cX9_partner 11 = .ok (.aload_n 0, 1) := by decide +kernel
theorem dX9_partner_12 : decode cX9_partner 12 = .ok (.invokevirtual 224, 3) := by decide +kernel
theorem dX9_partner_15 : decode cX9_partner 15 = .ok (.ifCond .ne 6, 3) := by decide +kernel
theorem dX9_partner_18 : decode cX9_partner 18 = .ok (.bipush (-4), 2) := by decide +kernel
theorem dX9_partner_20 : decode cX9_partner 20 = .ok (.ireturn, 1) := by decide +kernel
theorem dX9_partner_21 : decode cX9_partner 21 = .ok (.aload_n 0, 1) := by decide +kernel
theorem dX9_partner_22 : decode cX9_partner 22 = .ok (.invokevirtual 238, 3) := by decide +kernel
theorem dX9_partner_25 : decode cX9_partner 25 = .ok (.iload_n 1, 1) := by decide +kernel
theorem dX9_partner_26 : decode cX9_partner 26 = .ok (.ifCond .ne 12, 3) := by decide +kernel
theorem dX9_partner_29 : decode cX9_partner 29 = .ok (.aload_n 0, 1) := by decide +kernel
theorem dX9_partner_30 : decode cX9_partner 30 = .ok (.getfield 74, 3) := by decide +kernel
theorem dX9_partner_33 : decode cX9_partner 33 = .ok (.iload_n 2, 1) := by decide +kernel
theorem dX9_partner_34 : decode cX9_partner 34 = .ok (.iaload, 1) := by decide +kernel
theorem dX9_partner_35 : decode cX9_partner 35 = .ok (.goto 9, 3) := by decide +kernel
theorem dX9_partner_38 : decode cX9_partner 38 = .ok (.aload_n 0, 1) := by decide +kernel
theorem dX9_partner_39 : decode cX9_partner 39 = .ok (.getfield 77, 3) := by decide +kernel
theorem dX9_partner_42 : decode cX9_partner 42 = .ok (.iload_n 2, 1) := by decide +kernel
theorem dX9_partner_43 : decode cX9_partner 43 = .ok (.iaload, 1) := by decide +kernel
theorem dX9_partner_44 : decode cX9_partner 44 = .ok (.ireturn, 1) := by decide +kernel
theorem dX9_steps_0 : decode cX9_steps 0 = .ok (.aload_n 0, 1) := by decide +kernel
theorem dX9_steps_1 : decode cX9_steps 1 = .ok (.getfield 80, 3) := by decide +kernel
theorem dX9_steps_4 : decode cX9_steps 4 = .ok (.iconst 3, 1) := by decide +kernel
theorem dX9_steps_5 : decode cX9_steps 5 = .ok (.aload_n 0, 1) := by decide +kernel
theorem dX9_steps_6 : decode cX9_steps 6 = .ok (.getfield 241, 3) := by decide +kernel
theorem dX9_steps_9 : decode cX9_steps 9 = .ok (.imul, 1) := by decide +kernel
theorem dX9_steps_10 : decode cX9_steps 10 = .ok (.iload_n 1, 1) := by decide +kernel
theorem dX9_steps_11 : decode cX9_steps 11 = .ok (.iastore, 1) := by decide +kernel
theorem dX9_steps_12 : decode cX9_steps 12 = .ok (.aload_n 0, 1) := by decide +kernel
theorem dX9_steps_13 : decode cX9_steps 13 = .ok (.getfield 80, 3) := by decide +kernel
theorem dX9_steps_16 : decode cX9_steps 16 = .ok (.iconst 3, 1) := by decide +kernel
theorem dX9_steps_17 : decode cX9_steps 17 = .ok (.aload_n 0, 1) := by decide +kernel
theorem dX9_steps_18 : decode cX9_steps 18 = .ok (.getfield 241, 3) := by decide +kernel
theorem dX9_steps_21 : decode cX9_steps 21 = .ok (.imul, 1) := by decide +kernel
theorem dX9_steps_22 : decode cX9_steps 22 = .ok (.iconst 1, 1) := by decide +kernel
theorem dX9_steps_23 : decode cX9_steps 23 = .ok (.iadd, 1) := by decide +kernel
theorem dX9_steps_24 : decode cX9_steps 24 = .ok (.iload_n 2, 1) := by decide +kernel
theorem dX9_steps_25 : decode cX9_steps 25 = .ok (.iastore, 1) := by decide +kernel
theorem dX9_steps_26 : decode cX9_steps 26 = .ok (.aload_n 0, 1) := by decide +kernel
theorem dX9_steps_27 : decode cX9_steps 27 = .ok (.getfield 80, 3) := by decide +kernel
theorem dX9_steps_30 : decode cX9_steps 30 = .ok (.iconst 3, 1) := by decide +kernel
theorem dX9_steps_31 : decode cX9_steps 31 = .ok (.aload_n 0, 1) := by decide +kernel
theorem dX9_steps_32 : decode cX9_steps 32 = .ok (.getfield 241, 3) := by decide +kernel
theorem dX9_steps_35 : decode cX9_steps 35 = .ok (.imul, 1) := by decide +kernel
theorem dX9_steps_36 : decode cX9_steps 36 = .ok (.iconst 2, 1) := by decide +kernel
theorem dX9_steps_37 : decode cX9_steps 37 = .ok (.iadd, 1) := by decide +kernel
theorem dX9_steps_38 : decode cX9_steps 38 = .ok (.iload_n 3, 1) := by decide +kernel
theorem dX9_steps_39 : decode cX9_steps 39 = .ok (.iastore, 1) := by decide +kernel
theorem dX9_steps_40 : decode cX9_steps 40 = .ok (.aload_n 0, 1) := by decide +kernel
theorem dX9_steps_41 : decode cX9_steps 41 = .ok (.dup, 1) := by decide +kernel
theorem dX9_steps_42 : decode cX9_steps 42 = .ok (.getfield 241, 3) := by decide +kernel
theorem dX9_steps_45 : decode cX9_steps 45 = .ok (.iconst 1, 1) := by decide +kernel
theorem dX9_steps_46 : decode cX9_steps 46 = .ok (.iadd, 1) := by decide +kernel
theorem dX9_steps_47 : decode cX9_steps 47 = .ok (.putfield 241, 3) := by decide +kernel
theorem dX9_steps_50 : decode cX9_steps 50 = .ok (.return_, 1) := by decide +kernel
theorem dX9_laysSteps_0 : decode cX9_laysSteps 0 = .ok (.aload_n 0, 1) := by decide +kernel
theorem dX9_laysSteps_1 : decode cX9_laysSteps 1 = .ok (.invokevirtual 238, 3) := by decide +kernel
theorem dX9_laysSteps_4 : decode cX9_laysSteps 4 = .ok (.aload_n 0, 1) := by decide +kernel
theorem dX9_laysSteps_5 : decode cX9_laysSteps 5 = .ok (.iconst 0, 1) := by decide +kernel
theorem dX9_laysSteps_6 : decode cX9_laysSteps 6 = .ok (.putfield 241, 3) := by decide +kernel
theorem dX9_laysSteps_9 : decode cX9_laysSteps 9 = .ok (.iconst 0, 1) := by decide +kernel
theorem dX9_laysSteps_10 : decode cX9_laysSteps 10 = .ok (.istore_n 1, 1) := by decide +kernel
theorem dX9_laysSteps_11 : decode cX9_laysSteps 11 = .ok (.iload_n 1, 1) := by decide +kernel
theorem dX9_laysSteps_12 : decode cX9_laysSteps 12 = .ok (.aload_n 0, 1) := by decide +kernel
theorem dX9_laysSteps_13 : decode cX9_laysSteps 13 = .ok (.iconst 0, 1) := by decide +kernel
theorem dX9_laysSteps_14 : decode cX9_laysSteps 14 = .ok (.invokevirtual 119, 3) := by decide +kernel
theorem dX9_laysSteps_17 : decode cX9_laysSteps 17 = .ok (.if_icmp .ge 32, 3) := by decide +kernel
theorem dX9_laysSteps_20 : decode cX9_laysSteps 20 = .ok (.aload_n 0, 1) := by decide +kernel
theorem dX9_laysSteps_21 : decode cX9_laysSteps 21 = .ok (.getfield 74, 3) := by decide +kernel
theorem dX9_laysSteps_24 : decode cX9_laysSteps 24 = .ok (.iload_n 1, 1) := by decide +kernel
theorem dX9_laysSteps_25 : decode cX9_laysSteps 25 = .ok (.iaload, 1) := by decide +kernel
theorem dX9_laysSteps_26 : decode cX9_laysSteps 26 = .ok (.bipush (-9), 2) := by decide +kernel
theorem dX9_laysSteps_28 : decode cX9_laysSteps 28 = .ok (.if_icmp .ne 15, 3) := by decide +kernel
theorem dX9_laysSteps_31 : decode cX9_laysSteps 31 = .ok (.aload_n 0, 1) := by decide +kernel
theorem dX9_laysSteps_32 : decode cX9_laysSteps 32 = .ok (.iconst 0, 1) := by decide +kernel
theorem dX9_laysSteps_33 : decode cX9_laysSteps 33 = .ok (.iload_n 1, 1) := by decide +kernel
theorem dX9_laysSteps_34 : decode cX9_laysSteps 34 = .ok (.aload_n 0, 1) := by decide +kernel
theorem dX9_laysSteps_35 : decode cX9_laysSteps 35 = .ok (.getfield 59, 3) := by decide +kernel
theorem dX9_laysSteps_38 : decode cX9_laysSteps 38 = .ok (.iload_n 1, 1) := by decide +kernel
theorem dX9_laysSteps_39 : decode cX9_laysSteps 39 = .ok (.iaload, 1) := by decide +kernel
theorem dX9_laysSteps_40 : decode cX9_laysSteps 40 = .ok (.invokevirtual 244, 3) := by decide +kernel
theorem dX9_laysSteps_43 : decode cX9_laysSteps 43 = .ok (.iinc 1 1, 3) := by decide +kernel
theorem dX9_laysSteps_46 : decode cX9_laysSteps 46 = .ok (.goto (-35), 3) := by decide +kernel
theorem dX9_laysSteps_49 : decode cX9_laysSteps 49 = .ok (.iconst 0, 1) := by decide +kernel
theorem dX9_laysSteps_50 : decode cX9_laysSteps 50 = .ok (.istore_n 1, 1) := by decide +kernel
theorem dX9_laysSteps_51 : decode cX9_laysSteps 51 = .ok (.iload_n 1, 1) := by decide +kernel
theorem dX9_laysSteps_52 : decode cX9_laysSteps 52 = .ok (.aload_n 0, 1) := by decide +kernel
theorem dX9_laysSteps_53 : decode cX9_laysSteps 53 = .ok (.iconst 0, 1) := by decide +kernel
theorem dX9_laysSteps_54 : decode cX9_laysSteps 54 = .ok (.invokevirtual 119, 3) := by decide +kernel
theorem dX9_laysSteps_57 : decode cX9_laysSteps 57 = .ok (.if_icmp .ge 62, 3) := by decide +kernel
theorem dX9_laysSteps_60 : decode cX9_laysSteps 60 = .ok (.aload_n 0, 1) := by decide +kernel
theorem dX9_laysSteps_61 : decode cX9_laysSteps 61 = .ok (.getfield 74, 3) := by decide +kernel
theorem dX9_laysSteps_64 : decode cX9_laysSteps 64 = .ok (.iload_n 1, 1) := by decide +kernel
theorem dX9_laysSteps_65 : decode cX9_laysSteps 65 = .ok (.iaload, 1) := by decide +kernel
theorem dX9_laysSteps_66 : decode cX9_laysSteps 66 = .ok (.bipush (-9), 2) := by decide +kernel
theorem dX9_laysSteps_68 : decode cX9_laysSteps 68 = .ok (.if_icmp .eq 45, 3) := by decide +kernel
theorem dX9_laysSteps_71 : decode cX9_laysSteps 71 = .ok (.aload_n 0, 1) := by decide +kernel
theorem dX9_laysSteps_72 : decode cX9_laysSteps 72 = .ok (.iconst 0, 1) := by decide +kernel
theorem dX9_laysSteps_73 : decode cX9_laysSteps 73 = .ok (.iload_n 1, 1) := by decide +kernel
theorem dX9_laysSteps_74 : decode cX9_laysSteps 74 = .ok (.invokevirtual 169, 3) := by decide +kernel
theorem dX9_laysSteps_77 : decode cX9_laysSteps 77 = .ok (.aload_n 0, 1) := by decide +kernel
theorem dX9_laysSteps_78 : decode cX9_laysSteps 78 = .ok (.iconst 1, 1) := by decide +kernel
theorem dX9_laysSteps_79 : decode cX9_laysSteps 79 = .ok (.aload_n 0, 1) := by decide +kernel
theorem dX9_laysSteps_80 : decode cX9_laysSteps 80 = .ok (.getfield 74, 3) := by decide +kernel
theorem dX9_laysSteps_83 : decode cX9_laysSteps 83 = .ok (.iload_n 1, 1) := by decide +kernel
theorem dX9_laysSteps_84 : decode cX9_laysSteps 84 = .ok (.iaload, 1) := by decide +kernel
theorem dX9_laysSteps_85 : decode cX9_laysSteps 85 = .ok (.invokevirtual 169, 3) := by decide +kernel
theorem dX9_laysSteps_88 : decode cX9_laysSteps 88 = .ok (.if_icmp .eq 25, 3) := by decide +kernel
theorem dX9_laysSteps_91 : decode cX9_laysSteps 91 = .ok (.aload_n 0, 1) := by decide +kernel
theorem dX9_laysSteps_92 : decode cX9_laysSteps 92 = .ok (.iconst 1, 1) := by decide +kernel
theorem dX9_laysSteps_93 : decode cX9_laysSteps 93 = .ok (.iload_n 1, 1) := by decide +kernel
theorem dX9_laysSteps_94 : decode cX9_laysSteps 94 = .ok (.aload_n 0, 1) := by decide +kernel
theorem dX9_laysSteps_95 : decode cX9_laysSteps 95 = .ok (.getfield 65, 3) := by decide +kernel
theorem dX9_laysSteps_98 : decode cX9_laysSteps 98 = .ok (.bipush 12, 2) := by decide +kernel
theorem dX9_laysSteps_100 : decode cX9_laysSteps 100 = .ok (.iload_n 1, 1) := by decide +kernel
theorem dX9_laysSteps_101 : decode cX9_laysSteps 101 = .ok (.imul, 1) := by decide +kernel
theorem dX9_laysSteps_102 : decode cX9_laysSteps 102 = .ok (.aload_n 0, 1) := by decide +kernel
theorem dX9_laysSteps_103 : decode cX9_laysSteps 103 = .ok (.getfield 74, 3) := by decide +kernel
theorem dX9_laysSteps_106 : decode cX9_laysSteps 106 = .ok (.iload_n 1, 1) := by decide +kernel
theorem dX9_laysSteps_107 : decode cX9_laysSteps 107 = .ok (.iaload, 1) := by decide +kernel
theorem dX9_laysSteps_108 : decode cX9_laysSteps 108 = .ok (.iadd, 1) := by decide +kernel
theorem dX9_laysSteps_109 : decode cX9_laysSteps 109 = .ok (.iaload, 1) := by decide +kernel
theorem dX9_laysSteps_110 : decode cX9_laysSteps 110 = .ok (.invokevirtual 244, 3) := by decide +kernel
theorem dX9_laysSteps_113 : decode cX9_laysSteps 113 = .ok (.iinc 1 1, 3) := by decide +kernel
theorem dX9_laysSteps_116 : decode cX9_laysSteps 116 = .ok (.goto (-65), 3) := by decide +kernel
theorem dX9_laysSteps_119 : decode cX9_laysSteps 119 = .ok (.aload_n 0, 1) := by decide +kernel
theorem dX9_laysSteps_120 : decode cX9_laysSteps 120 = .ok (.iconst 1, 1) := by decide +kernel
theorem dX9_laysSteps_121 : decode cX9_laysSteps 121 = .ok (.invokevirtual 119, 3) := by decide +kernel
theorem dX9_laysSteps_124 : decode cX9_laysSteps 124 = .ok (.iconst 1, 1) := by decide +kernel
theorem dX9_laysSteps_125 : decode cX9_laysSteps 125 = .ok (.isub, 1) := by decide +kernel
theorem dX9_laysSteps_126 : decode cX9_laysSteps 126 = .ok (.istore_n 1, 1) := by decide +kernel
theorem dX9_laysSteps_127 : decode cX9_laysSteps 127 = .ok (.iload_n 1, 1) := by decide +kernel
theorem dX9_laysSteps_128 : decode cX9_laysSteps 128 = .ok (.ifCond .lt 32, 3) := by decide +kernel
theorem dX9_laysSteps_131 : decode cX9_laysSteps 131 = .ok (.aload_n 0, 1) := by decide +kernel
theorem dX9_laysSteps_132 : decode cX9_laysSteps 132 = .ok (.getfield 77, 3) := by decide +kernel
theorem dX9_laysSteps_135 : decode cX9_laysSteps 135 = .ok (.iload_n 1, 1) := by decide +kernel
theorem dX9_laysSteps_136 : decode cX9_laysSteps 136 = .ok (.iaload, 1) := by decide +kernel
theorem dX9_laysSteps_137 : decode cX9_laysSteps 137 = .ok (.bipush (-9), 2) := by decide +kernel
theorem dX9_laysSteps_139 : decode cX9_laysSteps 139 = .ok (.if_icmp .ne 15, 3) := by decide +kernel
theorem dX9_laysSteps_142 : decode cX9_laysSteps 142 = .ok (.aload_n 0, 1) := by decide +kernel
theorem dX9_laysSteps_143 : decode cX9_laysSteps 143 = .ok (.iconst 2, 1) := by decide +kernel
theorem dX9_laysSteps_144 : decode cX9_laysSteps 144 = .ok (.iload_n 1, 1) := by decide +kernel
theorem dX9_laysSteps_145 : decode cX9_laysSteps 145 = .ok (.aload_n 0, 1) := by decide +kernel
theorem dX9_laysSteps_146 : decode cX9_laysSteps 146 = .ok (.getfield 62, 3) := by decide +kernel
theorem dX9_laysSteps_149 : decode cX9_laysSteps 149 = .ok (.iload_n 1, 1) := by decide +kernel
theorem dX9_laysSteps_150 : decode cX9_laysSteps 150 = .ok (.iaload, 1) := by decide +kernel
theorem dX9_laysSteps_151 : decode cX9_laysSteps 151 = .ok (.invokevirtual 244, 3) := by decide +kernel
theorem dX9_laysSteps_154 : decode cX9_laysSteps 154 = .ok (.iinc 1 (-1), 3) := by decide +kernel
theorem dX9_laysSteps_157 : decode cX9_laysSteps 157 = .ok (.goto (-30), 3) := by decide +kernel
theorem dX9_laysSteps_160 : decode cX9_laysSteps 160 = .ok (.return_, 1) := by decide +kernel
theorem dX9_step_0 : decode cX9_step 0 = .ok (.iload_n 1, 1) := by decide +kernel
theorem dX9_step_1 : decode cX9_step 1 = .ok (.ifCond .lt 12, 3) := by decide +kernel
theorem dX9_step_4 : decode cX9_step 4 = .ok (.iload_n 2, 1) := by decide +kernel
theorem dX9_step_5 : decode cX9_step 5 = .ok (.iconst 0, 1) := by decide +kernel
theorem dX9_step_6 : decode cX9_step 6 = .ok (.iconst 2, 1) := by decide +kernel
theorem dX9_step_7 : decode cX9_step 7 = .ok (.invokestatic 90, 3) := by decide +kernel
theorem dX9_step_10 : decode cX9_step 10 = .ok (.ifCond .ne 5, 3) := by decide +kernel
theorem dX9_step_13 : decode cX9_step 13 = .ok (.iconst (-1), 1) := by decide +kernel
theorem dX9_step_14 : decode cX9_step 14 = .ok (.ireturn, 1) := by decide +kernel
theorem dX9_step_15 : decode cX9_step 15 = .ok (.aload_n 0, 1) := by decide +kernel
theorem dX9_step_16 : decode cX9_step 16 = .ok (.invokevirtual 224, 3) := by decide +kernel
theorem dX9_step_19 : decode cX9_step 19 = .ok (.ifCond .ne 6, 3) := by decide +kernel
theorem dX9_step_22 : decode cX9_step 22 = .ok (.bipush (-4), 2) := by decide +kernel
theorem dX9_step_24 : decode cX9_step 24 = .ok (.ireturn, 1) := by decide +kernel
theorem dX9_step_25 : decode cX9_step 25 = .ok (.aload_n 0, 1) := by decide +kernel
theorem dX9_step_26 : decode cX9_step 26 = .ok (.invokevirtual 247, 3) := by decide +kernel
theorem dX9_step_29 : decode cX9_step 29 = .ok (.iload_n 1, 1) := by decide +kernel
theorem dX9_step_30 : decode cX9_step 30 = .ok (.aload_n 0, 1) := by decide +kernel
theorem dX9_step_31 : decode cX9_step 31 = .ok (.getfield 241, 3) := by decide +kernel
theorem dX9_step_34 : decode cX9_step 34 = .ok (.if_icmp .ge 21, 3) := by decide +kernel
theorem dX9_step_37 : decode cX9_step 37 = .ok (.aload_n 0, 1) := by decide +kernel
theorem dX9_step_38 : decode cX9_step 38 = .ok (.aload_n 0, 1) := by decide +kernel
theorem dX9_step_39 : decode cX9_step 39 = .ok (.getfield 80, 3) := by decide +kernel
theorem dX9_step_42 : decode cX9_step 42 = .ok (.iconst 3, 1) := by decide +kernel
theorem dX9_step_43 : decode cX9_step 43 = .ok (.iload_n 1, 1) := by decide +kernel
theorem dX9_step_44 : decode cX9_step 44 = .ok (.imul, 1) := by decide +kernel
theorem dX9_step_45 : decode cX9_step 45 = .ok (.iload_n 2, 1) := by decide +kernel
theorem dX9_step_46 : decode cX9_step 46 = .ok (.iadd, 1) := by decide +kernel
theorem dX9_step_47 : decode cX9_step 47 = .ok (.iaload, 1) := by decide +kernel
theorem dX9_step_48 : decode cX9_step 48 = .ok (.iconst 1, 1) := by decide +kernel
theorem dX9_step_49 : decode cX9_step 49 = .ok (.invokevirtual 110, 3) := by decide +kernel
theorem dX9_step_52 : decode cX9_step 52 = .ok (.goto 5, 3) := by decide +kernel
theorem dX9_step_55 : decode cX9_step 55 = .ok (.bipush (-9), 2) := by decide +kernel
theorem dX9_step_57 : decode cX9_step 57 = .ok (.ireturn, 1) := by decide +kernel
theorem dX9_behind_0 : decode cX9_behind 0 = .ok (.iload_n 1, 1) := by decide +kernel
theorem dX9_behind_1 : decode cX9_behind 1 = .ok (.ifCond .lt 10, 3) := by decide +kernel
theorem dX9_behind_4 : decode cX9_behind 4 = .ok (.iload_n 2, 1) := by decide +kernel
theorem dX9_behind_5 : decode cX9_behind 5 = .ok (.invokestatic 113, 3) := by decide +kernel
theorem dX9_behind_8 : decode cX9_behind 8 = .ok (.ifCond .ne 5, 3) := by decide +kernel
theorem dX9_behind_11 : decode cX9_behind 11 = .ok (.iconst (-1), 1) := by decide +kernel
theorem dX9_behind_12 : decode cX9_behind 12 = .ok (.ireturn, 1) := by decide +kernel
theorem dX9_behind_13 : decode cX9_behind 13 = .ok (.aload_n 0, 1) := by decide +kernel
theorem dX9_behind_14 : decode cX9_behind 14 = .ok (.invokevirtual 224, 3) := by decide +kernel
theorem dX9_behind_17 : decode cX9_behind 17 = .ok (.ifCond .ne 6, 3) := by decide +kernel
theorem dX9_behind_20 : decode cX9_behind 20 = .ok (.bipush (-4), 2) := by decide +kernel
theorem dX9_behind_22 : decode cX9_behind 22 = .ok (.ireturn, 1) := by decide +kernel
theorem dX9_behind_23 : decode cX9_behind 23 = .ok (.aload_n 0, 1) := by decide +kernel
theorem dX9_behind_24 : decode cX9_behind 24 = .ok (.invokevirtual 247, 3) := by decide +kernel
theorem dX9_behind_27 : decode cX9_behind 27 = .ok (.iload_n 1, 1) := by decide +kernel
theorem dX9_behind_28 : decode cX9_behind 28 = .ok (.aload_n 0, 1) := by decide +kernel
theorem dX9_behind_29 : decode cX9_behind 29 = .ok (.getfield 241, 3) := by decide +kernel
theorem dX9_behind_32 : decode cX9_behind 32 = .ok (.if_icmp .le 6, 3) := by decide +kernel
theorem dX9_behind_35 : decode cX9_behind 35 = .ok (.bipush (-6), 2) := by decide +kernel
theorem dX9_behind_37 : decode cX9_behind 37 = .ok (.ireturn, 1) := by decide +kernel
theorem dX9_behind_38 : decode cX9_behind 38 = .ok (.iload_n 1, 1) := by decide +kernel
theorem dX9_behind_39 : decode cX9_behind 39 = .ok (.ifCond .le 21, 3) := by decide +kernel
theorem dX9_behind_42 : decode cX9_behind 42 = .ok (.aload_n 0, 1) := by decide +kernel
theorem dX9_behind_43 : decode cX9_behind 43 = .ok (.getfield 80, 3) := by decide +kernel
theorem dX9_behind_46 : decode cX9_behind 46 = .ok (.iconst 3, 1) := by decide +kernel
theorem dX9_behind_47 : decode cX9_behind 47 = .ok (.iload_n 1, 1) := by decide +kernel
theorem dX9_behind_48 : decode cX9_behind 48 = .ok (.imul, 1) := by decide +kernel
theorem dX9_behind_49 : decode cX9_behind 49 = .ok (.iconst 3, 1) := by decide +kernel
theorem dX9_behind_50 : decode cX9_behind 50 = .ok (.isub, 1) := by decide +kernel
theorem dX9_behind_51 : decode cX9_behind 51 = .ok (.iaload, 1) := by decide +kernel
theorem dX9_behind_52 : decode cX9_behind 52 = .ok (.iconst 2, 1) := by decide +kernel
theorem dX9_behind_53 : decode cX9_behind 53 = .ok (.if_icmp .ne 7, 3) := by decide +kernel
theorem dX9_behind_56 : decode cX9_behind 56 = .ok (.iconst 1, 1) := by decide +kernel
theorem dX9_behind_57 : decode cX9_behind 57 = .ok (.goto 4, 3) := by decide +kernel
theorem dX9_behind_60 : decode cX9_behind 60 = .ok (.iconst 0, 1) := by decide +kernel
theorem dX9_behind_61 : decode cX9_behind 61 = .ok (.istore_n 3, 1) := by decide +kernel
theorem dX9_behind_62 : decode cX9_behind 62 = .ok (.iconst 1, 1) := by decide +kernel
theorem dX9_behind_63 : decode cX9_behind 63 = .ok (.aload_n 0, 1) := by decide +kernel
theorem dX9_behind_64 : decode cX9_behind 64 = .ok (.iconst 0, 1) := by decide +kernel
theorem dX9_behind_65 : decode cX9_behind 65 = .ok (.invokevirtual 119, 3) := by decide +kernel
theorem dX9_behind_68 : decode cX9_behind 68 = .ok (.ishl, 1) := by decide +kernel
theorem dX9_behind_69 : decode cX9_behind 69 = .ok (.iconst 1, 1) := by decide +kernel
theorem dX9_behind_70 : decode cX9_behind 70 = .ok (.isub, 1) := by decide +kernel
theorem dX9_behind_71 : decode cX9_behind 71 = .ok (.istore 4, 2) := by decide +kernel
theorem dX9_behind_73 : decode cX9_behind 73 = .ok (.iload_n 3, 1) := by decide +kernel
theorem dX9_behind_74 : decode cX9_behind 74 = .ok (.iconst 1, 1) := by decide +kernel
