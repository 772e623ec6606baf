theorem dX11_weighs_33 : decode cX11_weighs 33 = .ok (.getfield 327, 3) := by decide +kernel
theorem dX11_weighs_36 : decode cX11_weighs 36 = .ok (.iload 6, 2) := by decide +kernel
theorem dX11_weighs_38 : decode cX11_weighs 38 = .ok (.iaload, 1) := by decide +kernel
theorem dX11_weighs_39 : decode cX11_weighs 39 = .ok (.iload_n 1, 1) := by decide +kernel
theorem dX11_weighs_40 : decode cX11_weighs 40 = .ok (.if_icmp .ge 64, 3) := by decide +kernel
theorem dX11_weighs_43 : decode cX11_weighs 43 = .ok (.aload_n 0, 1) := by decide +kernel
theorem dX11_weighs_44 : decode cX11_weighs 44 = .ok (.getfield 371, 3) := by decide +kernel
theorem dX11_weighs_47 : decode cX11_weighs 47 = .ok (.bipush 20, 2) := by decide +kernel
theorem dX11_weighs_49 : decode cX11_weighs 49 = .ok (.iload 6, 2) := by decide +kernel
theorem dX11_weighs_51 : decode cX11_weighs 51 = .ok (.imul, 1) := by decide +kernel
theorem dX11_weighs_52 : decode cX11_weighs 52 = .ok (.iload 7, 2) := by decide +kernel
theorem dX11_weighs_54 : decode cX11_weighs 54 = .ok (.iadd, 1) := by decide +kernel
theorem dX11_weighs_55 : decode cX11_weighs 55 = .ok (.aload_n 0, 1) := by decide +kernel
theorem dX11_weighs_56 : decode cX11_weighs 56 = .ok (.iload 6, 2) := by decide +kernel
theorem dX11_weighs_58 : decode cX11_weighs 58 = .ok (.iload 7, 2) := by decide +kernel
theorem dX11_weighs_60 : decode cX11_weighs 60 = .ok (.invokevirtual 333, 3) := by decide +kernel
theorem dX11_weighs_63 : decode cX11_weighs 63 = .ok (.iastore, 1) := by decide +kernel
theorem dX11_weighs_64 : decode cX11_weighs 64 = .ok (.aload_n 0, 1) := by decide +kernel
theorem dX11_weighs_65 : decode cX11_weighs 65 = .ok (.getfield 374, 3) := by decide +kernel
theorem dX11_weighs_68 : decode cX11_weighs 68 = .ok (.bipush 20, 2) := by decide +kernel
theorem dX11_weighs_70 : decode cX11_weighs 70 = .ok (.iload 6, 2) := by decide +kernel
theorem dX11_weighs_72 : decode cX11_weighs 72 = .ok (.imul, 1) := by decide +kernel
theorem dX11_weighs_73 : decode cX11_weighs 73 = .ok (.iload 7, 2) := by decide +kernel
theorem dX11_weighs_75 : decode cX11_weighs 75 = .ok (.iadd, 1) := by decide +kernel
theorem dX11_weighs_76 : decode cX11_weighs 76 = .ok (.aload_n 0, 1) := by decide +kernel
theorem dX11_weighs_77 : decode cX11_weighs 77 = .ok (.invokevirtual 356, 3) := by decide +kernel
theorem dX11_weighs_80 : decode cX11_weighs 80 = .ok (.bastore, 1) := by decide +kernel
theorem dX11_weighs_81 : decode cX11_weighs 81 = .ok (.aload_n 0, 1) := by decide +kernel
theorem dX11_weighs_82 : decode cX11_weighs 82 = .ok (.getfield 378, 3) := by decide +kernel
theorem dX11_weighs_85 : decode cX11_weighs 85 = .ok (.bipush 20, 2) := by decide +kernel
theorem dX11_weighs_87 : decode cX11_weighs 87 = .ok (.iload 6, 2) := by decide +kernel
theorem dX11_weighs_89 : decode cX11_weighs 89 = .ok (.imul, 1) := by decide +kernel
theorem dX11_weighs_90 : decode cX11_weighs 90 = .ok (.iload 7, 2) := by decide +kernel
theorem dX11_weighs_92 : decode cX11_weighs 92 = .ok (.iadd, 1) := by decide +kernel
theorem dX11_weighs_93 : decode cX11_weighs 93 = .ok (.aload_n 0, 1) := by decide +kernel
theorem dX11_weighs_94 : decode cX11_weighs 94 = .ok (.getfield 179, 3) := by decide +kernel
theorem dX11_weighs_97 : decode cX11_weighs 97 = .ok (.iastore, 1) := by decide +kernel
theorem dX11_weighs_98 : decode cX11_weighs 98 = .ok (.iinc 7 1, 3) := by decide +kernel
theorem dX11_weighs_101 : decode cX11_weighs 101 = .ok (.goto (-76), 3) := by decide +kernel
theorem dX11_weighs_104 : decode cX11_weighs 104 = .ok (.iinc 6 1, 3) := by decide +kernel
theorem dX11_weighs_107 : decode cX11_weighs 107 = .ok (.goto (-92), 3) := by decide +kernel
theorem dX11_weighs_110 : decode cX11_weighs 110 = .ok (.iconst 0, 1) := by decide +kernel
theorem dX11_weighs_111 : decode cX11_weighs 111 = .ok (.istore 6, 2) := by decide +kernel
theorem dX11_weighs_113 : decode cX11_weighs 113 = .ok (.iload 6, 2) := by decide +kernel
theorem dX11_weighs_115 : decode cX11_weighs 115 = .ok (.iconst 4, 1) := by decide +kernel
theorem dX11_weighs_116 : decode cX11_weighs 116 = .ok (.iload 4, 2) := by decide +kernel
theorem dX11_weighs_118 : decode cX11_weighs 118 = .ok (.imul, 1) := by decide +kernel
theorem dX11_weighs_119 : decode cX11_weighs 119 = .ok (.if_icmp .ge 17, 3) := by decide +kernel
theorem dX11_weighs_122 : decode cX11_weighs 122 = .ok (.aload_n 0, 1) := by decide +kernel
theorem dX11_weighs_123 : decode cX11_weighs 123 = .ok (.getfield 381, 3) := by decide +kernel
theorem dX11_weighs_126 : decode cX11_weighs 126 = .ok (.iload 6, 2) := by decide +kernel
theorem dX11_weighs_128 : decode cX11_weighs 128 = .ok (.lconst 0, 1) := by decide +kernel
theorem dX11_weighs_129 : decode cX11_weighs 129 = .ok (.lastore, 1) := by decide +kernel
theorem dX11_weighs_130 : decode cX11_weighs 130 = .ok (.iinc 6 1, 3) := by decide +kernel
theorem dX11_weighs_133 : decode cX11_weighs 133 = .ok (.goto (-20), 3) := by decide +kernel
theorem dX11_weighs_136 : decode cX11_weighs 136 = .ok (.aload_n 0, 1) := by decide +kernel
theorem dX11_weighs_137 : decode cX11_weighs 137 = .ok (.getfield 381, 3) := by decide +kernel
theorem dX11_weighs_140 : decode cX11_weighs 140 = .ok (.iconst 0, 1) := by decide +kernel
theorem dX11_weighs_141 : decode cX11_weighs 141 = .ok (.lconst 1, 1) := by decide +kernel
theorem dX11_weighs_142 : decode cX11_weighs 142 = .ok (.lastore, 1) := by decide +kernel
theorem dX11_weighs_143 : decode cX11_weighs 143 = .ok (.iconst 0, 1) := by decide +kernel
theorem dX11_weighs_144 : decode cX11_weighs 144 = .ok (.istore 6, 2) := by decide +kernel
theorem dX11_weighs_146 : decode cX11_weighs 146 = .ok (.iload 6, 2) := by decide +kernel
theorem dX11_weighs_148 : decode cX11_weighs 148 = .ok (.iload_n 1, 1) := by decide +kernel
theorem dX11_weighs_149 : decode cX11_weighs 149 = .ok (.if_icmp .ge 237, 3) := by decide +kernel
theorem dX11_weighs_152 : decode cX11_weighs 152 = .ok (.iconst 0, 1) := by decide +kernel
theorem dX11_weighs_153 : decode cX11_weighs 153 = .ok (.istore 7, 2) := by decide +kernel
theorem dX11_weighs_155 : decode cX11_weighs 155 = .ok (.iload 7, 2) := by decide +kernel
theorem dX11_weighs_157 : decode cX11_weighs 157 = .ok (.iconst 4, 1) := by decide +kernel
theorem dX11_weighs_158 : decode cX11_weighs 158 = .ok (.iload 4, 2) := by decide +kernel
theorem dX11_weighs_160 : decode cX11_weighs 160 = .ok (.imul, 1) := by decide +kernel
theorem dX11_weighs_161 : decode cX11_weighs 161 = .ok (.if_icmp .ge 17, 3) := by decide +kernel
theorem dX11_weighs_164 : decode cX11_weighs 164 = .ok (.aload_n 0, 1) := by decide +kernel
theorem dX11_weighs_165 : decode cX11_weighs 165 = .ok (.getfield 384, 3) := by decide +kernel
theorem dX11_weighs_168 : decode cX11_weighs 168 = .ok (.iload 7, 2) := by decide +kernel
theorem dX11_weighs_170 : decode cX11_weighs 170 = .ok (.lconst 0, 1) := by decide +kernel
theorem dX11_weighs_171 : decode cX11_weighs 171 = .ok (.lastore, 1) := by decide +kernel
theorem dX11_weighs_172 : decode cX11_weighs 172 = .ok (.iinc 7 1, 3) := by decide +kernel
theorem dX11_weighs_175 : decode cX11_weighs 175 = .ok (.goto (-20), 3) := by decide +kernel
theorem dX11_weighs_178 : decode cX11_weighs 178 = .ok (.iconst 0, 1) := by decide +kernel
theorem dX11_weighs_179 : decode cX11_weighs 179 = .ok (.istore 7, 2) := by decide +kernel
theorem dX11_weighs_181 : decode cX11_weighs 181 = .ok (.iload 7, 2) := by decide +kernel
theorem dX11_weighs_183 : decode cX11_weighs 183 = .ok (.iload 4, 2) := by decide +kernel
theorem dX11_weighs_185 : decode cX11_weighs 185 = .ok (.if_icmp .ge 163, 3) := by decide +kernel
theorem dX11_weighs_188 : decode cX11_weighs 188 = .ok (.iconst 0, 1) := by decide +kernel
theorem dX11_weighs_189 : decode cX11_weighs 189 = .ok (.istore 8, 2) := by decide +kernel
theorem dX11_weighs_191 : decode cX11_weighs 191 = .ok (.iload 8, 2) := by decide +kernel
theorem dX11_weighs_193 : decode cX11_weighs 193 = .ok (.iconst 4, 1) := by decide +kernel
theorem dX11_weighs_194 : decode cX11_weighs 194 = .ok (.if_icmp .ge 148, 3) := by decide +kernel
theorem dX11_weighs_197 : decode cX11_weighs 197 = .ok (.aload_n 0, 1) := by decide +kernel
theorem dX11_weighs_198 : decode cX11_weighs 198 = .ok (.getfield 381, 3) := by decide +kernel
theorem dX11_weighs_201 : decode cX11_weighs 201 = .ok (.iconst 4, 1) := by decide +kernel
theorem dX11_weighs_202 : decode cX11_weighs 202 = .ok (.iload 7, 2) := by decide +kernel
theorem dX11_weighs_204 : decode cX11_weighs 204 = .ok (.imul, 1) := by decide +kernel
theorem dX11_weighs_205 : decode cX11_weighs 205 = .ok (.iload 8, 2) := by decide +kernel
theorem dX11_weighs_207 : decode cX11_weighs 207 = .ok (.iadd, 1) := by decide +kernel
theorem dX11_weighs_208 : decode cX11_weighs 208 = .ok (.laload, 1) := by decide +kernel
theorem dX11_weighs_209 : decode cX11_weighs 209 = .ok (.lstore 9, 2) := by decide +kernel
theorem dX11_weighs_211 : decode cX11_weighs 211 = .ok (.iconst 0, 1) := by decide +kernel
theorem dX11_weighs_212 : decode cX11_weighs 212 = .ok (.istore 11, 2) := by decide +kernel
theorem dX11_weighs_214 : decode cX11_weighs 214 = .ok (.iload 11, 2) := by decide +kernel
theorem dX11_weighs_216 : decode cX11_weighs 216 = .ok (.iload 5, 2) := by decide +kernel
theorem dX11_weighs_218 : decode cX11_weighs 218 = .ok (.if_icmp .ge 118, 3) := by decide +kernel
theorem dX11_weighs_221 : decode cX11_weighs 221 = .ok (.lload 9, 2) := by decide +kernel
theorem dX11_weighs_223 : decode cX11_weighs 223 = .ok (.lconst 0, 1) := by decide +kernel
theorem dX11_weighs_224 : decode cX11_weighs 224 = .ok (.lcmp, 1) := by decide +kernel
theorem dX11_weighs_225 : decode cX11_weighs 225 = .ok (.ifCond .le 111, 3) := by decide +kernel
theorem dX11_weighs_228 : decode cX11_weighs 228 = .ok (.iload 8, 2) := by decide +kernel
theorem dX11_weighs_230 : decode cX11_weighs 230 = .ok (.aload_n 0, 1) := by decide +kernel
theorem dX11_weighs_231 : decode cX11_weighs 231 = .ok (.getfield 374, 3) := by decide +kernel
theorem dX11_weighs_234 : decode cX11_weighs 234 = .ok (.bipush 20, 2) := by decide +kernel
theorem dX11_weighs_236 : decode cX11_weighs 236 = .ok (.iload 7, 2) := by decide +kernel
theorem dX11_weighs_238 : decode cX11_weighs 238 = .ok (.imul, 1) := by decide +kernel
theorem dX11_weighs_239 : decode cX11_weighs 239 = .ok (.iload 11, 2) := by decide +kernel
theorem dX11_weighs_241 : decode cX11_weighs 241 = .ok (.iadd, 1) := by decide +kernel
theorem dX11_weighs_242 : decode cX11_weighs 242 = .ok (.baload, 1) := by decide +kernel
theorem dX11_weighs_243 : decode cX11_weighs 243 = .ok (.invokestatic 35, 3) := by decide +kernel
theorem dX11_weighs_246 : decode cX11_weighs 246 = .ok (.ior, 1) := by decide +kernel
theorem dX11_weighs_247 : decode cX11_weighs 247 = .ok (.aload_n 0, 1) := by decide +kernel
theorem dX11_weighs_248 : decode cX11_weighs 248 = .ok (.getfield 378, 3) := by decide +kernel
theorem dX11_weighs_251 : decode cX11_weighs 251 = .ok (.bipush 20, 2) := by decide +kernel
theorem dX11_weighs_253 : decode cX11_weighs 253 = .ok (.iload 7, 2) := by decide +kernel
theorem dX11_weighs_255 : decode cX11_weighs 255 = .ok (.imul, 1) := by decide +kernel
theorem dX11_weighs_256 : decode cX11_weighs 256 = .ok (.iload 11, 2) := by decide +kernel
theorem dX11_weighs_258 : decode cX11_weighs 258 = .ok (.iadd, 1) := by decide +kernel
theorem dX11_weighs_259 : decode cX11_weighs 259 = .ok (.iaload, 1) := by decide +kernel
theorem dX11_weighs_260 : decode cX11_weighs 260 = .ok (.iload_n 2, 1) := by decide +kernel
theorem dX11_weighs_261 : decode cX11_weighs 261 = .ok (.iconst 1, 1) := by decide +kernel
theorem dX11_weighs_262 : decode cX11_weighs 262 = .ok (.iadd, 1) := by decide +kernel
theorem dX11_weighs_263 : decode cX11_weighs 263 = .ok (.if_icmp .ne 7, 3) := by decide +kernel
theorem dX11_weighs_266 : decode cX11_weighs 266 = .ok (.iconst 2, 1) := by decide +kernel
theorem dX11_weighs_267 : decode cX11_weighs 267 = .ok (.goto 4, 3) := by decide +kernel
theorem dX11_weighs_270 : decode cX11_weighs 270 = .ok (.iconst 0, 1) := by decide +kernel
theorem dX11_weighs_271 : decode cX11_weighs 271 = .ok (.ior, 1) := by decide +kernel
theorem dX11_weighs_272 : decode cX11_weighs 272 = .ok (.istore 12, 2) := by decide +kernel
theorem dX11_weighs_274 : decode cX11_weighs 274 = .ok (.aload_n 0, 1) := by decide +kernel
theorem dX11_weighs_275 : decode cX11_weighs 275 = .ok (.getfield 384, 3) := by decide +kernel
theorem dX11_weighs_278 : decode cX11_weighs 278 = .ok (.iconst 4, 1) := by decide +kernel
theorem dX11_weighs_279 : decode cX11_weighs 279 = .ok (.aload_n 0, 1) := by decide +kernel
theorem dX11_weighs_280 : decode cX11_weighs 280 = .ok (.getfield 371, 3) := by decide +kernel
theorem dX11_weighs_283 : decode cX11_weighs 283 = .ok (.bipush 20, 2) := by decide +kernel
theorem dX11_weighs_285 : decode cX11_weighs 285 = .ok (.iload 7, 2) := by decide +kernel
theorem dX11_weighs_287 : decode cX11_weighs 287 = .ok (.imul, 1) := by decide +kernel
theorem dX11_weighs_288 : decode cX11_weighs 288 = .ok (.iload 11, 2) := by decide +kernel
theorem dX11_weighs_290 : decode cX11_weighs 290 = .ok (.iadd, 1) := by decide +kernel
theorem dX11_weighs_291 : decode cX11_weighs 291 = .ok (.iaload, 1) := by decide +kernel
theorem dX11_weighs_292 : decode cX11_weighs 292 = .ok (.imul, 1) := by decide +kernel
theorem dX11_weighs_293 : decode cX11_weighs 293 = .ok (.iload 12, 2) := by decide +kernel
theorem dX11_weighs_295 : decode cX11_weighs 295 = .ok (.iadd, 1) := by decide +kernel
theorem dX11_weighs_296 : decode cX11_weighs 296 = .ok (.dup2, 1) := by decide +kernel
theorem dX11_weighs_297 : decode cX11_weighs 297 = .ok (.laload, 1) := by decide +kernel
theorem dX11_weighs_298 : decode cX11_weighs 298 = .ok (.lload 9, 2) := by decide +kernel
theorem dX11_weighs_300 : decode cX11_weighs 300 = .ok (.iload_n 3, 1) := by decide +kernel
theorem dX11_weighs_301 : decode cX11_weighs 301 = .ok (.ifCond .ge 7, 3) := by decide +kernel
theorem dX11_weighs_304 : decode cX11_weighs 304 = .ok (.iconst 1, 1) := by decide +kernel
theorem dX11_weighs_305 : decode cX11_weighs 305 = .ok (.goto 21, 3) := by decide +kernel
theorem dX11_weighs_308 : decode cX11_weighs 308 = .ok (.aload_n 0, 1) := by decide +kernel
theorem dX11_weighs_309 : decode cX11_weighs 309 = .ok (.getfield 387, 3) := by decide +kernel
theorem dX11_weighs_312 : decode cX11_weighs 312 = .ok (.iconst 5, 1) := by decide +kernel
theorem dX11_weighs_313 : decode cX11_weighs 313 = .ok (.iload_n 3, 1) := by decide +kernel
theorem dX11_weighs_314 : decode cX11_weighs 314 = .ok (.imul, 1) := by decide +kernel
theorem dX11_weighs_315 : decode cX11_weighs 315 = .ok (.iload 11, 2) := by decide +kernel
theorem dX11_weighs_317 : decode cX11_weighs 317 = .ok (.aload_n 0, 1) := by decide +kernel
theorem dX11_weighs_318 : decode cX11_weighs 318 = .ok (.getfield 239, 3) := by decide +kernel
theorem dX11_weighs_321 : decode cX11_weighs 321 = .ok (.iconst 1, 1) := by decide +kernel
theorem dX11_weighs_322 : decode cX11_weighs 322 = .ok (.iadd, 1) := by decide +kernel
theorem dX11_weighs_323 : decode cX11_weighs 323 = .ok (.irem, 1) := by decide +kernel
theorem dX11_weighs_324 : decode cX11_weighs 324 = .ok (.iadd, 1) := by decide +kernel
theorem dX11_weighs_325 : decode cX11_weighs 325 = .ok (.iaload, 1) := by decide +kernel
theorem dX11_weighs_326 : decode cX11_weighs 326 = .ok (.i2l, 1) := by decide +kernel
theorem dX11_weighs_327 : decode cX11_weighs 327 = .ok (.lmul, 1) := by decide +kernel
theorem dX11_weighs_328 : decode cX11_weighs 328 = .ok (.ladd, 1) := by decide +kernel
theorem dX11_weighs_329 : decode cX11_weighs 329 = .ok (.lastore, 1) := by decide +kernel
theorem dX11_weighs_330 : decode cX11_weighs 330 = .ok (.iinc 11 1, 3) := by decide +kernel
theorem dX11_weighs_333 : decode cX11_weighs 333 = .ok (.goto (-119), 3) := by decide +kernel
theorem dX11_weighs_336 : decode cX11_weighs 336 = .ok (.iinc 8 1, 3) := by decide +kernel
theorem dX11_weighs_339 : decode cX11_weighs 339 = .ok (.goto (-148), 3) := by decide +kernel
theorem dX11_weighs_342 : decode cX11_weighs 342 = .ok (.iinc 7 1, 3) := by decide +kernel
theorem dX11_weighs_345 : decode cX11_weighs 345 = .ok (.goto (-164), 3) := by decide +kernel
theorem dX11_weighs_348 : decode cX11_weighs 348 = .ok (.iconst 0, 1) := by decide +kernel
theorem dX11_weighs_349 : decode cX11_weighs 349 = .ok (.istore 7, 2) := by decide +kernel
theorem dX11_weighs_351 : decode cX11_weighs 351 = .ok (.iload 7, 2) := by decide +kernel
theorem dX11_weighs_353 : decode cX11_weighs 353 = .ok (.iconst 4, 1) := by decide +kernel
theorem dX11_weighs_354 : decode cX11_weighs 354 = .ok (.iload 4, 2) := by decide +kernel
theorem dX11_weighs_356 : decode cX11_weighs 356 = .ok (.imul, 1) := by decide +kernel
theorem dX11_weighs_357 : decode cX11_weighs 357 = .ok (.if_icmp .ge 23, 3) := by decide +kernel
theorem dX11_weighs_360 : decode cX11_weighs 360 = .ok (.aload_n 0, 1) := by decide +kernel
theorem dX11_weighs_361 : decode cX11_weighs 361 = .ok (.getfield 381, 3) := by decide +kernel
theorem dX11_weighs_364 : decode cX11_weighs 364 = .ok (.iload 7, 2) := by decide +kernel
theorem dX11_weighs_366 : decode cX11_weighs 366 = .ok (.aload_n 0, 1) := by decide +kernel
theorem dX11_weighs_367 : decode cX11_weighs 367 = .ok (.getfield 384, 3) := by decide +kernel
theorem dX11_weighs_370 : decode cX11_weighs 370 = .ok (.iload 7, 2) := by decide +kernel
theorem dX11_weighs_372 : decode cX11_weighs 372 = .ok (.laload, 1) := by decide +kernel
theorem dX11_weighs_373 : decode cX11_weighs 373 = .ok (.lastore, 1) := by decide +kernel
theorem dX11_weighs_374 : decode cX11_weighs 374 = .ok (.iinc 7 1, 3) := by decide +kernel
theorem dX11_weighs_377 : decode cX11_weighs 377 = .ok (.goto (-26), 3) := by decide +kernel
theorem dX11_weighs_380 : decode cX11_weighs 380 = .ok (.iinc 6 1, 3) := by decide +kernel
theorem dX11_weighs_383 : decode cX11_weighs 383 = .ok (.goto (-237), 3) := by decide +kernel
theorem dX11_weighs_386 : decode cX11_weighs 386 = .ok (.return_, 1) := by decide +kernel
theorem dX11_sumOf_0 : decode cX11_sumOf 0 = .ok (.lconst 0, 1) := by decide +kernel
theorem dX11_sumOf_1 : decode cX11_sumOf 1 = .ok (.lstore_n 3, 1) := by decide +kernel
theorem dX11_sumOf_2 : decode cX11_sumOf 2 = .ok (.iconst 0, 1) := by decide +kernel
theorem dX11_sumOf_3 : decode cX11_sumOf 3 = .ok (.istore 5, 2) := by decide +kernel
theorem dX11_sumOf_5 : decode cX11_sumOf 5 = .ok (.iload 5, 2) := by decide +kernel
theorem dX11_sumOf_7 : decode cX11_sumOf 7 = .ok (.aload_n 0, 1) := by decide +kernel
theorem dX11_sumOf_8 : decode cX11_sumOf 8 = .ok (.getfield 296, 3) := by decide +kernel
theorem dX11_sumOf_11 : decode cX11_sumOf 11 = .ok (.if_icmp .ge 51, 3) := by decide +kernel
theorem dX11_sumOf_14 : decode cX11_sumOf 14 = .ok (.iconst 0, 1) := by decide +kernel
theorem dX11_sumOf_15 : decode cX11_sumOf 15 = .ok (.istore 6, 2) := by decide +kernel
theorem dX11_sumOf_17 : decode cX11_sumOf 17 = .ok (.iload 6, 2) := by decide +kernel
theorem dX11_sumOf_19 : decode cX11_sumOf 19 = .ok (.iconst 4, 1) := by decide +kernel
theorem dX11_sumOf_20 : decode cX11_sumOf 20 = .ok (.if_icmp .ge 36, 3) := by decide +kernel
theorem dX11_sumOf_23 : decode cX11_sumOf 23 = .ok (.lload_n 3, 1) := by decide +kernel
theorem dX11_sumOf_24 : decode cX11_sumOf 24 = .ok (.iload 6, 2) := by decide +kernel
theorem dX11_sumOf_26 : decode cX11_sumOf 26 = .ok (.iload_n 1, 1) := by decide +kernel
theorem dX11_sumOf_27 : decode cX11_sumOf 27 = .ok (.iand, 1) := by decide +kernel
theorem dX11_sumOf_28 : decode cX11_sumOf 28 = .ok (.iload_n 2, 1) := by decide +kernel
theorem dX11_sumOf_29 : decode cX11_sumOf 29 = .ok (.if_icmp .ne 18, 3) := by decide +kernel
theorem dX11_sumOf_32 : decode cX11_sumOf 32 = .ok (.aload_n 0, 1) := by decide +kernel
theorem dX11_sumOf_33 : decode cX11_sumOf 33 = .ok (.getfield 381, 3) := by decide +kernel
theorem dX11_sumOf_36 : decode cX11_sumOf 36 = .ok (.iconst 4, 1) := by decide +kernel
theorem dX11_sumOf_37 : decode cX11_sumOf 37 = .ok (.iload 5, 2) := by decide +kernel
theorem dX11_sumOf_39 : decode cX11_sumOf 39 = .ok (.imul, 1) := by decide +kernel
theorem dX11_sumOf_40 : decode cX11_sumOf 40 = .ok (.iload 6, 2) := by decide +kernel
theorem dX11_sumOf_42 : decode cX11_sumOf 42 = .ok (.iadd, 1) := by decide +kernel
theorem dX11_sumOf_43 : decode cX11_sumOf 43 = .ok (.laload, 1) := by decide +kernel
theorem dX11_sumOf_44 : decode cX11_sumOf 44 = .ok (.goto 4, 3) := by decide +kernel
theorem dX11_sumOf_47 : decode cX11_sumOf 47 = .ok (.lconst 0, 1) := by decide +kernel
theorem dX11_sumOf_48 : decode cX11_sumOf 48 = .ok (.ladd, 1) := by decide +kernel
theorem dX11_sumOf_49 : decode cX11_sumOf 49 = .ok (.lstore_n 3, 1) := by decide +kernel
theorem dX11_sumOf_50 : decode cX11_sumOf 50 = .ok (.iinc 6 1, 3) := by decide +kernel
theorem dX11_sumOf_53 : decode cX11_sumOf 53 = .ok (.goto (-36), 3) := by decide +kernel
theorem dX11_sumOf_56 : decode cX11_sumOf 56 = .ok (.iinc 5 1, 3) := by decide +kernel
theorem dX11_sumOf_59 : decode cX11_sumOf 59 = .ok (.goto (-54), 3) := by decide +kernel
theorem dX11_sumOf_62 : decode cX11_sumOf 62 = .ok (.lload_n 3, 1) := by decide +kernel
theorem dX11_sumOf_63 : decode cX11_sumOf 63 = .ok (.lreturn, 1) := by decide +kernel
theorem dX11_power_0 : decode cX11_power 0 = .ok (.lconst 1, 1) := by decide +kernel
theorem dX11_power_1 : decode cX11_power 1 = .ok (.lstore_n 3, 1) := by decide +kernel
theorem dX11_power_2 : decode cX11_power 2 = .ok (.iconst 0, 1) := by decide +kernel
theorem dX11_power_3 : decode cX11_power 3 = .ok (.istore 5, 2) := by decide +kernel
theorem dX11_power_5 : decode cX11_power 5 = .ok (.iload 5, 2) := by decide +kernel
theorem dX11_power_7 : decode cX11_power 7 = .ok (.iload_n 2, 1) := by decide +kernel
theorem dX11_power_8 : decode cX11_power 8 = .ok (.if_icmp .ge 25, 3) := by decide +kernel
theorem dX11_power_11 : decode cX11_power 11 = .ok (.lload_n 3, 1) := by decide +kernel
theorem dX11_power_12 : decode cX11_power 12 = .ok (.lload_n 0, 1) := by decide +kernel
theorem dX11_power_13 : decode cX11_power 13 = .ok (.lmul, 1) := by decide +kernel
theorem dX11_power_14 : decode cX11_power 14 = .ok (.lstore_n 3, 1) := by decide +kernel
theorem dX11_power_15 : decode cX11_power 15 = .ok (.lload_n 3, 1) := by decide +kernel
theorem dX11_power_16 : decode cX11_power 16 = .ok (.ldc2_w 390, 3) := by decide +kernel
theorem dX11_power_19 : decode cX11_power 19 = .ok (.lcmp, 1) := by decide +kernel
theorem dX11_power_20 : decode cX11_power 20 = .ok (.ifCond .le 7, 3) := by decide +kernel
theorem dX11_power_23 : decode cX11_power 23 = .ok (.ldc2_w 392, 3) := by decide +kernel
theorem dX11_power_26 : decode cX11_power 26 = .ok (.lreturn, 1) := by decide +kernel
theorem dX11_power_27 : decode cX11_power 27 = .ok (.iinc 5 1, 3) := by decide +kernel
theorem dX11_power_30 : decode cX11_power 30 = .ok (.goto (-25), 3) := by decide +kernel
theorem dX11_power_33 : decode cX11_power 33 = .ok (.lload_n 3, 1) := by decide +kernel
theorem dX11_power_34 : decode cX11_power 34 = .ok (.lreturn, 1) := by decide +kernel
theorem dX11_runs_0 : decode cX11_runs 0 = .ok (.aload_n 0, 1) := by decide +kernel
theorem dX11_runs_1 : decode cX11_runs 1 = .ok (.iconst 0, 1) := by decide +kernel
theorem dX11_runs_2 : decode cX11_runs 2 = .ok (.putfield 3, 3) := by decide +kernel
theorem dX11_runs_5 : decode cX11_runs 5 = .ok (.aload_n 0, 1) := by decide +kernel
theorem dX11_runs_6 : decode cX11_runs 6 = .ok (.iload_n 1, 1) := by decide +kernel
theorem dX11_runs_7 : decode cX11_runs 7 = .ok (.invokevirtual 341, 3) := by decide +kernel
theorem dX11_runs_10 : decode cX11_runs 10 = .ok (.ifCond .eq 19, 3) := by decide +kernel
theorem dX11_runs_13 : decode cX11_runs 13 = .ok (.aload_n 0, 1) := by decide +kernel
theorem dX11_runs_14 : decode cX11_runs 14 = .ok (.invokevirtual 251, 3) := by decide +kernel
theorem dX11_runs_17 : decode cX11_runs 17 = .ok (.i2l, 1) := by decide +kernel
theorem dX11_runs_18 : decode cX11_runs 18 = .ok (.iload_n 1, 1) := by decide +kernel
theorem dX11_runs_19 : decode cX11_runs 19 = .ok (.invokestatic 394, 3) := by decide +kernel
theorem dX11_runs_22 : decode cX11_runs 22 = .ok (.ldc2_w 390, 3) := by decide +kernel
theorem dX11_runs_25 : decode cX11_runs 25 = .ok (.lcmp, 1) := by decide +kernel
theorem dX11_runs_26 : decode cX11_runs 26 = .ok (.ifCond .le 5, 3) := by decide +kernel
theorem dX11_runs_29 : decode cX11_runs 29 = .ok (.iconst (-1), 1) := by decide +kernel
theorem dX11_runs_30 : decode cX11_runs 30 = .ok (.ireturn, 1) := by decide +kernel
theorem dX11_runs_31 : decode cX11_runs 31 = .ok (.aload_n 0, 1) := by decide +kernel
theorem dX11_runs_32 : decode cX11_runs 32 = .ok (.invokevirtual 344, 3) := by decide +kernel
theorem dX11_runs_35 : decode cX11_runs 35 = .ok (.aload_n 0, 1) := by decide +kernel
theorem dX11_runs_36 : decode cX11_runs 36 = .ok (.iload_n 1, 1) := by decide +kernel
theorem dX11_runs_37 : decode cX11_runs 37 = .ok (.sipush 4000, 3) := by decide +kernel
theorem dX11_runs_40 : decode cX11_runs 40 = .ok (.invokevirtual 347, 3) := by decide +kernel
theorem dX11_runs_43 : decode cX11_runs 43 = .ok (.istore_n 2, 1) := by decide +kernel
theorem dX11_runs_44 : decode cX11_runs 44 = .ok (.iload_n 2, 1) := by decide +kernel
theorem dX11_runs_45 : decode cX11_runs 45 = .ok (.ifCond .eq 11, 3) := by decide +kernel
theorem dX11_runs_48 : decode cX11_runs 48 = .ok (.aload_n 0, 1) := by decide +kernel
theorem dX11_runs_49 : decode cX11_runs 49 = .ok (.iload_n 1, 1) := by decide +kernel
theorem dX11_runs_50 : decode cX11_runs 50 = .ok (.bipush (-2), 2) := by decide +kernel
theorem dX11_runs_52 : decode cX11_runs 52 = .ok (.iconst (-1), 1) := by decide +kernel
theorem dX11_runs_53 : decode cX11_runs 53 = .ok (.invokevirtual 398, 3) := by decide +kernel
theorem dX11_runs_56 : decode cX11_runs 56 = .ok (.aload_n 0, 1) := by decide +kernel
theorem dX11_runs_57 : decode cX11_runs 57 = .ok (.invokevirtual 350, 3) := by decide +kernel
theorem dX11_runs_60 : decode cX11_runs 60 = .ok (.iload_n 2, 1) := by decide +kernel
theorem dX11_runs_61 : decode cX11_runs 61 = .ok (.ifCond .ne 6, 3) := by decide +kernel
theorem dX11_runs_64 : decode cX11_runs 64 = .ok (.bipush (-3), 2) := by decide +kernel
theorem dX11_runs_66 : decode cX11_runs 66 = .ok (.ireturn, 1) := by decide +kernel
theorem dX11_runs_67 : decode cX11_runs 67 = .ok (.aload_n 0, 1) := by decide +kernel
theorem dX11_runs_68 : decode cX11_runs 68 = .ok (.iconst 0, 1) := by decide +kernel
theorem dX11_runs_69 : decode cX11_runs 69 = .ok (.putfield 11, 3) := by decide +kernel
theorem dX11_runs_72 : decode cX11_runs 72 = .ok (.aload_n 0, 1) := by decide +kernel
theorem dX11_runs_73 : decode cX11_runs 73 = .ok (.aload_n 0, 1) := by decide +kernel
theorem dX11_runs_74 : decode cX11_runs 74 = .ok (.iconst 1, 1) := by decide +kernel
theorem dX11_runs_75 : decode cX11_runs 75 = .ok (.iconst 1, 1) := by decide +kernel
theorem dX11_runs_76 : decode cX11_runs 76 = .ok (.invokevirtual 402, 3) := by decide +kernel
theorem dX11_runs_79 : decode cX11_runs 79 = .ok (.invokevirtual 262, 3) := by decide +kernel
theorem dX11_runs_82 : decode cX11_runs 82 = .ok (.aload_n 0, 1) := by decide +kernel
theorem dX11_runs_83 : decode cX11_runs 83 = .ok (.aload_n 0, 1) := by decide +kernel
theorem dX11_runs_84 : decode cX11_runs 84 = .ok (.invokevirtual 251, 3) := by decide +kernel
theorem dX11_runs_87 : decode cX11_runs 87 = .ok (.i2l, 1) := by decide +kernel
theorem dX11_runs_88 : decode cX11_runs 88 = .ok (.iload_n 1, 1) := by decide +kernel
theorem dX11_runs_89 : decode cX11_runs 89 = .ok (.invokestatic 394, 3) := by decide +kernel
theorem dX11_runs_92 : decode cX11_runs 92 = .ok (.invokevirtual 262, 3) := by decide +kernel
theorem dX11_runs_95 : decode cX11_runs 95 = .ok (.iconst 0, 1) := by decide +kernel
theorem dX11_runs_96 : decode cX11_runs 96 = .ok (.ireturn, 1) := by decide +kernel
theorem dX11_means_0 : decode cX11_means 0 = .ok (.aload_n 0, 1) := by decide +kernel
theorem dX11_means_1 : decode cX11_means 1 = .ok (.iconst 0, 1) := by decide +kernel
theorem dX11_means_2 : decode cX11_means 2 = .ok (.putfield 3, 3) := by decide +kernel
theorem dX11_means_5 : decode cX11_means 5 = .ok (.aload_n 0, 1) := by decide +kernel
theorem dX11_means_6 : decode cX11_means 6 = .ok (.iload_n 2, 1) := by decide +kernel
theorem dX11_means_7 : decode cX11_means 7 = .ok (.invokevirtual 341, 3) := by decide +kernel
theorem dX11_means_10 : decode cX11_means 10 = .ok (.ifCond .eq 31, 3) := by decide +kernel
theorem dX11_means_13 : decode cX11_means 13 = .ok (.iload_n 1, 1) := by decide +kernel
theorem dX11_means_14 : decode cX11_means 14 = .ok (.i2l, 1) := by decide +kernel
theorem dX11_means_15 : decode cX11_means 15 = .ok (.lconst 0, 1) := by decide +kernel
theorem dX11_means_16 : decode cX11_means 16 = .ok (.ldc2_w 406, 3) := by decide +kernel
theorem dX11_means_19 : decode cX11_means 19 = .ok (.invokestatic 21, 3) := by decide +kernel
theorem dX11_means_22 : decode cX11_means 22 = .ok (.ifCond .eq 19, 3) := by decide +kernel
theorem dX11_means_25 : decode cX11_means 25 = .ok (.aload_n 0, 1) := by decide +kernel
theorem dX11_means_26 : decode cX11_means 26 = .ok (.invokevirtual 251, 3) := by decide +kernel
theorem dX11_means_29 : decode cX11_means 29 = .ok (.i2l, 1) := by decide +kernel
theorem dX11_means_30 : decode cX11_means 30 = .ok (.iload_n 2, 1) := by decide +kernel
theorem dX11_means_31 : decode cX11_means 31 = .ok (.invokestatic 394, 3) := by decide +kernel
theorem dX11_means_34 : decode cX11_means 34 = .ok (.ldc2_w 390, 3) := by decide +kernel
theorem dX11_means_37 : decode cX11_means 37 = .ok (.lcmp, 1) := by decide +kernel
theorem dX11_means_38 : decode cX11_means 38 = .ok (.ifCond .le 5, 3) := by decide +kernel
theorem dX11_means_41 : decode cX11_means 41 = .ok (.iconst (-1), 1) := by decide +kernel
theorem dX11_means_42 : decode cX11_means 42 = .ok (.ireturn, 1) := by decide +kernel
theorem dX11_means_43 : decode cX11_means 43 = .ok (.aload_n 0, 1) := by decide +kernel
theorem dX11_means_44 : decode cX11_means 44 = .ok (.invokevirtual 344, 3) := by decide +kernel
theorem dX11_means_47 : decode cX11_means 47 = .ok (.aload_n 0, 1) := by decide +kernel
theorem dX11_means_48 : decode cX11_means 48 = .ok (.iload_n 2, 1) := by decide +kernel
theorem dX11_means_49 : decode cX11_means 49 = .ok (.sipush 4000, 3) := by decide +kernel
theorem dX11_means_52 : decode cX11_means 52 = .ok (.invokevirtual 347, 3) := by decide +kernel
theorem dX11_means_55 : decode cX11_means 55 = .ok (.istore_n 3, 1) := by decide +kernel
theorem dX11_means_56 : decode cX11_means 56 = .ok (.iload_n 3, 1) := by decide +kernel
theorem dX11_means_57 : decode cX11_means 57 = .ok (.ifCond .eq 10, 3) := by decide +kernel
theorem dX11_means_60 : decode cX11_means 60 = .ok (.aload_n 0, 1) := by decide +kernel
theorem dX11_means_61 : decode cX11_means 61 = .ok (.iload_n 2, 1) := by decide +kernel
theorem dX11_means_62 : decode cX11_means 62 = .ok (.iload_n 1, 1) := by decide +kernel
theorem dX11_means_63 : decode cX11_means 63 = .ok (.iconst (-1), 1) := by decide +kernel
theorem dX11_means_64 : decode cX11_means 64 = .ok (.invokevirtual 398, 3) := by decide +kernel
theorem dX11_means_67 : decode cX11_means 67 = .ok (.aload_n 0, 1) := by decide +kernel
theorem dX11_means_68 : decode cX11_means 68 = .ok (.invokevirtual 350, 3) := by decide +kernel
theorem dX11_means_71 : decode cX11_means 71 = .ok (.iload_n 3, 1) := by decide +kernel
theorem dX11_means_72 : decode cX11_means 72 = .ok (.ifCond .ne 6, 3) := by decide +kernel
theorem dX11_means_75 : decode cX11_means 75 = .ok (.bipush (-3), 2) := by decide +kernel
theorem dX11_means_77 : decode cX11_means 77 = .ok (.ireturn, 1) := by decide +kernel
theorem dX11_means_78 : decode cX11_means 78 = .ok (.aload_n 0, 1) := by decide +kernel
theorem dX11_means_79 : decode cX11_means 79 = .ok (.iconst 0, 1) := by decide +kernel
theorem dX11_means_80 : decode cX11_means 80 = .ok (.putfield 11, 3) := by decide +kernel
theorem dX11_means_83 : decode cX11_means 83 = .ok (.aload_n 0, 1) := by decide +kernel
theorem dX11_means_84 : decode cX11_means 84 = .ok (.aload_n 0, 1) := by decide +kernel
theorem dX11_means_85 : decode cX11_means 85 = .ok (.iconst 2, 1) := by decide +kernel
theorem dX11_means_86 : decode cX11_means 86 = .ok (.iconst 2, 1) := by decide +kernel
theorem dX11_means_87 : decode cX11_means 87 = .ok (.invokevirtual 402, 3) := by decide +kernel
theorem dX11_means_90 : decode cX11_means 90 = .ok (.invokevirtual 262, 3) := by decide +kernel
theorem dX11_means_93 : decode cX11_means 93 = .ok (.aload_n 0, 1) := by decide +kernel
theorem dX11_means_94 : decode cX11_means 94 = .ok (.aload_n 0, 1) := by decide +kernel
theorem dX11_means_95 : decode cX11_means 95 = .ok (.iconst 3, 1) := by decide +kernel
theorem dX11_means_96 : decode cX11_means 96 = .ok (.iconst 3, 1) := by decide +kernel
theorem dX11_means_97 : decode cX11_means 97 = .ok (.invokevirtual 402, 3) := by decide +kernel
theorem dX11_means_100 : decode cX11_means 100 = .ok (.invokevirtual 262, 3) := by decide +kernel
theorem dX11_means_103 : decode cX11_means 103 = .ok (.iconst 0, 1) := by decide +kernel
theorem dX11_means_104 : decode cX11_means 104 = .ok (.ireturn, 1) := by decide +kernel
theorem dX11_weight_0 : decode cX11_weight 0 = .ok (.aload_n 0, 1) := by decide +kernel
theorem dX11_weight_1 : decode cX11_weight 1 = .ok (.iconst 0, 1) := by decide +kernel
theorem dX11_weight_2 : decode cX11_weight 2 = .ok (.putfield 3, 3) := by decide +kernel
theorem dX11_weight_5 : decode cX11_weight 5 = .ok (.iload_n 1, 1) := by decide +kernel
theorem dX11_weight_6 : decode cX11_weight 6 = .ok (.i2l, 1) := by decide +kernel
theorem dX11_weight_7 : decode cX11_weight 7 = .ok (.lconst 0, 1) := by decide +kernel
theorem dX11_weight_8 : decode cX11_weight 8 = .ok (.lconst 1, 1) := by decide +kernel
theorem dX11_weight_9 : decode cX11_weight 9 = .ok (.invokestatic 21, 3) := by decide +kernel
theorem dX11_weight_12 : decode cX11_weight 12 = .ok (.ifCond .eq 27, 3) := by decide +kernel
theorem dX11_weight_15 : decode cX11_weight 15 = .ok (.iload_n 2, 1) := by decide +kernel
theorem dX11_weight_16 : decode cX11_weight 16 = .ok (.i2l, 1) := by decide +kernel
theorem dX11_weight_17 : decode cX11_weight 17 = .ok (.lconst 0, 1) := by decide +kernel
theorem dX11_weight_18 : decode cX11_weight 18 = .ok (.ldc2_w 237, 3) := by decide +kernel
theorem dX11_weight_21 : decode cX11_weight 21 = .ok (.invokestatic 21, 3) := by decide +kernel
theorem dX11_weight_24 : decode cX11_weight 24 = .ok (.ifCond .eq 15, 3) := by decide +kernel
theorem dX11_weight_27 : decode cX11_weight 27 = .ok (.iload_n 3, 1) := by decide +kernel
theorem dX11_weight_28 : decode cX11_weight 28 = .ok (.i2l, 1) := by decide +kernel
theorem dX11_weight_29 : decode cX11_weight 29 = .ok (.lconst 0, 1) := by decide +kernel
theorem dX11_weight_30 : decode cX11_weight 30 = .ok (.ldc2_w 408, 3) := by decide +kernel
theorem dX11_weight_33 : decode cX11_weight 33 = .ok (.invokestatic 21, 3) := by decide +kernel
theorem dX11_weight_36 : decode cX11_weight 36 = .ok (.ifCond .ne 5, 3) := by decide +kernel
theorem dX11_weight_39 : decode cX11_weight 39 = .ok (.iconst (-1), 1) := by decide +kernel
theorem dX11_weight_40 : decode cX11_weight 40 = .ok (.ireturn, 1) := by decide +kernel
theorem dX11_weight_41 : decode cX11_weight 41 = .ok (.aload_n 0, 1) := by decide +kernel
theorem dX11_weight_42 : decode cX11_weight 42 = .ok (.getfield 387, 3) := by decide +kernel
theorem dX11_weight_45 : decode cX11_weight 45 = .ok (.iconst 5, 1) := by decide +kernel
theorem dX11_weight_46 : decode cX11_weight 46 = .ok (.iload_n 1, 1) := by decide +kernel
theorem dX11_weight_47 : decode cX11_weight 47 = .ok (.imul, 1) := by decide +kernel
theorem dX11_weight_48 : decode cX11_weight 48 = .ok (.iload_n 2, 1) := by decide +kernel
theorem dX11_weight_49 : decode cX11_weight 49 = .ok (.iadd, 1) := by decide +kernel
theorem dX11_weight_50 : decode cX11_weight 50 = .ok (.iaload, 1) := by decide +kernel
theorem dX11_weight_51 : decode cX11_weight 51 = .ok (.istore 4, 2) := by decide +kernel
theorem dX11_weight_53 : decode cX11_weight 53 = .ok (.aload_n 0, 1) := by decide +kernel
theorem dX11_weight_54 : decode cX11_weight 54 = .ok (.getfield 387, 3) := by decide +kernel
theorem dX11_weight_57 : decode cX11_weight 57 = .ok (.iconst 5, 1) := by decide +kernel
theorem dX11_weight_58 : decode cX11_weight 58 = .ok (.iload_n 1, 1) := by decide +kernel
theorem dX11_weight_59 : decode cX11_weight 59 = .ok (.imul, 1) := by decide +kernel
theorem dX11_weight_60 : decode cX11_weight 60 = .ok (.iload_n 2, 1) := by decide +kernel
theorem dX11_weight_61 : decode cX11_weight 61 = .ok (.iadd, 1) := by decide +kernel
theorem dX11_weight_62 : decode cX11_weight 62 = .ok (.iload_n 3, 1) := by decide +kernel
theorem dX11_weight_63 : decode cX11_weight 63 = .ok (.iastore, 1) := by decide +kernel
theorem dX11_weight_64 : decode cX11_weight 64 = .ok (.iload 4, 2) := by decide +kernel
theorem dX11_weight_66 : decode cX11_weight 66 = .ok (.ireturn, 1) := by decide +kernel
theorem dX11_isWeightless_0 : decode cX11_isWeightless 0 = .ok (.iconst 0, 1) := by decide +kernel
theorem dX11_isWeightless_1 : decode cX11_isWeightless 1 = .ok (.istore_n 2, 1) := by decide +kernel
theorem dX11_isWeightless_2 : decode cX11_isWeightless 2 = .ok (.iconst 0, 1) := by decide +kernel
theorem dX11_isWeightless_3 : decode cX11_isWeightless 3 = .ok (.istore_n 3, 1) := by decide +kernel
theorem dX11_isWeightless_4 : decode cX11_isWeightless 4 = .ok (.iload_n 3, 1) := by decide +kernel
theorem dX11_isWeightless_5 : decode cX11_isWeightless 5 = .ok (.aload_n 0, 1) := by decide +kernel
theorem dX11_isWeightless_6 : decode cX11_isWeightless 6 = .ok (.getfield 239, 3) := by decide +kernel
theorem dX11_isWeightless_9 : decode cX11_isWeightless 9 = .ok (.if_icmp .gt 22, 3) := by decide +kernel
theorem dX11_isWeightless_12 : decode cX11_isWeightless 12 = .ok (.iload_n 2, 1) := by decide +kernel
theorem dX11_isWeightless_13 : decode cX11_isWeightless 13 = .ok (.aload_n 0, 1) := by decide +kernel
theorem dX11_isWeightless_14 : decode cX11_isWeightless 14 = .ok (.getfield 387, 3) := by decide +kernel
theorem dX11_isWeightless_17 : decode cX11_isWeightless 17 = .ok (.iconst 5, 1) := by decide +kernel
theorem dX11_isWeightless_18 : decode cX11_isWeightless 18 = .ok (.iload_n 1, 1) := by decide +kernel
theorem dX11_isWeightless_19 : decode cX11_isWeightless 19 = .ok (.imul, 1) := by decide +kernel
theorem dX11_isWeightless_20 : decode cX11_isWeightless 20 = .ok (.iload_n 3, 1) := by decide +kernel
theorem dX11_isWeightless_21 : decode cX11_isWeightless 21 = .ok (.iadd, 1) := by decide +kernel
theorem dX11_isWeightless_22 : decode cX11_isWeightless 22 = .ok (.iaload, 1) := by decide +kernel
theorem dX11_isWeightless_23 : decode cX11_isWeightless 23 = .ok (.iadd, 1) := by decide +kernel
theorem dX11_isWeightless_24 : decode cX11_isWeightless 24 = .ok (.istore_n 2, 1) := by decide +kernel
theorem dX11_isWeightless_25 : decode cX11_isWeightless 25 = .ok (.iinc 3 1, 3) := by decide +kernel
theorem dX11_isWeightless_28 : decode cX11_isWeightless 28 = .ok (.goto (-24), 3) := by decide +kernel
theorem dX11_isWeightless_31 : decode cX11_isWeightless 31 = .ok (.iload_n 2, 1) := by decide +kernel
theorem dX11_isWeightless_32 : decode cX11_isWeightless 32 = .ok (.ifCond .ne 7, 3) := by decide +kernel
theorem dX11_isWeightless_35 : decode cX11_isWeightless 35 = .ok (.iconst 1, 1) := by decide +kernel
theorem dX11_isWeightless_36 : decode cX11_isWeightless 36 = .ok (.goto 4, 3) := by decide +kernel
theorem dX11_isWeightless_39 : decode cX11_isWeightless 39 = .ok (.iconst 0, 1) := by decide +kernel
theorem dX11_isWeightless_40 : decode cX11_isWeightless 40 = .ok (.ireturn, 1) := by decide +kernel
theorem dX11_allWeights_0 : decode cX11_allWeights 0 = .ok (.lconst 0, 1) := by decide +kernel
theorem dX11_allWeights_1 : decode cX11_allWeights 1 = .ok (.lstore_n 3, 1) := by decide +kernel
theorem dX11_allWeights_2 : decode cX11_allWeights 2 = .ok (.iconst 0, 1) := by decide +kernel
theorem dX11_allWeights_3 : decode cX11_allWeights 3 = .ok (.istore 5, 2) := by decide +kernel
theorem dX11_allWeights_5 : decode cX11_allWeights 5 = .ok (.iload 5, 2) := by decide +kernel
theorem dX11_allWeights_7 : decode cX11_allWeights 7 = .ok (.aload_n 0, 1) := by decide +kernel
theorem dX11_allWeights_8 : decode cX11_allWeights 8 = .ok (.getfield 239, 3) := by decide +kernel
theorem dX11_allWeights_11 : decode cX11_allWeights 11 = .ok (.if_icmp .gt 24, 3) := by decide +kernel
theorem dX11_allWeights_14 : decode cX11_allWeights 14 = .ok (.lload_n 3, 1) := by decide +kernel
theorem dX11_allWeights_15 : decode cX11_allWeights 15 = .ok (.aload_n 0, 1) := by decide +kernel
theorem dX11_allWeights_16 : decode cX11_allWeights 16 = .ok (.getfield 387, 3) := by decide +kernel
theorem dX11_allWeights_19 : decode cX11_allWeights 19 = .ok (.iconst 5, 1) := by decide +kernel
theorem dX11_allWeights_20 : decode cX11_allWeights 20 = .ok (.iload_n 1, 1) := by decide +kernel
theorem dX11_allWeights_21 : decode cX11_allWeights 21 = .ok (.imul, 1) := by decide +kernel
theorem dX11_allWeights_22 : decode cX11_allWeights 22 = .ok (.iload 5, 2) := by decide +kernel
theorem dX11_allWeights_24 : decode cX11_allWeights 24 = .ok (.iadd, 1) := by decide +kernel
theorem dX11_allWeights_25 : decode cX11_allWeights 25 = .ok (.iaload, 1) := by decide +kernel
theorem dX11_allWeights_26 : decode cX11_allWeights 26 = .ok (.i2l, 1) := by decide +kernel
theorem dX11_allWeights_27 : decode cX11_allWeights 27 = .ok (.ladd, 1) := by decide +kernel
theorem dX11_allWeights_28 : decode cX11_allWeights 28 = .ok (.lstore_n 3, 1) := by decide +kernel
theorem dX11_allWeights_29 : decode cX11_allWeights 29 = .ok (.iinc 5 1, 3) := by decide +kernel
theorem dX11_allWeights_32 : decode cX11_allWeights 32 = .ok (.goto (-27), 3) := by decide +kernel
theorem dX11_allWeights_35 : decode cX11_allWeights 35 = .ok (.aload_n 0, 1) := by decide +kernel
theorem dX11_allWeights_36 : decode cX11_allWeights 36 = .ok (.getfield 121, 3) := by decide +kernel
theorem dX11_allWeights_39 : decode cX11_allWeights 39 = .ok (.i2l, 1) := by decide +kernel
theorem dX11_allWeights_40 : decode cX11_allWeights 40 = .ok (.lload_n 3, 1) := by decide +kernel
theorem dX11_allWeights_41 : decode cX11_allWeights 41 = .ok (.lmul, 1) := by decide +kernel
theorem dX11_allWeights_42 : decode cX11_allWeights 42 = .ok (.iload_n 2, 1) := by decide +kernel
theorem dX11_allWeights_43 : decode cX11_allWeights 43 = .ok (.invokestatic 394, 3) := by decide +kernel
theorem dX11_allWeights_46 : decode cX11_allWeights 46 = .ok (.lreturn, 1) := by decide +kernel
theorem dX11_common_0 : decode cX11_common 0 = .ok (.lload_n 0, 1) := by decide +kernel
theorem dX11_common_1 : decode cX11_common 1 = .ok (.lstore 4, 2) := by decide +kernel
theorem dX11_common_3 : decode cX11_common 3 = .ok (.lload_n 2, 1) := by decide +kernel
theorem dX11_common_4 : decode cX11_common 4 = .ok (.lstore 6, 2) := by decide +kernel
theorem dX11_common_6 : decode cX11_common 6 = .ok (.lload 6, 2) := by decide +kernel
theorem dX11_common_8 : decode cX11_common 8 = .ok (.lconst 0, 1) := by decide +kernel
theorem dX11_common_9 : decode cX11_common 9 = .ok (.lcmp, 1) := by decide +kernel
theorem dX11_common_10 : decode cX11_common 10 = .ok (.ifCond .eq 21, 3) := by decide +kernel
theorem dX11_common_13 : decode cX11_common 13 = .ok (.lload 4, 2) := by decide +kernel
theorem dX11_common_15 : decode cX11_common 15 = .ok (.lload 6, 2) := by decide +kernel
theorem dX11_common_17 : decode cX11_common 17 = .ok (.lrem, 1) := by decide +kernel
theorem dX11_common_18 : decode cX11_common 18 = .ok (.lstore 8, 2) := by decide +kernel
theorem dX11_common_20 : decode cX11_common 20 = .ok (.lload 6, 2) := by decide +kernel
theorem dX11_common_22 : decode cX11_common 22 = .ok (.lstore 4, 2) := by decide +kernel
theorem dX11_common_24 : decode cX11_common 24 = .ok (.lload 8, 2) := by decide +kernel
theorem dX11_common_26 : decode cX11_common 26 = .ok (.lstore 6, 2) := by decide +kernel
theorem dX11_common_28 : decode cX11_common 28 = .ok (.goto (-22), 3) := by decide +kernel
theorem dX11_common_31 : decode cX11_common 31 = .ok (.lload 4, 2) := by decide +kernel
theorem dX11_common_33 : decode cX11_common 33 = .ok (.lreturn, 1) := by decide +kernel
theorem dX11_odds_0 : decode cX11_odds 0 = .ok (.aload_n 0, 1) := by decide +kernel
theorem dX11_odds_1 : decode cX11_odds 1 = .ok (.iconst 0, 1) := by decide +kernel
theorem dX11_odds_2 : decode cX11_odds 2 = .ok (.putfield 3, 3) := by decide +kernel
theorem dX11_odds_5 : decode cX11_odds 5 = .ok (.aload_n 0, 1) := by decide +kernel
theorem dX11_odds_6 : decode cX11_odds 6 = .ok (.iload_n 2, 1) := by decide +kernel
theorem dX11_odds_7 : decode cX11_odds 7 = .ok (.invokevirtual 341, 3) := by decide +kernel
theorem dX11_odds_10 : decode cX11_odds 10 = .ok (.ifCond .eq 26, 3) := by decide +kernel
theorem dX11_odds_13 : decode cX11_odds 13 = .ok (.iload_n 1, 1) := by decide +kernel
theorem dX11_odds_14 : decode cX11_odds 14 = .ok (.i2l, 1) := by decide +kernel
theorem dX11_odds_15 : decode cX11_odds 15 = .ok (.lconst 0, 1) := by decide +kernel
theorem dX11_odds_16 : decode cX11_odds 16 = .ok (.lconst 1, 1) := by decide +kernel
theorem dX11_odds_17 : decode cX11_odds 17 = .ok (.invokestatic 21, 3) := by decide +kernel
theorem dX11_odds_20 : decode cX11_odds 20 = .ok (.ifCond .eq 16, 3) := by decide +kernel
theorem dX11_odds_23 : decode cX11_odds 23 = .ok (.aload_n 0, 1) := by decide +kernel
theorem dX11_odds_24 : decode cX11_odds 24 = .ok (.iload_n 1, 1) := by decide +kernel
theorem dX11_odds_25 : decode cX11_odds 25 = .ok (.iload_n 2, 1) := by decide +kernel
theorem dX11_odds_26 : decode cX11_odds 26 = .ok (.invokevirtual 410, 3) := by decide +kernel
theorem dX11_odds_29 : decode cX11_odds 29 = .ok (.ldc2_w 390, 3) := by decide +kernel
theorem dX11_odds_32 : decode cX11_odds 32 = .ok (.lcmp, 1) := by decide +kernel
theorem dX11_odds_33 : decode cX11_odds 33 = .ok (.ifCond .le 5, 3) := by decide +kernel
theorem dX11_odds_36 : decode cX11_odds 36 = .ok (.iconst (-1), 1) := by decide +kernel
theorem dX11_odds_37 : decode cX11_odds 37 = .ok (.ireturn, 1) := by decide +kernel
theorem dX11_odds_38 : decode cX11_odds 38 = .ok (.aload_n 0, 1) := by decide +kernel
theorem dX11_odds_39 : decode cX11_odds 39 = .ok (.invokevirtual 344, 3) := by decide +kernel
theorem dX11_odds_42 : decode cX11_odds 42 = .ok (.aload_n 0, 1) := by decide +kernel
theorem dX11_odds_43 : decode cX11_odds 43 = .ok (.iload_n 2, 1) := by decide +kernel
theorem dX11_odds_44 : decode cX11_odds 44 = .ok (.sipush 4000, 3) := by decide +kernel
theorem dX11_odds_47 : decode cX11_odds 47 = .ok (.invokevirtual 347, 3) := by decide +kernel
theorem dX11_odds_50 : decode cX11_odds 50 = .ok (.istore_n 3, 1) := by decide +kernel
theorem dX11_odds_51 : decode cX11_odds 51 = .ok (.iload_n 3, 1) := by decide +kernel
theorem dX11_odds_52 : decode cX11_odds 52 = .ok (.ifCond .eq 11, 3) := by decide +kernel
theorem dX11_odds_55 : decode cX11_odds 55 = .ok (.aload_n 0, 1) := by decide +kernel
theorem dX11_odds_56 : decode cX11_odds 56 = .ok (.iload_n 2, 1) := by decide +kernel
theorem dX11_odds_57 : decode cX11_odds 57 = .ok (.bipush (-2), 2) := by decide +kernel
theorem dX11_odds_59 : decode cX11_odds 59 = .ok (.iload_n 1, 1) := by decide +kernel
theorem dX11_odds_60 : decode cX11_odds 60 = .ok (.invokevirtual 398, 3) := by decide +kernel
theorem dX11_odds_63 : decode cX11_odds 63 = .ok (.aload_n 0, 1) := by decide +kernel
theorem dX11_odds_64 : decode cX11_odds 64 = .ok (.invokevirtual 350, 3) := by decide +kernel
theorem dX11_odds_67 : decode cX11_odds 67 = .ok (.aload_n 0, 1) := by decide +kernel
theorem dX11_odds_68 : decode cX11_odds 68 = .ok (.iload_n 1, 1) := by decide +kernel
theorem dX11_odds_69 : decode cX11_odds 69 = .ok (.iload_n 2, 1) := by decide +kernel
theorem dX11_odds_70 : decode cX11_odds 70 = .ok (.invokevirtual 410, 3) := by decide +kernel
theorem dX11_odds_73 : decode cX11_odds 73 = .ok (.lstore 4, 2) := by decide +kernel
theorem dX11_odds_75 : decode cX11_odds 75 = .ok (.iload_n 3, 1) := by decide +kernel
theorem dX11_odds_76 : decode cX11_odds 76 = .ok (.ifCond .eq 11, 3) := by decide +kernel
theorem dX11_odds_79 : decode cX11_odds 79 = .ok (.aload_n 0, 1) := by decide +kernel
theorem dX11_odds_80 : decode cX11_odds 80 = .ok (.iload_n 1, 1) := by decide +kernel
theorem dX11_odds_81 : decode cX11_odds 81 = .ok (.invokevirtual 413, 3) := by decide +kernel
theorem dX11_odds_84 : decode cX11_odds 84 = .ok (.ifCond .eq 15, 3) := by decide +kernel
theorem dX11_odds_87 : decode cX11_odds 87 = .ok (.iload_n 3, 1) := by decide +kernel
theorem dX11_odds_88 : decode cX11_odds 88 = .ok (.ifCond .eq 8, 3) := by decide +kernel
theorem dX11_odds_91 : decode cX11_odds 91 = .ok (.bipush (-2), 2) := by decide +kernel
theorem dX11_odds_93 : decode cX11_odds 93 = .ok (.goto 5, 3) := by decide +kernel
theorem dX11_odds_96 : decode cX11_odds 96 = .ok (.bipush (-3), 2) := by decide +kernel
theorem dX11_odds_98 : decode cX11_odds 98 = .ok (.ireturn, 1) := by decide +kernel
theorem dX11_odds_99 : decode cX11_odds 99 = .ok (.aload_n 0, 1) := by decide +kernel
theorem dX11_odds_100 : decode cX11_odds 100 = .ok (.iconst 1, 1) := by decide +kernel
theorem dX11_odds_101 : decode cX11_odds 101 = .ok (.iconst 1, 1) := by decide +kernel
theorem dX11_odds_102 : decode cX11_odds 102 = .ok (.invokevirtual 402, 3) := by decide +kernel
theorem dX11_odds_105 : decode cX11_odds 105 = .ok (.lstore 6, 2) := by decide +kernel
theorem dX11_odds_107 : decode cX11_odds 107 = .ok (.lload 6, 2) := by decide +kernel
theorem dX11_odds_109 : decode cX11_odds 109 = .ok (.lload 4, 2) := by decide +kernel
theorem dX11_odds_111 : decode cX11_odds 111 = .ok (.invokestatic 416, 3) := by decide +kernel
theorem dX11_odds_114 : decode cX11_odds 114 = .ok (.lstore 8, 2) := by decide +kernel
theorem dX11_odds_116 : decode cX11_odds 116 = .ok (.aload_n 0, 1) := by decide +kernel
theorem dX11_odds_117 : decode cX11_odds 117 = .ok (.iconst 0, 1) := by decide +kernel
theorem dX11_odds_118 : decode cX11_odds 118 = .ok (.putfield 11, 3) := by decide +kernel
theorem dX11_odds_121 : decode cX11_odds 121 = .ok (.aload_n 0, 1) := by decide +kernel
theorem dX11_odds_122 : decode cX11_odds 122 = .ok (.lload 6, 2) := by decide +kernel
theorem dX11_odds_124 : decode cX11_odds 124 = .ok (.lload 8, 2) := by decide +kernel
theorem dX11_odds_126 : decode cX11_odds 126 = .ok (.ldiv, 1) := by decide +kernel
theorem dX11_odds_127 : decode cX11_odds 127 = .ok (.invokevirtual 262, 3) := by decide +kernel
theorem dX11_odds_130 : decode cX11_odds 130 = .ok (.aload_n 0, 1) := by decide +kernel
theorem dX11_odds_131 : decode cX11_odds 131 = .ok (.lload 4, 2) := by decide +kernel
theorem dX11_odds_133 : decode cX11_odds 133 = .ok (.lload 8, 2) := by decide +kernel
theorem dX11_odds_135 : decode cX11_odds 135 = .ok (.ldiv, 1) := by decide +kernel
theorem dX11_odds_136 : decode cX11_odds 136 = .ok (.invokevirtual 262, 3) := by decide +kernel
theorem dX11_odds_139 : decode cX11_odds 139 = .ok (.iconst 0, 1) := by decide +kernel
theorem dX11_odds_140 : decode cX11_odds 140 = .ok (.ireturn, 1) := by decide +kernel
theorem dX11_quick_0 : decode cX11_quick 0 = .ok (.aload_n 0, 1) := by decide +kernel
theorem dX11_quick_1 : decode cX11_quick 1 = .ok (.iconst 0, 1) := by decide +kernel
theorem dX11_quick_2 : decode cX11_quick 2 = .ok (.putfield 3, 3) := by decide +kernel
theorem dX11_quick_5 : decode cX11_quick 5 = .ok (.aload_n 0, 1) := by decide +kernel
theorem dX11_quick_6 : decode cX11_quick 6 = .ok (.iload_n 1, 1) := by decide +kernel
theorem dX11_quick_7 : decode cX11_quick 7 = .ok (.invokevirtual 341, 3) := by decide +kernel
theorem dX11_quick_10 : decode cX11_quick 10 = .ok (.ifCond .eq 29, 3) := by decide +kernel
theorem dX11_quick_13 : decode cX11_quick 13 = .ok (.aload_n 0, 1) := by decide +kernel
theorem dX11_quick_14 : decode cX11_quick 14 = .ok (.iconst 0, 1) := by decide +kernel
theorem dX11_quick_15 : decode cX11_quick 15 = .ok (.iload_n 1, 1) := by decide +kernel
theorem dX11_quick_16 : decode cX11_quick 16 = .ok (.invokevirtual 410, 3) := by decide +kernel
theorem dX11_quick_19 : decode cX11_quick 19 = .ok (.ldc2_w 390, 3) := by decide +kernel
theorem dX11_quick_22 : decode cX11_quick 22 = .ok (.lcmp, 1) := by decide +kernel
theorem dX11_quick_23 : decode cX11_quick 23 = .ok (.ifCond .gt 16, 3) := by decide +kernel
theorem dX11_quick_26 : decode cX11_quick 26 = .ok (.aload_n 0, 1) := by decide +kernel
theorem dX11_quick_27 : decode cX11_quick 27 = .ok (.iconst 1, 1) := by decide +kernel
theorem dX11_quick_28 : decode cX11_quick 28 = .ok (.iload_n 1, 1) := by decide +kernel
theorem dX11_quick_29 : decode cX11_quick 29 = .ok (.invokevirtual 410, 3) := by decide +kernel
theorem dX11_quick_32 : decode cX11_quick 32 = .ok (.ldc2_w 390, 3) := by decide +kernel
theorem dX11_quick_35 : decode cX11_quick 35 = .ok (.lcmp, 1) := by decide +kernel
theorem dX11_quick_36 : decode cX11_quick 36 = .ok (.ifCond .le 5, 3) := by decide +kernel
theorem dX11_quick_39 : decode cX11_quick 39 = .ok (.iconst (-1), 1) := by decide +kernel
theorem dX11_quick_40 : decode cX11_quick 40 = .ok (.ireturn, 1) := by decide +kernel
theorem dX11_quick_41 : decode cX11_quick 41 = .ok (.aload_n 0, 1) := by decide +kernel
theorem dX11_quick_42 : decode cX11_quick 42 = .ok (.invokevirtual 344, 3) := by decide +kernel
theorem dX11_quick_45 : decode cX11_quick 45 = .ok (.aload_n 0, 1) := by decide +kernel
theorem dX11_quick_46 : decode cX11_quick 46 = .ok (.iload_n 1, 1) := by decide +kernel
theorem dX11_quick_47 : decode cX11_quick 47 = .ok (.sipush 4000, 3) := by decide +kernel
theorem dX11_quick_50 : decode cX11_quick 50 = .ok (.invokevirtual 347, 3) := by decide +kernel
theorem dX11_quick_53 : decode cX11_quick 53 = .ok (.istore_n 2, 1) := by decide +kernel
theorem dX11_quick_54 : decode cX11_quick 54 = .ok (.lconst 0, 1) := by decide +kernel
theorem dX11_quick_55 : decode cX11_quick 55 = .ok (.lstore_n 3, 1) := by decide +kernel
theorem dX11_quick_56 : decode cX11_quick 56 = .ok (.lconst 0, 1) := by decide +kernel
theorem dX11_quick_57 : decode cX11_quick 57 = .ok (.lstore 5, 2) := by decide +kernel
theorem dX11_quick_59 : decode cX11_quick 59 = .ok (.iload_n 2, 1) := by decide +kernel
theorem dX11_quick_60 : decode cX11_quick 60 = .ok (.ifCond .eq 34, 3) := by decide +kernel
theorem dX11_quick_63 : decode cX11_quick 63 = .ok (.aload_n 0, 1) := by decide +kernel
theorem dX11_quick_64 : decode cX11_quick 64 = .ok (.iload_n 1, 1) := by decide +kernel
theorem dX11_quick_65 : decode cX11_quick 65 = .ok (.bipush (-2), 2) := by decide +kernel
theorem dX11_quick_67 : decode cX11_quick 67 = .ok (.iconst 0, 1) := by decide +kernel
theorem dX11_quick_68 : decode cX11_quick 68 = .ok (.invokevirtual 398, 3) := by decide +kernel
theorem dX11_quick_71 : decode cX11_quick 71 = .ok (.aload_n 0, 1) := by decide +kernel
theorem dX11_quick_72 : decode cX11_quick 72 = .ok (.iconst 1, 1) := by decide +kernel
theorem dX11_quick_73 : decode cX11_quick 73 = .ok (.iconst 1, 1) := by decide +kernel
theorem dX11_quick_74 : decode cX11_quick 74 = .ok (.invokevirtual 402, 3) := by decide +kernel
theorem dX11_quick_77 : decode cX11_quick 77 = .ok (.lstore_n 3, 1) := by decide +kernel
theorem dX11_quick_78 : decode cX11_quick 78 = .ok (.aload_n 0, 1) := by decide +kernel
theorem dX11_quick_79 : decode cX11_quick 79 = .ok (.iload_n 1, 1) := by decide +kernel
theorem dX11_quick_80 : decode cX11_quick 80 = .ok (.bipush (-2), 2) := by decide +kernel
theorem dX11_quick_82 : decode cX11_quick 82 = .ok (.iconst 1, 1) := by decide +kernel
theorem dX11_quick_83 : decode cX11_quick 83 = .ok (.invokevirtual 398, 3) := by decide +kernel
theorem dX11_quick_86 : decode cX11_quick 86 = .ok (.aload_n 0, 1) := by decide +kernel
theorem dX11_quick_87 : decode cX11_quick 87 = .ok (.iconst 1, 1) := by decide +kernel
theorem dX11_quick_88 : decode cX11_quick 88 = .ok (.iconst 1, 1) := by decide +kernel
theorem dX11_quick_89 : decode cX11_quick 89 = .ok (.invokevirtual 402, 3) := by decide +kernel
theorem dX11_quick_92 : decode cX11_quick 92 = .ok (.lstore 5, 2) := by decide +kernel
theorem dX11_quick_94 : decode cX11_quick 94 = .ok (.aload_n 0, 1) := by decide +kernel
theorem dX11_quick_95 : decode cX11_quick 95 = .ok (.invokevirtual 350, 3) := by decide +kernel
theorem dX11_quick_98 : decode cX11_quick 98 = .ok (.aload_n 0, 1) := by decide +kernel
theorem dX11_quick_99 : decode cX11_quick 99 = .ok (.iconst 0, 1) := by decide +kernel
theorem dX11_quick_100 : decode cX11_quick 100 = .ok (.iload_n 1, 1) := by decide +kernel
theorem dX11_quick_101 : decode cX11_quick 101 = .ok (.invokevirtual 410, 3) := by decide +kernel
theorem dX11_quick_104 : decode cX11_quick 104 = .ok (.lstore 7, 2) := by decide +kernel
theorem dX11_quick_106 : decode cX11_quick 106 = .ok (.aload_n 0, 1) := by decide +kernel
theorem dX11_quick_107 : decode cX11_quick 107 = .ok (.iconst 1, 1) := by decide +kernel
theorem dX11_quick_108 : decode cX11_quick 108 = .ok (.iload_n 1, 1) := by decide +kernel
theorem dX11_quick_109 : decode cX11_quick 109 = .ok (.invokevirtual 410, 3) := by decide +kernel
theorem dX11_quick_112 : decode cX11_quick 112 = .ok (.lstore 9, 2) := by decide +kernel
theorem dX11_quick_114 : decode cX11_quick 114 = .ok (.iload_n 2, 1) := by decide +kernel
theorem dX11_quick_115 : decode cX11_quick 115 = .ok (.ifCond .eq 19, 3) := by decide +kernel
theorem dX11_quick_118 : decode cX11_quick 118 = .ok (.aload_n 0, 1) := by decide +kernel
theorem dX11_quick_119 : decode cX11_quick 119 = .ok (.iconst 0, 1) := by decide +kernel
theorem dX11_quick_120 : decode cX11_quick 120 = .ok (.invokevirtual 413, 3) := by decide +kernel
theorem dX11_quick_123 : decode cX11_quick 123 = .ok (.ifCond .ne 11, 3) := by decide +kernel
theorem dX11_quick_126 : decode cX11_quick 126 = .ok (.aload_n 0, 1) := by decide +kernel
theorem dX11_quick_127 : decode cX11_quick 127 = .ok (.iconst 1, 1) := by decide +kernel
theorem dX11_quick_128 : decode cX11_quick 128 = .ok (.invokevirtual 413, 3) := by decide +kernel
theorem dX11_quick_131 : decode cX11_quick 131 = .ok (.ifCond .eq 15, 3) := by decide +kernel
theorem dX11_quick_134 : decode cX11_quick 134 = .ok (.iload_n 2, 1) := by decide +kernel
theorem dX11_quick_135 : decode cX11_quick 135 = .ok (.ifCond .eq 8, 3) := by decide +kernel
theorem dX11_quick_138 : decode cX11_quick 138 = .ok (.bipush (-2), 2) := by decide +kernel
theorem dX11_quick_140 : decode cX11_quick 140 = .ok (.goto 5, 3) := by decide +kernel
theorem dX11_quick_143 : decode cX11_quick 143 = .ok (.bipush (-3), 2) := by decide +kernel
theorem dX11_quick_145 : decode cX11_quick 145 = .ok (.ireturn, 1) := by decide +kernel
theorem dX11_quick_146 : decode cX11_quick 146 = .ok (.lload_n 3, 1) := by decide +kernel
theorem dX11_quick_147 : decode cX11_quick 147 = .ok (.lload 7, 2) := by decide +kernel
theorem dX11_quick_149 : decode cX11_quick 149 = .ok (.invokestatic 416, 3) := by decide +kernel
theorem dX11_quick_152 : decode cX11_quick 152 = .ok (.lstore 11, 2) := by decide +kernel
theorem dX11_quick_154 : decode cX11_quick 154 = .ok (.lload 5, 2) := by decide +kernel
theorem dX11_quick_156 : decode cX11_quick 156 = .ok (.lload 9, 2) := by decide +kernel
theorem dX11_quick_158 : decode cX11_quick 158 = .ok (.invokestatic 416, 3) := by decide +kernel
theorem dX11_quick_161 : decode cX11_quick 161 = .ok (.lstore 13, 2) := by decide +kernel
theorem dX11_quick_163 : decode cX11_quick 163 = .ok (.lload_n 3, 1) := by decide +kernel
theorem dX11_quick_164 : decode cX11_quick 164 = .ok (.lload 11, 2) := by decide +kernel
theorem dX11_quick_166 : decode cX11_quick 166 = .ok (.ldiv, 1) := by decide +kernel
theorem dX11_quick_167 : decode cX11_quick 167 = .ok (.lload 7, 2) := by decide +kernel
theorem dX11_quick_169 : decode cX11_quick 169 = .ok (.lload 11, 2) := by decide +kernel
theorem dX11_quick_171 : decode cX11_quick 171 = .ok (.ldiv, 1) := by decide +kernel
theorem dX11_quick_172 : decode cX11_quick 172 = .ok (.lload 5, 2) := by decide +kernel
theorem dX11_quick_174 : decode cX11_quick 174 = .ok (.lload 13, 2) := by decide +kernel
theorem dX11_quick_176 : decode cX11_quick 176 = .ok (.ldiv, 1) := by decide +kernel
theorem dX11_quick_177 : decode cX11_quick 177 = .ok (.lload 9, 2) := by decide +kernel
theorem dX11_quick_179 : decode cX11_quick 179 = .ok (.lload 13, 2) := by decide +kernel
theorem dX11_quick_181 : decode cX11_quick 181 = .ok (.ldiv, 1) := by decide +kernel
theorem dX11_quick_182 : decode cX11_quick 182 = .ok (.invokestatic 420, 3) := by decide +kernel
theorem dX11_quick_185 : decode cX11_quick 185 = .ok (.istore 15, 2) := by decide +kernel
theorem dX11_quick_187 : decode cX11_quick 187 = .ok (.iload 15, 2) := by decide +kernel
theorem dX11_quick_189 : decode cX11_quick 189 = .ok (.ifCond .le 7, 3) := by decide +kernel
theorem dX11_quick_192 : decode cX11_quick 192 = .ok (.iconst 0, 1) := by decide +kernel
theorem dX11_quick_193 : decode cX11_quick 193 = .ok (.goto 13, 3) := by decide +kernel
theorem dX11_quick_196 : decode cX11_quick 196 = .ok (.iload 15, 2) := by decide +kernel
theorem dX11_quick_198 : decode cX11_quick 198 = .ok (.ifCond .ge 7, 3) := by decide +kernel
theorem dX11_quick_201 : decode cX11_quick 201 = .ok (.iconst 1, 1) := by decide +kernel
theorem dX11_quick_202 : decode cX11_quick 202 = .ok (.goto 4, 3) := by decide +kernel
theorem dX11_quick_205 : decode cX11_quick 205 = .ok (.iconst 2, 1) := by decide +kernel
theorem dX11_quick_206 : decode cX11_quick 206 = .ok (.ireturn, 1) := by decide +kernel
theorem dX11_compares_0 : decode cX11_compares 0 = .ok (.lload_n 0, 1) := by decide +kernel
theorem dX11_compares_1 : decode cX11_compares 1 = .ok (.lstore 8, 2) := by decide +kernel
theorem dX11_compares_3 : decode cX11_compares 3 = .ok (.lload_n 2, 1) := by decide +kernel
theorem dX11_compares_4 : decode cX11_compares 4 = .ok (.lstore 10, 2) := by decide +kernel
theorem dX11_compares_6 : decode cX11_compares 6 = .ok (.lload 4, 2) := by decide +kernel
theorem dX11_compares_8 : decode cX11_compares 8 = .ok (.lstore 12, 2) := by decide +kernel
theorem dX11_compares_10 : decode cX11_compares 10 = .ok (.lload 6, 2) := by decide +kernel
theorem dX11_compares_12 : decode cX11_compares 12 = .ok (.lstore 14, 2) := by decide +kernel
theorem dX11_compares_14 : decode cX11_compares 14 = .ok (.iconst 1, 1) := by decide +kernel
theorem dX11_compares_15 : decode cX11_compares 15 = .ok (.istore 16, 2) := by decide +kernel
theorem dX11_compares_17 : decode cX11_compares 17 = .ok (.lload 8, 2) := by decide +kernel
theorem dX11_compares_19 : decode cX11_compares 19 = .ok (.lload 10, 2) := by decide +kernel
theorem dX11_compares_21 : decode cX11_compares 21 = .ok (.ldiv, 1) := by decide +kernel
theorem dX11_compares_22 : decode cX11_compares 22 = .ok (.lstore 17, 2) := by decide +kernel
theorem dX11_compares_24 : decode cX11_compares 24 = .ok (.lload 12, 2) := by decide +kernel
theorem dX11_compares_26 : decode cX11_compares 26 = .ok (.lload 14, 2) := by decide +kernel
theorem dX11_compares_28 : decode cX11_compares 28 = .ok (.ldiv, 1) := by decide +kernel
theorem dX11_compares_29 : decode cX11_compares 29 = .ok (.lstore 19, 2) := by decide +kernel
theorem dX11_compares_31 : decode cX11_compares 31 = .ok (.lload 17, 2) := by decide +kernel
theorem dX11_compares_33 : decode cX11_compares 33 = .ok (.lload 19, 2) := by decide +kernel
theorem dX11_compares_35 : decode cX11_compares 35 = .ok (.lcmp, 1) := by decide +kernel
theorem dX11_compares_36 : decode cX11_compares 36 = .ok (.ifCond .eq 20, 3) := by decide +kernel
theorem dX11_compares_39 : decode cX11_compares 39 = .ok (.lload 17, 2) := by decide +kernel
theorem dX11_compares_41 : decode cX11_compares 41 = .ok (.lload 19, 2) := by decide +kernel
theorem dX11_compares_43 : decode cX11_compares 43 = .ok (.lcmp, 1) := by decide +kernel
theorem dX11_compares_44 : decode cX11_compares 44 = .ok (.ifCond .ge 9, 3) := by decide +kernel
theorem dX11_compares_47 : decode cX11_compares 47 = .ok (.iload 16, 2) := by decide +kernel
theorem dX11_compares_49 : decode cX11_compares 49 = .ok (.ineg, 1) := by decide +kernel
theorem dX11_compares_50 : decode cX11_compares 50 = .ok (.goto 5, 3) := by decide +kernel
theorem dX11_compares_53 : decode cX11_compares 53 = .ok (.iload 16, 2) := by decide +kernel
theorem dX11_compares_55 : decode cX11_compares 55 = .ok (.ireturn, 1) := by decide +kernel
theorem dX11_compares_56 : decode cX11_compares 56 = .ok (.lload 8, 2) := by decide +kernel
theorem dX11_compares_58 : decode cX11_compares 58 = .ok (.lload 10, 2) := by decide +kernel
theorem dX11_compares_60 : decode cX11_compares 60 = .ok (.lrem, 1) := by decide +kernel
theorem dX11_compares_61 : decode cX11_compares 61 = .ok (.lstore 21, 2) := by decide +kernel
theorem dX11_compares_63 : decode cX11_compares 63 = .ok (.lload 12, 2) := by decide +kernel
theorem dX11_compares_65 : decode cX11_compares 65 = .ok (.lload 14, 2) := by decide +kernel
theorem dX11_compares_67 : decode cX11_compares 67 = .ok (.lrem, 1) := by decide +kernel
theorem dX11_compares_68 : decode cX11_compares 68 = .ok (.lstore 23, 2) := by decide +kernel
theorem dX11_compares_70 : decode cX11_compares 70 = .ok (.lload 21, 2) := by decide +kernel
theorem dX11_compares_72 : decode cX11_compares 72 = .ok (.lconst 0, 1) := by decide +kernel
theorem dX11_compares_73 : decode cX11_compares 73 = .ok (.lcmp, 1) := by decide +kernel
theorem dX11_compares_74 : decode cX11_compares 74 = .ok (.ifCond .eq 10, 3) := by decide +kernel
theorem dX11_compares_77 : decode cX11_compares 77 = .ok (.lload 23, 2) := by decide +kernel
theorem dX11_compares_79 : decode cX11_compares 79 = .ok (.lconst 0, 1) := by decide +kernel
theorem dX11_compares_80 : decode cX11_compares 80 = .ok (.lcmp, 1) := by decide +kernel
theorem dX11_compares_81 : decode cX11_compares 81 = .ok (.ifCond .ne 31, 3) := by decide +kernel
theorem dX11_compares_84 : decode cX11_compares 84 = .ok (.lload 21, 2) := by decide +kernel
theorem dX11_compares_86 : decode cX11_compares 86 = .ok (.lload 23, 2) := by decide +kernel
theorem dX11_compares_88 : decode cX11_compares 88 = .ok (.lcmp, 1) := by decide +kernel
theorem dX11_compares_89 : decode cX11_compares 89 = .ok (.ifCond .ne 7, 3) := by decide +kernel
theorem dX11_compares_92 : decode cX11_compares 92 = .ok (.iconst 0, 1) := by decide +kernel
theorem dX11_compares_93 : decode cX11_compares 93 = .ok (.goto 18, 3) := by decide +kernel
theorem dX11_compares_96 : decode cX11_compares 96 = .ok (.lload 21, 2) := by decide +kernel
theorem dX11_compares_98 : decode cX11_compares 98 = .ok (.lconst 0, 1) := by decide +kernel
theorem dX11_compares_99 : decode cX11_compares 99 = .ok (.lcmp, 1) := by decide +kernel
theorem dX11_compares_100 : decode cX11_compares 100 = .ok (.ifCond .ne 9, 3) := by decide +kernel
theorem dX11_compares_103 : decode cX11_compares 103 = .ok (.iload 16, 2) := by decide +kernel
theorem dX11_compares_105 : decode cX11_compares 105 = .ok (.ineg, 1) := by decide +kernel
theorem dX11_compares_106 : decode cX11_compares 106 = .ok (.goto 5, 3) := by decide +kernel
theorem dX11_compares_109 : decode cX11_compares 109 = .ok (.iload 16, 2) := by decide +kernel
theorem dX11_compares_111 : decode cX11_compares 111 = .ok (.ireturn, 1) := by decide +kernel
theorem dX11_compares_112 : decode cX11_compares 112 = .ok (.lload 10, 2) := by decide +kernel
theorem dX11_compares_114 : decode cX11_compares 114 = .ok (.lstore 8, 2) := by decide +kernel
theorem dX11_compares_116 : decode cX11_compares 116 = .ok (.lload 21, 2) := by decide +kernel
theorem dX11_compares_118 : decode cX11_compares 118 = .ok (.lstore 10, 2) := by decide +kernel
theorem dX11_compares_120 : decode cX11_compares 120 = .ok (.lload 14, 2) := by decide +kernel
theorem dX11_compares_122 : decode cX11_compares 122 = .ok (.lstore 12, 2) := by decide +kernel
theorem dX11_compares_124 : decode cX11_compares 124 = .ok (.lload 23, 2) := by decide +kernel
theorem dX11_compares_126 : decode cX11_compares 126 = .ok (.lstore 14, 2) := by decide +kernel
theorem dX11_compares_128 : decode cX11_compares 128 = .ok (.iload 16, 2) := by decide +kernel
theorem dX11_compares_130 : decode cX11_compares 130 = .ok (.ineg, 1) := by decide +kernel
theorem dX11_compares_131 : decode cX11_compares 131 = .ok (.istore 16, 2) := by decide +kernel
theorem dX11_compares_133 : decode cX11_compares 133 = .ok (.goto (-116), 3) := by decide +kernel
theorem dX11_someBreaks_0 : decode cX11_someBreaks 0 = .ok (.aload_n 0, 1) := by decide +kernel
theorem dX11_someBreaks_1 : decode cX11_someBreaks 1 = .ok (.iload_n 1, 1) := by decide +kernel
theorem dX11_someBreaks_2 : decode cX11_someBreaks 2 = .ok (.iload_n 2, 1) := by decide +kernel
theorem dX11_someBreaks_3 : decode cX11_someBreaks 3 = .ok (.invokevirtual 347, 3) := by decide +kernel
theorem dX11_someBreaks_6 : decode cX11_someBreaks 6 = .ok (.ifCond .ne 6, 3) := by decide +kernel
theorem dX11_someBreaks_9 : decode cX11_someBreaks 9 = .ok (.bipush (-3), 2) := by decide +kernel
theorem dX11_someBreaks_11 : decode cX11_someBreaks 11 = .ok (.ireturn, 1) := by decide +kernel
theorem dX11_someBreaks_12 : decode cX11_someBreaks 12 = .ok (.aload_n 0, 1) := by decide +kernel
theorem dX11_someBreaks_13 : decode cX11_someBreaks 13 = .ok (.getfield 296, 3) := by decide +kernel
theorem dX11_someBreaks_16 : decode cX11_someBreaks 16 = .ok (.istore_n 3, 1) := by decide +kernel
theorem dX11_someBreaks_17 : decode cX11_someBreaks 17 = .ok (.iconst 0, 1) := by decide +kernel
theorem dX11_someBreaks_18 : decode cX11_someBreaks 18 = .ok (.istore 4, 2) := by decide +kernel
theorem dX11_someBreaks_20 : decode cX11_someBreaks 20 = .ok (.iload 4, 2) := by decide +kernel
theorem dX11_someBreaks_22 : decode cX11_someBreaks 22 = .ok (.iload_n 3, 1) := by decide +kernel
theorem dX11_someBreaks_23 : decode cX11_someBreaks 23 = .ok (.if_icmp .ge 55, 3) := by decide +kernel
theorem dX11_someBreaks_26 : decode cX11_someBreaks 26 = .ok (.iconst 0, 1) := by decide +kernel
theorem dX11_someBreaks_27 : decode cX11_someBreaks 27 = .ok (.istore 5, 2) := by decide +kernel
theorem dX11_someBreaks_29 : decode cX11_someBreaks 29 = .ok (.iload 5, 2) := by decide +kernel
theorem dX11_someBreaks_31 : decode cX11_someBreaks 31 = .ok (.aload_n 0, 1) := by decide +kernel
theorem dX11_someBreaks_32 : decode cX11_someBreaks 32 = .ok (.invokevirtual 251, 3) := by decide +kernel
theorem dX11_someBreaks_35 : decode cX11_someBreaks 35 = .ok (.if_icmp .ge 37, 3) := by decide +kernel
theorem dX11_someBreaks_38 : decode cX11_someBreaks 38 = .ok (.aload_n 0, 1) := by decide +kernel
theorem dX11_someBreaks_39 : decode cX11_someBreaks 39 = .ok (.getfield 327, 3) := by decide +kernel
theorem dX11_someBreaks_42 : decode cX11_someBreaks 42 = .ok (.iload 4, 2) := by decide +kernel
theorem dX11_someBreaks_44 : decode cX11_someBreaks 44 = .ok (.iaload, 1) := by decide +kernel
theorem dX11_someBreaks_45 : decode cX11_someBreaks 45 = .ok (.iload_n 1, 1) := by decide +kernel
theorem dX11_someBreaks_46 : decode cX11_someBreaks 46 = .ok (.if_icmp .ge 26, 3) := by decide +kernel
theorem dX11_someBreaks_49 : decode cX11_someBreaks 49 = .ok (.aload_n 0, 1) := by decide +kernel
theorem dX11_someBreaks_50 : decode cX11_someBreaks 50 = .ok (.iload 4, 2) := by decide +kernel
theorem dX11_someBreaks_52 : decode cX11_someBreaks 52 = .ok (.iload 5, 2) := by decide +kernel
theorem dX11_someBreaks_54 : decode cX11_someBreaks 54 = .ok (.invokevirtual 318, 3) := by decide +kernel
theorem dX11_someBreaks_57 : decode cX11_someBreaks 57 = .ok (.aload_n 0, 1) := by decide +kernel
theorem dX11_someBreaks_58 : decode cX11_someBreaks 58 = .ok (.invokevirtual 356, 3) := by decide +kernel
theorem dX11_someBreaks_61 : decode cX11_someBreaks 61 = .ok (.ifCond .eq 5, 3) := by decide +kernel
theorem dX11_someBreaks_64 : decode cX11_someBreaks 64 = .ok (.iconst 1, 1) := by decide +kernel
theorem dX11_someBreaks_65 : decode cX11_someBreaks 65 = .ok (.ireturn, 1) := by decide +kernel
theorem dX11_someBreaks_66 : decode cX11_someBreaks 66 = .ok (.iinc 5 1, 3) := by decide +kernel
theorem dX11_someBreaks_69 : decode cX11_someBreaks 69 = .ok (.goto (-40), 3) := by decide +kernel
theorem dX11_someBreaks_72 : decode cX11_someBreaks 72 = .ok (.iinc 4 1, 3) := by decide +kernel
theorem dX11_someBreaks_75 : decode cX11_someBreaks 75 = .ok (.goto (-55), 3) := by decide +kernel
theorem dX11_someBreaks_78 : decode cX11_someBreaks 78 = .ok (.iconst 0, 1) := by decide +kernel
theorem dX11_someBreaks_79 : decode cX11_someBreaks 79 = .ok (.ireturn, 1) := by decide +kernel
theorem dX11_round_0 : decode cX11_round 0 = .ok (.aload_n 0, 1) := by decide +kernel
theorem dX11_round_1 : decode cX11_round 1 = .ok (.iconst 0, 1) := by decide +kernel
theorem dX11_round_2 : decode cX11_round 2 = .ok (.putfield 3, 3) := by decide +kernel
theorem dX11_round_5 : decode cX11_round 5 = .ok (.iload_n 1, 1) := by decide +kernel
theorem dX11_round_6 : decode cX11_round 6 = .ok (.i2l, 1) := by decide +kernel
theorem dX11_round_7 : decode cX11_round 7 = .ok (.lconst 0, 1) := by decide +kernel
theorem dX11_round_8 : decode cX11_round 8 = .ok (.ldc2_w 229, 3) := by decide +kernel
theorem dX11_round_11 : decode cX11_round 11 = .ok (.invokestatic 21, 3) := by decide +kernel
theorem dX11_round_14 : decode cX11_round 14 = .ok (.ifCond .eq 22, 3) := by decide +kernel
theorem dX11_round_17 : decode cX11_round 17 = .ok (.iload_n 2, 1) := by decide +kernel
theorem dX11_round_18 : decode cX11_round 18 = .ok (.i2l, 1) := by decide +kernel
theorem dX11_round_19 : decode cX11_round 19 = .ok (.lconst 0, 1) := by decide +kernel
theorem dX11_round_20 : decode cX11_round 20 = .ok (.ldc2_w 424, 3) := by decide +kernel
theorem dX11_round_23 : decode cX11_round 23 = .ok (.invokestatic 21, 3) := by decide +kernel
theorem dX11_round_26 : decode cX11_round 26 = .ok (.ifCond .eq 10, 3) := by decide +kernel
theorem dX11_round_29 : decode cX11_round 29 = .ok (.aload_n 0, 1) := by decide +kernel
theorem dX11_round_30 : decode cX11_round 30 = .ok (.getfield 121, 3) := by decide +kernel
theorem dX11_round_33 : decode cX11_round 33 = .ok (.ifCond .ne 5, 3) := by decide +kernel
theorem dX11_round_36 : decode cX11_round 36 = .ok (.iconst (-1), 1) := by decide +kernel
theorem dX11_round_37 : decode cX11_round 37 = .ok (.ireturn, 1) := by decide +kernel
theorem dX11_round_38 : decode cX11_round 38 = .ok (.aload_n 0, 1) := by decide +kernel
theorem dX11_round_39 : decode cX11_round 39 = .ok (.invokevirtual 344, 3) := by decide +kernel
theorem dX11_round_42 : decode cX11_round 42 = .ok (.aload_n 0, 1) := by decide +kernel
theorem dX11_round_43 : decode cX11_round 43 = .ok (.getfield 270, 3) := by decide +kernel
theorem dX11_round_46 : decode cX11_round 46 = .ok (.lstore_n 3, 1) := by decide +kernel
theorem dX11_round_47 : decode cX11_round 47 = .ok (.iconst 0, 1) := by decide +kernel
theorem dX11_round_48 : decode cX11_round 48 = .ok (.istore 5, 2) := by decide +kernel
theorem dX11_round_50 : decode cX11_round 50 = .ok (.iconst 0, 1) := by decide +kernel
theorem dX11_round_51 : decode cX11_round 51 = .ok (.istore 6, 2) := by decide +kernel
theorem dX11_round_53 : decode cX11_round 53 = .ok (.iconst 0, 1) := by decide +kernel
theorem dX11_round_54 : decode cX11_round 54 = .ok (.istore 7, 2) := by decide +kernel
theorem dX11_round_56 : decode cX11_round 56 = .ok (.iload 7, 2) := by decide +kernel
theorem dX11_round_58 : decode cX11_round 58 = .ok (.sipush 256, 3) := by decide +kernel
theorem dX11_round_61 : decode cX11_round 61 = .ok (.if_icmp .ge 111, 3) := by decide +kernel
theorem dX11_round_64 : decode cX11_round 64 = .ok (.bipush 8, 2) := by decide +kernel
theorem dX11_round_66 : decode cX11_round 66 = .ok (.bipush 7, 2) := by decide +kernel
theorem dX11_round_68 : decode cX11_round 68 = .ok (.iload_n 1, 1) := by decide +kernel
theorem dX11_round_69 : decode cX11_round 69 = .ok (.isub, 1) := by decide +kernel
theorem dX11_round_70 : decode cX11_round 70 = .ok (.imul, 1) := by decide +kernel
theorem dX11_round_71 : decode cX11_round 71 = .ok (.istore 8, 2) := by decide +kernel
theorem dX11_round_73 : decode cX11_round 73 = .ok (.aload_n 0, 1) := by decide +kernel
theorem dX11_round_74 : decode cX11_round 74 = .ok (.lload_n 3, 1) := by decide +kernel
theorem dX11_round_75 : decode cX11_round 75 = .ok (.ldc2_w 231, 3) := by decide +kernel
theorem dX11_round_78 : decode cX11_round 78 = .ok (.iload 8, 2) := by decide +kernel
theorem dX11_round_80 : decode cX11_round 80 = .ok (.lshl, 1) := by decide +kernel
theorem dX11_round_81 : decode cX11_round 81 = .ok (.ldc2_w 426, 3) := by decide +kernel
theorem dX11_round_84 : decode cX11_round 84 = .ok (.lxor, 1) := by decide +kernel
theorem dX11_round_85 : decode cX11_round 85 = .ok (.land, 1) := by decide +kernel
theorem dX11_round_86 : decode cX11_round 86 = .ok (.iload 7, 2) := by decide +kernel
theorem dX11_round_88 : decode cX11_round 88 = .ok (.i2l, 1) := by decide +kernel
theorem dX11_round_89 : decode cX11_round 89 = .ok (.iload 8, 2) := by decide +kernel
theorem dX11_round_91 : decode cX11_round 91 = .ok (.lshl, 1) := by decide +kernel
theorem dX11_round_92 : decode cX11_round 92 = .ok (.lor, 1) := by decide +kernel
theorem dX11_round_93 : decode cX11_round 93 = .ok (.putfield 270, 3) := by decide +kernel
theorem dX11_round_96 : decode cX11_round 96 = .ok (.aload_n 0, 1) := by decide +kernel
theorem dX11_round_97 : decode cX11_round 97 = .ok (.iload_n 2, 1) := by decide +kernel
theorem dX11_round_98 : decode cX11_round 98 = .ok (.sipush 300, 3) := by decide +kernel
theorem dX11_round_101 : decode cX11_round 101 = .ok (.invokevirtual 428, 3) := by decide +kernel
theorem dX11_round_104 : decode cX11_round 104 = .ok (.istore 9, 2) := by decide +kernel
theorem dX11_round_106 : decode cX11_round 106 = .ok (.iload 5, 2) := by decide +kernel
theorem dX11_round_108 : decode cX11_round 108 = .ok (.ifCond .ne 10, 3) := by decide +kernel
theorem dX11_round_111 : decode cX11_round 111 = .ok (.iload 9, 2) := by decide +kernel
theorem dX11_round_113 : decode cX11_round 113 = .ok (.bipush (-3), 2) := by decide +kernel
theorem dX11_round_115 : decode cX11_round 115 = .ok (.if_icmp .ne 7, 3) := by decide +kernel
theorem dX11_round_118 : decode cX11_round 118 = .ok (.iconst 1, 1) := by decide +kernel
theorem dX11_round_119 : decode cX11_round 119 = .ok (.goto 4, 3) := by decide +kernel
theorem dX11_round_122 : decode cX11_round 122 = .ok (.iconst 0, 1) := by decide +kernel
theorem dX11_round_123 : decode cX11_round 123 = .ok (.istore 5, 2) := by decide +kernel
theorem dX11_round_125 : decode cX11_round 125 = .ok (.iload 9, 2) := by decide +kernel
theorem dX11_round_127 : decode cX11_round 127 = .ok (.iconst 1, 1) := by decide +kernel
theorem dX11_round_128 : decode cX11_round 128 = .ok (.if_icmp .ne 19, 3) := by decide +kernel
theorem dX11_round_131 : decode cX11_round 131 = .ok (.iload 6, 2) := by decide +kernel
theorem dX11_round_133 : decode cX11_round 133 = .ok (.bipush 20, 2) := by decide +kernel
theorem dX11_round_135 : decode cX11_round 135 = .ok (.if_icmp .ge 12, 3) := by decide +kernel
theorem dX11_round_138 : decode cX11_round 138 = .ok (.aload_n 0, 1) := by decide +kernel
theorem dX11_round_139 : decode cX11_round 139 = .ok (.getfield 431, 3) := by decide +kernel
theorem dX11_round_142 : decode cX11_round 142 = .ok (.iload 6, 2) := by decide +kernel
theorem dX11_round_144 : decode cX11_round 144 = .ok (.iload 7, 2) := by decide +kernel
theorem dX11_round_146 : decode cX11_round 146 = .ok (.iastore, 1) := by decide +kernel
theorem dX11_round_147 : decode cX11_round 147 = .ok (.iload 6, 2) := by decide +kernel
theorem dX11_round_149 : decode cX11_round 149 = .ok (.iload 9, 2) := by decide +kernel
theorem dX11_round_151 : decode cX11_round 151 = .ok (.iconst 1, 1) := by decide +kernel
theorem dX11_round_152 : decode cX11_round 152 = .ok (.if_icmp .ne 7, 3) := by decide +kernel
theorem dX11_round_155 : decode cX11_round 155 = .ok (.iconst 1, 1) := by decide +kernel
theorem dX11_round_156 : decode cX11_round 156 = .ok (.goto 4, 3) := by decide +kernel
theorem dX11_round_159 : decode cX11_round 159 = .ok (.iconst 0, 1) := by decide +kernel
theorem dX11_round_160 : decode cX11_round 160 = .ok (.invokestatic 35, 3) := by decide +kernel
theorem dX11_round_163 : decode cX11_round 163 = .ok (.iadd, 1) := by decide +kernel
theorem dX11_round_164 : decode cX11_round 164 = .ok (.istore 6, 2) := by decide +kernel
theorem dX11_round_166 : decode cX11_round 166 = .ok (.iinc 7 1, 3) := by decide +kernel
theorem dX11_round_169 : decode cX11_round 169 = .ok (.goto (-113), 3) := by decide +kernel
theorem dX11_round_172 : decode cX11_round 172 = .ok (.aload_n 0, 1) := by decide +kernel
theorem dX11_round_173 : decode cX11_round 173 = .ok (.lload_n 3, 1) := by decide +kernel
theorem dX11_round_174 : decode cX11_round 174 = .ok (.putfield 270, 3) := by decide +kernel
theorem dX11_round_177 : decode cX11_round 177 = .ok (.aload_n 0, 1) := by decide +kernel
theorem dX11_round_178 : decode cX11_round 178 = .ok (.invokevirtual 350, 3) := by decide +kernel
theorem dX11_round_181 : decode cX11_round 181 = .ok (.iload 5, 2) := by decide +kernel
theorem dX11_round_183 : decode cX11_round 183 = .ok (.ifCond .eq 6, 3) := by decide +kernel
theorem dX11_round_186 : decode cX11_round 186 = .ok (.bipush (-3), 2) := by decide +kernel
theorem dX11_round_188 : decode cX11_round 188 = .ok (.ireturn, 1) := by decide +kernel
theorem dX11_round_189 : decode cX11_round 189 = .ok (.aload_n 0, 1) := by decide +kernel
theorem dX11_round_190 : decode cX11_round 190 = .ok (.iconst 0, 1) := by decide +kernel
theorem dX11_round_191 : decode cX11_round 191 = .ok (.putfield 11, 3) := by decide +kernel
theorem dX11_round_194 : decode cX11_round 194 = .ok (.iconst 0, 1) := by decide +kernel
theorem dX11_round_195 : decode cX11_round 195 = .ok (.istore 7, 2) := by decide +kernel
theorem dX11_round_197 : decode cX11_round 197 = .ok (.iload 7, 2) := by decide +kernel
theorem dX11_round_199 : decode cX11_round 199 = .ok (.iload 6, 2) := by decide +kernel
theorem dX11_round_201 : decode cX11_round 201 = .ok (.if_icmp .ge 28, 3) := by decide +kernel
theorem dX11_round_204 : decode cX11_round 204 = .ok (.iload 7, 2) := by decide +kernel
theorem dX11_round_206 : decode cX11_round 206 = .ok (.bipush 20, 2) := by decide +kernel
theorem dX11_round_208 : decode cX11_round 208 = .ok (.if_icmp .ge 21, 3) := by decide +kernel
theorem dX11_round_211 : decode cX11_round 211 = .ok (.aload_n 0, 1) := by decide +kernel
theorem dX11_round_212 : decode cX11_round 212 = .ok (.aload_n 0, 1) := by decide +kernel
theorem dX11_round_213 : decode cX11_round 213 = .ok (.getfield 431, 3) := by decide +kernel
theorem dX11_round_216 : decode cX11_round 216 = .ok (.iload 7, 2) := by decide +kernel
theorem dX11_round_218 : decode cX11_round 218 = .ok (.iaload, 1) := by decide +kernel
theorem dX11_round_219 : decode cX11_round 219 = .ok (.i2l, 1) := by decide +kernel
theorem dX11_round_220 : decode cX11_round 220 = .ok (.invokevirtual 262, 3) := by decide +kernel
theorem dX11_round_223 : decode cX11_round 223 = .ok (.iinc 7 1, 3) := by decide +kernel
theorem dX11_round_226 : decode cX11_round 226 = .ok (.goto (-29), 3) := by decide +kernel
theorem dX11_round_229 : decode cX11_round 229 = .ok (.iload 6, 2) := by decide +kernel
theorem dX11_round_231 : decode cX11_round 231 = .ok (.ireturn, 1) := by decide +kernel
theorem dX11_hid_0 : decode cX11_hid 0 = .ok (.aload_n 0, 1) := by decide +kernel
theorem dX11_hid_1 : decode cX11_hid 1 = .ok (.iconst 0, 1) := by decide +kernel
theorem dX11_hid_2 : decode cX11_hid 2 = .ok (.putfield 3, 3) := by decide +kernel
theorem dX11_hid_5 : decode cX11_hid 5 = .ok (.aload_n 0, 1) := by decide +kernel
theorem dX11_hid_6 : decode cX11_hid 6 = .ok (.iload_n 2, 1) := by decide +kernel
theorem dX11_hid_7 : decode cX11_hid 7 = .ok (.invokevirtual 341, 3) := by decide +kernel
theorem dX11_hid_10 : decode cX11_hid 10 = .ok (.ifCond .eq 30, 3) := by decide +kernel
theorem dX11_hid_13 : decode cX11_hid 13 = .ok (.iload_n 1, 1) := by decide +kernel
theorem dX11_hid_14 : decode cX11_hid 14 = .ok (.i2l, 1) := by decide +kernel
theorem dX11_hid_15 : decode cX11_hid 15 = .ok (.lconst 0, 1) := by decide +kernel
theorem dX11_hid_16 : decode cX11_hid 16 = .ok (.aload_n 0, 1) := by decide +kernel
theorem dX11_hid_17 : decode cX11_hid 17 = .ok (.getfield 158, 3) := by decide +kernel
theorem dX11_hid_20 : decode cX11_hid 20 = .ok (.iconst 1, 1) := by decide +kernel
theorem dX11_hid_21 : decode cX11_hid 21 = .ok (.isub, 1) := by decide +kernel
theorem dX11_hid_22 : decode cX11_hid 22 = .ok (.i2l, 1) := by decide +kernel
theorem dX11_hid_23 : decode cX11_hid 23 = .ok (.invokestatic 21, 3) := by decide +kernel
theorem dX11_hid_26 : decode cX11_hid 26 = .ok (.ifCond .eq 14, 3) := by decide +kernel
theorem dX11_hid_29 : decode cX11_hid 29 = .ok (.aload_n 0, 1) := by decide +kernel
theorem dX11_hid_30 : decode cX11_hid 30 = .ok (.getfield 161, 3) := by decide +kernel
theorem dX11_hid_33 : decode cX11_hid 33 = .ok (.iload_n 1, 1) := by decide +kernel
theorem dX11_hid_34 : decode cX11_hid 34 = .ok (.invokestatic 204, 3) := by decide +kernel
theorem dX11_hid_37 : decode cX11_hid 37 = .ok (.ifCond .ne 5, 3) := by decide +kernel
theorem dX11_hid_40 : decode cX11_hid 40 = .ok (.iconst (-1), 1) := by decide +kernel
theorem dX11_hid_41 : decode cX11_hid 41 = .ok (.ireturn, 1) := by decide +kernel
theorem dX11_hid_42 : decode cX11_hid 42 = .ok (.aload_n 0, 1) := by decide +kernel
theorem dX11_hid_43 : decode cX11_hid 43 = .ok (.invokevirtual 344, 3) := by decide +kernel
theorem dX11_hid_46 : decode cX11_hid 46 = .ok (.aload_n 0, 1) := by decide +kernel
theorem dX11_hid_47 : decode cX11_hid 47 = .ok (.iconst 2, 1) := by decide +kernel
theorem dX11_hid_48 : decode cX11_hid 48 = .ok (.putfield 353, 3) := by decide +kernel
theorem dX11_hid_51 : decode cX11_hid 51 = .ok (.aload_n 0, 1) := by decide +kernel
theorem dX11_hid_52 : decode cX11_hid 52 = .ok (.iload_n 1, 1) := by decide +kernel
theorem dX11_hid_53 : decode cX11_hid 53 = .ok (.putfield 359, 3) := by decide +kernel
theorem dX11_hid_56 : decode cX11_hid 56 = .ok (.aload_n 0, 1) := by decide +kernel
theorem dX11_hid_57 : decode cX11_hid 57 = .ok (.iload_n 2, 1) := by decide +kernel
theorem dX11_hid_58 : decode cX11_hid 58 = .ok (.invokevirtual 368, 3) := by decide +kernel
theorem dX11_hid_61 : decode cX11_hid 61 = .ok (.istore_n 3, 1) := by decide +kernel
theorem dX11_hid_62 : decode cX11_hid 62 = .ok (.aload_n 0, 1) := by decide +kernel
theorem dX11_hid_63 : decode cX11_hid 63 = .ok (.invokevirtual 350, 3) := by decide +kernel
theorem dX11_hid_66 : decode cX11_hid 66 = .ok (.iload_n 3, 1) := by decide +kernel
theorem dX11_hid_67 : decode cX11_hid 67 = .ok (.ireturn, 1) := by decide +kernel
theorem dX11_nextSet_0 : decode cX11_nextSet 0 = .ok (.iload_n 0, 1) := by decide +kernel
theorem dX11_nextSet_1 : decode cX11_nextSet 1 = .ok (.invokestatic 434, 3) := by decide +kernel
theorem dX11_nextSet_4 : decode cX11_nextSet 4 = .ok (.istore_n 2, 1) := by decide +kernel
theorem dX11_nextSet_5 : decode cX11_nextSet 5 = .ok (.iload_n 0, 1) := by decide +kernel
theorem dX11_nextSet_6 : decode cX11_nextSet 6 = .ok (.iconst 1, 1) := by decide +kernel
theorem dX11_nextSet_7 : decode cX11_nextSet 7 = .ok (.iadd, 1) := by decide +kernel
theorem dX11_nextSet_8 : decode cX11_nextSet 8 = .ok (.istore_n 3, 1) := by decide +kernel
theorem dX11_nextSet_9 : decode cX11_nextSet 9 = .ok (.iload_n 3, 1) := by decide +kernel
theorem dX11_nextSet_10 : decode cX11_nextSet 10 = .ok (.iconst 1, 1) := by decide +kernel
theorem dX11_nextSet_11 : decode cX11_nextSet 11 = .ok (.iload_n 1, 1) := by decide +kernel
theorem dX11_nextSet_12 : decode cX11_nextSet 12 = .ok (.ishl, 1) := by decide +kernel
theorem dX11_nextSet_13 : decode cX11_nextSet 13 = .ok (.if_icmp .ge 19, 3) := by decide +kernel
theorem dX11_nextSet_16 : decode cX11_nextSet 16 = .ok (.iload_n 3, 1) := by decide +kernel
theorem dX11_nextSet_17 : decode cX11_nextSet 17 = .ok (.invokestatic 434, 3) := by decide +kernel
theorem dX11_nextSet_20 : decode cX11_nextSet 20 = .ok (.iload_n 2, 1) := by decide +kernel
theorem dX11_nextSet_21 : decode cX11_nextSet 21 = .ok (.if_icmp .ne 5, 3) := by decide +kernel
theorem dX11_nextSet_24 : decode cX11_nextSet 24 = .ok (.iload_n 3, 1) := by decide +kernel
theorem dX11_nextSet_25 : decode cX11_nextSet 25 = .ok (.ireturn, 1) := by decide +kernel
theorem dX11_nextSet_26 : decode cX11_nextSet 26 = .ok (.iinc 3 1, 3) := by decide +kernel
theorem dX11_nextSet_29 : decode cX11_nextSet 29 = .ok (.goto (-20), 3) := by decide +kernel
theorem dX11_nextSet_32 : decode cX11_nextSet 32 = .ok (.iload_n 2, 1) := by decide +kernel
theorem dX11_nextSet_33 : decode cX11_nextSet 33 = .ok (.iload_n 1, 1) := by decide +kernel
theorem dX11_nextSet_34 : decode cX11_nextSet 34 = .ok (.if_icmp .ne 7, 3) := by decide +kernel
theorem dX11_nextSet_37 : decode cX11_nextSet 37 = .ok (.iconst (-1), 1) := by decide +kernel
theorem dX11_nextSet_38 : decode cX11_nextSet 38 = .ok (.goto 10, 3) := by decide +kernel
theorem dX11_nextSet_41 : decode cX11_nextSet 41 = .ok (.iconst 1, 1) := by decide +kernel
theorem dX11_nextSet_42 : decode cX11_nextSet 42 = .ok (.iload_n 2, 1) := by decide +kernel
theorem dX11_nextSet_43 : decode cX11_nextSet 43 = .ok (.iconst 1, 1) := by decide +kernel
theorem dX11_nextSet_44 : decode cX11_nextSet 44 = .ok (.iadd, 1) := by decide +kernel
theorem dX11_nextSet_45 : decode cX11_nextSet 45 = .ok (.ishl, 1) := by decide +kernel
theorem dX11_nextSet_46 : decode cX11_nextSet 46 = .ok (.iconst 1, 1) := by decide +kernel
theorem dX11_nextSet_47 : decode cX11_nextSet 47 = .ok (.isub, 1) := by decide +kernel
theorem dX11_nextSet_48 : decode cX11_nextSet 48 = .ok (.ireturn, 1) := by decide +kernel
theorem dX11_iron_0 : decode cX11_iron 0 = .ok (.aload_n 0, 1) := by decide +kernel
theorem dX11_iron_1 : decode cX11_iron 1 = .ok (.iconst 0, 1) := by decide +kernel
theorem dX11_iron_2 : decode cX11_iron 2 = .ok (.putfield 3, 3) := by decide +kernel
theorem dX11_iron_5 : decode cX11_iron 5 = .ok (.aload_n 0, 1) := by decide +kernel
theorem dX11_iron_6 : decode cX11_iron 6 = .ok (.iload_n 1, 1) := by decide +kernel
theorem dX11_iron_7 : decode cX11_iron 7 = .ok (.invokevirtual 341, 3) := by decide +kernel
theorem dX11_iron_10 : decode cX11_iron 10 = .ok (.ifCond .ne 5, 3) := by decide +kernel
theorem dX11_iron_13 : decode cX11_iron 13 = .ok (.iconst (-1), 1) := by decide +kernel
theorem dX11_iron_14 : decode cX11_iron 14 = .ok (.ireturn, 1) := by decide +kernel
theorem dX11_iron_15 : decode cX11_iron 15 = .ok (.aload_n 0, 1) := by decide +kernel
theorem dX11_iron_16 : decode cX11_iron 16 = .ok (.invokevirtual 344, 3) := by decide +kernel
theorem dX11_iron_19 : decode cX11_iron 19 = .ok (.aload_n 0, 1) := by decide +kernel
theorem dX11_iron_20 : decode cX11_iron 20 = .ok (.getfield 161, 3) := by decide +kernel
theorem dX11_iron_23 : decode cX11_iron 23 = .ok (.istore_n 2, 1) := by decide +kernel
theorem dX11_iron_24 : decode cX11_iron 24 = .ok (.iconst 0, 1) := by decide +kernel
theorem dX11_iron_25 : decode cX11_iron 25 = .ok (.istore_n 3, 1) := by decide +kernel
theorem dX11_iron_26 : decode cX11_iron 26 = .ok (.iconst 1, 1) := by decide +kernel
theorem dX11_iron_27 : decode cX11_iron 27 = .ok (.istore 4, 2) := by decide +kernel
theorem dX11_iron_29 : decode cX11_iron 29 = .ok (.iconst 0, 1) := by decide +kernel
theorem dX11_iron_30 : decode cX11_iron 30 = .ok (.istore 5, 2) := by decide +kernel
theorem dX11_iron_32 : decode cX11_iron 32 = .ok (.iload_n 3, 1) := by decide +kernel
theorem dX11_iron_33 : decode cX11_iron 33 = .ok (.ifCond .lt 39, 3) := by decide +kernel
theorem dX11_iron_36 : decode cX11_iron 36 = .ok (.iload 4, 2) := by decide +kernel
theorem dX11_iron_38 : decode cX11_iron 38 = .ok (.iconst 1, 1) := by decide +kernel
theorem dX11_iron_39 : decode cX11_iron 39 = .ok (.if_icmp .ne 33, 3) := by decide +kernel
theorem dX11_iron_42 : decode cX11_iron 42 = .ok (.aload_n 0, 1) := by decide +kernel
theorem dX11_iron_43 : decode cX11_iron 43 = .ok (.iload_n 3, 1) := by decide +kernel
theorem dX11_iron_44 : decode cX11_iron 44 = .ok (.putfield 161, 3) := by decide +kernel
theorem dX11_iron_47 : decode cX11_iron 47 = .ok (.aload_n 0, 1) := by decide +kernel
theorem dX11_iron_48 : decode cX11_iron 48 = .ok (.iload_n 1, 1) := by decide +kernel
theorem dX11_iron_49 : decode cX11_iron 49 = .ok (.sipush 4000, 3) := by decide +kernel
theorem dX11_iron_52 : decode cX11_iron 52 = .ok (.invokevirtual 428, 3) := by decide +kernel
theorem dX11_iron_55 : decode cX11_iron 55 = .ok (.istore 4, 2) := by decide +kernel
theorem dX11_iron_57 : decode cX11_iron 57 = .ok (.iload_n 3, 1) := by decide +kernel
theorem dX11_iron_58 : decode cX11_iron 58 = .ok (.istore 5, 2) := by decide +kernel
theorem dX11_iron_60 : decode cX11_iron 60 = .ok (.iload_n 3, 1) := by decide +kernel
theorem dX11_iron_61 : decode cX11_iron 61 = .ok (.aload_n 0, 1) := by decide +kernel
theorem dX11_iron_62 : decode cX11_iron 62 = .ok (.getfield 158, 3) := by decide +kernel
theorem dX11_iron_65 : decode cX11_iron 65 = .ok (.invokestatic 439, 3) := by decide +kernel
theorem dX11_iron_68 : decode cX11_iron 68 = .ok (.istore_n 3, 1) := by decide +kernel
theorem dX11_iron_69 : decode cX11_iron 69 = .ok (.goto (-37), 3) := by decide +kernel
theorem dX11_iron_72 : decode cX11_iron 72 = .ok (.aload_n 0, 1) := by decide +kernel
theorem dX11_iron_73 : decode cX11_iron 73 = .ok (.iload_n 2, 1) := by decide +kernel
theorem dX11_iron_74 : decode cX11_iron 74 = .ok (.putfield 161, 3) := by decide +kernel
theorem dX11_iron_77 : decode cX11_iron 77 = .ok (.aload_n 0, 1) := by decide +kernel
theorem dX11_iron_78 : decode cX11_iron 78 = .ok (.invokevirtual 350, 3) := by decide +kernel
theorem dX11_iron_81 : decode cX11_iron 81 = .ok (.iload 4, 2) := by decide +kernel
theorem dX11_iron_83 : decode cX11_iron 83 = .ok (.ifCond .eq 17, 3) := by decide +kernel
theorem dX11_iron_86 : decode cX11_iron 86 = .ok (.iload 4, 2) := by decide +kernel
theorem dX11_iron_88 : decode cX11_iron 88 = .ok (.iconst 1, 1) := by decide +kernel
theorem dX11_iron_89 : decode cX11_iron 89 = .ok (.if_icmp .ne 8, 3) := by decide +kernel
theorem dX11_iron_92 : decode cX11_iron 92 = .ok (.bipush (-2), 2) := by decide +kernel
theorem dX11_iron_94 : decode cX11_iron 94 = .ok (.goto 5, 3) := by decide +kernel
theorem dX11_iron_97 : decode cX11_iron 97 = .ok (.bipush (-3), 2) := by decide +kernel
theorem dX11_iron_99 : decode cX11_iron 99 = .ok (.ireturn, 1) := by decide +kernel
theorem dX11_iron_100 : decode cX11_iron 100 = .ok (.aload_n 0, 1) := by decide +kernel
theorem dX11_iron_101 : decode cX11_iron 101 = .ok (.iconst 0, 1) := by decide +kernel
theorem dX11_iron_102 : decode cX11_iron 102 = .ok (.putfield 11, 3) := by decide +kernel
theorem dX11_iron_105 : decode cX11_iron 105 = .ok (.aload_n 0, 1) := by decide +kernel
theorem dX11_iron_106 : decode cX11_iron 106 = .ok (.iload 5, 2) := by decide +kernel
theorem dX11_iron_108 : decode cX11_iron 108 = .ok (.i2l, 1) := by decide +kernel
theorem dX11_iron_109 : decode cX11_iron 109 = .ok (.invokevirtual 262, 3) := by decide +kernel
theorem dX11_iron_112 : decode cX11_iron 112 = .ok (.iload 5, 2) := by decide +kernel
theorem dX11_iron_114 : decode cX11_iron 114 = .ok (.invokestatic 434, 3) := by decide +kernel
theorem dX11_iron_117 : decode cX11_iron 117 = .ok (.ireturn, 1) := by decide +kernel
theorem dX11_patch_0 : decode cX11_patch 0 = .ok (.aload_n 0, 1) := by decide +kernel
theorem dX11_patch_1 : decode cX11_patch 1 = .ok (.iconst 0, 1) := by decide +kernel
theorem dX11_patch_2 : decode cX11_patch 2 = .ok (.putfield 3, 3) := by decide +kernel
theorem dX11_patch_5 : decode cX11_patch 5 = .ok (.aload_n 0, 1) := by decide +kernel
theorem dX11_patch_6 : decode cX11_patch 6 = .ok (.iconst 0, 1) := by decide +kernel
theorem dX11_patch_7 : decode cX11_patch 7 = .ok (.invokevirtual 118, 3) := by decide +kernel
theorem dX11_patch_10 : decode cX11_patch 10 = .ok (.istore_n 3, 1) := by decide +kernel
theorem dX11_patch_11 : decode cX11_patch 11 = .ok (.iload_n 1, 1) := by decide +kernel
theorem dX11_patch_12 : decode cX11_patch 12 = .ok (.i2l, 1) := by decide +kernel
theorem dX11_patch_13 : decode cX11_patch 13 = .ok (.lconst 0, 1) := by decide +kernel
theorem dX11_patch_14 : decode cX11_patch 14 = .ok (.aload_n 0, 1) := by decide +kernel
theorem dX11_patch_15 : decode cX11_patch 15 = .ok (.getfield 121, 3) := by decide +kernel
theorem dX11_patch_18 : decode cX11_patch 18 = .ok (.iconst 1, 1) := by decide +kernel
theorem dX11_patch_19 : decode cX11_patch 19 = .ok (.isub, 1) := by decide +kernel
theorem dX11_patch_20 : decode cX11_patch 20 = .ok (.i2l, 1) := by decide +kernel
theorem dX11_patch_21 : decode cX11_patch 21 = .ok (.invokestatic 21, 3) := by decide +kernel
theorem dX11_patch_24 : decode cX11_patch 24 = .ok (.ifCond .eq 29, 3) := by decide +kernel
theorem dX11_patch_27 : decode cX11_patch 27 = .ok (.iload_n 2, 1) := by decide +kernel
theorem dX11_patch_28 : decode cX11_patch 28 = .ok (.i2l, 1) := by decide +kernel
theorem dX11_patch_29 : decode cX11_patch 29 = .ok (.lconst 0, 1) := by decide +kernel
theorem dX11_patch_30 : decode cX11_patch 30 = .ok (.aload_n 0, 1) := by decide +kernel
theorem dX11_patch_31 : decode cX11_patch 31 = .ok (.getfield 142, 3) := by decide +kernel
theorem dX11_patch_34 : decode cX11_patch 34 = .ok (.iload_n 1, 1) := by decide +kernel
theorem dX11_patch_35 : decode cX11_patch 35 = .ok (.iaload, 1) := by decide +kernel
theorem dX11_patch_36 : decode cX11_patch 36 = .ok (.iconst 1, 1) := by decide +kernel
theorem dX11_patch_37 : decode cX11_patch 37 = .ok (.isub, 1) := by decide +kernel
theorem dX11_patch_38 : decode cX11_patch 38 = .ok (.i2l, 1) := by decide +kernel
theorem dX11_patch_39 : decode cX11_patch 39 = .ok (.invokestatic 21, 3) := by decide +kernel
theorem dX11_patch_42 : decode cX11_patch 42 = .ok (.ifCond .eq 11, 3) := by decide +kernel
theorem dX11_patch_45 : decode cX11_patch 45 = .ok (.aload_n 0, 1) := by decide +kernel
theorem dX11_patch_46 : decode cX11_patch 46 = .ok (.getfield 198, 3) := by decide +kernel
theorem dX11_patch_49 : decode cX11_patch 49 = .ok (.iconst 5, 1) := by decide +kernel
theorem dX11_patch_50 : decode cX11_patch 50 = .ok (.if_icmp .ne 6, 3) := by decide +kernel
theorem dX11_patch_53 : decode cX11_patch 53 = .ok (.bipush (-100), 2) := by decide +kernel
theorem dX11_patch_55 : decode cX11_patch 55 = .ok (.ireturn, 1) := by decide +kernel
theorem dX11_patch_56 : decode cX11_patch 56 = .ok (.aload_n 0, 1) := by decide +kernel
theorem dX11_patch_57 : decode cX11_patch 57 = .ok (.iload_n 3, 1) := by decide +kernel
theorem dX11_patch_58 : decode cX11_patch 58 = .ok (.aload_n 0, 1) := by decide +kernel
theorem dX11_patch_59 : decode cX11_patch 59 = .ok (.bipush 74, 2) := by decide +kernel
theorem dX11_patch_61 : decode cX11_patch 61 = .ok (.invokevirtual 124, 3) := by decide +kernel
theorem dX11_patch_64 : decode cX11_patch 64 = .ok (.invokevirtual 128, 3) := by decide +kernel
theorem dX11_patch_67 : decode cX11_patch 67 = .ok (.istore 4, 2) := by decide +kernel
theorem dX11_patch_69 : decode cX11_patch 69 = .ok (.iload 4, 2) := by decide +kernel
theorem dX11_patch_71 : decode cX11_patch 71 = .ok (.ifCond .ge 6, 3) := by decide +kernel
theorem dX11_patch_74 : decode cX11_patch 74 = .ok (.iload 4, 2) := by decide +kernel
theorem dX11_patch_76 : decode cX11_patch 76 = .ok (.ireturn, 1) := by decide +kernel
theorem dX11_patch_77 : decode cX11_patch 77 = .ok (.aload_n 0, 1) := by decide +kernel
theorem dX11_patch_78 : decode cX11_patch 78 = .ok (.bipush 74, 2) := by decide +kernel
theorem dX11_patch_80 : decode cX11_patch 80 = .ok (.bipush 64, 2) := by decide +kernel
theorem dX11_patch_82 : decode cX11_patch 82 = .ok (.aload_n 0, 1) := by decide +kernel
theorem dX11_patch_83 : decode cX11_patch 83 = .ok (.getfield 198, 3) := by decide +kernel
theorem dX11_patch_86 : decode cX11_patch 86 = .ok (.iadd, 1) := by decide +kernel
theorem dX11_patch_87 : decode cX11_patch 87 = .ok (.invokevirtual 132, 3) := by decide +kernel
theorem dX11_patch_90 : decode cX11_patch 90 = .ok (.aload_n 0, 1) := by decide +kernel
theorem dX11_patch_91 : decode cX11_patch 91 = .ok (.getfield 208, 3) := by decide +kernel
theorem dX11_patch_94 : decode cX11_patch 94 = .ok (.aload_n 0, 1) := by decide +kernel
theorem dX11_patch_95 : decode cX11_patch 95 = .ok (.getfield 198, 3) := by decide +kernel
theorem dX11_patch_98 : decode cX11_patch 98 = .ok (.iload_n 1, 1) := by decide +kernel
theorem dX11_patch_99 : decode cX11_patch 99 = .ok (.iastore, 1) := by decide +kernel
theorem dX11_patch_100 : decode cX11_patch 100 = .ok (.aload_n 0, 1) := by decide +kernel
theorem dX11_patch_101 : decode cX11_patch 101 = .ok (.getfield 211, 3) := by decide +kernel
theorem dX11_patch_104 : decode cX11_patch 104 = .ok (.aload_n 0, 1) := by decide +kernel
theorem dX11_patch_105 : decode cX11_patch 105 = .ok (.getfield 198, 3) := by decide +kernel
theorem dX11_patch_108 : decode cX11_patch 108 = .ok (.iload_n 2, 1) := by decide +kernel
theorem dX11_patch_109 : decode cX11_patch 109 = .ok (.iastore, 1) := by decide +kernel
theorem dX11_patch_110 : decode cX11_patch 110 = .ok (.aload_n 0, 1) := by decide +kernel
theorem dX11_patch_111 : decode cX11_patch 111 = .ok (.dup, 1) := by decide +kernel
theorem dX11_patch_112 : decode cX11_patch 112 = .ok (.getfield 198, 3) := by decide +kernel
theorem dX11_patch_115 : decode cX11_patch 115 = .ok (.iconst 1, 1) := by decide +kernel
theorem dX11_patch_116 : decode cX11_patch 116 = .ok (.iadd, 1) := by decide +kernel
theorem dX11_patch_117 : decode cX11_patch 117 = .ok (.putfield 198, 3) := by decide +kernel
theorem dX11_patch_120 : decode cX11_patch 120 = .ok (.aload_n 0, 1) := by decide +kernel
theorem dX11_patch_121 : decode cX11_patch 121 = .ok (.getfield 198, 3) := by decide +kernel
theorem dX11_patch_124 : decode cX11_patch 124 = .ok (.iconst 1, 1) := by decide +kernel
theorem dX11_patch_125 : decode cX11_patch 125 = .ok (.isub, 1) := by decide +kernel
theorem dX11_patch_126 : decode cX11_patch 126 = .ok (.ireturn, 1) := by decide +kernel
theorem dX11_mend_0 : decode cX11_mend 0 = .ok (.aload_n 0, 1) := by decide +kernel
theorem dX11_mend_1 : decode cX11_mend 1 = .ok (.iconst 0, 1) := by decide +kernel
theorem dX11_mend_2 : decode cX11_mend 2 = .ok (.putfield 3, 3) := by decide +kernel
theorem dX11_mend_5 : decode cX11_mend 5 = .ok (.aload_n 0, 1) := by decide +kernel
theorem dX11_mend_6 : decode cX11_mend 6 = .ok (.iload_n 1, 1) := by decide +kernel
theorem dX11_mend_7 : decode cX11_mend 7 = .ok (.invokevirtual 341, 3) := by decide +kernel
theorem dX11_mend_10 : decode cX11_mend 10 = .ok (.ifCond .ne 5, 3) := by decide +kernel
theorem dX11_mend_13 : decode cX11_mend 13 = .ok (.iconst (-1), 1) := by decide +kernel
theorem dX11_mend_14 : decode cX11_mend 14 = .ok (.ireturn, 1) := by decide +kernel
theorem dX11_mend_15 : decode cX11_mend 15 = .ok (.aload_n 0, 1) := by decide +kernel
theorem dX11_mend_16 : decode cX11_mend 16 = .ok (.invokevirtual 344, 3) := by decide +kernel
theorem dX11_mend_19 : decode cX11_mend 19 = .ok (.iconst 0, 1) := by decide +kernel
theorem dX11_mend_20 : decode cX11_mend 20 = .ok (.istore_n 2, 1) := by decide +kernel
theorem dX11_mend_21 : decode cX11_mend 21 = .ok (.iconst 1, 1) := by decide +kernel
theorem dX11_mend_22 : decode cX11_mend 22 = .ok (.istore_n 3, 1) := by decide +kernel
theorem dX11_mend_23 : decode cX11_mend 23 = .ok (.iconst 0, 1) := by decide +kernel
theorem dX11_mend_24 : decode cX11_mend 24 = .ok (.istore 4, 2) := by decide +kernel
theorem dX11_mend_26 : decode cX11_mend 26 = .ok (.iload_n 2, 1) := by decide +kernel
theorem dX11_mend_27 : decode cX11_mend 27 = .ok (.ifCond .lt 37, 3) := by decide +kernel
theorem dX11_mend_30 : decode cX11_mend 30 = .ok (.iload_n 3, 1) := by decide +kernel
theorem dX11_mend_31 : decode cX11_mend 31 = .ok (.iconst 1, 1) := by decide +kernel
theorem dX11_mend_32 : decode cX11_mend 32 = .ok (.if_icmp .ne 32, 3) := by decide +kernel
theorem dX11_mend_35 : decode cX11_mend 35 = .ok (.aload_n 0, 1) := by decide +kernel
theorem dX11_mend_36 : decode cX11_mend 36 = .ok (.iload_n 2, 1) := by decide +kernel
theorem dX11_mend_37 : decode cX11_mend 37 = .ok (.putfield 201, 3) := by decide +kernel
theorem dX11_mend_40 : decode cX11_mend 40 = .ok (.aload_n 0, 1) := by decide +kernel
theorem dX11_mend_41 : decode cX11_mend 41 = .ok (.iload_n 1, 1) := by decide +kernel
theorem dX11_mend_42 : decode cX11_mend 42 = .ok (.sipush 4000, 3) := by decide +kernel
theorem dX11_mend_45 : decode cX11_mend 45 = .ok (.invokevirtual 428, 3) := by decide +kernel
theorem dX11_mend_48 : decode cX11_mend 48 = .ok (.istore_n 3, 1) := by decide +kernel
theorem dX11_mend_49 : decode cX11_mend 49 = .ok (.iload_n 2, 1) := by decide +kernel
theorem dX11_mend_50 : decode cX11_mend 50 = .ok (.istore 4, 2) := by decide +kernel
theorem dX11_mend_52 : decode cX11_mend 52 = .ok (.iload_n 2, 1) := by decide +kernel
theorem dX11_mend_53 : decode cX11_mend 53 = .ok (.aload_n 0, 1) := by decide +kernel
theorem dX11_mend_54 : decode cX11_mend 54 = .ok (.getfield 198, 3) := by decide +kernel
theorem dX11_mend_57 : decode cX11_mend 57 = .ok (.invokestatic 439, 3) := by decide +kernel
theorem dX11_mend_60 : decode cX11_mend 60 = .ok (.istore_n 2, 1) := by decide +kernel
theorem dX11_mend_61 : decode cX11_mend 61 = .ok (.goto (-35), 3) := by decide +kernel
theorem dX11_mend_64 : decode cX11_mend 64 = .ok (.aload_n 0, 1) := by decide +kernel
theorem dX11_mend_65 : decode cX11_mend 65 = .ok (.invokevirtual 350, 3) := by decide +kernel
theorem dX11_mend_68 : decode cX11_mend 68 = .ok (.iload_n 3, 1) := by decide +kernel
theorem dX11_mend_69 : decode cX11_mend 69 = .ok (.ifCond .eq 16, 3) := by decide +kernel
theorem dX11_mend_72 : decode cX11_mend 72 = .ok (.iload_n 3, 1) := by decide +kernel
theorem dX11_mend_73 : decode cX11_mend 73 = .ok (.iconst 1, 1) := by decide +kernel
theorem dX11_mend_74 : decode cX11_mend 74 = .ok (.if_icmp .ne 8, 3) := by decide +kernel
theorem dX11_mend_77 : decode cX11_mend 77 = .ok (.bipush (-2), 2) := by decide +kernel
theorem dX11_mend_79 : decode cX11_mend 79 = .ok (.goto 5, 3) := by decide +kernel
theorem dX11_mend_82 : decode cX11_mend 82 = .ok (.bipush (-3), 2) := by decide +kernel
theorem dX11_mend_84 : decode cX11_mend 84 = .ok (.ireturn, 1) := by decide +kernel
theorem dX11_mend_85 : decode cX11_mend 85 = .ok (.aload_n 0, 1) := by decide +kernel
theorem dX11_mend_86 : decode cX11_mend 86 = .ok (.iconst 0, 1) := by decide +kernel
theorem dX11_mend_87 : decode cX11_mend 87 = .ok (.putfield 11, 3) := by decide +kernel
theorem dX11_mend_90 : decode cX11_mend 90 = .ok (.aload_n 0, 1) := by decide +kernel
theorem dX11_mend_91 : decode cX11_mend 91 = .ok (.iload 4, 2) := by decide +kernel
theorem dX11_mend_93 : decode cX11_mend 93 = .ok (.i2l, 1) := by decide +kernel
theorem dX11_mend_94 : decode cX11_mend 94 = .ok (.invokevirtual 262, 3) := by decide +kernel
theorem dX11_mend_97 : decode cX11_mend 97 = .ok (.iload 4, 2) := by decide +kernel
theorem dX11_mend_99 : decode cX11_mend 99 = .ok (.invokestatic 434, 3) := by decide +kernel
theorem dX11_mend_102 : decode cX11_mend 102 = .ok (.ireturn, 1) := by decide +kernel
theorem dX11_drop_0 : decode cX11_drop 0 = .ok (.aload_n 0, 1) := by decide +kernel
theorem dX11_drop_1 : decode cX11_drop 1 = .ok (.iconst 0, 1) := by decide +kernel
theorem dX11_drop_2 : decode cX11_drop 2 = .ok (.putfield 3, 3) := by decide +kernel
theorem dX11_drop_5 : decode cX11_drop 5 = .ok (.aload_n 0, 1) := by decide +kernel
theorem dX11_drop_6 : decode cX11_drop 6 = .ok (.getfield 198, 3) := by decide +kernel
theorem dX11_drop_9 : decode cX11_drop 9 = .ok (.istore_n 1, 1) := by decide +kernel
theorem dX11_drop_10 : decode cX11_drop 10 = .ok (.aload_n 0, 1) := by decide +kernel
theorem dX11_drop_11 : decode cX11_drop 11 = .ok (.iconst 0, 1) := by decide +kernel
theorem dX11_drop_12 : decode cX11_drop 12 = .ok (.putfield 198, 3) := by decide +kernel
theorem dX11_drop_15 : decode cX11_drop 15 = .ok (.iload_n 1, 1) := by decide +kernel
theorem dX11_drop_16 : decode cX11_drop 16 = .ok (.ireturn, 1) := by decide +kernel
theorem dX11_type_0 : decode cX11_type 0 = .ok (.aload_n 0, 1) := by decide +kernel
theorem dX11_type_1 : decode cX11_type 1 = .ok (.iconst 0, 1) := by decide +kernel
theorem dX11_type_2 : decode cX11_type 2 = .ok (.putfield 3, 3) := by decide +kernel
theorem dX11_type_5 : decode cX11_type 5 = .ok (.iload_n 1, 1) := by decide +kernel
theorem dX11_type_6 : decode cX11_type 6 = .ok (.i2l, 1) := by decide +kernel
theorem dX11_type_7 : decode cX11_type 7 = .ok (.lconst 0, 1) := by decide +kernel
theorem dX11_type_8 : decode cX11_type 8 = .ok (.ldc2_w 237, 3) := by decide +kernel
theorem dX11_type_11 : decode cX11_type 11 = .ok (.invokestatic 21, 3) := by decide +kernel
theorem dX11_type_14 : decode cX11_type 14 = .ok (.ifCond .eq 12, 3) := by decide +kernel
theorem dX11_type_17 : decode cX11_type 17 = .ok (.aload_n 0, 1) := by decide +kernel
theorem dX11_type_18 : decode cX11_type 18 = .ok (.getfield 442, 3) := by decide +kernel
theorem dX11_type_21 : decode cX11_type 21 = .ok (.bipush 8, 2) := by decide +kernel
theorem dX11_type_23 : decode cX11_type 23 = .ok (.if_icmp .ne 5, 3) := by decide +kernel
theorem dX11_type_26 : decode cX11_type 26 = .ok (.iconst (-1), 1) := by decide +kernel
theorem dX11_type_27 : decode cX11_type 27 = .ok (.ireturn, 1) := by decide +kernel
theorem dX11_type_28 : decode cX11_type 28 = .ok (.aload_n 0, 1) := by decide +kernel
theorem dX11_type_29 : decode cX11_type 29 = .ok (.getfield 445, 3) := by decide +kernel
theorem dX11_type_32 : decode cX11_type 32 = .ok (.aload_n 0, 1) := by decide +kernel
theorem dX11_type_33 : decode cX11_type 33 = .ok (.getfield 442, 3) := by decide +kernel
theorem dX11_type_36 : decode cX11_type 36 = .ok (.iload_n 1, 1) := by decide +kernel
theorem dX11_type_37 : decode cX11_type 37 = .ok (.iastore, 1) := by decide +kernel
theorem dX11_type_38 : decode cX11_type 38 = .ok (.aload_n 0, 1) := by decide +kernel
theorem dX11_type_39 : decode cX11_type 39 = .ok (.dup, 1) := by decide +kernel
theorem dX11_type_40 : decode cX11_type 40 = .ok (.getfield 442, 3) := by decide +kernel
theorem dX11_type_43 : decode cX11_type 43 = .ok (.iconst 1, 1) := by decide +kernel
theorem dX11_type_44 : decode cX11_type 44 = .ok (.iadd, 1) := by decide +kernel
theorem dX11_type_45 : decode cX11_type 45 = .ok (.putfield 442, 3) := by decide +kernel
theorem dX11_type_48 : decode cX11_type 48 = .ok (.aload_n 0, 1) := by decide +kernel
theorem dX11_type_49 : decode cX11_type 49 = .ok (.getfield 442, 3) := by decide +kernel
theorem dX11_type_52 : decode cX11_type 52 = .ok (.ireturn, 1) := by decide +kernel
theorem dX11_wipe_0 : decode cX11_wipe 0 = .ok (.aload_n 0, 1) := by decide +kernel
theorem dX11_wipe_1 : decode cX11_wipe 1 = .ok (.iconst 0, 1) := by decide +kernel
theorem dX11_wipe_2 : decode cX11_wipe 2 = .ok (.putfield 3, 3) := by decide +kernel
theorem dX11_wipe_5 : decode cX11_wipe 5 = .ok (.aload_n 0, 1) := by decide +kernel
theorem dX11_wipe_6 : decode cX11_wipe 6 = .ok (.getfield 442, 3) := by decide +kernel
theorem dX11_wipe_9 : decode cX11_wipe 9 = .ok (.istore_n 1, 1) := by decide +kernel
theorem dX11_wipe_10 : decode cX11_wipe 10 = .ok (.aload_n 0, 1) := by decide +kernel
theorem dX11_wipe_11 : decode cX11_wipe 11 = .ok (.iconst 0, 1) := by decide +kernel
theorem dX11_wipe_12 : decode cX11_wipe 12 = .ok (.putfield 442, 3) := by decide +kernel
theorem dX11_wipe_15 : decode cX11_wipe 15 = .ok (.iload_n 1, 1) := by decide +kernel
theorem dX11_wipe_16 : decode cX11_wipe 16 = .ok (.ireturn, 1) := by decide +kernel
theorem dX11_types_0 : decode cX11_types 0 = .ok (.aload_n 0, 1) := by decide +kernel
theorem dX11_types_1 : decode cX11_types 1 = .ok (.invokevirtual 324, 3) := by decide +kernel
theorem dX11_types_4 : decode cX11_types 4 = .ok (.aload_n 0, 1) := by decide +kernel
theorem dX11_types_5 : decode cX11_types 5 = .ok (.aload_n 0, 1) := by decide +kernel
theorem dX11_types_6 : decode cX11_types 6 = .ok (.getfield 270, 3) := by decide +kernel
theorem dX11_types_9 : decode cX11_types 9 = .ok (.aload_n 0, 1) := by decide +kernel
theorem dX11_types_10 : decode cX11_types 10 = .ok (.getfield 277, 3) := by decide +kernel
theorem dX11_types_13 : decode cX11_types 13 = .ok (.invokevirtual 321, 3) := by decide +kernel
theorem dX11_types_16 : decode cX11_types 16 = .ok (.pop, 1) := by decide +kernel
theorem dX11_types_17 : decode cX11_types 17 = .ok (.aload_n 0, 1) := by decide +kernel
theorem dX11_types_18 : decode cX11_types 18 = .ok (.getfield 448, 3) := by decide +kernel
theorem dX11_types_21 : decode cX11_types 21 = .ok (.iconst 0, 1) := by decide +kernel
theorem dX11_types_22 : decode cX11_types 22 = .ok (.lconst 1, 1) := by decide +kernel
theorem dX11_types_23 : decode cX11_types 23 = .ok (.lastore, 1) := by decide +kernel
theorem dX11_types_24 : decode cX11_types 24 = .ok (.aload_n 0, 1) := by decide +kernel
theorem dX11_types_25 : decode cX11_types 25 = .ok (.iconst 0, 1) := by decide +kernel
theorem dX11_types_26 : decode cX11_types 26 = .ok (.putfield 451, 3) := by decide +kernel
theorem dX11_types_29 : decode cX11_types 29 = .ok (.aload_n 0, 1) := by decide +kernel
theorem dX11_types_30 : decode cX11_types 30 = .ok (.iconst 0, 1) := by decide +kernel
theorem dX11_types_31 : decode cX11_types 31 = .ok (.putfield 454, 3) := by decide +kernel
theorem dX11_types_34 : decode cX11_types 34 = .ok (.aload_n 0, 1) := by decide +kernel
theorem dX11_types_35 : decode cX11_types 35 = .ok (.lconst 0, 1) := by decide +kernel
theorem dX11_types_36 : decode cX11_types 36 = .ok (.putfield 457, 3) := by decide +kernel
theorem dX11_types_39 : decode cX11_types 39 = .ok (.aload_n 0, 1) := by decide +kernel
theorem dX11_types_40 : decode cX11_types 40 = .ok (.iconst (-1), 1) := by decide +kernel
theorem dX11_types_41 : decode cX11_types 41 = .ok (.putfield 460, 3) := by decide +kernel
theorem dX11_types_44 : decode cX11_types 44 = .ok (.iconst 0, 1) := by decide +kernel
theorem dX11_types_45 : decode cX11_types 45 = .ok (.istore_n 2, 1) := by decide +kernel
theorem dX11_types_46 : decode cX11_types 46 = .ok (.iconst 0, 1) := by decide +kernel
theorem dX11_types_47 : decode cX11_types 47 = .ok (.istore_n 3, 1) := by decide +kernel
theorem dX11_types_48 : decode cX11_types 48 = .ok (.iload_n 3, 1) := by decide +kernel
theorem dX11_types_49 : decode cX11_types 49 = .ok (.aload_n 0, 1) := by decide +kernel
theorem dX11_types_50 : decode cX11_types 50 = .ok (.getfield 442, 3) := by decide +kernel
theorem dX11_types_53 : decode cX11_types 53 = .ok (.if_icmp .ge 319, 3) := by decide +kernel
theorem dX11_types_56 : decode cX11_types 56 = .ok (.aload_n 0, 1) := by decide +kernel
theorem dX11_types_57 : decode cX11_types 57 = .ok (.getfield 451, 3) := by decide +kernel
theorem dX11_types_60 : decode cX11_types 60 = .ok (.ifCond .ne 312, 3) := by decide +kernel
theorem dX11_types_63 : decode cX11_types 63 = .ok (.iload_n 1, 1) := by decide +kernel
theorem dX11_types_64 : decode cX11_types 64 = .ok (.iload_n 3, 1) := by decide +kernel
theorem dX11_types_65 : decode cX11_types 65 = .ok (.invokestatic 204, 3) := by decide +kernel
theorem dX11_types_68 : decode cX11_types 68 = .ok (.ifCond .ne 16, 3) := by decide +kernel
theorem dX11_types_71 : decode cX11_types 71 = .ok (.aload_n 0, 1) := by decide +kernel
theorem dX11_types_72 : decode cX11_types 72 = .ok (.getfield 445, 3) := by decide +kernel
theorem dX11_types_75 : decode cX11_types 75 = .ok (.iload_n 3, 1) := by decide +kernel
theorem dX11_types_76 : decode cX11_types 76 = .ok (.iaload, 1) := by decide +kernel
theorem dX11_types_77 : decode cX11_types 77 = .ok (.aload_n 0, 1) := by decide +kernel
theorem dX11_types_78 : decode cX11_types 78 = .ok (.getfield 239, 3) := by decide +kernel
theorem dX11_types_81 : decode cX11_types 81 = .ok (.if_icmp .le 7, 3) := by decide +kernel
theorem dX11_types_84 : decode cX11_types 84 = .ok (.iconst 0, 1) := by decide +kernel
theorem dX11_types_85 : decode cX11_types 85 = .ok (.goto 9, 3) := by decide +kernel
theorem dX11_types_88 : decode cX11_types 88 = .ok (.aload_n 0, 1) := by decide +kernel
theorem dX11_types_89 : decode cX11_types 89 = .ok (.getfield 445, 3) := by decide +kernel
theorem dX11_types_92 : decode cX11_types 92 = .ok (.iload_n 3, 1) := by decide +kernel
theorem dX11_types_93 : decode cX11_types 93 = .ok (.iaload, 1) := by decide +kernel
theorem dX11_types_94 : decode cX11_types 94 = .ok (.istore 4, 2) := by decide +kernel
theorem dX11_types_96 : decode cX11_types 96 = .ok (.aload_n 0, 1) := by decide +kernel
theorem dX11_types_97 : decode cX11_types 97 = .ok (.getfield 296, 3) := by decide +kernel
theorem dX11_types_100 : decode cX11_types 100 = .ok (.istore 5, 2) := by decide +kernel
theorem dX11_types_102 : decode cX11_types 102 = .ok (.iconst 0, 1) := by decide +kernel
theorem dX11_types_103 : decode cX11_types 103 = .ok (.istore 6, 2) := by decide +kernel
theorem dX11_types_105 : decode cX11_types 105 = .ok (.iload 6, 2) := by decide +kernel
theorem dX11_types_107 : decode cX11_types 107 = .ok (.sipush 16384, 3) := by decide +kernel
theorem dX11_types_110 : decode cX11_types 110 = .ok (.if_icmp .ge 17, 3) := by decide +kernel
theorem dX11_types_113 : decode cX11_types 113 = .ok (.aload_n 0, 1) := by decide +kernel
theorem dX11_types_114 : decode cX11_types 114 = .ok (.getfield 299, 3) := by decide +kernel
theorem dX11_types_117 : decode cX11_types 117 = .ok (.iload 6, 2) := by decide +kernel
theorem dX11_types_119 : decode cX11_types 119 = .ok (.iconst (-1), 1) := by decide +kernel
theorem dX11_types_120 : decode cX11_types 120 = .ok (.iastore, 1) := by decide +kernel
theorem dX11_types_121 : decode cX11_types 121 = .ok (.iinc 6 1, 3) := by decide +kernel
theorem dX11_types_124 : decode cX11_types 124 = .ok (.goto (-19), 3) := by decide +kernel
theorem dX11_types_127 : decode cX11_types 127 = .ok (.iload_n 2, 1) := by decide +kernel
theorem dX11_types_128 : decode cX11_types 128 = .ok (.istore 6, 2) := by decide +kernel
theorem dX11_types_130 : decode cX11_types 130 = .ok (.iload 6, 2) := by decide +kernel
theorem dX11_types_132 : decode cX11_types 132 = .ok (.iload 5, 2) := by decide +kernel
theorem dX11_types_134 : decode cX11_types 134 = .ok (.if_icmp .ge 229, 3) := by decide +kernel
theorem dX11_types_137 : decode cX11_types 137 = .ok (.aload_n 0, 1) := by decide +kernel
theorem dX11_types_138 : decode cX11_types 138 = .ok (.getfield 451, 3) := by decide +kernel
theorem dX11_types_141 : decode cX11_types 141 = .ok (.ifCond .ne 222, 3) := by decide +kernel
theorem dX11_types_144 : decode cX11_types 144 = .ok (.iconst 0, 1) := by decide +kernel
theorem dX11_types_145 : decode cX11_types 145 = .ok (.istore 7, 2) := by decide +kernel
theorem dX11_types_147 : decode cX11_types 147 = .ok (.iload 7, 2) := by decide +kernel
theorem dX11_types_149 : decode cX11_types 149 = .ok (.aload_n 0, 1) := by decide +kernel
theorem dX11_types_150 : decode cX11_types 150 = .ok (.getfield 121, 3) := by decide +kernel
theorem dX11_types_153 : decode cX11_types 153 = .ok (.if_icmp .ge 204, 3) := by decide +kernel
theorem dX11_types_156 : decode cX11_types 156 = .ok (.aload_n 0, 1) := by decide +kernel
theorem dX11_types_157 : decode cX11_types 157 = .ok (.getfield 451, 3) := by decide +kernel
theorem dX11_types_160 : decode cX11_types 160 = .ok (.ifCond .ne 197, 3) := by decide +kernel
theorem dX11_types_163 : decode cX11_types 163 = .ok (.aload_n 0, 1) := by decide +kernel
theorem dX11_types_164 : decode cX11_types 164 = .ok (.iload 6, 2) := by decide +kernel
theorem dX11_types_166 : decode cX11_types 166 = .ok (.iload 7, 2) := by decide +kernel
theorem dX11_types_168 : decode cX11_types 168 = .ok (.aload_n 0, 1) := by decide +kernel
theorem dX11_types_169 : decode cX11_types 169 = .ok (.getfield 239, 3) := by decide +kernel
theorem dX11_types_172 : decode cX11_types 172 = .ok (.iconst 1, 1) := by decide +kernel
theorem dX11_types_173 : decode cX11_types 173 = .ok (.iadd, 1) := by decide +kernel
theorem dX11_types_174 : decode cX11_types 174 = .ok (.imul, 1) := by decide +kernel
theorem dX11_types_175 : decode cX11_types 175 = .ok (.iload 4, 2) := by decide +kernel
theorem dX11_types_177 : decode cX11_types 177 = .ok (.iadd, 1) := by decide +kernel
theorem dX11_types_178 : decode cX11_types 178 = .ok (.invokevirtual 318, 3) := by decide +kernel
theorem dX11_types_181 : decode cX11_types 181 = .ok (.aload_n 0, 1) := by decide +kernel
theorem dX11_types_182 : decode cX11_types 182 = .ok (.invokevirtual 356, 3) := by decide +kernel
theorem dX11_types_185 : decode cX11_types 185 = .ok (.ifCond .eq 77, 3) := by decide +kernel
theorem dX11_types_188 : decode cX11_types 188 = .ok (.aload_n 0, 1) := by decide +kernel
theorem dX11_types_189 : decode cX11_types 189 = .ok (.iconst 1, 1) := by decide +kernel
theorem dX11_types_190 : decode cX11_types 190 = .ok (.putfield 454, 3) := by decide +kernel
theorem dX11_types_193 : decode cX11_types 193 = .ok (.iload_n 3, 1) := by decide +kernel
theorem dX11_types_194 : decode cX11_types 194 = .ok (.aload_n 0, 1) := by decide +kernel
theorem dX11_types_195 : decode cX11_types 195 = .ok (.getfield 442, 3) := by decide +kernel
theorem dX11_types_198 : decode cX11_types 198 = .ok (.iconst 1, 1) := by decide +kernel
theorem dX11_types_199 : decode cX11_types 199 = .ok (.isub, 1) := by decide +kernel
theorem dX11_types_200 : decode cX11_types 200 = .ok (.if_icmp .ne 7, 3) := by decide +kernel
theorem dX11_types_203 : decode cX11_types 203 = .ok (.iconst 1, 1) := by decide +kernel
theorem dX11_types_204 : decode cX11_types 204 = .ok (.goto 4, 3) := by decide +kernel
theorem dX11_types_207 : decode cX11_types 207 = .ok (.iconst 0, 1) := by decide +kernel
theorem dX11_types_208 : decode cX11_types 208 = .ok (.istore 8, 2) := by decide +kernel
theorem dX11_types_210 : decode cX11_types 210 = .ok (.aload_n 0, 1) := by decide +kernel
theorem dX11_types_211 : decode cX11_types 211 = .ok (.dup, 1) := by decide +kernel
theorem dX11_types_212 : decode cX11_types 212 = .ok (.getfield 457, 3) := by decide +kernel
theorem dX11_types_215 : decode cX11_types 215 = .ok (.iload 8, 2) := by decide +kernel
theorem dX11_types_217 : decode cX11_types 217 = .ok (.ifCond .eq 13, 3) := by decide +kernel
theorem dX11_types_220 : decode cX11_types 220 = .ok (.aload_n 0, 1) := by decide +kernel
theorem dX11_types_221 : decode cX11_types 221 = .ok (.getfield 448, 3) := by decide +kernel
theorem dX11_types_224 : decode cX11_types 224 = .ok (.iload 6, 2) := by decide +kernel
theorem dX11_types_226 : decode cX11_types 226 = .ok (.laload, 1) := by decide +kernel
theorem dX11_types_227 : decode cX11_types 227 = .ok (.goto 4, 3) := by decide +kernel
theorem dX11_types_230 : decode cX11_types 230 = .ok (.lconst 0, 1) := by decide +kernel
theorem dX11_types_231 : decode cX11_types 231 = .ok (.ladd, 1) := by decide +kernel
theorem dX11_types_232 : decode cX11_types 232 = .ok (.putfield 457, 3) := by decide +kernel
theorem dX11_types_235 : decode cX11_types 235 = .ok (.iload 8, 2) := by decide +kernel
theorem dX11_types_237 : decode cX11_types 237 = .ok (.ifCond .eq 114, 3) := by decide +kernel
theorem dX11_types_240 : decode cX11_types 240 = .ok (.aload_n 0, 1) := by decide +kernel
theorem dX11_types_241 : decode cX11_types 241 = .ok (.getfield 460, 3) := by decide +kernel
theorem dX11_types_244 : decode cX11_types 244 = .ok (.ifCond .ge 107, 3) := by decide +kernel
theorem dX11_types_247 : decode cX11_types 247 = .ok (.aload_n 0, 1) := by decide +kernel
theorem dX11_types_248 : decode cX11_types 248 = .ok (.iload 6, 2) := by decide +kernel
theorem dX11_types_250 : decode cX11_types 250 = .ok (.putfield 460, 3) := by decide +kernel
theorem dX11_types_253 : decode cX11_types 253 = .ok (.aload_n 0, 1) := by decide +kernel
theorem dX11_types_254 : decode cX11_types 254 = .ok (.iload 7, 2) := by decide +kernel
theorem dX11_types_256 : decode cX11_types 256 = .ok (.putfield 463, 3) := by decide +kernel
theorem dX11_types_259 : decode cX11_types 259 = .ok (.goto 92, 3) := by decide +kernel
theorem dX11_types_262 : decode cX11_types 262 = .ok (.aload_n 0, 1) := by decide +kernel
theorem dX11_types_263 : decode cX11_types 263 = .ok (.getfield 296, 3) := by decide +kernel
theorem dX11_types_266 : decode cX11_types 266 = .ok (.istore 8, 2) := by decide +kernel
theorem dX11_types_268 : decode cX11_types 268 = .ok (.aload_n 0, 1) := by decide +kernel
theorem dX11_types_269 : decode cX11_types 269 = .ok (.aload_n 0, 1) := by decide +kernel
theorem dX11_types_270 : decode cX11_types 270 = .ok (.invokevirtual 266, 3) := by decide +kernel
theorem dX11_types_273 : decode cX11_types 273 = .ok (.aload_n 0, 1) := by decide +kernel
theorem dX11_types_274 : decode cX11_types 274 = .ok (.invokevirtual 274, 3) := by decide +kernel
theorem dX11_types_277 : decode cX11_types 277 = .ok (.invokevirtual 321, 3) := by decide +kernel
theorem dX11_types_280 : decode cX11_types 280 = .ok (.istore 9, 2) := by decide +kernel
theorem dX11_types_282 : decode cX11_types 282 = .ok (.iload 9, 2) := by decide +kernel
theorem dX11_types_284 : decode cX11_types 284 = .ok (.iload 8, 2) := by decide +kernel
theorem dX11_types_286 : decode cX11_types 286 = .ok (.if_icmp .ne 29, 3) := by decide +kernel
theorem dX11_types_289 : decode cX11_types 289 = .ok (.aload_n 0, 1) := by decide +kernel
theorem dX11_types_290 : decode cX11_types 290 = .ok (.getfield 448, 3) := by decide +kernel
theorem dX11_types_293 : decode cX11_types 293 = .ok (.iload 9, 2) := by decide +kernel
theorem dX11_types_295 : decode cX11_types 295 = .ok (.lconst 0, 1) := by decide +kernel
theorem dX11_types_296 : decode cX11_types 296 = .ok (.lastore, 1) := by decide +kernel
theorem dX11_types_297 : decode cX11_types 297 = .ok (.aload_n 0, 1) := by decide +kernel
theorem dX11_types_298 : decode cX11_types 298 = .ok (.getfield 330, 3) := by decide +kernel
theorem dX11_types_301 : decode cX11_types 301 = .ok (.iload 9, 2) := by decide +kernel
theorem dX11_types_303 : decode cX11_types 303 = .ok (.iload 6, 2) := by decide +kernel
theorem dX11_types_305 : decode cX11_types 305 = .ok (.iastore, 1) := by decide +kernel
theorem dX11_types_306 : decode cX11_types 306 = .ok (.aload_n 0, 1) := by decide +kernel
theorem dX11_types_307 : decode cX11_types 307 = .ok (.getfield 336, 3) := by decide +kernel
theorem dX11_types_310 : decode cX11_types 310 = .ok (.iload 9, 2) := by decide +kernel
theorem dX11_types_312 : decode cX11_types 312 = .ok (.iload 7, 2) := by decide +kernel
theorem dX11_types_314 : decode cX11_types 314 = .ok (.iastore, 1) := by decide +kernel
theorem dX11_types_315 : decode cX11_types 315 = .ok (.aload_n 0, 1) := by decide +kernel
theorem dX11_types_316 : decode cX11_types 316 = .ok (.getfield 448, 3) := by decide +kernel
theorem dX11_types_319 : decode cX11_types 319 = .ok (.iload 9, 2) := by decide +kernel
theorem dX11_types_321 : decode cX11_types 321 = .ok (.dup2, 1) := by decide +kernel
theorem dX11_types_322 : decode cX11_types 322 = .ok (.laload, 1) := by decide +kernel
theorem dX11_types_323 : decode cX11_types 323 = .ok (.aload_n 0, 1) := by decide +kernel
theorem dX11_types_324 : decode cX11_types 324 = .ok (.getfield 448, 3) := by decide +kernel
theorem dX11_types_327 : decode cX11_types 327 = .ok (.iload 6, 2) := by decide +kernel
theorem dX11_types_329 : decode cX11_types 329 = .ok (.laload, 1) := by decide +kernel
theorem dX11_types_330 : decode cX11_types 330 = .ok (.ladd, 1) := by decide +kernel
theorem dX11_types_331 : decode cX11_types 331 = .ok (.lastore, 1) := by decide +kernel
theorem dX11_types_332 : decode cX11_types 332 = .ok (.aload_n 0, 1) := by decide +kernel
theorem dX11_types_333 : decode cX11_types 333 = .ok (.aload_n 0, 1) := by decide +kernel
theorem dX11_types_334 : decode cX11_types 334 = .ok (.getfield 296, 3) := by decide +kernel
theorem dX11_types_337 : decode cX11_types 337 = .ok (.sipush 4000, 3) := by decide +kernel
theorem dX11_types_340 : decode cX11_types 340 = .ok (.if_icmp .le 7, 3) := by decide +kernel
theorem dX11_types_343 : decode cX11_types 343 = .ok (.iconst 1, 1) := by decide +kernel
theorem dX11_types_344 : decode cX11_types 344 = .ok (.goto 4, 3) := by decide +kernel
theorem dX11_types_347 : decode cX11_types 347 = .ok (.iconst 0, 1) := by decide +kernel
theorem dX11_types_348 : decode cX11_types 348 = .ok (.putfield 451, 3) := by decide +kernel
theorem dX11_types_351 : decode cX11_types 351 = .ok (.iinc 7 1, 3) := by decide +kernel
theorem dX11_types_354 : decode cX11_types 354 = .ok (.goto (-207), 3) := by decide +kernel
theorem dX11_types_357 : decode cX11_types 357 = .ok (.iinc 6 1, 3) := by decide +kernel
theorem dX11_types_360 : decode cX11_types 360 = .ok (.goto (-230), 3) := by decide +kernel
theorem dX11_types_363 : decode cX11_types 363 = .ok (.iload 5, 2) := by decide +kernel
theorem dX11_types_365 : decode cX11_types 365 = .ok (.istore_n 2, 1) := by decide +kernel
theorem dX11_types_366 : decode cX11_types 366 = .ok (.iinc 3 1, 3) := by decide +kernel
theorem dX11_types_369 : decode cX11_types 369 = .ok (.goto (-321), 3) := by decide +kernel
theorem dX11_types_372 : decode cX11_types 372 = .ok (.return_, 1) := by decide +kernel
theorem dX11_fits_0 : decode cX11_fits 0 = .ok (.aload_n 0, 1) := by decide +kernel
theorem dX11_fits_1 : decode cX11_fits 1 = .ok (.iconst 0, 1) := by decide +kernel
theorem dX11_fits_2 : decode cX11_fits 2 = .ok (.putfield 3, 3) := by decide +kernel
theorem dX11_fits_5 : decode cX11_fits 5 = .ok (.aload_n 0, 1) := by decide +kernel
theorem dX11_fits_6 : decode cX11_fits 6 = .ok (.getfield 121, 3) := by decide +kernel
theorem dX11_fits_9 : decode cX11_fits 9 = .ok (.ifCond .eq 10, 3) := by decide +kernel
theorem dX11_fits_12 : decode cX11_fits 12 = .ok (.aload_n 0, 1) := by decide +kernel
theorem dX11_fits_13 : decode cX11_fits 13 = .ok (.getfield 442, 3) := by decide +kernel
theorem dX11_fits_16 : decode cX11_fits 16 = .ok (.ifCond .ne 5, 3) := by decide +kernel
theorem dX11_fits_19 : decode cX11_fits 19 = .ok (.iconst (-1), 1) := by decide +kernel
theorem dX11_fits_20 : decode cX11_fits 20 = .ok (.ireturn, 1) := by decide +kernel
theorem dX11_fits_21 : decode cX11_fits 21 = .ok (.aload_n 0, 1) := by decide +kernel
theorem dX11_fits_22 : decode cX11_fits 22 = .ok (.invokevirtual 344, 3) := by decide +kernel
theorem dX11_fits_25 : decode cX11_fits 25 = .ok (.aload_n 0, 1) := by decide +kernel
theorem dX11_fits_26 : decode cX11_fits 26 = .ok (.iconst 0, 1) := by decide +kernel
theorem dX11_fits_27 : decode cX11_fits 27 = .ok (.invokevirtual 466, 3) := by decide +kernel
theorem dX11_fits_30 : decode cX11_fits 30 = .ok (.aload_n 0, 1) := by decide +kernel
theorem dX11_fits_31 : decode cX11_fits 31 = .ok (.invokevirtual 350, 3) := by decide +kernel
theorem dX11_fits_34 : decode cX11_fits 34 = .ok (.aload_n 0, 1) := by decide +kernel
theorem dX11_fits_35 : decode cX11_fits 35 = .ok (.getfield 451, 3) := by decide +kernel
theorem dX11_fits_38 : decode cX11_fits 38 = .ok (.ifCond .eq 6, 3) := by decide +kernel
theorem dX11_fits_41 : decode cX11_fits 41 = .ok (.bipush (-3), 2) := by decide +kernel
theorem dX11_fits_43 : decode cX11_fits 43 = .ok (.ireturn, 1) := by decide +kernel
theorem dX11_fits_44 : decode cX11_fits 44 = .ok (.aload_n 0, 1) := by decide +kernel
theorem dX11_fits_45 : decode cX11_fits 45 = .ok (.getfield 460, 3) := by decide +kernel
theorem dX11_fits_48 : decode cX11_fits 48 = .ok (.ifCond .ge 5, 3) := by decide +kernel
theorem dX11_fits_51 : decode cX11_fits 51 = .ok (.iconst 0, 1) := by decide +kernel
theorem dX11_fits_52 : decode cX11_fits 52 = .ok (.ireturn, 1) := by decide +kernel
theorem dX11_fits_53 : decode cX11_fits 53 = .ok (.aload_n 0, 1) := by decide +kernel
theorem dX11_fits_54 : decode cX11_fits 54 = .ok (.getfield 460, 3) := by decide +kernel
theorem dX11_fits_57 : decode cX11_fits 57 = .ok (.istore_n 1, 1) := by decide +kernel
theorem dX11_fits_58 : decode cX11_fits 58 = .ok (.aload_n 0, 1) := by decide +kernel
theorem dX11_fits_59 : decode cX11_fits 59 = .ok (.getfield 442, 3) := by decide +kernel
theorem dX11_fits_62 : decode cX11_fits 62 = .ok (.iconst 2, 1) := by decide +kernel
theorem dX11_fits_63 : decode cX11_fits 63 = .ok (.isub, 1) := by decide +kernel
theorem dX11_fits_64 : decode cX11_fits 64 = .ok (.istore_n 2, 1) := by decide +kernel
theorem dX11_fits_65 : decode cX11_fits 65 = .ok (.iload_n 2, 1) := by decide +kernel
theorem dX11_fits_66 : decode cX11_fits 66 = .ok (.ifCond .lt 29, 3) := by decide +kernel
theorem dX11_fits_69 : decode cX11_fits 69 = .ok (.aload_n 0, 1) := by decide +kernel
theorem dX11_fits_70 : decode cX11_fits 70 = .ok (.getfield 7, 3) := by decide +kernel
theorem dX11_fits_73 : decode cX11_fits 73 = .ok (.iload_n 2, 1) := by decide +kernel
theorem dX11_fits_74 : decode cX11_fits 74 = .ok (.aload_n 0, 1) := by decide +kernel
theorem dX11_fits_75 : decode cX11_fits 75 = .ok (.getfield 336, 3) := by decide +kernel
theorem dX11_fits_78 : decode cX11_fits 78 = .ok (.iload_n 1, 1) := by decide +kernel
theorem dX11_fits_79 : decode cX11_fits 79 = .ok (.iaload, 1) := by decide +kernel
theorem dX11_fits_80 : decode cX11_fits 80 = .ok (.i2l, 1) := by decide +kernel
theorem dX11_fits_81 : decode cX11_fits 81 = .ok (.lastore, 1) := by decide +kernel
theorem dX11_fits_82 : decode cX11_fits 82 = .ok (.aload_n 0, 1) := by decide +kernel
theorem dX11_fits_83 : decode cX11_fits 83 = .ok (.getfield 330, 3) := by decide +kernel
theorem dX11_fits_86 : decode cX11_fits 86 = .ok (.iload_n 1, 1) := by decide +kernel
theorem dX11_fits_87 : decode cX11_fits 87 = .ok (.iaload, 1) := by decide +kernel
theorem dX11_fits_88 : decode cX11_fits 88 = .ok (.istore_n 1, 1) := by decide +kernel
theorem dX11_fits_89 : decode cX11_fits 89 = .ok (.iinc 2 (-1), 3) := by decide +kernel
theorem dX11_fits_92 : decode cX11_fits 92 = .ok (.goto (-27), 3) := by decide +kernel
theorem dX11_fits_95 : decode cX11_fits 95 = .ok (.aload_n 0, 1) := by decide +kernel
theorem dX11_fits_96 : decode cX11_fits 96 = .ok (.aload_n 0, 1) := by decide +kernel
theorem dX11_fits_97 : decode cX11_fits 97 = .ok (.getfield 442, 3) := by decide +kernel
theorem dX11_fits_100 : decode cX11_fits 100 = .ok (.iconst 1, 1) := by decide +kernel
theorem dX11_fits_101 : decode cX11_fits 101 = .ok (.isub, 1) := by decide +kernel
theorem dX11_fits_102 : decode cX11_fits 102 = .ok (.putfield 11, 3) := by decide +kernel
theorem dX11_fits_105 : decode cX11_fits 105 = .ok (.aload_n 0, 1) := by decide +kernel
theorem dX11_fits_106 : decode cX11_fits 106 = .ok (.aload_n 0, 1) := by decide +kernel
theorem dX11_fits_107 : decode cX11_fits 107 = .ok (.getfield 463, 3) := by decide +kernel
theorem dX11_fits_110 : decode cX11_fits 110 = .ok (.i2l, 1) := by decide +kernel
theorem dX11_fits_111 : decode cX11_fits 111 = .ok (.invokevirtual 262, 3) := by decide +kernel
theorem dX11_fits_114 : decode cX11_fits 114 = .ok (.iconst 1, 1) := by decide +kernel
theorem dX11_fits_115 : decode cX11_fits 115 = .ok (.ireturn, 1) := by decide +kernel
theorem dX11_many_0 : decode cX11_many 0 = .ok (.aload_n 0, 1) := by decide +kernel
theorem dX11_many_1 : decode cX11_many 1 = .ok (.iconst 0, 1) := by decide +kernel
theorem dX11_many_2 : decode cX11_many 2 = .ok (.putfield 3, 3) := by decide +kernel
theorem dX11_many_5 : decode cX11_many 5 = .ok (.aload_n 0, 1) := by decide +kernel
theorem dX11_many_6 : decode cX11_many 6 = .ok (.getfield 121, 3) := by decide +kernel
theorem dX11_many_9 : decode cX11_many 9 = .ok (.ifCond .eq 10, 3) := by decide +kernel
theorem dX11_many_12 : decode cX11_many 12 = .ok (.aload_n 0, 1) := by decide +kernel
theorem dX11_many_13 : decode cX11_many 13 = .ok (.getfield 442, 3) := by decide +kernel
theorem dX11_many_16 : decode cX11_many 16 = .ok (.ifCond .ne 5, 3) := by decide +kernel
theorem dX11_many_19 : decode cX11_many 19 = .ok (.iconst (-1), 1) := by decide +kernel
theorem dX11_many_20 : decode cX11_many 20 = .ok (.ireturn, 1) := by decide +kernel
theorem dX11_many_21 : decode cX11_many 21 = .ok (.aload_n 0, 1) := by decide +kernel
theorem dX11_many_22 : decode cX11_many 22 = .ok (.invokevirtual 344, 3) := by decide +kernel
theorem dX11_many_25 : decode cX11_many 25 = .ok (.aload_n 0, 1) := by decide +kernel
theorem dX11_many_26 : decode cX11_many 26 = .ok (.iconst 0, 1) := by decide +kernel
theorem dX11_many_27 : decode cX11_many 27 = .ok (.invokevirtual 466, 3) := by decide +kernel
theorem dX11_many_30 : decode cX11_many 30 = .ok (.aload_n 0, 1) := by decide +kernel
theorem dX11_many_31 : decode cX11_many 31 = .ok (.invokevirtual 350, 3) := by decide +kernel
theorem dX11_many_34 : decode cX11_many 34 = .ok (.aload_n 0, 1) := by decide +kernel
theorem dX11_many_35 : decode cX11_many 35 = .ok (.getfield 451, 3) := by decide +kernel
theorem dX11_many_38 : decode cX11_many 38 = .ok (.ifCond .eq 6, 3) := by decide +kernel
theorem dX11_many_41 : decode cX11_many 41 = .ok (.bipush (-3), 2) := by decide +kernel
theorem dX11_many_43 : decode cX11_many 43 = .ok (.ireturn, 1) := by decide +kernel
theorem dX11_many_44 : decode cX11_many 44 = .ok (.aload_n 0, 1) := by decide +kernel
theorem dX11_many_45 : decode cX11_many 45 = .ok (.iconst 0, 1) := by decide +kernel
theorem dX11_many_46 : decode cX11_many 46 = .ok (.putfield 11, 3) := by decide +kernel
theorem dX11_many_49 : decode cX11_many 49 = .ok (.aload_n 0, 1) := by decide +kernel
theorem dX11_many_50 : decode cX11_many 50 = .ok (.aload_n 0, 1) := by decide +kernel
theorem dX11_many_51 : decode cX11_many 51 = .ok (.getfield 457, 3) := by decide +kernel
theorem dX11_many_54 : decode cX11_many 54 = .ok (.invokevirtual 262, 3) := by decide +kernel
theorem dX11_many_57 : decode cX11_many 57 = .ok (.aload_n 0, 1) := by decide +kernel
theorem dX11_many_58 : decode cX11_many 58 = .ok (.aload_n 0, 1) := by decide +kernel
theorem dX11_many_59 : decode cX11_many 59 = .ok (.getfield 121, 3) := by decide +kernel
theorem dX11_many_62 : decode cX11_many 62 = .ok (.i2l, 1) := by decide +kernel
theorem dX11_many_63 : decode cX11_many 63 = .ok (.aload_n 0, 1) := by decide +kernel
theorem dX11_many_64 : decode cX11_many 64 = .ok (.getfield 442, 3) := by decide +kernel
theorem dX11_many_67 : decode cX11_many 67 = .ok (.invokestatic 394, 3) := by decide +kernel
theorem dX11_many_70 : decode cX11_many 70 = .ok (.invokevirtual 262, 3) := by decide +kernel
theorem dX11_many_73 : decode cX11_many 73 = .ok (.iconst 0, 1) := by decide +kernel
theorem dX11_many_74 : decode cX11_many 74 = .ok (.ireturn, 1) := by decide +kernel
theorem dX11_spare_0 : decode cX11_spare 0 = .ok (.aload_n 0, 1) := by decide +kernel
theorem dX11_spare_1 : decode cX11_spare 1 = .ok (.iconst 0, 1) := by decide +kernel
theorem dX11_spare_2 : decode cX11_spare 2 = .ok (.putfield 3, 3) := by decide +kernel
theorem dX11_spare_5 : decode cX11_spare 5 = .ok (.aload_n 0, 1) := by decide +kernel
theorem dX11_spare_6 : decode cX11_spare 6 = .ok (.getfield 121, 3) := by decide +kernel
theorem dX11_spare_9 : decode cX11_spare 9 = .ok (.ifCond .eq 10, 3) := by decide +kernel
theorem dX11_spare_12 : decode cX11_spare 12 = .ok (.aload_n 0, 1) := by decide +kernel
theorem dX11_spare_13 : decode cX11_spare 13 = .ok (.getfield 442, 3) := by decide +kernel
theorem dX11_spare_16 : decode cX11_spare 16 = .ok (.ifCond .ne 5, 3) := by decide +kernel
theorem dX11_spare_19 : decode cX11_spare 19 = .ok (.iconst (-1), 1) := by decide +kernel
theorem dX11_spare_20 : decode cX11_spare 20 = .ok (.ireturn, 1) := by decide +kernel
theorem dX11_spare_21 : decode cX11_spare 21 = .ok (.iconst 0, 1) := by decide +kernel
theorem dX11_spare_22 : decode cX11_spare 22 = .ok (.istore_n 1, 1) := by decide +kernel
theorem dX11_spare_23 : decode cX11_spare 23 = .ok (.iconst 0, 1) := by decide +kernel
theorem dX11_spare_24 : decode cX11_spare 24 = .ok (.istore_n 2, 1) := by decide +kernel
theorem dX11_spare_25 : decode cX11_spare 25 = .ok (.iload_n 2, 1) := by decide +kernel
theorem dX11_spare_26 : decode cX11_spare 26 = .ok (.aload_n 0, 1) := by decide +kernel
theorem dX11_spare_27 : decode cX11_spare 27 = .ok (.getfield 442, 3) := by decide +kernel
theorem dX11_spare_30 : decode cX11_spare 30 = .ok (.if_icmp .ge 28, 3) := by decide +kernel
theorem dX11_spare_33 : decode cX11_spare 33 = .ok (.iload_n 1, 1) := by decide +kernel
theorem dX11_spare_34 : decode cX11_spare 34 = .ok (.aload_n 0, 1) := by decide +kernel
theorem dX11_spare_35 : decode cX11_spare 35 = .ok (.getfield 445, 3) := by decide +kernel
theorem dX11_spare_38 : decode cX11_spare 38 = .ok (.iload_n 2, 1) := by decide +kernel
theorem dX11_spare_39 : decode cX11_spare 39 = .ok (.iaload, 1) := by decide +kernel
theorem dX11_spare_40 : decode cX11_spare 40 = .ok (.ifCond .le 9, 3) := by decide +kernel
theorem dX11_spare_43 : decode cX11_spare 43 = .ok (.iconst 1, 1) := by decide +kernel
theorem dX11_spare_44 : decode cX11_spare 44 = .ok (.iload_n 2, 1) := by decide +kernel
theorem dX11_spare_45 : decode cX11_spare 45 = .ok (.ishl, 1) := by decide +kernel
theorem dX11_spare_46 : decode cX11_spare 46 = .ok (.goto 4, 3) := by decide +kernel
theorem dX11_spare_49 : decode cX11_spare 49 = .ok (.iconst 0, 1) := by decide +kernel
theorem dX11_spare_50 : decode cX11_spare 50 = .ok (.ior, 1) := by decide +kernel
theorem dX11_spare_51 : decode cX11_spare 51 = .ok (.istore_n 1, 1) := by decide +kernel
theorem dX11_spare_52 : decode cX11_spare 52 = .ok (.iinc 2 1, 3) := by decide +kernel
theorem dX11_spare_55 : decode cX11_spare 55 = .ok (.goto (-30), 3) := by decide +kernel
theorem dX11_spare_58 : decode cX11_spare 58 = .ok (.aload_n 0, 1) := by decide +kernel
theorem dX11_spare_59 : decode cX11_spare 59 = .ok (.invokevirtual 344, 3) := by decide +kernel
theorem dX11_spare_62 : decode cX11_spare 62 = .ok (.iconst 0, 1) := by decide +kernel
theorem dX11_spare_63 : decode cX11_spare 63 = .ok (.istore_n 2, 1) := by decide +kernel
theorem dX11_spare_64 : decode cX11_spare 64 = .ok (.iconst (-1), 1) := by decide +kernel
theorem dX11_spare_65 : decode cX11_spare 65 = .ok (.istore_n 3, 1) := by decide +kernel
theorem dX11_spare_66 : decode cX11_spare 66 = .ok (.iconst 0, 1) := by decide +kernel
theorem dX11_spare_67 : decode cX11_spare 67 = .ok (.istore 4, 2) := by decide +kernel
theorem dX11_spare_69 : decode cX11_spare 69 = .ok (.iload_n 2, 1) := by decide +kernel
theorem dX11_spare_70 : decode cX11_spare 70 = .ok (.ifCond .lt 61, 3) := by decide +kernel
theorem dX11_spare_73 : decode cX11_spare 73 = .ok (.iload_n 3, 1) := by decide +kernel
theorem dX11_spare_74 : decode cX11_spare 74 = .ok (.ifCond .ge 57, 3) := by decide +kernel
theorem dX11_spare_77 : decode cX11_spare 77 = .ok (.iload 4, 2) := by decide +kernel
theorem dX11_spare_79 : decode cX11_spare 79 = .ok (.ifCond .ne 52, 3) := by decide +kernel
theorem dX11_spare_82 : decode cX11_spare 82 = .ok (.iload_n 2, 1) := by decide +kernel
theorem dX11_spare_83 : decode cX11_spare 83 = .ok (.iload_n 1, 1) := by decide +kernel
theorem dX11_spare_84 : decode cX11_spare 84 = .ok (.iconst (-1), 1) := by decide +kernel
theorem dX11_spare_85 : decode cX11_spare 85 = .ok (.ixor, 1) := by decide +kernel
theorem dX11_spare_86 : decode cX11_spare 86 = .ok (.iand, 1) := by decide +kernel
theorem dX11_spare_87 : decode cX11_spare 87 = .ok (.ifCond .ne 32, 3) := by decide +kernel
theorem dX11_spare_90 : decode cX11_spare 90 = .ok (.aload_n 0, 1) := by decide +kernel
theorem dX11_spare_91 : decode cX11_spare 91 = .ok (.iload_n 2, 1) := by decide +kernel
theorem dX11_spare_92 : decode cX11_spare 92 = .ok (.invokevirtual 466, 3) := by decide +kernel
theorem dX11_spare_95 : decode cX11_spare 95 = .ok (.aload_n 0, 1) := by decide +kernel
theorem dX11_spare_96 : decode cX11_spare 96 = .ok (.getfield 451, 3) := by decide +kernel
theorem dX11_spare_99 : decode cX11_spare 99 = .ok (.istore 4, 2) := by decide +kernel
theorem dX11_spare_101 : decode cX11_spare 101 = .ok (.iload 4, 2) := by decide +kernel
theorem dX11_spare_103 : decode cX11_spare 103 = .ok (.ifCond .ne 14, 3) := by decide +kernel
theorem dX11_spare_106 : decode cX11_spare 106 = .ok (.aload_n 0, 1) := by decide +kernel
theorem dX11_spare_107 : decode cX11_spare 107 = .ok (.getfield 454, 3) := by decide +kernel
theorem dX11_spare_110 : decode cX11_spare 110 = .ok (.ifCond .ne 7, 3) := by decide +kernel
theorem dX11_spare_113 : decode cX11_spare 113 = .ok (.iload_n 2, 1) := by decide +kernel
theorem dX11_spare_114 : decode cX11_spare 114 = .ok (.goto 4, 3) := by decide +kernel
theorem dX11_spare_117 : decode cX11_spare 117 = .ok (.iconst (-1), 1) := by decide +kernel
theorem dX11_spare_118 : decode cX11_spare 118 = .ok (.istore_n 3, 1) := by decide +kernel
theorem dX11_spare_119 : decode cX11_spare 119 = .ok (.iload_n 2, 1) := by decide +kernel
theorem dX11_spare_120 : decode cX11_spare 120 = .ok (.aload_n 0, 1) := by decide +kernel
theorem dX11_spare_121 : decode cX11_spare 121 = .ok (.getfield 442, 3) := by decide +kernel
theorem dX11_spare_124 : decode cX11_spare 124 = .ok (.invokestatic 439, 3) := by decide +kernel
theorem dX11_spare_127 : decode cX11_spare 127 = .ok (.istore_n 2, 1) := by decide +kernel
theorem dX11_spare_128 : decode cX11_spare 128 = .ok (.goto (-59), 3) := by decide +kernel
theorem dX11_spare_131 : decode cX11_spare 131 = .ok (.aload_n 0, 1) := by decide +kernel
theorem dX11_spare_132 : decode cX11_spare 132 = .ok (.invokevirtual 350, 3) := by decide +kernel
theorem dX11_spare_135 : decode cX11_spare 135 = .ok (.iload_n 3, 1) := by decide +kernel
theorem dX11_spare_136 : decode cX11_spare 136 = .ok (.ifCond .ge 16, 3) := by decide +kernel
theorem dX11_spare_139 : decode cX11_spare 139 = .ok (.iload 4, 2) := by decide +kernel
theorem dX11_spare_141 : decode cX11_spare 141 = .ok (.ifCond .eq 8, 3) := by decide +kernel
theorem dX11_spare_144 : decode cX11_spare 144 = .ok (.bipush (-3), 2) := by decide +kernel
theorem dX11_spare_146 : decode cX11_spare 146 = .ok (.goto 5, 3) := by decide +kernel
theorem dX11_spare_149 : decode cX11_spare 149 = .ok (.bipush (-2), 2) := by decide +kernel
theorem dX11_spare_151 : decode cX11_spare 151 = .ok (.ireturn, 1) := by decide +kernel
theorem dX11_spare_152 : decode cX11_spare 152 = .ok (.aload_n 0, 1) := by decide +kernel
theorem dX11_spare_153 : decode cX11_spare 153 = .ok (.iconst 0, 1) := by decide +kernel
theorem dX11_spare_154 : decode cX11_spare 154 = .ok (.putfield 11, 3) := by decide +kernel
theorem dX11_spare_157 : decode cX11_spare 157 = .ok (.aload_n 0, 1) := by decide +kernel
theorem dX11_spare_158 : decode cX11_spare 158 = .ok (.iload_n 3, 1) := by decide +kernel
theorem dX11_spare_159 : decode cX11_spare 159 = .ok (.i2l, 1) := by decide +kernel
theorem dX11_spare_160 : decode cX11_spare 160 = .ok (.invokevirtual 262, 3) := by decide +kernel
theorem dX11_spare_163 : decode cX11_spare 163 = .ok (.iload_n 3, 1) := by decide +kernel
theorem dX11_spare_164 : decode cX11_spare 164 = .ok (.invokestatic 434, 3) := by decide +kernel
theorem dX11_spare_167 : decode cX11_spare 167 = .ok (.ireturn, 1) := by decide +kernel
theorem dX11_like_0 : decode cX11_like 0 = .ok (.aload_n 0, 1) := by decide +kernel
theorem dX11_like_1 : decode cX11_like 1 = .ok (.iconst 0, 1) := by decide +kernel
theorem dX11_like_2 : decode cX11_like 2 = .ok (.putfield 3, 3) := by decide +kernel
theorem dX11_like_5 : decode cX11_like 5 = .ok (.iload_n 1, 1) := by decide +kernel
theorem dX11_like_6 : decode cX11_like 6 = .ok (.i2l, 1) := by decide +kernel
theorem dX11_like_7 : decode cX11_like 7 = .ok (.lconst 0, 1) := by decide +kernel
theorem dX11_like_8 : decode cX11_like 8 = .ok (.aload_n 0, 1) := by decide +kernel
theorem dX11_like_9 : decode cX11_like 9 = .ok (.getfield 121, 3) := by decide +kernel
theorem dX11_like_12 : decode cX11_like 12 = .ok (.iconst 1, 1) := by decide +kernel
theorem dX11_like_13 : decode cX11_like 13 = .ok (.isub, 1) := by decide +kernel
theorem dX11_like_14 : decode cX11_like 14 = .ok (.i2l, 1) := by decide +kernel
theorem dX11_like_15 : decode cX11_like 15 = .ok (.invokestatic 21, 3) := by decide +kernel
theorem dX11_like_18 : decode cX11_like 18 = .ok (.ifCond .eq 19, 3) := by decide +kernel
theorem dX11_like_21 : decode cX11_like 21 = .ok (.iload_n 2, 1) := by decide +kernel
theorem dX11_like_22 : decode cX11_like 22 = .ok (.i2l, 1) := by decide +kernel
theorem dX11_like_23 : decode cX11_like 23 = .ok (.lconst 0, 1) := by decide +kernel
theorem dX11_like_24 : decode cX11_like 24 = .ok (.aload_n 0, 1) := by decide +kernel
theorem dX11_like_25 : decode cX11_like 25 = .ok (.getfield 121, 3) := by decide +kernel
theorem dX11_like_28 : decode cX11_like 28 = .ok (.iconst 1, 1) := by decide +kernel
theorem dX11_like_29 : decode cX11_like 29 = .ok (.isub, 1) := by decide +kernel
theorem dX11_like_30 : decode cX11_like 30 = .ok (.i2l, 1) := by decide +kernel
theorem dX11_like_31 : decode cX11_like 31 = .ok (.invokestatic 21, 3) := by decide +kernel
theorem dX11_like_34 : decode cX11_like 34 = .ok (.ifCond .ne 5, 3) := by decide +kernel
theorem dX11_like_37 : decode cX11_like 37 = .ok (.iconst (-1), 1) := by decide +kernel
theorem dX11_like_38 : decode cX11_like 38 = .ok (.ireturn, 1) := by decide +kernel
theorem dX11_like_39 : decode cX11_like 39 = .ok (.aload_n 0, 1) := by decide +kernel
theorem dX11_like_40 : decode cX11_like 40 = .ok (.getfield 139, 3) := by decide +kernel
theorem dX11_like_43 : decode cX11_like 43 = .ok (.iload_n 1, 1) := by decide +kernel
theorem dX11_like_44 : decode cX11_like 44 = .ok (.iaload, 1) := by decide +kernel
theorem dX11_like_45 : decode cX11_like 45 = .ok (.aload_n 0, 1) := by decide +kernel
theorem dX11_like_46 : decode cX11_like 46 = .ok (.getfield 139, 3) := by decide +kernel
theorem dX11_like_49 : decode cX11_like 49 = .ok (.iload_n 2, 1) := by decide +kernel
theorem dX11_like_50 : decode cX11_like 50 = .ok (.iaload, 1) := by decide +kernel
theorem dX11_like_51 : decode cX11_like 51 = .ok (.if_icmp .eq 5, 3) := by decide +kernel
theorem dX11_like_54 : decode cX11_like 54 = .ok (.iconst 0, 1) := by decide +kernel
theorem dX11_like_55 : decode cX11_like 55 = .ok (.ireturn, 1) := by decide +kernel
theorem dX11_like_56 : decode cX11_like 56 = .ok (.iconst 0, 1) := by decide +kernel
theorem dX11_like_57 : decode cX11_like 57 = .ok (.istore_n 3, 1) := by decide +kernel
theorem dX11_like_58 : decode cX11_like 58 = .ok (.iload_n 3, 1) := by decide +kernel
theorem dX11_like_59 : decode cX11_like 59 = .ok (.bipush 8, 2) := by decide +kernel
theorem dX11_like_61 : decode cX11_like 61 = .ok (.if_icmp .ge 23, 3) := by decide +kernel
theorem dX11_like_64 : decode cX11_like 64 = .ok (.aload_n 0, 1) := by decide +kernel
theorem dX11_like_65 : decode cX11_like 65 = .ok (.getfield 469, 3) := by decide +kernel
theorem dX11_like_68 : decode cX11_like 68 = .ok (.iload_n 3, 1) := by decide +kernel
theorem dX11_like_69 : decode cX11_like 69 = .ok (.iconst (-1), 1) := by decide +kernel
theorem dX11_like_70 : decode cX11_like 70 = .ok (.iastore, 1) := by decide +kernel
theorem dX11_like_71 : decode cX11_like 71 = .ok (.aload_n 0, 1) := by decide +kernel
theorem dX11_like_72 : decode cX11_like 72 = .ok (.getfield 472, 3) := by decide +kernel
theorem dX11_like_75 : decode cX11_like 75 = .ok (.iload_n 3, 1) := by decide +kernel
theorem dX11_like_76 : decode cX11_like 76 = .ok (.iconst (-1), 1) := by decide +kernel
theorem dX11_like_77 : decode cX11_like 77 = .ok (.iastore, 1) := by decide +kernel
theorem dX11_like_78 : decode cX11_like 78 = .ok (.iinc 3 1, 3) := by decide +kernel
theorem dX11_like_81 : decode cX11_like 81 = .ok (.goto (-23), 3) := by decide +kernel
theorem dX11_like_84 : decode cX11_like 84 = .ok (.iconst 0, 1) := by decide +kernel
theorem dX11_like_85 : decode cX11_like 85 = .ok (.istore_n 3, 1) := by decide +kernel
theorem dX11_like_86 : decode cX11_like 86 = .ok (.iload_n 3, 1) := by decide +kernel
theorem dX11_like_87 : decode cX11_like 87 = .ok (.aload_n 0, 1) := by decide +kernel
theorem dX11_like_88 : decode cX11_like 88 = .ok (.getfield 139, 3) := by decide +kernel
theorem dX11_like_91 : decode cX11_like 91 = .ok (.iload_n 1, 1) := by decide +kernel
theorem dX11_like_92 : decode cX11_like 92 = .ok (.iaload, 1) := by decide +kernel
theorem dX11_like_93 : decode cX11_like 93 = .ok (.if_icmp .ge 164, 3) := by decide +kernel
theorem dX11_like_96 : decode cX11_like 96 = .ok (.aload_n 0, 1) := by decide +kernel
theorem dX11_like_97 : decode cX11_like 97 = .ok (.getfield 136, 3) := by decide +kernel
theorem dX11_like_100 : decode cX11_like 100 = .ok (.bipush 60, 2) := by decide +kernel
theorem dX11_like_102 : decode cX11_like 102 = .ok (.iload_n 1, 1) := by decide +kernel
theorem dX11_like_103 : decode cX11_like 103 = .ok (.imul, 1) := by decide +kernel
theorem dX11_like_104 : decode cX11_like 104 = .ok (.iload_n 3, 1) := by decide +kernel
theorem dX11_like_105 : decode cX11_like 105 = .ok (.iadd, 1) := by decide +kernel
theorem dX11_like_106 : decode cX11_like 106 = .ok (.iaload, 1) := by decide +kernel
theorem dX11_like_107 : decode cX11_like 107 = .ok (.istore 4, 2) := by decide +kernel
theorem dX11_like_109 : decode cX11_like 109 = .ok (.aload_n 0, 1) := by decide +kernel
theorem dX11_like_110 : decode cX11_like 110 = .ok (.getfield 136, 3) := by decide +kernel
theorem dX11_like_113 : decode cX11_like 113 = .ok (.bipush 60, 2) := by decide +kernel
theorem dX11_like_115 : decode cX11_like 115 = .ok (.iload_n 2, 1) := by decide +kernel
theorem dX11_like_116 : decode cX11_like 116 = .ok (.imul, 1) := by decide +kernel
theorem dX11_like_117 : decode cX11_like 117 = .ok (.iload_n 3, 1) := by decide +kernel
theorem dX11_like_118 : decode cX11_like 118 = .ok (.iadd, 1) := by decide +kernel
theorem dX11_like_119 : decode cX11_like 119 = .ok (.iaload, 1) := by decide +kernel
theorem dX11_like_120 : decode cX11_like 120 = .ok (.istore 5, 2) := by decide +kernel
theorem dX11_like_122 : decode cX11_like 122 = .ok (.iload 4, 2) := by decide +kernel
theorem dX11_like_124 : decode cX11_like 124 = .ok (.i2l, 1) := by decide +kernel
theorem dX11_like_125 : decode cX11_like 125 = .ok (.ldc2_w 56, 3) := by decide +kernel
theorem dX11_like_128 : decode cX11_like 128 = .ok (.ldc2_w 58, 3) := by decide +kernel
theorem dX11_like_131 : decode cX11_like 131 = .ok (.invokestatic 21, 3) := by decide +kernel
theorem dX11_like_134 : decode cX11_like 134 = .ok (.ifCond .eq 22, 3) := by decide +kernel
theorem dX11_like_137 : decode cX11_like 137 = .ok (.iload 5, 2) := by decide +kernel
theorem dX11_like_139 : decode cX11_like 139 = .ok (.i2l, 1) := by decide +kernel
theorem dX11_like_140 : decode cX11_like 140 = .ok (.ldc2_w 56, 3) := by decide +kernel
theorem dX11_like_143 : decode cX11_like 143 = .ok (.ldc2_w 58, 3) := by decide +kernel
theorem dX11_like_146 : decode cX11_like 146 = .ok (.invokestatic 21, 3) := by decide +kernel
theorem dX11_like_149 : decode cX11_like 149 = .ok (.ifCond .eq 7, 3) := by decide +kernel
theorem dX11_like_152 : decode cX11_like 152 = .ok (.iconst 1, 1) := by decide +kernel
theorem dX11_like_153 : decode cX11_like 153 = .ok (.goto 4, 3) := by decide +kernel
theorem dX11_like_156 : decode cX11_like 156 = .ok (.iconst 0, 1) := by decide +kernel
theorem dX11_like_157 : decode cX11_like 157 = .ok (.istore 6, 2) := by decide +kernel
theorem dX11_like_159 : decode cX11_like 159 = .ok (.iload 6, 2) := by decide +kernel
theorem dX11_like_161 : decode cX11_like 161 = .ok (.ifCond .ne 12, 3) := by decide +kernel
theorem dX11_like_164 : decode cX11_like 164 = .ok (.iload 4, 2) := by decide +kernel
theorem dX11_like_166 : decode cX11_like 166 = .ok (.iload 5, 2) := by decide +kernel
theorem dX11_like_168 : decode cX11_like 168 = .ok (.if_icmp .eq 83, 3) := by decide +kernel
theorem dX11_like_171 : decode cX11_like 171 = .ok (.iconst 0, 1) := by decide +kernel
theorem dX11_like_172 : decode cX11_like 172 = .ok (.ireturn, 1) := by decide +kernel
theorem dX11_like_173 : decode cX11_like 173 = .ok (.iload 4, 2) := by decide +kernel
theorem dX11_like_175 : decode cX11_like 175 = .ok (.bipush 97, 2) := by decide +kernel
theorem dX11_like_177 : decode cX11_like 177 = .ok (.isub, 1) := by decide +kernel
theorem dX11_like_178 : decode cX11_like 178 = .ok (.istore 7, 2) := by decide +kernel
theorem dX11_like_180 : decode cX11_like 180 = .ok (.iload 5, 2) := by decide +kernel
theorem dX11_like_182 : decode cX11_like 182 = .ok (.bipush 97, 2) := by decide +kernel
theorem dX11_like_184 : decode cX11_like 184 = .ok (.isub, 1) := by decide +kernel
theorem dX11_like_185 : decode cX11_like 185 = .ok (.istore 8, 2) := by decide +kernel
theorem dX11_like_187 : decode cX11_like 187 = .ok (.aload_n 0, 1) := by decide +kernel
theorem dX11_like_188 : decode cX11_like 188 = .ok (.getfield 469, 3) := by decide +kernel
theorem dX11_like_191 : decode cX11_like 191 = .ok (.iload 7, 2) := by decide +kernel
theorem dX11_like_193 : decode cX11_like 193 = .ok (.iaload, 1) := by decide +kernel
theorem dX11_like_194 : decode cX11_like 194 = .ok (.ifCond .ge 31, 3) := by decide +kernel
theorem dX11_like_197 : decode cX11_like 197 = .ok (.aload_n 0, 1) := by decide +kernel
theorem dX11_like_198 : decode cX11_like 198 = .ok (.getfield 472, 3) := by decide +kernel
theorem dX11_like_201 : decode cX11_like 201 = .ok (.iload 8, 2) := by decide +kernel
theorem dX11_like_203 : decode cX11_like 203 = .ok (.iaload, 1) := by decide +kernel
theorem dX11_like_204 : decode cX11_like 204 = .ok (.ifCond .ge 21, 3) := by decide +kernel
theorem dX11_like_207 : decode cX11_like 207 = .ok (.aload_n 0, 1) := by decide +kernel
theorem dX11_like_208 : decode cX11_like 208 = .ok (.getfield 469, 3) := by decide +kernel
theorem dX11_like_211 : decode cX11_like 211 = .ok (.iload 7, 2) := by decide +kernel
theorem dX11_like_213 : decode cX11_like 213 = .ok (.iload 8, 2) := by decide +kernel
theorem dX11_like_215 : decode cX11_like 215 = .ok (.iastore, 1) := by decide +kernel
theorem dX11_like_216 : decode cX11_like 216 = .ok (.aload_n 0, 1) := by decide +kernel
theorem dX11_like_217 : decode cX11_like 217 = .ok (.getfield 472, 3) := by decide +kernel
theorem dX11_like_220 : decode cX11_like 220 = .ok (.iload 8, 2) := by decide +kernel
theorem dX11_like_222 : decode cX11_like 222 = .ok (.iload 7, 2) := by decide +kernel
theorem dX11_like_224 : decode cX11_like 224 = .ok (.iastore, 1) := by decide +kernel
theorem dX11_like_225 : decode cX11_like 225 = .ok (.aload_n 0, 1) := by decide +kernel
theorem dX11_like_226 : decode cX11_like 226 = .ok (.getfield 469, 3) := by decide +kernel
theorem dX11_like_229 : decode cX11_like 229 = .ok (.iload 7, 2) := by decide +kernel
theorem dX11_like_231 : decode cX11_like 231 = .ok (.iaload, 1) := by decide +kernel
theorem dX11_like_232 : decode cX11_like 232 = .ok (.iload 8, 2) := by decide +kernel
theorem dX11_like_234 : decode cX11_like 234 = .ok (.if_icmp .ne 15, 3) := by decide +kernel
theorem dX11_like_237 : decode cX11_like 237 = .ok (.aload_n 0, 1) := by decide +kernel
theorem dX11_like_238 : decode cX11_like 238 = .ok (.getfield 472, 3) := by decide +kernel
theorem dX11_like_241 : decode cX11_like 241 = .ok (.iload 8, 2) := by decide +kernel
theorem dX11_like_243 : decode cX11_like 243 = .ok (.iaload, 1) := by decide +kernel
theorem dX11_like_244 : decode cX11_like 244 = .ok (.iload 7, 2) := by decide +kernel
theorem dX11_like_246 : decode cX11_like 246 = .ok (.if_icmp .eq 5, 3) := by decide +kernel
theorem dX11_like_249 : decode cX11_like 249 = .ok (.iconst 0, 1) := by decide +kernel
theorem dX11_like_250 : decode cX11_like 250 = .ok (.ireturn, 1) := by decide +kernel
theorem dX11_like_251 : decode cX11_like 251 = .ok (.iinc 3 1, 3) := by decide +kernel
theorem dX11_like_254 : decode cX11_like 254 = .ok (.goto (-168), 3) := by decide +kernel
theorem dX11_like_257 : decode cX11_like 257 = .ok (.aload_n 0, 1) := by decide +kernel
theorem dX11_like_258 : decode cX11_like 258 = .ok (.iconst 0, 1) := by decide +kernel
theorem dX11_like_259 : decode cX11_like 259 = .ok (.putfield 11, 3) := by decide +kernel
theorem dX11_like_262 : decode cX11_like 262 = .ok (.iconst 0, 1) := by decide +kernel
theorem dX11_like_263 : decode cX11_like 263 = .ok (.istore_n 3, 1) := by decide +kernel
theorem dX11_like_264 : decode cX11_like 264 = .ok (.iload_n 3, 1) := by decide +kernel
theorem dX11_like_265 : decode cX11_like 265 = .ok (.bipush 8, 2) := by decide +kernel
theorem dX11_like_267 : decode cX11_like 267 = .ok (.if_icmp .ge 20, 3) := by decide +kernel
theorem dX11_like_270 : decode cX11_like 270 = .ok (.aload_n 0, 1) := by decide +kernel
theorem dX11_like_271 : decode cX11_like 271 = .ok (.aload_n 0, 1) := by decide +kernel
theorem dX11_like_272 : decode cX11_like 272 = .ok (.getfield 469, 3) := by decide +kernel
theorem dX11_like_275 : decode cX11_like 275 = .ok (.iload_n 3, 1) := by decide +kernel
theorem dX11_like_276 : decode cX11_like 276 = .ok (.iaload, 1) := by decide +kernel
theorem dX11_like_277 : decode cX11_like 277 = .ok (.i2l, 1) := by decide +kernel
theorem dX11_like_278 : decode cX11_like 278 = .ok (.invokevirtual 262, 3) := by decide +kernel
theorem dX11_like_281 : decode cX11_like 281 = .ok (.iinc 3 1, 3) := by decide +kernel
theorem dX11_like_284 : decode cX11_like 284 = .ok (.goto (-20), 3) := by decide +kernel
theorem dX11_like_287 : decode cX11_like 287 = .ok (.iconst 1, 1) := by decide +kernel
theorem dX11_like_288 : decode cX11_like 288 = .ok (.ireturn, 1) := by decide +kernel
theorem dX11_given_0 : decode cX11_given 0 = .ok (.aload_n 0, 1) := by decide +kernel
theorem dX11_given_1 : decode cX11_given 1 = .ok (.iconst 0, 1) := by decide +kernel
theorem dX11_given_2 : decode cX11_given 2 = .ok (.putfield 3, 3) := by decide +kernel
theorem dX11_given_5 : decode cX11_given 5 = .ok (.iload_n 1, 1) := by decide +kernel
theorem dX11_given_6 : decode cX11_given 6 = .ok (.i2l, 1) := by decide +kernel
theorem dX11_given_7 : decode cX11_given 7 = .ok (.lconst 0, 1) := by decide +kernel
theorem dX11_given_8 : decode cX11_given 8 = .ok (.ldc2_w 475, 3) := by decide +kernel
theorem dX11_given_11 : decode cX11_given 11 = .ok (.invokestatic 21, 3) := by decide +kernel
theorem dX11_given_14 : decode cX11_given 14 = .ok (.ifCond .eq 36, 3) := by decide +kernel
theorem dX11_given_17 : decode cX11_given 17 = .ok (.iload_n 2, 1) := by decide +kernel
theorem dX11_given_18 : decode cX11_given 18 = .ok (.i2l, 1) := by decide +kernel
theorem dX11_given_19 : decode cX11_given 19 = .ok (.lconst 0, 1) := by decide +kernel
theorem dX11_given_20 : decode cX11_given 20 = .ok (.ldc2_w 406, 3) := by decide +kernel
theorem dX11_given_23 : decode cX11_given 23 = .ok (.invokestatic 21, 3) := by decide +kernel
theorem dX11_given_26 : decode cX11_given 26 = .ok (.ifCond .eq 24, 3) := by decide +kernel
theorem dX11_given_29 : decode cX11_given 29 = .ok (.iload_n 3, 1) := by decide +kernel
theorem dX11_given_30 : decode cX11_given 30 = .ok (.i2l, 1) := by decide +kernel
theorem dX11_given_31 : decode cX11_given 31 = .ok (.lconst 0, 1) := by decide +kernel
theorem dX11_given_32 : decode cX11_given 32 = .ok (.ldc2_w 231, 3) := by decide +kernel
theorem dX11_given_35 : decode cX11_given 35 = .ok (.invokestatic 21, 3) := by decide +kernel
theorem dX11_given_38 : decode cX11_given 38 = .ok (.ifCond .eq 12, 3) := by decide +kernel
theorem dX11_given_41 : decode cX11_given 41 = .ok (.aload_n 0, 1) := by decide +kernel
theorem dX11_given_42 : decode cX11_given 42 = .ok (.getfield 477, 3) := by decide +kernel
theorem dX11_given_45 : decode cX11_given 45 = .ok (.bipush 12, 2) := by decide +kernel
theorem dX11_given_47 : decode cX11_given 47 = .ok (.if_icmp .ne 5, 3) := by decide +kernel
theorem dX11_given_50 : decode cX11_given 50 = .ok (.iconst (-1), 1) := by decide +kernel
theorem dX11_given_51 : decode cX11_given 51 = .ok (.ireturn, 1) := by decide +kernel
theorem dX11_given_52 : decode cX11_given 52 = .ok (.aload_n 0, 1) := by decide +kernel
theorem dX11_given_53 : decode cX11_given 53 = .ok (.getfield 480, 3) := by decide +kernel
theorem dX11_given_56 : decode cX11_given 56 = .ok (.aload_n 0, 1) := by decide +kernel
theorem dX11_given_57 : decode cX11_given 57 = .ok (.getfield 477, 3) := by decide +kernel
theorem dX11_given_60 : decode cX11_given 60 = .ok (.iload_n 1, 1) := by decide +kernel
theorem dX11_given_61 : decode cX11_given 61 = .ok (.iastore, 1) := by decide +kernel
theorem dX11_given_62 : decode cX11_given 62 = .ok (.aload_n 0, 1) := by decide +kernel
theorem dX11_given_63 : decode cX11_given 63 = .ok (.getfield 483, 3) := by decide +kernel
theorem dX11_given_66 : decode cX11_given 66 = .ok (.aload_n 0, 1) := by decide +kernel
theorem dX11_given_67 : decode cX11_given 67 = .ok (.getfield 477, 3) := by decide +kernel
theorem dX11_given_70 : decode cX11_given 70 = .ok (.iload_n 2, 1) := by decide +kernel
theorem dX11_given_71 : decode cX11_given 71 = .ok (.iastore, 1) := by decide +kernel
theorem dX11_given_72 : decode cX11_given 72 = .ok (.aload_n 0, 1) := by decide +kernel
theorem dX11_given_73 : decode cX11_given 73 = .ok (.getfield 486, 3) := by decide +kernel
theorem dX11_given_76 : decode cX11_given 76 = .ok (.aload_n 0, 1) := by decide +kernel
theorem dX11_given_77 : decode cX11_given 77 = .ok (.getfield 477, 3) := by decide +kernel
theorem dX11_given_80 : decode cX11_given 80 = .ok (.iload_n 3, 1) := by decide +kernel
theorem dX11_given_81 : decode cX11_given 81 = .ok (.iastore, 1) := by decide +kernel
theorem dX11_given_82 : decode cX11_given 82 = .ok (.aload_n 0, 1) := by decide +kernel
theorem dX11_given_83 : decode cX11_given 83 = .ok (.dup, 1) := by decide +kernel
theorem dX11_given_84 : decode cX11_given 84 = .ok (.getfield 477, 3) := by decide +kernel
theorem dX11_given_87 : decode cX11_given 87 = .ok (.iconst 1, 1) := by decide +kernel
theorem dX11_given_88 : decode cX11_given 88 = .ok (.iadd, 1) := by decide +kernel
theorem dX11_given_89 : decode cX11_given 89 = .ok (.putfield 477, 3) := by decide +kernel
theorem dX11_given_92 : decode cX11_given 92 = .ok (.aload_n 0, 1) := by decide +kernel
theorem dX11_given_93 : decode cX11_given 93 = .ok (.getfield 477, 3) := by decide +kernel
theorem dX11_given_96 : decode cX11_given 96 = .ok (.iconst 1, 1) := by decide +kernel
theorem dX11_given_97 : decode cX11_given 97 = .ok (.isub, 1) := by decide +kernel
theorem dX11_given_98 : decode cX11_given 98 = .ok (.ireturn, 1) := by decide +kernel
theorem dX11_letter__0 : decode cX11_letter_ 0 = .ok (.aload_n 0, 1) := by decide +kernel
theorem dX11_letter__1 : decode cX11_letter_ 1 = .ok (.iconst 0, 1) := by decide +kernel
theorem dX11_letter__2 : decode cX11_letter_ 2 = .ok (.putfield 3, 3) := by decide +kernel
theorem dX11_letter__5 : decode cX11_letter_ 5 = .ok (.iload_n 1, 1) := by decide +kernel
theorem dX11_letter__6 : decode cX11_letter_ 6 = .ok (.i2l, 1) := by decide +kernel
theorem dX11_letter__7 : decode cX11_letter_ 7 = .ok (.lconst 0, 1) := by decide +kernel
theorem dX11_letter__8 : decode cX11_letter_ 8 = .ok (.ldc2_w 475, 3) := by decide +kernel
theorem dX11_letter__11 : decode cX11_letter_ 11 = .ok (.invokestatic 21, 3) := by decide +kernel
theorem dX11_letter__14 : decode cX11_letter_ 14 = .ok (.ifCond .eq 49, 3) := by decide +kernel
theorem dX11_letter__17 : decode cX11_letter_ 17 = .ok (.iload_n 2, 1) := by decide +kernel
theorem dX11_letter__18 : decode cX11_letter_ 18 = .ok (.i2l, 1) := by decide +kernel
theorem dX11_letter__19 : decode cX11_letter_ 19 = .ok (.lconst 0, 1) := by decide +kernel
theorem dX11_letter__20 : decode cX11_letter_ 20 = .ok (.ldc2_w 475, 3) := by decide +kernel
theorem dX11_letter__23 : decode cX11_letter_ 23 = .ok (.invokestatic 21, 3) := by decide +kernel
theorem dX11_letter__26 : decode cX11_letter_ 26 = .ok (.ifCond .eq 37, 3) := by decide +kernel
theorem dX11_letter__29 : decode cX11_letter_ 29 = .ok (.iload_n 1, 1) := by decide +kernel
theorem dX11_letter__30 : decode cX11_letter_ 30 = .ok (.iload_n 2, 1) := by decide +kernel
theorem dX11_letter__31 : decode cX11_letter_ 31 = .ok (.if_icmp .eq 32, 3) := by decide +kernel
theorem dX11_letter__34 : decode cX11_letter_ 34 = .ok (.iload_n 3, 1) := by decide +kernel
theorem dX11_letter__35 : decode cX11_letter_ 35 = .ok (.i2l, 1) := by decide +kernel
theorem dX11_letter__36 : decode cX11_letter_ 36 = .ok (.lconst 0, 1) := by decide +kernel
theorem dX11_letter__37 : decode cX11_letter_ 37 = .ok (.ldc2_w 406, 3) := by decide +kernel
theorem dX11_letter__40 : decode cX11_letter_ 40 = .ok (.invokestatic 21, 3) := by decide +kernel
theorem dX11_letter__43 : decode cX11_letter_ 43 = .ok (.ifCond .eq 20, 3) := by decide +kernel
theorem dX11_letter__46 : decode cX11_letter_ 46 = .ok (.iload 4, 2) := by decide +kernel
theorem dX11_letter__48 : decode cX11_letter_ 48 = .ok (.i2l, 1) := by decide +kernel
theorem dX11_letter__49 : decode cX11_letter_ 49 = .ok (.lconst 0, 1) := by decide +kernel
theorem dX11_letter__50 : decode cX11_letter_ 50 = .ok (.ldc2_w 489, 3) := by decide +kernel
theorem dX11_letter__53 : decode cX11_letter_ 53 = .ok (.invokestatic 21, 3) := by decide +kernel
theorem dX11_letter__56 : decode cX11_letter_ 56 = .ok (.ifCond .eq 7, 3) := by decide +kernel
theorem dX11_letter__59 : decode cX11_letter_ 59 = .ok (.iconst 1, 1) := by decide +kernel
theorem dX11_letter__60 : decode cX11_letter_ 60 = .ok (.goto 4, 3) := by decide +kernel
theorem dX11_letter__63 : decode cX11_letter_ 63 = .ok (.iconst 0, 1) := by decide +kernel
theorem dX11_letter__64 : decode cX11_letter_ 64 = .ok (.istore 5, 2) := by decide +kernel
theorem dX11_letter__66 : decode cX11_letter_ 66 = .ok (.iload 5, 2) := by decide +kernel
theorem dX11_letter__68 : decode cX11_letter_ 68 = .ok (.ifCond .eq 12, 3) := by decide +kernel
theorem dX11_letter__71 : decode cX11_letter_ 71 = .ok (.aload_n 0, 1) := by decide +kernel
theorem dX11_letter__72 : decode cX11_letter_ 72 = .ok (.getfield 491, 3) := by decide +kernel
theorem dX11_letter__75 : decode cX11_letter_ 75 = .ok (.bipush 12, 2) := by decide +kernel
theorem dX11_letter__77 : decode cX11_letter_ 77 = .ok (.if_icmp .ne 5, 3) := by decide +kernel
theorem dX11_letter__80 : decode cX11_letter_ 80 = .ok (.iconst (-1), 1) := by decide +kernel
theorem dX11_letter__81 : decode cX11_letter_ 81 = .ok (.ireturn, 1) := by decide +kernel
theorem dX11_letter__82 : decode cX11_letter_ 82 = .ok (.aload_n 0, 1) := by decide +kernel
theorem dX11_letter__83 : decode cX11_letter_ 83 = .ok (.getfield 494, 3) := by decide +kernel
theorem dX11_letter__86 : decode cX11_letter_ 86 = .ok (.aload_n 0, 1) := by decide +kernel
theorem dX11_letter__87 : decode cX11_letter_ 87 = .ok (.getfield 491, 3) := by decide +kernel
theorem dX11_letter__90 : decode cX11_letter_ 90 = .ok (.iload_n 1, 1) := by decide +kernel
theorem dX11_letter__91 : decode cX11_letter_ 91 = .ok (.iastore, 1) := by decide +kernel
theorem dX11_letter__92 : decode cX11_letter_ 92 = .ok (.aload_n 0, 1) := by decide +kernel
theorem dX11_letter__93 : decode cX11_letter_ 93 = .ok (.getfield 497, 3) := by decide +kernel
theorem dX11_letter__96 : decode cX11_letter_ 96 = .ok (.aload_n 0, 1) := by decide +kernel
theorem dX11_letter__97 : decode cX11_letter_ 97 = .ok (.getfield 491, 3) := by decide +kernel
theorem dX11_letter__100 : decode cX11_letter_ 100 = .ok (.iload_n 2, 1) := by decide +kernel
theorem dX11_letter__101 : decode cX11_letter_ 101 = .ok (.iastore, 1) := by decide +kernel
theorem dX11_letter__102 : decode cX11_letter_ 102 = .ok (.aload_n 0, 1) := by decide +kernel
theorem dX11_letter__103 : decode cX11_letter_ 103 = .ok (.getfield 500, 3) := by decide +kernel
theorem dX11_letter__106 : decode cX11_letter_ 106 = .ok (.aload_n 0, 1) := by decide +kernel
theorem dX11_letter__107 : decode cX11_letter_ 107 = .ok (.getfield 491, 3) := by decide +kernel
theorem dX11_letter__110 : decode cX11_letter_ 110 = .ok (.iload_n 3, 1) := by decide +kernel
theorem dX11_letter__111 : decode cX11_letter_ 111 = .ok (.iastore, 1) := by decide +kernel
theorem dX11_letter__112 : decode cX11_letter_ 112 = .ok (.aload_n 0, 1) := by decide +kernel
theorem dX11_letter__113 : decode cX11_letter_ 113 = .ok (.getfield 503, 3) := by decide +kernel
theorem dX11_letter__116 : decode cX11_letter_ 116 = .ok (.aload_n 0, 1) := by decide +kernel
theorem dX11_letter__117 : decode cX11_letter_ 117 = .ok (.getfield 491, 3) := by decide +kernel
theorem dX11_letter__120 : decode cX11_letter_ 120 = .ok (.iload 4, 2) := by decide +kernel
theorem dX11_letter__122 : decode cX11_letter_ 122 = .ok (.iastore, 1) := by decide +kernel
theorem dX11_letter__123 : decode cX11_letter_ 123 = .ok (.aload_n 0, 1) := by decide +kernel
theorem dX11_letter__124 : decode cX11_letter_ 124 = .ok (.dup, 1) := by decide +kernel
theorem dX11_letter__125 : decode cX11_letter_ 125 = .ok (.getfield 491, 3) := by decide +kernel
theorem dX11_letter__128 : decode cX11_letter_ 128 = .ok (.iconst 1, 1) := by decide +kernel
theorem dX11_letter__129 : decode cX11_letter_ 129 = .ok (.iadd, 1) := by decide +kernel
theorem dX11_letter__130 : decode cX11_letter_ 130 = .ok (.putfield 491, 3) := by decide +kernel
theorem dX11_letter__133 : decode cX11_letter_ 133 = .ok (.aload_n 0, 1) := by decide +kernel
theorem dX11_letter__134 : decode cX11_letter_ 134 = .ok (.getfield 491, 3) := by decide +kernel
theorem dX11_letter__137 : decode cX11_letter_ 137 = .ok (.ireturn, 1) := by decide +kernel
theorem dX11_tells_0 : decode cX11_tells 0 = .ok (.iconst 0, 1) := by decide +kernel
theorem dX11_tells_1 : decode cX11_tells 1 = .ok (.istore_n 1, 1) := by decide +kernel
theorem dX11_tells_2 : decode cX11_tells 2 = .ok (.iload_n 1, 1) := by decide +kernel
theorem dX11_tells_3 : decode cX11_tells 3 = .ok (.bipush 6, 2) := by decide +kernel
theorem dX11_tells_5 : decode cX11_tells 5 = .ok (.if_icmp .ge 58, 3) := by decide +kernel
theorem dX11_tells_8 : decode cX11_tells 8 = .ok (.iconst 0, 1) := by decide +kernel
theorem dX11_tells_9 : decode cX11_tells 9 = .ok (.istore_n 2, 1) := by decide +kernel
theorem dX11_tells_10 : decode cX11_tells 10 = .ok (.iload_n 2, 1) := by decide +kernel
theorem dX11_tells_11 : decode cX11_tells 11 = .ok (.aload_n 0, 1) := by decide +kernel
theorem dX11_tells_12 : decode cX11_tells 12 = .ok (.getfield 477, 3) := by decide +kernel
theorem dX11_tells_15 : decode cX11_tells 15 = .ok (.if_icmp .ge 42, 3) := by decide +kernel
theorem dX11_tells_18 : decode cX11_tells 18 = .ok (.aload_n 0, 1) := by decide +kernel
theorem dX11_tells_19 : decode cX11_tells 19 = .ok (.getfield 506, 3) := by decide +kernel
theorem dX11_tells_22 : decode cX11_tells 22 = .ok (.bipush 12, 2) := by decide +kernel
theorem dX11_tells_24 : decode cX11_tells 24 = .ok (.iload_n 1, 1) := by decide +kernel
theorem dX11_tells_25 : decode cX11_tells 25 = .ok (.imul, 1) := by decide +kernel
theorem dX11_tells_26 : decode cX11_tells 26 = .ok (.iload_n 2, 1) := by decide +kernel
theorem dX11_tells_27 : decode cX11_tells 27 = .ok (.iadd, 1) := by decide +kernel
theorem dX11_tells_28 : decode cX11_tells 28 = .ok (.aload_n 0, 1) := by decide +kernel
theorem dX11_tells_29 : decode cX11_tells 29 = .ok (.getfield 480, 3) := by decide +kernel
theorem dX11_tells_32 : decode cX11_tells 32 = .ok (.iload_n 2, 1) := by decide +kernel
theorem dX11_tells_33 : decode cX11_tells 33 = .ok (.iaload, 1) := by decide +kernel
theorem dX11_tells_34 : decode cX11_tells 34 = .ok (.iload_n 1, 1) := by decide +kernel
theorem dX11_tells_35 : decode cX11_tells 35 = .ok (.if_icmp .ne 12, 3) := by decide +kernel
theorem dX11_tells_38 : decode cX11_tells 38 = .ok (.aload_n 0, 1) := by decide +kernel
theorem dX11_tells_39 : decode cX11_tells 39 = .ok (.getfield 483, 3) := by decide +kernel
theorem dX11_tells_42 : decode cX11_tells 42 = .ok (.iload_n 2, 1) := by decide +kernel
theorem dX11_tells_43 : decode cX11_tells 43 = .ok (.iaload, 1) := by decide +kernel
theorem dX11_tells_44 : decode cX11_tells 44 = .ok (.goto 6, 3) := by decide +kernel
theorem dX11_tells_47 : decode cX11_tells 47 = .ok (.sipush 1000, 3) := by decide +kernel
theorem dX11_tells_50 : decode cX11_tells 50 = .ok (.iastore, 1) := by decide +kernel
theorem dX11_tells_51 : decode cX11_tells 51 = .ok (.iinc 2 1, 3) := by decide +kernel
theorem dX11_tells_54 : decode cX11_tells 54 = .ok (.goto (-44), 3) := by decide +kernel
theorem dX11_tells_57 : decode cX11_tells 57 = .ok (.iinc 1 1, 3) := by decide +kernel
theorem dX11_tells_60 : decode cX11_tells 60 = .ok (.goto (-58), 3) := by decide +kernel
theorem dX11_tells_63 : decode cX11_tells 63 = .ok (.iconst 0, 1) := by decide +kernel
theorem dX11_tells_64 : decode cX11_tells 64 = .ok (.istore_n 1, 1) := by decide +kernel
theorem dX11_tells_65 : decode cX11_tells 65 = .ok (.iload_n 1, 1) := by decide +kernel
theorem dX11_tells_66 : decode cX11_tells 66 = .ok (.aload_n 0, 1) := by decide +kernel
theorem dX11_tells_67 : decode cX11_tells 67 = .ok (.getfield 491, 3) := by decide +kernel
theorem dX11_tells_70 : decode cX11_tells 70 = .ok (.if_icmp .gt 109, 3) := by decide +kernel
theorem dX11_tells_73 : decode cX11_tells 73 = .ok (.iconst 0, 1) := by decide +kernel
theorem dX11_tells_74 : decode cX11_tells 74 = .ok (.istore_n 2, 1) := by decide +kernel
theorem dX11_tells_75 : decode cX11_tells 75 = .ok (.iload_n 2, 1) := by decide +kernel
theorem dX11_tells_76 : decode cX11_tells 76 = .ok (.aload_n 0, 1) := by decide +kernel
theorem dX11_tells_77 : decode cX11_tells 77 = .ok (.getfield 491, 3) := by decide +kernel
theorem dX11_tells_80 : decode cX11_tells 80 = .ok (.if_icmp .ge 93, 3) := by decide +kernel
theorem dX11_tells_83 : decode cX11_tells 83 = .ok (.iconst 0, 1) := by decide +kernel
theorem dX11_tells_84 : decode cX11_tells 84 = .ok (.istore_n 3, 1) := by decide +kernel
theorem dX11_tells_85 : decode cX11_tells 85 = .ok (.iload_n 3, 1) := by decide +kernel
theorem dX11_tells_86 : decode cX11_tells 86 = .ok (.aload_n 0, 1) := by decide +kernel
theorem dX11_tells_87 : decode cX11_tells 87 = .ok (.getfield 477, 3) := by decide +kernel
theorem dX11_tells_90 : decode cX11_tells 90 = .ok (.if_icmp .ge 77, 3) := by decide +kernel
theorem dX11_tells_93 : decode cX11_tells 93 = .ok (.bipush 12, 2) := by decide +kernel
theorem dX11_tells_95 : decode cX11_tells 95 = .ok (.aload_n 0, 1) := by decide +kernel
theorem dX11_tells_96 : decode cX11_tells 96 = .ok (.getfield 497, 3) := by decide +kernel
theorem dX11_tells_99 : decode cX11_tells 99 = .ok (.iload_n 2, 1) := by decide +kernel
theorem dX11_tells_100 : decode cX11_tells 100 = .ok (.iaload, 1) := by decide +kernel
theorem dX11_tells_101 : decode cX11_tells 101 = .ok (.imul, 1) := by decide +kernel
theorem dX11_tells_102 : decode cX11_tells 102 = .ok (.iload_n 3, 1) := by decide +kernel
theorem dX11_tells_103 : decode cX11_tells 103 = .ok (.iadd, 1) := by decide +kernel
theorem dX11_tells_104 : decode cX11_tells 104 = .ok (.istore 4, 2) := by decide +kernel
theorem dX11_tells_106 : decode cX11_tells 106 = .ok (.aload_n 0, 1) := by decide +kernel
theorem dX11_tells_107 : decode cX11_tells 107 = .ok (.getfield 506, 3) := by decide +kernel
theorem dX11_tells_110 : decode cX11_tells 110 = .ok (.bipush 12, 2) := by decide +kernel
theorem dX11_tells_112 : decode cX11_tells 112 = .ok (.aload_n 0, 1) := by decide +kernel
theorem dX11_tells_113 : decode cX11_tells 113 = .ok (.getfield 494, 3) := by decide +kernel
theorem dX11_tells_116 : decode cX11_tells 116 = .ok (.iload_n 2, 1) := by decide +kernel
theorem dX11_tells_117 : decode cX11_tells 117 = .ok (.iaload, 1) := by decide +kernel
theorem dX11_tells_118 : decode cX11_tells 118 = .ok (.imul, 1) := by decide +kernel
theorem dX11_tells_119 : decode cX11_tells 119 = .ok (.iload_n 3, 1) := by decide +kernel
theorem dX11_tells_120 : decode cX11_tells 120 = .ok (.iadd, 1) := by decide +kernel
theorem dX11_tells_121 : decode cX11_tells 121 = .ok (.iaload, 1) := by decide +kernel
theorem dX11_tells_122 : decode cX11_tells 122 = .ok (.aload_n 0, 1) := by decide +kernel
theorem dX11_tells_123 : decode cX11_tells 123 = .ok (.getfield 500, 3) := by decide +kernel
theorem dX11_tells_126 : decode cX11_tells 126 = .ok (.iload_n 2, 1) := by decide +kernel
theorem dX11_tells_127 : decode cX11_tells 127 = .ok (.iaload, 1) := by decide +kernel
theorem dX11_tells_128 : decode cX11_tells 128 = .ok (.if_icmp .gt 33, 3) := by decide +kernel
theorem dX11_tells_131 : decode cX11_tells 131 = .ok (.aload_n 0, 1) := by decide +kernel
theorem dX11_tells_132 : decode cX11_tells 132 = .ok (.getfield 506, 3) := by decide +kernel
theorem dX11_tells_135 : decode cX11_tells 135 = .ok (.iload 4, 2) := by decide +kernel
theorem dX11_tells_137 : decode cX11_tells 137 = .ok (.aload_n 0, 1) := by decide +kernel
theorem dX11_tells_138 : decode cX11_tells 138 = .ok (.getfield 506, 3) := by decide +kernel
theorem dX11_tells_141 : decode cX11_tells 141 = .ok (.iload 4, 2) := by decide +kernel
theorem dX11_tells_143 : decode cX11_tells 143 = .ok (.iaload, 1) := by decide +kernel
theorem dX11_tells_144 : decode cX11_tells 144 = .ok (.aload_n 0, 1) := by decide +kernel
theorem dX11_tells_145 : decode cX11_tells 145 = .ok (.getfield 500, 3) := by decide +kernel
theorem dX11_tells_148 : decode cX11_tells 148 = .ok (.iload_n 2, 1) := by decide +kernel
theorem dX11_tells_149 : decode cX11_tells 149 = .ok (.iaload, 1) := by decide +kernel
theorem dX11_tells_150 : decode cX11_tells 150 = .ok (.aload_n 0, 1) := by decide +kernel
theorem dX11_tells_151 : decode cX11_tells 151 = .ok (.getfield 503, 3) := by decide +kernel
theorem dX11_tells_154 : decode cX11_tells 154 = .ok (.iload_n 2, 1) := by decide +kernel
theorem dX11_tells_155 : decode cX11_tells 155 = .ok (.iaload, 1) := by decide +kernel
theorem dX11_tells_156 : decode cX11_tells 156 = .ok (.iadd, 1) := by decide +kernel
theorem dX11_tells_157 : decode cX11_tells 157 = .ok (.invokestatic 112, 3) := by decide +kernel
theorem dX11_tells_160 : decode cX11_tells 160 = .ok (.iastore, 1) := by decide +kernel
theorem dX11_tells_161 : decode cX11_tells 161 = .ok (.iinc 3 1, 3) := by decide +kernel
theorem dX11_tells_164 : decode cX11_tells 164 = .ok (.goto (-79), 3) := by decide +kernel
theorem dX11_tells_167 : decode cX11_tells 167 = .ok (.iinc 2 1, 3) := by decide +kernel
theorem dX11_tells_170 : decode cX11_tells 170 = .ok (.goto (-95), 3) := by decide +kernel
theorem dX11_tells_173 : decode cX11_tells 173 = .ok (.iinc 1 1, 3) := by decide +kernel
theorem dX11_tells_176 : decode cX11_tells 176 = .ok (.goto (-111), 3) := by decide +kernel
theorem dX11_tells_179 : decode cX11_tells 179 = .ok (.return_, 1) := by decide +kernel
theorem dX11_knew_0 : decode cX11_knew 0 = .ok (.aload_n 0, 1) := by decide +kernel
theorem dX11_knew_1 : decode cX11_knew 1 = .ok (.iconst 0, 1) := by decide +kernel
theorem dX11_knew_2 : decode cX11_knew 2 = .ok (.putfield 3, 3) := by decide +kernel
theorem dX11_knew_5 : decode cX11_knew 5 = .ok (.iload_n 1, 1) := by decide +kernel
theorem dX11_knew_6 : decode cX11_knew 6 = .ok (.i2l, 1) := by decide +kernel
theorem dX11_knew_7 : decode cX11_knew 7 = .ok (.lconst 0, 1) := by decide +kernel
theorem dX11_knew_8 : decode cX11_knew 8 = .ok (.ldc2_w 475, 3) := by decide +kernel
theorem dX11_knew_11 : decode cX11_knew 11 = .ok (.invokestatic 21, 3) := by decide +kernel
theorem dX11_knew_14 : decode cX11_knew 14 = .ok (.ifCond .eq 15, 3) := by decide +kernel
theorem dX11_knew_17 : decode cX11_knew 17 = .ok (.iload_n 2, 1) := by decide +kernel
theorem dX11_knew_18 : decode cX11_knew 18 = .ok (.i2l, 1) := by decide +kernel
theorem dX11_knew_19 : decode cX11_knew 19 = .ok (.lconst 0, 1) := by decide +kernel
theorem dX11_knew_20 : decode cX11_knew 20 = .ok (.ldc2_w 509, 3) := by decide +kernel
theorem dX11_knew_23 : decode cX11_knew 23 = .ok (.invokestatic 21, 3) := by decide +kernel
theorem dX11_knew_26 : decode cX11_knew 26 = .ok (.ifCond .ne 5, 3) := by decide +kernel
theorem dX11_knew_29 : decode cX11_knew 29 = .ok (.iconst (-1), 1) := by decide +kernel
theorem dX11_knew_30 : decode cX11_knew 30 = .ok (.ireturn, 1) := by decide +kernel
theorem dX11_knew_31 : decode cX11_knew 31 = .ok (.aload_n 0, 1) := by decide +kernel
theorem dX11_knew_32 : decode cX11_knew 32 = .ok (.invokevirtual 511, 3) := by decide +kernel
theorem dX11_knew_35 : decode cX11_knew 35 = .ok (.iconst 0, 1) := by decide +kernel
theorem dX11_knew_36 : decode cX11_knew 36 = .ok (.istore_n 3, 1) := by decide +kernel
theorem dX11_knew_37 : decode cX11_knew 37 = .ok (.iconst 0, 1) := by decide +kernel
theorem dX11_knew_38 : decode cX11_knew 38 = .ok (.istore 4, 2) := by decide +kernel
theorem dX11_knew_40 : decode cX11_knew 40 = .ok (.iload 4, 2) := by decide +kernel
theorem dX11_knew_42 : decode cX11_knew 42 = .ok (.aload_n 0, 1) := by decide +kernel
theorem dX11_knew_43 : decode cX11_knew 43 = .ok (.getfield 477, 3) := by decide +kernel
theorem dX11_knew_46 : decode cX11_knew 46 = .ok (.if_icmp .ge 36, 3) := by decide +kernel
theorem dX11_knew_49 : decode cX11_knew 49 = .ok (.iload_n 3, 1) := by decide +kernel
theorem dX11_knew_50 : decode cX11_knew 50 = .ok (.aload_n 0, 1) := by decide +kernel
theorem dX11_knew_51 : decode cX11_knew 51 = .ok (.getfield 506, 3) := by decide +kernel
theorem dX11_knew_54 : decode cX11_knew 54 = .ok (.bipush 12, 2) := by decide +kernel
theorem dX11_knew_56 : decode cX11_knew 56 = .ok (.iload_n 1, 1) := by decide +kernel
theorem dX11_knew_57 : decode cX11_knew 57 = .ok (.imul, 1) := by decide +kernel
theorem dX11_knew_58 : decode cX11_knew 58 = .ok (.iload 4, 2) := by decide +kernel
theorem dX11_knew_60 : decode cX11_knew 60 = .ok (.iadd, 1) := by decide +kernel
theorem dX11_knew_61 : decode cX11_knew 61 = .ok (.iaload, 1) := by decide +kernel
theorem dX11_knew_62 : decode cX11_knew 62 = .ok (.iload_n 2, 1) := by decide +kernel
theorem dX11_knew_63 : decode cX11_knew 63 = .ok (.if_icmp .gt 10, 3) := by decide +kernel
theorem dX11_knew_66 : decode cX11_knew 66 = .ok (.iconst 1, 1) := by decide +kernel
theorem dX11_knew_67 : decode cX11_knew 67 = .ok (.iload 4, 2) := by decide +kernel
theorem dX11_knew_69 : decode cX11_knew 69 = .ok (.ishl, 1) := by decide +kernel
theorem dX11_knew_70 : decode cX11_knew 70 = .ok (.goto 4, 3) := by decide +kernel
theorem dX11_knew_73 : decode cX11_knew 73 = .ok (.iconst 0, 1) := by decide +kernel
theorem dX11_knew_74 : decode cX11_knew 74 = .ok (.ior, 1) := by decide +kernel
theorem dX11_knew_75 : decode cX11_knew 75 = .ok (.istore_n 3, 1) := by decide +kernel
theorem dX11_knew_76 : decode cX11_knew 76 = .ok (.iinc 4 1, 3) := by decide +kernel
theorem dX11_knew_79 : decode cX11_knew 79 = .ok (.goto (-39), 3) := by decide +kernel
theorem dX11_knew_82 : decode cX11_knew 82 = .ok (.iload_n 3, 1) := by decide +kernel
theorem dX11_knew_83 : decode cX11_knew 83 = .ok (.ireturn, 1) := by decide +kernel
theorem dX11_enough_0 : decode cX11_enough 0 = .ok (.aload_n 0, 1) := by decide +kernel
theorem dX11_enough_1 : decode cX11_enough 1 = .ok (.iconst 0, 1) := by decide +kernel
theorem dX11_enough_2 : decode cX11_enough 2 = .ok (.putfield 3, 3) := by decide +kernel
theorem dX11_enough_5 : decode cX11_enough 5 = .ok (.iload_n 1, 1) := by decide +kernel
theorem dX11_enough_6 : decode cX11_enough 6 = .ok (.i2l, 1) := by decide +kernel
theorem dX11_enough_7 : decode cX11_enough 7 = .ok (.lconst 0, 1) := by decide +kernel
theorem dX11_enough_8 : decode cX11_enough 8 = .ok (.ldc2_w 231, 3) := by decide +kernel
theorem dX11_enough_11 : decode cX11_enough 11 = .ok (.invokestatic 21, 3) := by decide +kernel
theorem dX11_enough_14 : decode cX11_enough 14 = .ok (.ifCond .eq 15, 3) := by decide +kernel
theorem dX11_enough_17 : decode cX11_enough 17 = .ok (.iload_n 2, 1) := by decide +kernel
theorem dX11_enough_18 : decode cX11_enough 18 = .ok (.i2l, 1) := by decide +kernel
theorem dX11_enough_19 : decode cX11_enough 19 = .ok (.lconst 0, 1) := by decide +kernel
theorem dX11_enough_20 : decode cX11_enough 20 = .ok (.ldc2_w 514, 3) := by decide +kernel
theorem dX11_enough_23 : decode cX11_enough 23 = .ok (.invokestatic 21, 3) := by decide +kernel
theorem dX11_enough_26 : decode cX11_enough 26 = .ok (.ifCond .ne 5, 3) := by decide +kernel
theorem dX11_enough_29 : decode cX11_enough 29 = .ok (.iconst (-1), 1) := by decide +kernel
theorem dX11_enough_30 : decode cX11_enough 30 = .ok (.ireturn, 1) := by decide +kernel
theorem dX11_enough_31 : decode cX11_enough 31 = .ok (.aload_n 0, 1) := by decide +kernel
theorem dX11_enough_32 : decode cX11_enough 32 = .ok (.invokevirtual 511, 3) := by decide +kernel
theorem dX11_enough_35 : decode cX11_enough 35 = .ok (.iconst 0, 1) := by decide +kernel
theorem dX11_enough_36 : decode cX11_enough 36 = .ok (.istore_n 3, 1) := by decide +kernel
theorem dX11_enough_37 : decode cX11_enough 37 = .ok (.iload_n 3, 1) := by decide +kernel
theorem dX11_enough_38 : decode cX11_enough 38 = .ok (.sipush 200, 3) := by decide +kernel
theorem dX11_enough_41 : decode cX11_enough 41 = .ok (.if_icmp .gt 152, 3) := by decide +kernel
theorem dX11_enough_44 : decode cX11_enough 44 = .ok (.iconst 0, 1) := by decide +kernel
theorem dX11_enough_45 : decode cX11_enough 45 = .ok (.istore 4, 2) := by decide +kernel
theorem dX11_enough_47 : decode cX11_enough 47 = .ok (.iload 4, 2) := by decide +kernel
theorem dX11_enough_49 : decode cX11_enough 49 = .ok (.bipush 6, 2) := by decide +kernel
theorem dX11_enough_51 : decode cX11_enough 51 = .ok (.if_icmp .ge 136, 3) := by decide +kernel
theorem dX11_enough_54 : decode cX11_enough 54 = .ok (.iconst 0, 1) := by decide +kernel
theorem dX11_enough_55 : decode cX11_enough 55 = .ok (.istore 5, 2) := by decide +kernel
theorem dX11_enough_57 : decode cX11_enough 57 = .ok (.iconst 0, 1) := by decide +kernel
theorem dX11_enough_58 : decode cX11_enough 58 = .ok (.istore 6, 2) := by decide +kernel
theorem dX11_enough_60 : decode cX11_enough 60 = .ok (.iconst 0, 1) := by decide +kernel
theorem dX11_enough_61 : decode cX11_enough 61 = .ok (.istore 7, 2) := by decide +kernel
theorem dX11_enough_63 : decode cX11_enough 63 = .ok (.iload 7, 2) := by decide +kernel
theorem dX11_enough_65 : decode cX11_enough 65 = .ok (.aload_n 0, 1) := by decide +kernel
theorem dX11_enough_66 : decode cX11_enough 66 = .ok (.getfield 477, 3) := by decide +kernel
theorem dX11_enough_69 : decode cX11_enough 69 = .ok (.if_icmp .ge 84, 3) := by decide +kernel
theorem dX11_enough_72 : decode cX11_enough 72 = .ok (.aload_n 0, 1) := by decide +kernel
theorem dX11_enough_73 : decode cX11_enough 73 = .ok (.getfield 506, 3) := by decide +kernel
theorem dX11_enough_76 : decode cX11_enough 76 = .ok (.bipush 12, 2) := by decide +kernel
theorem dX11_enough_78 : decode cX11_enough 78 = .ok (.iload 4, 2) := by decide +kernel
theorem dX11_enough_80 : decode cX11_enough 80 = .ok (.imul, 1) := by decide +kernel
theorem dX11_enough_81 : decode cX11_enough 81 = .ok (.iload 7, 2) := by decide +kernel
theorem dX11_enough_83 : decode cX11_enough 83 = .ok (.iadd, 1) := by decide +kernel
theorem dX11_enough_84 : decode cX11_enough 84 = .ok (.iaload, 1) := by decide +kernel
theorem dX11_enough_85 : decode cX11_enough 85 = .ok (.iload_n 3, 1) := by decide +kernel
theorem dX11_enough_86 : decode cX11_enough 86 = .ok (.if_icmp .gt 7, 3) := by decide +kernel
theorem dX11_enough_89 : decode cX11_enough 89 = .ok (.iconst 1, 1) := by decide +kernel
theorem dX11_enough_90 : decode cX11_enough 90 = .ok (.goto 4, 3) := by decide +kernel
theorem dX11_enough_93 : decode cX11_enough 93 = .ok (.iconst 0, 1) := by decide +kernel
theorem dX11_enough_94 : decode cX11_enough 94 = .ok (.istore 8, 2) := by decide +kernel
theorem dX11_enough_96 : decode cX11_enough 96 = .ok (.iload 5, 2) := by decide +kernel
theorem dX11_enough_98 : decode cX11_enough 98 = .ok (.iload 8, 2) := by decide +kernel
theorem dX11_enough_100 : decode cX11_enough 100 = .ok (.ifCond .eq 13, 3) := by decide +kernel
theorem dX11_enough_103 : decode cX11_enough 103 = .ok (.aload_n 0, 1) := by decide +kernel
theorem dX11_enough_104 : decode cX11_enough 104 = .ok (.getfield 486, 3) := by decide +kernel
theorem dX11_enough_107 : decode cX11_enough 107 = .ok (.iload 7, 2) := by decide +kernel
theorem dX11_enough_109 : decode cX11_enough 109 = .ok (.iaload, 1) := by decide +kernel
theorem dX11_enough_110 : decode cX11_enough 110 = .ok (.goto 4, 3) := by decide +kernel
theorem dX11_enough_113 : decode cX11_enough 113 = .ok (.iconst 0, 1) := by decide +kernel
theorem dX11_enough_114 : decode cX11_enough 114 = .ok (.ior, 1) := by decide +kernel
theorem dX11_enough_115 : decode cX11_enough 115 = .ok (.istore 5, 2) := by decide +kernel
theorem dX11_enough_117 : decode cX11_enough 117 = .ok (.iload 6, 2) := by decide +kernel
theorem dX11_enough_119 : decode cX11_enough 119 = .ok (.iload 8, 2) := by decide +kernel
theorem dX11_enough_121 : decode cX11_enough 121 = .ok (.ifCond .eq 19, 3) := by decide +kernel
theorem dX11_enough_124 : decode cX11_enough 124 = .ok (.aload_n 0, 1) := by decide +kernel
theorem dX11_enough_125 : decode cX11_enough 125 = .ok (.getfield 486, 3) := by decide +kernel
theorem dX11_enough_128 : decode cX11_enough 128 = .ok (.iload 7, 2) := by decide +kernel
theorem dX11_enough_130 : decode cX11_enough 130 = .ok (.iaload, 1) := by decide +kernel
theorem dX11_enough_131 : decode cX11_enough 131 = .ok (.iload_n 1, 1) := by decide +kernel
theorem dX11_enough_132 : decode cX11_enough 132 = .ok (.iand, 1) := by decide +kernel
theorem dX11_enough_133 : decode cX11_enough 133 = .ok (.ifCond .eq 7, 3) := by decide +kernel
theorem dX11_enough_136 : decode cX11_enough 136 = .ok (.iconst 1, 1) := by decide +kernel
theorem dX11_enough_137 : decode cX11_enough 137 = .ok (.goto 4, 3) := by decide +kernel
theorem dX11_enough_140 : decode cX11_enough 140 = .ok (.iconst 0, 1) := by decide +kernel
theorem dX11_enough_141 : decode cX11_enough 141 = .ok (.invokestatic 35, 3) := by decide +kernel
theorem dX11_enough_144 : decode cX11_enough 144 = .ok (.iadd, 1) := by decide +kernel
theorem dX11_enough_145 : decode cX11_enough 145 = .ok (.istore 6, 2) := by decide +kernel
theorem dX11_enough_147 : decode cX11_enough 147 = .ok (.iinc 7 1, 3) := by decide +kernel
theorem dX11_enough_150 : decode cX11_enough 150 = .ok (.goto (-87), 3) := by decide +kernel
theorem dX11_enough_153 : decode cX11_enough 153 = .ok (.iload 5, 2) := by decide +kernel
theorem dX11_enough_155 : decode cX11_enough 155 = .ok (.iload_n 1, 1) := by decide +kernel
theorem dX11_enough_156 : decode cX11_enough 156 = .ok (.iand, 1) := by decide +kernel
theorem dX11_enough_157 : decode cX11_enough 157 = .ok (.iload_n 1, 1) := by decide +kernel
theorem dX11_enough_158 : decode cX11_enough 158 = .ok (.if_icmp .ne 23, 3) := by decide +kernel
theorem dX11_enough_161 : decode cX11_enough 161 = .ok (.iload 6, 2) := by decide +kernel
theorem dX11_enough_163 : decode cX11_enough 163 = .ok (.iload_n 2, 1) := by decide +kernel
theorem dX11_enough_164 : decode cX11_enough 164 = .ok (.if_icmp .lt 17, 3) := by decide +kernel
theorem dX11_enough_167 : decode cX11_enough 167 = .ok (.aload_n 0, 1) := by decide +kernel
theorem dX11_enough_168 : decode cX11_enough 168 = .ok (.iconst 0, 1) := by decide +kernel
theorem dX11_enough_169 : decode cX11_enough 169 = .ok (.putfield 11, 3) := by decide +kernel
theorem dX11_enough_172 : decode cX11_enough 172 = .ok (.aload_n 0, 1) := by decide +kernel
theorem dX11_enough_173 : decode cX11_enough 173 = .ok (.iload 4, 2) := by decide +kernel
theorem dX11_enough_175 : decode cX11_enough 175 = .ok (.i2l, 1) := by decide +kernel
theorem dX11_enough_176 : decode cX11_enough 176 = .ok (.invokevirtual 262, 3) := by decide +kernel
theorem dX11_enough_179 : decode cX11_enough 179 = .ok (.iload_n 3, 1) := by decide +kernel
theorem dX11_enough_180 : decode cX11_enough 180 = .ok (.ireturn, 1) := by decide +kernel
theorem dX11_enough_181 : decode cX11_enough 181 = .ok (.iinc 4 1, 3) := by decide +kernel
theorem dX11_enough_184 : decode cX11_enough 184 = .ok (.goto (-137), 3) := by decide +kernel
theorem dX11_enough_187 : decode cX11_enough 187 = .ok (.iinc 3 1, 3) := by decide +kernel
theorem dX11_enough_190 : decode cX11_enough 190 = .ok (.goto (-153), 3) := by decide +kernel
theorem dX11_enough_193 : decode cX11_enough 193 = .ok (.bipush (-2), 2) := by decide +kernel
theorem dX11_enough_195 : decode cX11_enough 195 = .ok (.ireturn, 1) := by decide +kernel
theorem dX11_forgetsKept_0 : decode cX11_forgetsKept 0 = .ok (.iconst 0, 1) := by decide +kernel
theorem dX11_forgetsKept_1 : decode cX11_forgetsKept 1 = .ok (.istore_n 1, 1) := by decide +kernel
theorem dX11_forgetsKept_2 : decode cX11_forgetsKept 2 = .ok (.iload_n 1, 1) := by decide +kernel
theorem dX11_forgetsKept_3 : decode cX11_forgetsKept 3 = .ok (.iconst 3, 1) := by decide +kernel
theorem dX11_forgetsKept_4 : decode cX11_forgetsKept 4 = .ok (.if_icmp .ge 16, 3) := by decide +kernel
theorem dX11_forgetsKept_7 : decode cX11_forgetsKept 7 = .ok (.aload_n 0, 1) := by decide +kernel
theorem dX11_forgetsKept_8 : decode cX11_forgetsKept 8 = .ok (.getfield 516, 3) := by decide +kernel
theorem dX11_forgetsKept_11 : decode cX11_forgetsKept 11 = .ok (.iload_n 1, 1) := by decide +kernel
theorem dX11_forgetsKept_12 : decode cX11_forgetsKept 12 = .ok (.iconst 0, 1) := by decide +kernel
theorem dX11_forgetsKept_13 : decode cX11_forgetsKept 13 = .ok (.bastore, 1) := by decide +kernel
theorem dX11_forgetsKept_14 : decode cX11_forgetsKept 14 = .ok (.iinc 1 1, 3) := by decide +kernel
theorem dX11_forgetsKept_17 : decode cX11_forgetsKept 17 = .ok (.goto (-15), 3) := by decide +kernel
theorem dX11_forgetsKept_20 : decode cX11_forgetsKept 20 = .ok (.return_, 1) := by decide +kernel
theorem dX11_keep_0 : decode cX11_keep 0 = .ok (.aload_n 0, 1) := by decide +kernel
theorem dX11_keep_1 : decode cX11_keep 1 = .ok (.iconst 0, 1) := by decide +kernel
theorem dX11_keep_2 : decode cX11_keep 2 = .ok (.putfield 3, 3) := by decide +kernel
theorem dX11_keep_5 : decode cX11_keep 5 = .ok (.iload_n 1, 1) := by decide +kernel
theorem dX11_keep_6 : decode cX11_keep 6 = .ok (.i2l, 1) := by decide +kernel
theorem dX11_keep_7 : decode cX11_keep 7 = .ok (.lconst 0, 1) := by decide +kernel
theorem dX11_keep_8 : decode cX11_keep 8 = .ok (.ldc2_w 519, 3) := by decide +kernel
theorem dX11_keep_11 : decode cX11_keep 11 = .ok (.invokestatic 21, 3) := by decide +kernel
theorem dX11_keep_14 : decode cX11_keep 14 = .ok (.ifCond .ne 5, 3) := by decide +kernel
theorem dX11_keep_17 : decode cX11_keep 17 = .ok (.iconst 0, 1) := by decide +kernel
theorem dX11_keep_18 : decode cX11_keep 18 = .ok (.ireturn, 1) := by decide +kernel
theorem dX11_keep_19 : decode cX11_keep 19 = .ok (.aload_n 0, 1) := by decide +kernel
theorem dX11_keep_20 : decode cX11_keep 20 = .ok (.getfield 516, 3) := by decide +kernel
theorem dX11_keep_23 : decode cX11_keep 23 = .ok (.iload_n 1, 1) := by decide +kernel
theorem dX11_keep_24 : decode cX11_keep 24 = .ok (.iconst 1, 1) := by decide +kernel
theorem dX11_keep_25 : decode cX11_keep 25 = .ok (.bastore, 1) := by decide +kernel
theorem dX11_keep_26 : decode cX11_keep 26 = .ok (.aload_n 0, 1) := by decide +kernel
theorem dX11_keep_27 : decode cX11_keep 27 = .ok (.getfield 521, 3) := by decide +kernel
theorem dX11_keep_30 : decode cX11_keep 30 = .ok (.iload_n 1, 1) := by decide +kernel
theorem dX11_keep_31 : decode cX11_keep 31 = .ok (.aload_n 0, 1) := by decide +kernel
theorem dX11_keep_32 : decode cX11_keep 32 = .ok (.invokevirtual 266, 3) := by decide +kernel
theorem dX11_keep_35 : decode cX11_keep 35 = .ok (.lastore, 1) := by decide +kernel
theorem dX11_keep_36 : decode cX11_keep 36 = .ok (.aload_n 0, 1) := by decide +kernel
theorem dX11_keep_37 : decode cX11_keep 37 = .ok (.getfield 524, 3) := by decide +kernel
theorem dX11_keep_40 : decode cX11_keep 40 = .ok (.iload_n 1, 1) := by decide +kernel
theorem dX11_keep_41 : decode cX11_keep 41 = .ok (.aload_n 0, 1) := by decide +kernel
theorem dX11_keep_42 : decode cX11_keep 42 = .ok (.invokevirtual 274, 3) := by decide +kernel
theorem dX11_keep_45 : decode cX11_keep 45 = .ok (.lastore, 1) := by decide +kernel
theorem dX11_keep_46 : decode cX11_keep 46 = .ok (.aload_n 0, 1) := by decide +kernel
theorem dX11_keep_47 : decode cX11_keep 47 = .ok (.getfield 527, 3) := by decide +kernel
theorem dX11_keep_50 : decode cX11_keep 50 = .ok (.iload_n 1, 1) := by decide +kernel
theorem dX11_keep_51 : decode cX11_keep 51 = .ok (.aload_n 0, 1) := by decide +kernel
theorem dX11_keep_52 : decode cX11_keep 52 = .ok (.getfield 239, 3) := by decide +kernel
theorem dX11_keep_55 : decode cX11_keep 55 = .ok (.iastore, 1) := by decide +kernel
theorem dX11_keep_56 : decode cX11_keep 56 = .ok (.aload_n 0, 1) := by decide +kernel
theorem dX11_keep_57 : decode cX11_keep 57 = .ok (.getfield 530, 3) := by decide +kernel
theorem dX11_keep_60 : decode cX11_keep 60 = .ok (.iload_n 1, 1) := by decide +kernel
theorem dX11_keep_61 : decode cX11_keep 61 = .ok (.aload_n 0, 1) := by decide +kernel
theorem dX11_keep_62 : decode cX11_keep 62 = .ok (.getfield 161, 3) := by decide +kernel
theorem dX11_keep_65 : decode cX11_keep 65 = .ok (.iastore, 1) := by decide +kernel
theorem dX11_keep_66 : decode cX11_keep 66 = .ok (.iconst 0, 1) := by decide +kernel
theorem dX11_keep_67 : decode cX11_keep 67 = .ok (.istore_n 2, 1) := by decide +kernel
theorem dX11_keep_68 : decode cX11_keep 68 = .ok (.iload_n 2, 1) := by decide +kernel
theorem dX11_keep_69 : decode cX11_keep 69 = .ok (.iconst 4, 1) := by decide +kernel
theorem dX11_keep_70 : decode cX11_keep 70 = .ok (.if_icmp .ge 25, 3) := by decide +kernel
theorem dX11_keep_73 : decode cX11_keep 73 = .ok (.aload_n 0, 1) := by decide +kernel
theorem dX11_keep_74 : decode cX11_keep 74 = .ok (.getfield 533, 3) := by decide +kernel
theorem dX11_keep_77 : decode cX11_keep 77 = .ok (.iconst 4, 1) := by decide +kernel
theorem dX11_keep_78 : decode cX11_keep 78 = .ok (.iload_n 1, 1) := by decide +kernel
theorem dX11_keep_79 : decode cX11_keep 79 = .ok (.imul, 1) := by decide +kernel
theorem dX11_keep_80 : decode cX11_keep 80 = .ok (.iload_n 2, 1) := by decide +kernel
theorem dX11_keep_81 : decode cX11_keep 81 = .ok (.iadd, 1) := by decide +kernel
theorem dX11_keep_82 : decode cX11_keep 82 = .ok (.aload_n 0, 1) := by decide +kernel
theorem dX11_keep_83 : decode cX11_keep 83 = .ok (.getfield 217, 3) := by decide +kernel
theorem dX11_keep_86 : decode cX11_keep 86 = .ok (.iload_n 2, 1) := by decide +kernel
theorem dX11_keep_87 : decode cX11_keep 87 = .ok (.iaload, 1) := by decide +kernel
theorem dX11_keep_88 : decode cX11_keep 88 = .ok (.iastore, 1) := by decide +kernel
theorem dX11_keep_89 : decode cX11_keep 89 = .ok (.iinc 2 1, 3) := by decide +kernel
theorem dX11_keep_92 : decode cX11_keep 92 = .ok (.goto (-24), 3) := by decide +kernel
theorem dX11_keep_95 : decode cX11_keep 95 = .ok (.iconst 1, 1) := by decide +kernel
theorem dX11_keep_96 : decode cX11_keep 96 = .ok (.ireturn, 1) := by decide +kernel
theorem dX11_again_0 : decode cX11_again 0 = .ok (.aload_n 0, 1) := by decide +kernel
theorem dX11_again_1 : decode cX11_again 1 = .ok (.iconst 0, 1) := by decide +kernel
theorem dX11_again_2 : decode cX11_again 2 = .ok (.putfield 3, 3) := by decide +kernel
theorem dX11_again_5 : decode cX11_again 5 = .ok (.iload_n 1, 1) := by decide +kernel
theorem dX11_again_6 : decode cX11_again 6 = .ok (.i2l, 1) := by decide +kernel
theorem dX11_again_7 : decode cX11_again 7 = .ok (.lconst 0, 1) := by decide +kernel
theorem dX11_again_8 : decode cX11_again 8 = .ok (.ldc2_w 519, 3) := by decide +kernel
theorem dX11_again_11 : decode cX11_again 11 = .ok (.invokestatic 21, 3) := by decide +kernel
theorem dX11_again_14 : decode cX11_again 14 = .ok (.ifCond .eq 12, 3) := by decide +kernel
theorem dX11_again_17 : decode cX11_again 17 = .ok (.aload_n 0, 1) := by decide +kernel
theorem dX11_again_18 : decode cX11_again 18 = .ok (.getfield 516, 3) := by decide +kernel
theorem dX11_again_21 : decode cX11_again 21 = .ok (.iload_n 1, 1) := by decide +kernel
theorem dX11_again_22 : decode cX11_again 22 = .ok (.baload, 1) := by decide +kernel
theorem dX11_again_23 : decode cX11_again 23 = .ok (.ifCond .ne 5, 3) := by decide +kernel
theorem dX11_again_26 : decode cX11_again 26 = .ok (.iconst 0, 1) := by decide +kernel
theorem dX11_again_27 : decode cX11_again 27 = .ok (.ireturn, 1) := by decide +kernel
theorem dX11_again_28 : decode cX11_again 28 = .ok (.aload_n 0, 1) := by decide +kernel
theorem dX11_again_29 : decode cX11_again 29 = .ok (.aload_n 0, 1) := by decide +kernel
theorem dX11_again_30 : decode cX11_again 30 = .ok (.getfield 521, 3) := by decide +kernel
theorem dX11_again_33 : decode cX11_again 33 = .ok (.iload_n 1, 1) := by decide +kernel
theorem dX11_again_34 : decode cX11_again 34 = .ok (.laload, 1) := by decide +kernel
theorem dX11_again_35 : decode cX11_again 35 = .ok (.aload_n 0, 1) := by decide +kernel
theorem dX11_again_36 : decode cX11_again 36 = .ok (.getfield 524, 3) := by decide +kernel
theorem dX11_again_39 : decode cX11_again 39 = .ok (.iload_n 1, 1) := by decide +kernel
theorem dX11_again_40 : decode cX11_again 40 = .ok (.laload, 1) := by decide +kernel
theorem dX11_again_41 : decode cX11_again 41 = .ok (.invokevirtual 292, 3) := by decide +kernel
theorem dX11_again_44 : decode cX11_again 44 = .ok (.aload_n 0, 1) := by decide +kernel
theorem dX11_again_45 : decode cX11_again 45 = .ok (.aload_n 0, 1) := by decide +kernel
theorem dX11_again_46 : decode cX11_again 46 = .ok (.getfield 527, 3) := by decide +kernel
theorem dX11_again_49 : decode cX11_again 49 = .ok (.iload_n 1, 1) := by decide +kernel
theorem dX11_again_50 : decode cX11_again 50 = .ok (.iaload, 1) := by decide +kernel
theorem dX11_again_51 : decode cX11_again 51 = .ok (.putfield 239, 3) := by decide +kernel
theorem dX11_again_54 : decode cX11_again 54 = .ok (.aload_n 0, 1) := by decide +kernel
theorem dX11_again_55 : decode cX11_again 55 = .ok (.aload_n 0, 1) := by decide +kernel
theorem dX11_again_56 : decode cX11_again 56 = .ok (.getfield 530, 3) := by decide +kernel
theorem dX11_again_59 : decode cX11_again 59 = .ok (.iload_n 1, 1) := by decide +kernel
theorem dX11_again_60 : decode cX11_again 60 = .ok (.iaload, 1) := by decide +kernel
theorem dX11_again_61 : decode cX11_again 61 = .ok (.putfield 161, 3) := by decide +kernel
theorem dX11_again_64 : decode cX11_again 64 = .ok (.iconst 0, 1) := by decide +kernel
theorem dX11_again_65 : decode cX11_again 65 = .ok (.istore_n 2, 1) := by decide +kernel
theorem dX11_again_66 : decode cX11_again 66 = .ok (.iload_n 2, 1) := by decide +kernel
theorem dX11_again_67 : decode cX11_again 67 = .ok (.iconst 4, 1) := by decide +kernel
theorem dX11_again_68 : decode cX11_again 68 = .ok (.if_icmp .ge 25, 3) := by decide +kernel
theorem dX11_again_71 : decode cX11_again 71 = .ok (.aload_n 0, 1) := by decide +kernel
theorem dX11_again_72 : decode cX11_again 72 = .ok (.getfield 217, 3) := by decide +kernel
theorem dX11_again_75 : decode cX11_again 75 = .ok (.iload_n 2, 1) := by decide +kernel
theorem dX11_again_76 : decode cX11_again 76 = .ok (.aload_n 0, 1) := by decide +kernel
theorem dX11_again_77 : decode cX11_again 77 = .ok (.getfield 533, 3) := by decide +kernel
theorem dX11_again_80 : decode cX11_again 80 = .ok (.iconst 4, 1) := by decide +kernel
theorem dX11_again_81 : decode cX11_again 81 = .ok (.iload_n 1, 1) := by decide +kernel
theorem dX11_again_82 : decode cX11_again 82 = .ok (.imul, 1) := by decide +kernel
theorem dX11_again_83 : decode cX11_again 83 = .ok (.iload_n 2, 1) := by decide +kernel
theorem dX11_again_84 : decode cX11_again 84 = .ok (.iadd, 1) := by decide +kernel
theorem dX11_again_85 : decode cX11_again 85 = .ok (.iaload, 1) := by decide +kernel
theorem dX11_again_86 : decode cX11_again 86 = .ok (.iastore, 1) := by decide +kernel
theorem dX11_again_87 : decode cX11_again 87 = .ok (.iinc 2 1, 3) := by decide +kernel
theorem dX11_again_90 : decode cX11_again 90 = .ok (.goto (-24), 3) := by decide +kernel
theorem dX11_again_93 : decode cX11_again 93 = .ok (.iconst 1, 1) := by decide +kernel
theorem dX11_again_94 : decode cX11_again 94 = .ok (.ireturn, 1) := by decide +kernel
theorem dX11_count_0 : decode cX11_count 0 = .ok (.aload_n 0, 1) := by decide +kernel
theorem dX11_count_1 : decode cX11_count 1 = .ok (.iconst 0, 1) := by decide +kernel
theorem dX11_count_2 : decode cX11_count 2 = .ok (.putfield 3, 3) := by decide +kernel
theorem dX11_count_5 : decode cX11_count 5 = .ok (.iload_n 1, 1) := by decide +kernel
theorem dX11_count_6 : decode cX11_count 6 = .ok (.tableswitch 149 0 14 #[74, 79, 84, 89, 94, 99, 104, 109, 114, 119, 124, 129, 134, 139, 144], 74) := by decide +kernel
theorem dX11_count_80 : decode cX11_count 80 = .ok (.aload_n 0, 1) := by decide +kernel
theorem dX11_count_81 : decode cX11_count 81 = .ok (.getfield 121, 3) := by decide +kernel
theorem dX11_count_84 : decode cX11_count 84 = .ok (.ireturn, 1) := by decide +kernel
theorem dX11_count_85 : decode cX11_count 85 = .ok (.aload_n 0, 1) := by decide +kernel
theorem dX11_count_86 : decode cX11_count 86 = .ok (.getfield 239, 3) := by decide +kernel
theorem dX11_count_89 : decode cX11_count 89 = .ok (.ireturn, 1) := by decide +kernel
theorem dX11_count_90 : decode cX11_count 90 = .ok (.aload_n 0, 1) := by decide +kernel
theorem dX11_count_91 : decode cX11_count 91 = .ok (.getfield 158, 3) := by decide +kernel
theorem dX11_count_94 : decode cX11_count 94 = .ok (.ireturn, 1) := by decide +kernel
theorem dX11_count_95 : decode cX11_count 95 = .ok (.aload_n 0, 1) := by decide +kernel
theorem dX11_count_96 : decode cX11_count 96 = .ok (.getfield 161, 3) := by decide +kernel
theorem dX11_count_99 : decode cX11_count 99 = .ok (.ireturn, 1) := by decide +kernel
theorem dX11_count_100 : decode cX11_count 100 = .ok (.aload_n 0, 1) := by decide +kernel
theorem dX11_count_101 : decode cX11_count 101 = .ok (.getfield 198, 3) := by decide +kernel
theorem dX11_count_104 : decode cX11_count 104 = .ok (.ireturn, 1) := by decide +kernel
theorem dX11_count_105 : decode cX11_count 105 = .ok (.aload_n 0, 1) := by decide +kernel
theorem dX11_count_106 : decode cX11_count 106 = .ok (.getfield 442, 3) := by decide +kernel
theorem dX11_count_109 : decode cX11_count 109 = .ok (.ireturn, 1) := by decide +kernel
theorem dX11_count_110 : decode cX11_count 110 = .ok (.aload_n 0, 1) := by decide +kernel
theorem dX11_count_111 : decode cX11_count 111 = .ok (.getfield 477, 3) := by decide +kernel
theorem dX11_count_114 : decode cX11_count 114 = .ok (.ireturn, 1) := by decide +kernel
theorem dX11_count_115 : decode cX11_count 115 = .ok (.aload_n 0, 1) := by decide +kernel
theorem dX11_count_116 : decode cX11_count 116 = .ok (.getfield 491, 3) := by decide +kernel
theorem dX11_count_119 : decode cX11_count 119 = .ok (.ireturn, 1) := by decide +kernel
theorem dX11_count_120 : decode cX11_count 120 = .ok (.aload_n 0, 1) := by decide +kernel
theorem dX11_count_121 : decode cX11_count 121 = .ok (.getfield 11, 3) := by decide +kernel
theorem dX11_count_124 : decode cX11_count 124 = .ok (.ireturn, 1) := by decide +kernel
theorem dX11_count_125 : decode cX11_count 125 = .ok (.aload_n 0, 1) := by decide +kernel
theorem dX11_count_126 : decode cX11_count 126 = .ok (.getfield 14, 3) := by decide +kernel
theorem dX11_count_129 : decode cX11_count 129 = .ok (.ireturn, 1) := by decide +kernel
theorem dX11_count_130 : decode cX11_count 130 = .ok (.aload_n 0, 1) := by decide +kernel
theorem dX11_count_131 : decode cX11_count 131 = .ok (.getfield 245, 3) := by decide +kernel
theorem dX11_count_134 : decode cX11_count 134 = .ok (.ireturn, 1) := by decide +kernel
theorem dX11_count_135 : decode cX11_count 135 = .ok (.aload_n 0, 1) := by decide +kernel
theorem dX11_count_136 : decode cX11_count 136 = .ok (.getfield 173, 3) := by decide +kernel
theorem dX11_count_139 : decode cX11_count 139 = .ok (.ireturn, 1) := by decide +kernel
theorem dX11_count_140 : decode cX11_count 140 = .ok (.aload_n 0, 1) := by decide +kernel
theorem dX11_count_141 : decode cX11_count 141 = .ok (.getfield 176, 3) := by decide +kernel
theorem dX11_count_144 : decode cX11_count 144 = .ok (.ireturn, 1) := by decide +kernel
theorem dX11_count_145 : decode cX11_count 145 = .ok (.aload_n 0, 1) := by decide +kernel
theorem dX11_count_146 : decode cX11_count 146 = .ok (.getfield 179, 3) := by decide +kernel
theorem dX11_count_149 : decode cX11_count 149 = .ok (.ireturn, 1) := by decide +kernel
theorem dX11_count_150 : decode cX11_count 150 = .ok (.aload_n 0, 1) := by decide +kernel
theorem dX11_count_151 : decode cX11_count 151 = .ok (.getfield 182, 3) := by decide +kernel
theorem dX11_count_154 : decode cX11_count 154 = .ok (.ireturn, 1) := by decide +kernel
theorem dX11_count_155 : decode cX11_count 155 = .ok (.iconst (-1), 1) := by decide +kernel
theorem dX11_count_156 : decode cX11_count 156 = .ok (.ireturn, 1) := by decide +kernel
theorem dX11_init_0 : decode cX11_init 0 = .ok (.aload_n 0, 1) := by decide +kernel
theorem dX11_init_1 : decode cX11_init 1 = .ok (.invokespecial 536, 3) := by decide +kernel
theorem dX11_init_4 : decode cX11_init 4 = .ok (.aload_n 0, 1) := by decide +kernel
theorem dX11_init_5 : decode cX11_init 5 = .ok (.bipush 64, 2) := by decide +kernel
theorem dX11_init_7 : decode cX11_init 7 = .ok (.newarray .long, 2) := by decide +kernel
theorem dX11_init_9 : decode cX11_init 9 = .ok (.putfield 7, 3) := by decide +kernel
theorem dX11_init_12 : decode cX11_init 12 = .ok (.aload_n 0, 1) := by decide +kernel
theorem dX11_init_13 : decode cX11_init 13 = .ok (.bipush 100, 2) := by decide +kernel
theorem dX11_init_15 : decode cX11_init 15 = .ok (.newarray .int, 2) := by decide +kernel
theorem dX11_init_17 : decode cX11_init 17 = .ok (.putfield 17, 3) := by decide +kernel
theorem dX11_init_20 : decode cX11_init 20 = .ok (.aload_n 0, 1) := by decide +kernel
theorem dX11_init_21 : decode cX11_init 21 = .ok (.bipush 90, 2) := by decide +kernel
theorem dX11_init_23 : decode cX11_init 23 = .ok (.newarray .int, 2) := by decide +kernel
theorem dX11_init_25 : decode cX11_init 25 = .ok (.putfield 107, 3) := by decide +kernel
theorem dX11_init_28 : decode cX11_init 28 = .ok (.aload_n 0, 1) := by decide +kernel
theorem dX11_init_29 : decode cX11_init 29 = .ok (.bipush 90, 2) := by decide +kernel
theorem dX11_init_31 : decode cX11_init 31 = .ok (.newarray .int, 2) := by decide +kernel
theorem dX11_init_33 : decode cX11_init 33 = .ok (.putfield 104, 3) := by decide +kernel
theorem dX11_init_36 : decode cX11_init 36 = .ok (.aload_n 0, 1) := by decide +kernel
theorem dX11_init_37 : decode cX11_init 37 = .ok (.sipush 5760, 3) := by decide +kernel
theorem dX11_init_40 : decode cX11_init 40 = .ok (.newarray .int, 2) := by decide +kernel
theorem dX11_init_42 : decode cX11_init 42 = .ok (.putfield 43, 3) := by decide +kernel
theorem dX11_init_45 : decode cX11_init 45 = .ok (.aload_n 0, 1) := by decide +kernel
theorem dX11_init_46 : decode cX11_init 46 = .ok (.bipush 90, 2) := by decide +kernel
theorem dX11_init_48 : decode cX11_init 48 = .ok (.newarray .int, 2) := by decide +kernel
theorem dX11_init_50 : decode cX11_init 50 = .ok (.putfield 49, 3) := by decide +kernel
theorem dX11_init_53 : decode cX11_init 53 = .ok (.aload_n 0, 1) := by decide +kernel
theorem dX11_init_54 : decode cX11_init 54 = .ok (.bipush 64, 2) := by decide +kernel
theorem dX11_init_56 : decode cX11_init 56 = .ok (.newarray .int, 2) := by decide +kernel
theorem dX11_init_58 : decode cX11_init 58 = .ok (.putfield 185, 3) := by decide +kernel
theorem dX11_init_61 : decode cX11_init 61 = .ok (.aload_n 0, 1) := by decide +kernel
theorem dX11_init_62 : decode cX11_init 62 = .ok (.iconst 4, 1) := by decide +kernel
theorem dX11_init_63 : decode cX11_init 63 = .ok (.newarray .int, 2) := by decide +kernel
theorem dX11_init_65 : decode cX11_init 65 = .ok (.putfield 142, 3) := by decide +kernel
theorem dX11_init_68 : decode cX11_init 68 = .ok (.aload_n 0, 1) := by decide +kernel
theorem dX11_init_69 : decode cX11_init 69 = .ok (.sipush 240, 3) := by decide +kernel
theorem dX11_init_72 : decode cX11_init 72 = .ok (.newarray .int, 2) := by decide +kernel
theorem dX11_init_74 : decode cX11_init 74 = .ok (.putfield 136, 3) := by decide +kernel
theorem dX11_init_77 : decode cX11_init 77 = .ok (.aload_n 0, 1) := by decide +kernel
theorem dX11_init_78 : decode cX11_init 78 = .ok (.iconst 4, 1) := by decide +kernel
theorem dX11_init_79 : decode cX11_init 79 = .ok (.newarray .int, 2) := by decide +kernel
theorem dX11_init_81 : decode cX11_init 81 = .ok (.putfield 139, 3) := by decide +kernel
theorem dX11_init_84 : decode cX11_init 84 = .ok (.aload_n 0, 1) := by decide +kernel
theorem dX11_init_85 : decode cX11_init 85 = .ok (.bipush 8, 2) := by decide +kernel
theorem dX11_init_87 : decode cX11_init 87 = .ok (.newarray .int, 2) := by decide +kernel
theorem dX11_init_89 : decode cX11_init 89 = .ok (.putfield 164, 3) := by decide +kernel
theorem dX11_init_92 : decode cX11_init 92 = .ok (.aload_n 0, 1) := by decide +kernel
theorem dX11_init_93 : decode cX11_init 93 = .ok (.iconst 4, 1) := by decide +kernel
theorem dX11_init_94 : decode cX11_init 94 = .ok (.newarray .int, 2) := by decide +kernel
theorem dX11_init_96 : decode cX11_init 96 = .ok (.putfield 170, 3) := by decide +kernel
theorem dX11_init_99 : decode cX11_init 99 = .ok (.aload_n 0, 1) := by decide +kernel
theorem dX11_init_100 : decode cX11_init 100 = .ok (.iconst 4, 1) := by decide +kernel
theorem dX11_init_101 : decode cX11_init 101 = .ok (.newarray .int, 2) := by decide +kernel
theorem dX11_init_103 : decode cX11_init 103 = .ok (.putfield 167, 3) := by decide +kernel
theorem dX11_init_106 : decode cX11_init 106 = .ok (.aload_n 0, 1) := by decide +kernel
theorem dX11_init_107 : decode cX11_init 107 = .ok (.iconst 4, 1) := by decide +kernel
theorem dX11_init_108 : decode cX11_init 108 = .ok (.newarray .int, 2) := by decide +kernel
theorem dX11_init_110 : decode cX11_init 110 = .ok (.putfield 145, 3) := by decide +kernel
theorem dX11_init_113 : decode cX11_init 113 = .ok (.aload_n 0, 1) := by decide +kernel
theorem dX11_init_114 : decode cX11_init 114 = .ok (.iconst 4, 1) := by decide +kernel
theorem dX11_init_115 : decode cX11_init 115 = .ok (.newarray .int, 2) := by decide +kernel
theorem dX11_init_117 : decode cX11_init 117 = .ok (.dup, 1) := by decide +kernel
theorem dX11_init_118 : decode cX11_init 118 = .ok (.iconst 0, 1) := by decide +kernel
theorem dX11_init_119 : decode cX11_init 119 = .ok (.iconst 3, 1) := by decide +kernel
theorem dX11_init_120 : decode cX11_init 120 = .ok (.iastore, 1) := by decide +kernel
theorem dX11_init_121 : decode cX11_init 121 = .ok (.dup, 1) := by decide +kernel
theorem dX11_init_122 : decode cX11_init 122 = .ok (.iconst 1, 1) := by decide +kernel
theorem dX11_init_123 : decode cX11_init 123 = .ok (.iconst 3, 1) := by decide +kernel
theorem dX11_init_124 : decode cX11_init 124 = .ok (.iastore, 1) := by decide +kernel
theorem dX11_init_125 : decode cX11_init 125 = .ok (.dup, 1) := by decide +kernel
theorem dX11_init_126 : decode cX11_init 126 = .ok (.iconst 2, 1) := by decide +kernel
theorem dX11_init_127 : decode cX11_init 127 = .ok (.iconst 3, 1) := by decide +kernel
theorem dX11_init_128 : decode cX11_init 128 = .ok (.iastore, 1) := by decide +kernel
theorem dX11_init_129 : decode cX11_init 129 = .ok (.dup, 1) := by decide +kernel
theorem dX11_init_130 : decode cX11_init 130 = .ok (.iconst 3, 1) := by decide +kernel
theorem dX11_init_131 : decode cX11_init 131 = .ok (.iconst 3, 1) := by decide +kernel
theorem dX11_init_132 : decode cX11_init 132 = .ok (.iastore, 1) := by decide +kernel
theorem dX11_init_133 : decode cX11_init 133 = .ok (.putfield 217, 3) := by decide +kernel
theorem dX11_init_136 : decode cX11_init 136 = .ok (.aload_n 0, 1) := by decide +kernel
theorem dX11_init_137 : decode cX11_init 137 = .ok (.iconst 2, 1) := by decide +kernel
theorem dX11_init_138 : decode cX11_init 138 = .ok (.putfield 239, 3) := by decide +kernel
theorem dX11_init_141 : decode cX11_init 141 = .ok (.aload_n 0, 1) := by decide +kernel
theorem dX11_init_142 : decode cX11_init 142 = .ok (.iconst 5, 1) := by decide +kernel
theorem dX11_init_143 : decode cX11_init 143 = .ok (.newarray .int, 2) := by decide +kernel
theorem dX11_init_145 : decode cX11_init 145 = .ok (.putfield 208, 3) := by decide +kernel
theorem dX11_init_148 : decode cX11_init 148 = .ok (.aload_n 0, 1) := by decide +kernel
theorem dX11_init_149 : decode cX11_init 149 = .ok (.iconst 5, 1) := by decide +kernel
theorem dX11_init_150 : decode cX11_init 150 = .ok (.newarray .int, 2) := by decide +kernel
theorem dX11_init_152 : decode cX11_init 152 = .ok (.putfield 211, 3) := by decide +kernel
theorem dX11_init_155 : decode cX11_init 155 = .ok (.aload_n 0, 1) := by decide +kernel
theorem dX11_init_156 : decode cX11_init 156 = .ok (.sipush 4001, 3) := by decide +kernel
theorem dX11_init_159 : decode cX11_init 159 = .ok (.newarray .long, 2) := by decide +kernel
theorem dX11_init_161 : decode cX11_init 161 = .ok (.putfield 312, 3) := by decide +kernel
theorem dX11_init_164 : decode cX11_init 164 = .ok (.aload_n 0, 1) := by decide +kernel
theorem dX11_init_165 : decode cX11_init 165 = .ok (.sipush 4001, 3) := by decide +kernel
theorem dX11_init_168 : decode cX11_init 168 = .ok (.newarray .long, 2) := by decide +kernel
theorem dX11_init_170 : decode cX11_init 170 = .ok (.putfield 315, 3) := by decide +kernel
theorem dX11_init_173 : decode cX11_init 173 = .ok (.aload_n 0, 1) := by decide +kernel
theorem dX11_init_174 : decode cX11_init 174 = .ok (.sipush 4001, 3) := by decide +kernel
theorem dX11_init_177 : decode cX11_init 177 = .ok (.newarray .int, 2) := by decide +kernel
theorem dX11_init_179 : decode cX11_init 179 = .ok (.putfield 330, 3) := by decide +kernel
theorem dX11_init_182 : decode cX11_init 182 = .ok (.aload_n 0, 1) := by decide +kernel
theorem dX11_init_183 : decode cX11_init 183 = .ok (.sipush 4001, 3) := by decide +kernel
theorem dX11_init_186 : decode cX11_init 186 = .ok (.newarray .int, 2) := by decide +kernel
theorem dX11_init_188 : decode cX11_init 188 = .ok (.putfield 336, 3) := by decide +kernel
theorem dX11_init_191 : decode cX11_init 191 = .ok (.aload_n 0, 1) := by decide +kernel
theorem dX11_init_192 : decode cX11_init 192 = .ok (.sipush 4001, 3) := by decide +kernel
theorem dX11_init_195 : decode cX11_init 195 = .ok (.newarray .int, 2) := by decide +kernel
theorem dX11_init_197 : decode cX11_init 197 = .ok (.putfield 327, 3) := by decide +kernel
theorem dX11_init_200 : decode cX11_init 200 = .ok (.aload_n 0, 1) := by decide +kernel
theorem dX11_init_201 : decode cX11_init 201 = .ok (.sipush 16384, 3) := by decide +kernel
theorem dX11_init_204 : decode cX11_init 204 = .ok (.newarray .int, 2) := by decide +kernel
theorem dX11_init_206 : decode cX11_init 206 = .ok (.putfield 299, 3) := by decide +kernel
theorem dX11_init_209 : decode cX11_init 209 = .ok (.aload_n 0, 1) := by decide +kernel
theorem dX11_init_210 : decode cX11_init 210 = .ok (.sipush 16004, 3) := by decide +kernel
theorem dX11_init_213 : decode cX11_init 213 = .ok (.newarray .long, 2) := by decide +kernel
theorem dX11_init_215 : decode cX11_init 215 = .ok (.putfield 381, 3) := by decide +kernel
theorem dX11_init_218 : decode cX11_init 218 = .ok (.aload_n 0, 1) := by decide +kernel
theorem dX11_init_219 : decode cX11_init 219 = .ok (.sipush 16004, 3) := by decide +kernel
theorem dX11_init_222 : decode cX11_init 222 = .ok (.newarray .long, 2) := by decide +kernel
theorem dX11_init_224 : decode cX11_init 224 = .ok (.putfield 384, 3) := by decide +kernel
theorem dX11_init_227 : decode cX11_init 227 = .ok (.aload_n 0, 1) := by decide +kernel
theorem dX11_init_228 : decode cX11_init 228 = .ok (.ldc_w 541, 3) := by decide +kernel
theorem dX11_init_231 : decode cX11_init 231 = .ok (.newarray .int, 2) := by decide +kernel
theorem dX11_init_233 : decode cX11_init 233 = .ok (.putfield 371, 3) := by decide +kernel
theorem dX11_init_236 : decode cX11_init 236 = .ok (.aload_n 0, 1) := by decide +kernel
theorem dX11_init_237 : decode cX11_init 237 = .ok (.ldc_w 541, 3) := by decide +kernel
theorem dX11_init_240 : decode cX11_init 240 = .ok (.newarray .boolean, 2) := by decide +kernel
theorem dX11_init_242 : decode cX11_init 242 = .ok (.putfield 374, 3) := by decide +kernel
theorem dX11_init_245 : decode cX11_init 245 = .ok (.aload_n 0, 1) := by decide +kernel
theorem dX11_init_246 : decode cX11_init 246 = .ok (.ldc_w 541, 3) := by decide +kernel
theorem dX11_init_249 : decode cX11_init 249 = .ok (.newarray .int, 2) := by decide +kernel
theorem dX11_init_251 : decode cX11_init 251 = .ok (.putfield 378, 3) := by decide +kernel
theorem dX11_init_254 : decode cX11_init 254 = .ok (.aload_n 0, 1) := by decide +kernel
theorem dX11_init_255 : decode cX11_init 255 = .ok (.bipush 10, 2) := by decide +kernel
theorem dX11_init_257 : decode cX11_init 257 = .ok (.newarray .int, 2) := by decide +kernel
theorem dX11_init_259 : decode cX11_init 259 = .ok (.dup, 1) := by decide +kernel
theorem dX11_init_260 : decode cX11_init 260 = .ok (.iconst 0, 1) := by decide +kernel
theorem dX11_init_261 : decode cX11_init 261 = .ok (.iconst 1, 1) := by decide +kernel
theorem dX11_init_262 : decode cX11_init 262 = .ok (.iastore, 1) := by decide +kernel
theorem dX11_init_263 : decode cX11_init 263 = .ok (.dup, 1) := by decide +kernel
theorem dX11_init_264 : decode cX11_init 264 = .ok (.iconst 1, 1) := by decide +kernel
theorem dX11_init_265 : decode cX11_init 265 = .ok (.iconst 1, 1) := by decide +kernel
theorem dX11_init_266 : decode cX11_init 266 = .ok (.iastore, 1) := by decide +kernel
theorem dX11_init_267 : decode cX11_init 267 = .ok (.dup, 1) := by decide +kernel
theorem dX11_init_268 : decode cX11_init 268 = .ok (.iconst 2, 1) := by decide +kernel
theorem dX11_init_269 : decode cX11_init 269 = .ok (.iconst 1, 1) := by decide +kernel
theorem dX11_init_270 : decode cX11_init 270 = .ok (.iastore, 1) := by decide +kernel
theorem dX11_init_271 : decode cX11_init 271 = .ok (.dup, 1) := by decide +kernel
theorem dX11_init_272 : decode cX11_init 272 = .ok (.iconst 3, 1) := by decide +kernel
theorem dX11_init_273 : decode cX11_init 273 = .ok (.iconst 1, 1) := by decide +kernel
theorem dX11_init_274 : decode cX11_init 274 = .ok (.iastore, 1) := by decide +kernel
theorem dX11_init_275 : decode cX11_init 275 = .ok (.dup, 1) := by decide +kernel
theorem dX11_init_276 : decode cX11_init 276 = .ok (.iconst 4, 1) := by decide +kernel
theorem dX11_init_277 : decode cX11_init 277 = .ok (.iconst 1, 1) := by decide +kernel
theorem dX11_init_278 : decode cX11_init 278 = .ok (.iastore, 1) := by decide +kernel
theorem dX11_init_279 : decode cX11_init 279 = .ok (.dup, 1) := by decide +kernel
theorem dX11_init_280 : decode cX11_init 280 = .ok (.iconst 5, 1) := by decide +kernel
theorem dX11_init_281 : decode cX11_init 281 = .ok (.iconst 1, 1) := by decide +kernel
theorem dX11_init_282 : decode cX11_init 282 = .ok (.iastore, 1) := by decide +kernel
theorem dX11_init_283 : decode cX11_init 283 = .ok (.dup, 1) := by decide +kernel
theorem dX11_init_284 : decode cX11_init 284 = .ok (.bipush 6, 2) := by decide +kernel
theorem dX11_init_286 : decode cX11_init 286 = .ok (.iconst 1, 1) := by decide +kernel
theorem dX11_init_287 : decode cX11_init 287 = .ok (.iastore, 1) := by decide +kernel
theorem dX11_init_288 : decode cX11_init 288 = .ok (.dup, 1) := by decide +kernel
theorem dX11_init_289 : decode cX11_init 289 = .ok (.bipush 7, 2) := by decide +kernel
theorem dX11_init_291 : decode cX11_init 291 = .ok (.iconst 1, 1) := by decide +kernel
theorem dX11_init_292 : decode cX11_init 292 = .ok (.iastore, 1) := by decide +kernel
theorem dX11_init_293 : decode cX11_init 293 = .ok (.dup, 1) := by decide +kernel
theorem dX11_init_294 : decode cX11_init 294 = .ok (.bipush 8, 2) := by decide +kernel
theorem dX11_init_296 : decode cX11_init 296 = .ok (.iconst 1, 1) := by decide +kernel
theorem dX11_init_297 : decode cX11_init 297 = .ok (.iastore, 1) := by decide +kernel
theorem dX11_init_298 : decode cX11_init 298 = .ok (.dup, 1) := by decide +kernel
theorem dX11_init_299 : decode cX11_init 299 = .ok (.bipush 9, 2) := by decide +kernel
theorem dX11_init_301 : decode cX11_init 301 = .ok (.iconst 1, 1) := by decide +kernel
theorem dX11_init_302 : decode cX11_init 302 = .ok (.iastore, 1) := by decide +kernel
theorem dX11_init_303 : decode cX11_init 303 = .ok (.putfield 387, 3) := by decide +kernel
theorem dX11_init_306 : decode cX11_init 306 = .ok (.aload_n 0, 1) := by decide +kernel
theorem dX11_init_307 : decode cX11_init 307 = .ok (.bipush 20, 2) := by decide +kernel
theorem dX11_init_309 : decode cX11_init 309 = .ok (.newarray .int, 2) := by decide +kernel
theorem dX11_init_311 : decode cX11_init 311 = .ok (.putfield 431, 3) := by decide +kernel
theorem dX11_init_314 : decode cX11_init 314 = .ok (.aload_n 0, 1) := by decide +kernel
theorem dX11_init_315 : decode cX11_init 315 = .ok (.bipush 8, 2) := by decide +kernel
theorem dX11_init_317 : decode cX11_init 317 = .ok (.newarray .int, 2) := by decide +kernel
theorem dX11_init_319 : decode cX11_init 319 = .ok (.putfield 445, 3) := by decide +kernel
theorem dX11_init_322 : decode cX11_init 322 = .ok (.aload_n 0, 1) := by decide +kernel
theorem dX11_init_323 : decode cX11_init 323 = .ok (.sipush 4001, 3) := by decide +kernel
theorem dX11_init_326 : decode cX11_init 326 = .ok (.newarray .long, 2) := by decide +kernel
theorem dX11_init_328 : decode cX11_init 328 = .ok (.putfield 448, 3) := by decide +kernel
theorem dX11_init_331 : decode cX11_init 331 = .ok (.aload_n 0, 1) := by decide +kernel
theorem dX11_init_332 : decode cX11_init 332 = .ok (.bipush 8, 2) := by decide +kernel
theorem dX11_init_334 : decode cX11_init 334 = .ok (.newarray .int, 2) := by decide +kernel
theorem dX11_init_336 : decode cX11_init 336 = .ok (.putfield 469, 3) := by decide +kernel
theorem dX11_init_339 : decode cX11_init 339 = .ok (.aload_n 0, 1) := by decide +kernel
theorem dX11_init_340 : decode cX11_init 340 = .ok (.bipush 8, 2) := by decide +kernel
theorem dX11_init_342 : decode cX11_init 342 = .ok (.newarray .int, 2) := by decide +kernel
theorem dX11_init_344 : decode cX11_init 344 = .ok (.putfield 472, 3) := by decide +kernel
theorem dX11_init_347 : decode cX11_init 347 = .ok (.aload_n 0, 1) := by decide +kernel
theorem dX11_init_348 : decode cX11_init 348 = .ok (.bipush 12, 2) := by decide +kernel
theorem dX11_init_350 : decode cX11_init 350 = .ok (.newarray .int, 2) := by decide +kernel
theorem dX11_init_352 : decode cX11_init 352 = .ok (.putfield 480, 3) := by decide +kernel
theorem dX11_init_355 : decode cX11_init 355 = .ok (.aload_n 0, 1) := by decide +kernel
theorem dX11_init_356 : decode cX11_init 356 = .ok (.bipush 12, 2) := by decide +kernel
theorem dX11_init_358 : decode cX11_init 358 = .ok (.newarray .int, 2) := by decide +kernel
theorem dX11_init_360 : decode cX11_init 360 = .ok (.putfield 483, 3) := by decide +kernel
theorem dX11_init_363 : decode cX11_init 363 = .ok (.aload_n 0, 1) := by decide +kernel
theorem dX11_init_364 : decode cX11_init 364 = .ok (.bipush 12, 2) := by decide +kernel
theorem dX11_init_366 : decode cX11_init 366 = .ok (.newarray .int, 2) := by decide +kernel
theorem dX11_init_368 : decode cX11_init 368 = .ok (.putfield 486, 3) := by decide +kernel
theorem dX11_init_371 : decode cX11_init 371 = .ok (.aload_n 0, 1) := by decide +kernel
theorem dX11_init_372 : decode cX11_init 372 = .ok (.bipush 12, 2) := by decide +kernel
theorem dX11_init_374 : decode cX11_init 374 = .ok (.newarray .int, 2) := by decide +kernel
theorem dX11_init_376 : decode cX11_init 376 = .ok (.putfield 494, 3) := by decide +kernel
theorem dX11_init_379 : decode cX11_init 379 = .ok (.aload_n 0, 1) := by decide +kernel
theorem dX11_init_380 : decode cX11_init 380 = .ok (.bipush 12, 2) := by decide +kernel
theorem dX11_init_382 : decode cX11_init 382 = .ok (.newarray .int, 2) := by decide +kernel
theorem dX11_init_384 : decode cX11_init 384 = .ok (.putfield 497, 3) := by decide +kernel
theorem dX11_init_387 : decode cX11_init 387 = .ok (.aload_n 0, 1) := by decide +kernel
theorem dX11_init_388 : decode cX11_init 388 = .ok (.bipush 12, 2) := by decide +kernel
theorem dX11_init_390 : decode cX11_init 390 = .ok (.newarray .int, 2) := by decide +kernel
theorem dX11_init_392 : decode cX11_init 392 = .ok (.putfield 500, 3) := by decide +kernel
theorem dX11_init_395 : decode cX11_init 395 = .ok (.aload_n 0, 1) := by decide +kernel
theorem dX11_init_396 : decode cX11_init 396 = .ok (.bipush 12, 2) := by decide +kernel
theorem dX11_init_398 : decode cX11_init 398 = .ok (.newarray .int, 2) := by decide +kernel
theorem dX11_init_400 : decode cX11_init 400 = .ok (.putfield 503, 3) := by decide +kernel
theorem dX11_init_403 : decode cX11_init 403 = .ok (.aload_n 0, 1) := by decide +kernel
theorem dX11_init_404 : decode cX11_init 404 = .ok (.bipush 72, 2) := by decide +kernel
theorem dX11_init_406 : decode cX11_init 406 = .ok (.newarray .int, 2) := by decide +kernel
theorem dX11_init_408 : decode cX11_init 408 = .ok (.putfield 506, 3) := by decide +kernel
theorem dX11_init_411 : decode cX11_init 411 = .ok (.aload_n 0, 1) := by decide +kernel
theorem dX11_init_412 : decode cX11_init 412 = .ok (.iconst 3, 1) := by decide +kernel
theorem dX11_init_413 : decode cX11_init 413 = .ok (.newarray .boolean, 2) := by decide +kernel
theorem dX11_init_415 : decode cX11_init 415 = .ok (.putfield 516, 3) := by decide +kernel
theorem dX11_init_418 : decode cX11_init 418 = .ok (.aload_n 0, 1) := by decide +kernel
theorem dX11_init_419 : decode cX11_init 419 = .ok (.iconst 3, 1) := by decide +kernel
theorem dX11_init_420 : decode cX11_init 420 = .ok (.newarray .long, 2) := by decide +kernel
theorem dX11_init_422 : decode cX11_init 422 = .ok (.putfield 521, 3) := by decide +kernel
theorem dX11_init_425 : decode cX11_init 425 = .ok (.aload_n 0, 1) := by decide +kernel
theorem dX11_init_426 : decode cX11_init 426 = .ok (.iconst 3, 1) := by decide +kernel
theorem dX11_init_427 : decode cX11_init 427 = .ok (.newarray .long, 2) := by decide +kernel
theorem dX11_init_429 : decode cX11_init 429 = .ok (.putfield 524, 3) := by decide +kernel
theorem dX11_init_432 : decode cX11_init 432 = .ok (.aload_n 0, 1) := by decide +kernel
theorem dX11_init_433 : decode cX11_init 433 = .ok (.iconst 3, 1) := by decide +kernel
theorem dX11_init_434 : decode cX11_init 434 = .ok (.newarray .int, 2) := by decide +kernel
theorem dX11_init_436 : decode cX11_init 436 = .ok (.putfield 527, 3) := by decide +kernel
theorem dX11_init_439 : decode cX11_init 439 = .ok (.aload_n 0, 1) := by decide +kernel
theorem dX11_init_440 : decode cX11_init 440 = .ok (.iconst 3, 1) := by decide +kernel
theorem dX11_init_441 : decode cX11_init 441 = .ok (.newarray .int, 2) := by decide +kernel
theorem dX11_init_443 : decode cX11_init 443 = .ok (.putfield 530, 3) := by decide +kernel
theorem dX11_init_446 : decode cX11_init 446 = .ok (.aload_n 0, 1) := by decide +kernel
theorem dX11_init_447 : decode cX11_init 447 = .ok (.bipush 12, 2) := by decide +kernel
theorem dX11_init_449 : decode cX11_init 449 = .ok (.newarray .int, 2) := by decide +kernel
theorem dX11_init_451 : decode cX11_init 451 = .ok (.putfield 533, 3) := by decide +kernel
theorem dX11_init_454 : decode cX11_init 454 = .ok (.return_, 1) := by decide +kernel
theorem dX11_row_0 : decode cX11_row 0 = .ok (.aload_n 0, 1) := by decide +kernel
theorem dX11_row_1 : decode cX11_row 1 = .ok (.iconst 0, 1) := by decide +kernel
theorem dX11_row_2 : decode cX11_row 2 = .ok (.putfield 3, 3) := by decide +kernel
theorem dX11_row_5 : decode cX11_row 5 = .ok (.iload_n 1, 1) := by decide +kernel
theorem dX11_row_6 : decode cX11_row 6 = .ok (.i2l, 1) := by decide +kernel
theorem dX11_row_7 : decode cX11_row 7 = .ok (.lconst 0, 1) := by decide +kernel
theorem dX11_row_8 : decode cX11_row 8 = .ok (.aload_n 0, 1) := by decide +kernel
theorem dX11_row_9 : decode cX11_row 9 = .ok (.getfield 11, 3) := by decide +kernel
theorem dX11_row_12 : decode cX11_row 12 = .ok (.iconst 1, 1) := by decide +kernel
theorem dX11_row_13 : decode cX11_row 13 = .ok (.isub, 1) := by decide +kernel
theorem dX11_row_14 : decode cX11_row 14 = .ok (.i2l, 1) := by decide +kernel
theorem dX11_row_15 : decode cX11_row 15 = .ok (.invokestatic 21, 3) := by decide +kernel
theorem dX11_row_18 : decode cX11_row 18 = .ok (.ifCond .ne 10, 3) := by decide +kernel
theorem dX11_row_21 : decode cX11_row 21 = .ok (.aload_n 0, 1) := by decide +kernel
theorem dX11_row_22 : decode cX11_row 22 = .ok (.iconst 1, 1) := by decide +kernel
theorem dX11_row_23 : decode cX11_row 23 = .ok (.putfield 3, 3) := by decide +kernel
theorem dX11_row_26 : decode cX11_row 26 = .ok (.lconst 0, 1) := by decide +kernel
theorem dX11_row_27 : decode cX11_row 27 = .ok (.lreturn, 1) := by decide +kernel
theorem dX11_row_28 : decode cX11_row 28 = .ok (.aload_n 0, 1) := by decide +kernel
theorem dX11_row_29 : decode cX11_row 29 = .ok (.getfield 7, 3) := by decide +kernel
theorem dX11_row_32 : decode cX11_row 32 = .ok (.iload_n 1, 1) := by decide +kernel
theorem dX11_row_33 : decode cX11_row 33 = .ok (.laload, 1) := by decide +kernel
theorem dX11_row_34 : decode cX11_row 34 = .ok (.lreturn, 1) := by decide +kernel
