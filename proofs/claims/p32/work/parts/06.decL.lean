theorem dL_law_0 : decode cL_law 0 = .ok (.new 10, 3) := by decide +kernel
theorem dL_law_3 : decode cL_law 3 = .ok (.dup, 1) := by decide +kernel
theorem dL_law_4 : decode cL_law 4 = .ok (.invokespecial 208, 3) := by decide +kernel
theorem dL_law_7 : decode cL_law 7 = .ok (.astore_n 1, 1) := by decide +kernel
theorem dL_law_8 : decode cL_law 8 = .ok (.aload_n 1, 1) := by decide +kernel
theorem dL_law_9 : decode cL_law 9 = .ok (.bipush 6, 2) := by decide +kernel
theorem dL_law_11 : decode cL_law 11 = .ok (.bipush 7, 2) := by decide +kernel
theorem dL_law_13 : decode cL_law 13 = .ok (.invokestatic 188, 3) := by decide +kernel
theorem dL_law_16 : decode cL_law 16 = .ok (.lconst 0, 1) := by decide +kernel
theorem dL_law_17 : decode cL_law 17 = .ok (.lcmp, 1) := by decide +kernel
theorem dL_law_18 : decode cL_law 18 = .ok (.ifCond .ne 7, 3) := by decide +kernel
theorem dL_law_21 : decode cL_law 21 = .ok (.iconst 1, 1) := by decide +kernel
theorem dL_law_22 : decode cL_law 22 = .ok (.goto 4, 3) := by decide +kernel
theorem dL_law_25 : decode cL_law 25 = .ok (.iconst 0, 1) := by decide +kernel
theorem dL_law_26 : decode cL_law 26 = .ok (.istore_n 2, 1) := by decide +kernel
theorem dL_law_27 : decode cL_law 27 = .ok (.iconst 0, 1) := by decide +kernel
theorem dL_law_28 : decode cL_law 28 = .ok (.istore_n 3, 1) := by decide +kernel
theorem dL_law_29 : decode cL_law 29 = .ok (.iconst 0, 1) := by decide +kernel
theorem dL_law_30 : decode cL_law 30 = .ok (.istore 4, 2) := by decide +kernel
theorem dL_law_32 : decode cL_law 32 = .ok (.iconst 3, 1) := by decide +kernel
theorem dL_law_33 : decode cL_law 33 = .ok (.istore 5, 2) := by decide +kernel
theorem dL_law_35 : decode cL_law 35 = .ok (.iconst 0, 1) := by decide +kernel
theorem dL_law_36 : decode cL_law 36 = .ok (.istore 6, 2) := by decide +kernel
theorem dL_law_38 : decode cL_law 38 = .ok (.bipush 12, 2) := by decide +kernel
theorem dL_law_40 : decode cL_law 40 = .ok (.newarray .int, 2) := by decide +kernel
theorem dL_law_42 : decode cL_law 42 = .ok (.astore 7, 2) := by decide +kernel
theorem dL_law_44 : decode cL_law 44 = .ok (.bipush 12, 2) := by decide +kernel
theorem dL_law_46 : decode cL_law 46 = .ok (.newarray .int, 2) := by decide +kernel
theorem dL_law_48 : decode cL_law 48 = .ok (.astore 8, 2) := by decide +kernel
theorem dL_law_50 : decode cL_law 50 = .ok (.bipush 12, 2) := by decide +kernel
theorem dL_law_52 : decode cL_law 52 = .ok (.newarray .int, 2) := by decide +kernel
theorem dL_law_54 : decode cL_law 54 = .ok (.astore 9, 2) := by decide +kernel
theorem dL_law_56 : decode cL_law 56 = .ok (.iconst 0, 1) := by decide +kernel
theorem dL_law_57 : decode cL_law 57 = .ok (.istore 10, 2) := by decide +kernel
theorem dL_law_59 : decode cL_law 59 = .ok (.iload 10, 2) := by decide +kernel
theorem dL_law_61 : decode cL_law 61 = .ok (.bipush 50, 2) := by decide +kernel
theorem dL_law_63 : decode cL_law 63 = .ok (.if_icmp .ge 1328, 3) := by decide +kernel
theorem dL_law_66 : decode cL_law 66 = .ok (.iload_n 2, 1) := by decide +kernel
theorem dL_law_67 : decode cL_law 67 = .ok (.ifCond .eq 1324, 3) := by decide +kernel
theorem dL_law_70 : decode cL_law 70 = .ok (.aload_n 0, 1) := by decide +kernel
theorem dL_law_71 : decode cL_law 71 = .ok (.iconst 2, 1) := by decide +kernel
theorem dL_law_72 : decode cL_law 72 = .ok (.iload 10, 2) := by decide +kernel
theorem dL_law_74 : decode cL_law 74 = .ok (.imul, 1) := by decide +kernel
theorem dL_law_75 : decode cL_law 75 = .ok (.invokestatic 209, 3) := by decide +kernel
theorem dL_law_78 : decode cL_law 78 = .ok (.istore 11, 2) := by decide +kernel
theorem dL_law_80 : decode cL_law 80 = .ok (.aload_n 0, 1) := by decide +kernel
theorem dL_law_81 : decode cL_law 81 = .ok (.iconst 2, 1) := by decide +kernel
theorem dL_law_82 : decode cL_law 82 = .ok (.iload 10, 2) := by decide +kernel
theorem dL_law_84 : decode cL_law 84 = .ok (.imul, 1) := by decide +kernel
theorem dL_law_85 : decode cL_law 85 = .ok (.iconst 1, 1) := by decide +kernel
theorem dL_law_86 : decode cL_law 86 = .ok (.iadd, 1) := by decide +kernel
theorem dL_law_87 : decode cL_law 87 = .ok (.invokestatic 209, 3) := by decide +kernel
theorem dL_law_90 : decode cL_law 90 = .ok (.istore 12, 2) := by decide +kernel
theorem dL_law_92 : decode cL_law 92 = .ok (.iload 11, 2) := by decide +kernel
theorem dL_law_94 : decode cL_law 94 = .ok (.bipush 13, 2) := by decide +kernel
theorem dL_law_96 : decode cL_law 96 = .ok (.irem, 1) := by decide +kernel
theorem dL_law_97 : decode cL_law 97 = .ok (.istore 13, 2) := by decide +kernel
theorem dL_law_99 : decode cL_law 99 = .ok (.iload_n 3, 1) := by decide +kernel
theorem dL_law_100 : decode cL_law 100 = .ok (.ifCond .ne 7, 3) := by decide +kernel
theorem dL_law_103 : decode cL_law 103 = .ok (.iconst 0, 1) := by decide +kernel
theorem dL_law_104 : decode cL_law 104 = .ok (.goto 10, 3) := by decide +kernel
theorem dL_law_107 : decode cL_law 107 = .ok (.iload 11, 2) := by decide +kernel
theorem dL_law_109 : decode cL_law 109 = .ok (.bipush 16, 2) := by decide +kernel
theorem dL_law_111 : decode cL_law 111 = .ok (.idiv, 1) := by decide +kernel
theorem dL_law_112 : decode cL_law 112 = .ok (.iload_n 3, 1) := by decide +kernel
theorem dL_law_113 : decode cL_law 113 = .ok (.irem, 1) := by decide +kernel
theorem dL_law_114 : decode cL_law 114 = .ok (.istore 14, 2) := by decide +kernel
theorem dL_law_116 : decode cL_law 116 = .ok (.iload_n 3, 1) := by decide +kernel
theorem dL_law_117 : decode cL_law 117 = .ok (.ifCond .ne 7, 3) := by decide +kernel
theorem dL_law_120 : decode cL_law 120 = .ok (.iconst 0, 1) := by decide +kernel
theorem dL_law_121 : decode cL_law 121 = .ok (.goto 7, 3) := by decide +kernel
theorem dL_law_124 : decode cL_law 124 = .ok (.iload 12, 2) := by decide +kernel
theorem dL_law_126 : decode cL_law 126 = .ok (.iload_n 3, 1) := by decide +kernel
theorem dL_law_127 : decode cL_law 127 = .ok (.irem, 1) := by decide +kernel
theorem dL_law_128 : decode cL_law 128 = .ok (.istore 15, 2) := by decide +kernel
theorem dL_law_130 : decode cL_law 130 = .ok (.ldc2_w 29, 3) := by decide +kernel
theorem dL_law_133 : decode cL_law 133 = .ok (.lstore 16, 2) := by decide +kernel
theorem dL_law_135 : decode cL_law 135 = .ok (.iload 13, 2) := by decide +kernel
theorem dL_law_137 : decode cL_law 137 = .ok (.iconst 3, 1) := by decide +kernel
theorem dL_law_138 : decode cL_law 138 = .ok (.if_icmp .lt 8, 3) := by decide +kernel
theorem dL_law_141 : decode cL_law 141 = .ok (.iload_n 3, 1) := by decide +kernel
theorem dL_law_142 : decode cL_law 142 = .ok (.iconst 2, 1) := by decide +kernel
theorem dL_law_143 : decode cL_law 143 = .ok (.if_icmp .ge 142, 3) := by decide +kernel
theorem dL_law_146 : decode cL_law 146 = .ok (.iconst 0, 1) := by decide +kernel
theorem dL_law_147 : decode cL_law 147 = .ok (.istore 18, 2) := by decide +kernel
theorem dL_law_149 : decode cL_law 149 = .ok (.iload 18, 2) := by decide +kernel
theorem dL_law_151 : decode cL_law 151 = .ok (.iconst 3, 1) := by decide +kernel
theorem dL_law_152 : decode cL_law 152 = .ok (.if_icmp .ge 93, 3) := by decide +kernel
theorem dL_law_155 : decode cL_law 155 = .ok (.iload_n 2, 1) := by decide +kernel
theorem dL_law_156 : decode cL_law 156 = .ok (.ifCond .eq 89, 3) := by decide +kernel
theorem dL_law_159 : decode cL_law 159 = .ok (.aload_n 1, 1) := by decide +kernel
theorem dL_law_160 : decode cL_law 160 = .ok (.iload 12, 2) := by decide +kernel
theorem dL_law_162 : decode cL_law 162 = .ok (.iconst 4, 1) := by decide +kernel
theorem dL_law_163 : decode cL_law 163 = .ok (.irem, 1) := by decide +kernel
theorem dL_law_164 : decode cL_law 164 = .ok (.iconst 5, 1) := by decide +kernel
theorem dL_law_165 : decode cL_law 165 = .ok (.iload 12, 2) := by decide +kernel
theorem dL_law_167 : decode cL_law 167 = .ok (.iconst 4, 1) := by decide +kernel
theorem dL_law_168 : decode cL_law 168 = .ok (.idiv, 1) := by decide +kernel
theorem dL_law_169 : decode cL_law 169 = .ok (.bipush 15, 2) := by decide +kernel
theorem dL_law_171 : decode cL_law 171 = .ok (.irem, 1) := by decide +kernel
theorem dL_law_172 : decode cL_law 172 = .ok (.iadd, 1) := by decide +kernel
theorem dL_law_173 : decode cL_law 173 = .ok (.iload 12, 2) := by decide +kernel
theorem dL_law_175 : decode cL_law 175 = .ok (.bipush 64, 2) := by decide +kernel
theorem dL_law_177 : decode cL_law 177 = .ok (.idiv, 1) := by decide +kernel
theorem dL_law_178 : decode cL_law 178 = .ok (.iconst 2, 1) := by decide +kernel
theorem dL_law_179 : decode cL_law 179 = .ok (.irem, 1) := by decide +kernel
theorem dL_law_180 : decode cL_law 180 = .ok (.bipush 20, 2) := by decide +kernel
theorem dL_law_182 : decode cL_law 182 = .ok (.iload 12, 2) := by decide +kernel
theorem dL_law_184 : decode cL_law 184 = .ok (.sipush 128, 3) := by decide +kernel
theorem dL_law_187 : decode cL_law 187 = .ok (.idiv, 1) := by decide +kernel
theorem dL_law_188 : decode cL_law 188 = .ok (.sipush 400, 3) := by decide +kernel
theorem dL_law_191 : decode cL_law 191 = .ok (.irem, 1) := by decide +kernel
theorem dL_law_192 : decode cL_law 192 = .ok (.iadd, 1) := by decide +kernel
theorem dL_law_193 : decode cL_law 193 = .ok (.invokestatic 162, 3) := by decide +kernel
theorem dL_law_196 : decode cL_law 196 = .ok (.lstore 16, 2) := by decide +kernel
theorem dL_law_198 : decode cL_law 198 = .ok (.lload 16, 2) := by decide +kernel
theorem dL_law_200 : decode cL_law 200 = .ok (.iload_n 3, 1) := by decide +kernel
theorem dL_law_201 : decode cL_law 201 = .ok (.bipush 60, 2) := by decide +kernel
theorem dL_law_203 : decode cL_law 203 = .ok (.if_icmp .ne 9, 3) := by decide +kernel
theorem dL_law_206 : decode cL_law 206 = .ok (.ldc2_w 29, 3) := by decide +kernel
theorem dL_law_209 : decode cL_law 209 = .ok (.goto 5, 3) := by decide +kernel
theorem dL_law_212 : decode cL_law 212 = .ok (.iload_n 3, 1) := by decide +kernel
theorem dL_law_213 : decode cL_law 213 = .ok (.i2l, 1) := by decide +kernel
theorem dL_law_214 : decode cL_law 214 = .ok (.lcmp, 1) := by decide +kernel
theorem dL_law_215 : decode cL_law 215 = .ok (.ifCond .ne 7, 3) := by decide +kernel
theorem dL_law_218 : decode cL_law 218 = .ok (.iconst 1, 1) := by decide +kernel
theorem dL_law_219 : decode cL_law 219 = .ok (.goto 4, 3) := by decide +kernel
theorem dL_law_222 : decode cL_law 222 = .ok (.iconst 0, 1) := by decide +kernel
theorem dL_law_223 : decode cL_law 223 = .ok (.istore_n 2, 1) := by decide +kernel
theorem dL_law_224 : decode cL_law 224 = .ok (.iload_n 3, 1) := by decide +kernel
theorem dL_law_225 : decode cL_law 225 = .ok (.lload 16, 2) := by decide +kernel
theorem dL_law_227 : decode cL_law 227 = .ok (.lconst 0, 1) := by decide +kernel
theorem dL_law_228 : decode cL_law 228 = .ok (.lcmp, 1) := by decide +kernel
theorem dL_law_229 : decode cL_law 229 = .ok (.ifCond .lt 7, 3) := by decide +kernel
theorem dL_law_232 : decode cL_law 232 = .ok (.iconst 1, 1) := by decide +kernel
theorem dL_law_233 : decode cL_law 233 = .ok (.goto 4, 3) := by decide +kernel
theorem dL_law_236 : decode cL_law 236 = .ok (.iconst 0, 1) := by decide +kernel
theorem dL_law_237 : decode cL_law 237 = .ok (.iadd, 1) := by decide +kernel
theorem dL_law_238 : decode cL_law 238 = .ok (.istore_n 3, 1) := by decide +kernel
theorem dL_law_239 : decode cL_law 239 = .ok (.iinc 18 1, 3) := by decide +kernel
theorem dL_law_242 : decode cL_law 242 = .ok (.goto (-93), 3) := by decide +kernel
theorem dL_law_245 : decode cL_law 245 = .ok (.iload_n 3, 1) := by decide +kernel
theorem dL_law_246 : decode cL_law 246 = .ok (.iconst 2, 1) := by decide +kernel
theorem dL_law_247 : decode cL_law 247 = .ok (.if_icmp .le 30, 3) := by decide +kernel
theorem dL_law_250 : decode cL_law 250 = .ok (.aload_n 1, 1) := by decide +kernel
theorem dL_law_251 : decode cL_law 251 = .ok (.iload_n 3, 1) := by decide +kernel
theorem dL_law_252 : decode cL_law 252 = .ok (.iconst 3, 1) := by decide +kernel
theorem dL_law_253 : decode cL_law 253 = .ok (.isub, 1) := by decide +kernel
theorem dL_law_254 : decode cL_law 254 = .ok (.iload_n 3, 1) := by decide +kernel
theorem dL_law_255 : decode cL_law 255 = .ok (.iconst 2, 1) := by decide +kernel
theorem dL_law_256 : decode cL_law 256 = .ok (.isub, 1) := by decide +kernel
theorem dL_law_257 : decode cL_law 257 = .ok (.iload_n 3, 1) := by decide +kernel
theorem dL_law_258 : decode cL_law 258 = .ok (.iconst 1, 1) := by decide +kernel
theorem dL_law_259 : decode cL_law 259 = .ok (.isub, 1) := by decide +kernel
theorem dL_law_260 : decode cL_law 260 = .ok (.iconst 1, 1) := by decide +kernel
theorem dL_law_261 : decode cL_law 261 = .ok (.iload 12, 2) := by decide +kernel
theorem dL_law_263 : decode cL_law 263 = .ok (.sipush 2048, 3) := by decide +kernel
theorem dL_law_266 : decode cL_law 266 = .ok (.idiv, 1) := by decide +kernel
theorem dL_law_267 : decode cL_law 267 = .ok (.bipush 20, 2) := by decide +kernel
theorem dL_law_269 : decode cL_law 269 = .ok (.irem, 1) := by decide +kernel
theorem dL_law_270 : decode cL_law 270 = .ok (.iadd, 1) := by decide +kernel
theorem dL_law_271 : decode cL_law 271 = .ok (.invokestatic 165, 3) := by decide +kernel
theorem dL_law_274 : decode cL_law 274 = .ok (.goto 6, 3) := by decide +kernel
theorem dL_law_277 : decode cL_law 277 = .ok (.ldc2_w 29, 3) := by decide +kernel
theorem dL_law_280 : decode cL_law 280 = .ok (.lstore 16, 2) := by decide +kernel
theorem dL_law_282 : decode cL_law 282 = .ok (.goto 1033, 3) := by decide +kernel
theorem dL_law_285 : decode cL_law 285 = .ok (.iload 13, 2) := by decide +kernel
theorem dL_law_287 : decode cL_law 287 = .ok (.iconst 3, 1) := by decide +kernel
theorem dL_law_288 : decode cL_law 288 = .ok (.if_icmp .ne 51, 3) := by decide +kernel
theorem dL_law_291 : decode cL_law 291 = .ok (.aload_n 1, 1) := by decide +kernel
theorem dL_law_292 : decode cL_law 292 = .ok (.iload 14, 2) := by decide +kernel
theorem dL_law_294 : decode cL_law 294 = .ok (.iload 15, 2) := by decide +kernel
theorem dL_law_296 : decode cL_law 296 = .ok (.iload 15, 2) := by decide +kernel
theorem dL_law_298 : decode cL_law 298 = .ok (.iconst 1, 1) := by decide +kernel
theorem dL_law_299 : decode cL_law 299 = .ok (.iadd, 1) := by decide +kernel
theorem dL_law_300 : decode cL_law 300 = .ok (.iload_n 3, 1) := by decide +kernel
theorem dL_law_301 : decode cL_law 301 = .ok (.irem, 1) := by decide +kernel
theorem dL_law_302 : decode cL_law 302 = .ok (.iconst 1, 1) := by decide +kernel
theorem dL_law_303 : decode cL_law 303 = .ok (.iload 12, 2) := by decide +kernel
theorem dL_law_305 : decode cL_law 305 = .ok (.bipush 64, 2) := by decide +kernel
theorem dL_law_307 : decode cL_law 307 = .ok (.idiv, 1) := by decide +kernel
theorem dL_law_308 : decode cL_law 308 = .ok (.bipush 30, 2) := by decide +kernel
theorem dL_law_310 : decode cL_law 310 = .ok (.irem, 1) := by decide +kernel
theorem dL_law_311 : decode cL_law 311 = .ok (.iadd, 1) := by decide +kernel
theorem dL_law_312 : decode cL_law 312 = .ok (.invokestatic 165, 3) := by decide +kernel
theorem dL_law_315 : decode cL_law 315 = .ok (.lstore 16, 2) := by decide +kernel
theorem dL_law_317 : decode cL_law 317 = .ok (.lload 16, 2) := by decide +kernel
theorem dL_law_319 : decode cL_law 319 = .ok (.ldc2_w 21, 3) := by decide +kernel
theorem dL_law_322 : decode cL_law 322 = .ok (.lcmp, 1) := by decide +kernel
theorem dL_law_323 : decode cL_law 323 = .ok (.ifCond .ne 9, 3) := by decide +kernel
theorem dL_law_326 : decode cL_law 326 = .ok (.ldc2_w 29, 3) := by decide +kernel
theorem dL_law_329 : decode cL_law 329 = .ok (.goto 5, 3) := by decide +kernel
theorem dL_law_332 : decode cL_law 332 = .ok (.lload 16, 2) := by decide +kernel
theorem dL_law_334 : decode cL_law 334 = .ok (.lstore 16, 2) := by decide +kernel
theorem dL_law_336 : decode cL_law 336 = .ok (.goto 979, 3) := by decide +kernel
theorem dL_law_339 : decode cL_law 339 = .ok (.iload 13, 2) := by decide +kernel
theorem dL_law_341 : decode cL_law 341 = .ok (.iconst 4, 1) := by decide +kernel
theorem dL_law_342 : decode cL_law 342 = .ok (.if_icmp .ne 165, 3) := by decide +kernel
theorem dL_law_345 : decode cL_law 345 = .ok (.aload_n 1, 1) := by decide +kernel
theorem dL_law_346 : decode cL_law 346 = .ok (.iload 14, 2) := by decide +kernel
theorem dL_law_348 : decode cL_law 348 = .ok (.iconst 2, 1) := by decide +kernel
theorem dL_law_349 : decode cL_law 349 = .ok (.invokestatic 114, 3) := by decide +kernel
theorem dL_law_352 : decode cL_law 352 = .ok (.lstore 18, 2) := by decide +kernel
theorem dL_law_354 : decode cL_law 354 = .ok (.lload 18, 2) := by decide +kernel
theorem dL_law_356 : decode cL_law 356 = .ok (.lconst 1, 1) := by decide +kernel
theorem dL_law_357 : decode cL_law 357 = .ok (.lcmp, 1) := by decide +kernel
theorem dL_law_358 : decode cL_law 358 = .ok (.ifCond .ge 7, 3) := by decide +kernel
theorem dL_law_361 : decode cL_law 361 = .ok (.iconst 1, 1) := by decide +kernel
theorem dL_law_362 : decode cL_law 362 = .ok (.goto 12, 3) := by decide +kernel
theorem dL_law_365 : decode cL_law 365 = .ok (.iconst 1, 1) := by decide +kernel
theorem dL_law_366 : decode cL_law 366 = .ok (.iload 12, 2) := by decide +kernel
theorem dL_law_368 : decode cL_law 368 = .ok (.i2l, 1) := by decide +kernel
theorem dL_law_369 : decode cL_law 369 = .ok (.lload 18, 2) := by decide +kernel
theorem dL_law_371 : decode cL_law 371 = .ok (.lrem, 1) := by decide +kernel
theorem dL_law_372 : decode cL_law 372 = .ok (.l2i, 1) := by decide +kernel
theorem dL_law_373 : decode cL_law 373 = .ok (.iadd, 1) := by decide +kernel
theorem dL_law_374 : decode cL_law 374 = .ok (.istore 20, 2) := by decide +kernel
theorem dL_law_376 : decode cL_law 376 = .ok (.aload_n 1, 1) := by decide +kernel
theorem dL_law_377 : decode cL_law 377 = .ok (.iload 14, 2) := by decide +kernel
theorem dL_law_379 : decode cL_law 379 = .ok (.iload 20, 2) := by decide +kernel
theorem dL_law_381 : decode cL_law 381 = .ok (.invokestatic 167, 3) := by decide +kernel
theorem dL_law_384 : decode cL_law 384 = .ok (.lstore 16, 2) := by decide +kernel
theorem dL_law_386 : decode cL_law 386 = .ok (.lload 16, 2) := by decide +kernel
theorem dL_law_388 : decode cL_law 388 = .ok (.lconst 0, 1) := by decide +kernel
theorem dL_law_389 : decode cL_law 389 = .ok (.lcmp, 1) := by decide +kernel
theorem dL_law_390 : decode cL_law 390 = .ok (.ifCond .lt 89, 3) := by decide +kernel
theorem dL_law_393 : decode cL_law 393 = .ok (.aload_n 1, 1) := by decide +kernel
theorem dL_law_394 : decode cL_law 394 = .ok (.iload 14, 2) := by decide +kernel
theorem dL_law_396 : decode cL_law 396 = .ok (.iconst 2, 1) := by decide +kernel
theorem dL_law_397 : decode cL_law 397 = .ok (.invokestatic 114, 3) := by decide +kernel
theorem dL_law_400 : decode cL_law 400 = .ok (.lload 18, 2) := by decide +kernel
theorem dL_law_402 : decode cL_law 402 = .ok (.iload 20, 2) := by decide +kernel
theorem dL_law_404 : decode cL_law 404 = .ok (.i2l, 1) := by decide +kernel
theorem dL_law_405 : decode cL_law 405 = .ok (.lsub, 1) := by decide +kernel
theorem dL_law_406 : decode cL_law 406 = .ok (.lcmp, 1) := by decide +kernel
theorem dL_law_407 : decode cL_law 407 = .ok (.ifCond .ne 76, 3) := by decide +kernel
theorem dL_law_410 : decode cL_law 410 = .ok (.aload_n 1, 1) := by decide +kernel
theorem dL_law_411 : decode cL_law 411 = .ok (.lload 16, 2) := by decide +kernel
theorem dL_law_413 : decode cL_law 413 = .ok (.l2i, 1) := by decide +kernel
theorem dL_law_414 : decode cL_law 414 = .ok (.iconst 2, 1) := by decide +kernel
theorem dL_law_415 : decode cL_law 415 = .ok (.invokestatic 114, 3) := by decide +kernel
theorem dL_law_418 : decode cL_law 418 = .ok (.iload 20, 2) := by decide +kernel
theorem dL_law_420 : decode cL_law 420 = .ok (.i2l, 1) := by decide +kernel
theorem dL_law_421 : decode cL_law 421 = .ok (.lcmp, 1) := by decide +kernel
theorem dL_law_422 : decode cL_law 422 = .ok (.ifCond .ne 61, 3) := by decide +kernel
theorem dL_law_425 : decode cL_law 425 = .ok (.aload_n 1, 1) := by decide +kernel
theorem dL_law_426 : decode cL_law 426 = .ok (.lload 16, 2) := by decide +kernel
theorem dL_law_428 : decode cL_law 428 = .ok (.l2i, 1) := by decide +kernel
theorem dL_law_429 : decode cL_law 429 = .ok (.iconst 3, 1) := by decide +kernel
theorem dL_law_430 : decode cL_law 430 = .ok (.invokestatic 114, 3) := by decide +kernel
theorem dL_law_433 : decode cL_law 433 = .ok (.aload_n 1, 1) := by decide +kernel
theorem dL_law_434 : decode cL_law 434 = .ok (.iload 14, 2) := by decide +kernel
theorem dL_law_436 : decode cL_law 436 = .ok (.iconst 3, 1) := by decide +kernel
theorem dL_law_437 : decode cL_law 437 = .ok (.invokestatic 114, 3) := by decide +kernel
theorem dL_law_440 : decode cL_law 440 = .ok (.lcmp, 1) := by decide +kernel
theorem dL_law_441 : decode cL_law 441 = .ok (.ifCond .ne 42, 3) := by decide +kernel
theorem dL_law_444 : decode cL_law 444 = .ok (.aload_n 1, 1) := by decide +kernel
theorem dL_law_445 : decode cL_law 445 = .ok (.iload 14, 2) := by decide +kernel
theorem dL_law_447 : decode cL_law 447 = .ok (.bipush 7, 2) := by decide +kernel
theorem dL_law_449 : decode cL_law 449 = .ok (.invokestatic 114, 3) := by decide +kernel
theorem dL_law_452 : decode cL_law 452 = .ok (.lconst 1, 1) := by decide +kernel
theorem dL_law_453 : decode cL_law 453 = .ok (.lcmp, 1) := by decide +kernel
theorem dL_law_454 : decode cL_law 454 = .ok (.ifCond .ne 7, 3) := by decide +kernel
theorem dL_law_457 : decode cL_law 457 = .ok (.iconst 1, 1) := by decide +kernel
theorem dL_law_458 : decode cL_law 458 = .ok (.goto 4, 3) := by decide +kernel
theorem dL_law_461 : decode cL_law 461 = .ok (.iconst 0, 1) := by decide +kernel
theorem dL_law_462 : decode cL_law 462 = .ok (.iload 20, 2) := by decide +kernel
theorem dL_law_464 : decode cL_law 464 = .ok (.i2l, 1) := by decide +kernel
theorem dL_law_465 : decode cL_law 465 = .ok (.lload 18, 2) := by decide +kernel
theorem dL_law_467 : decode cL_law 467 = .ok (.lcmp, 1) := by decide +kernel
theorem dL_law_468 : decode cL_law 468 = .ok (.ifCond .ne 7, 3) := by decide +kernel
theorem dL_law_471 : decode cL_law 471 = .ok (.iconst 1, 1) := by decide +kernel
theorem dL_law_472 : decode cL_law 472 = .ok (.goto 4, 3) := by decide +kernel
theorem dL_law_475 : decode cL_law 475 = .ok (.iconst 0, 1) := by decide +kernel
theorem dL_law_476 : decode cL_law 476 = .ok (.if_icmp .ne 7, 3) := by decide +kernel
theorem dL_law_479 : decode cL_law 479 = .ok (.iconst 1, 1) := by decide +kernel
theorem dL_law_480 : decode cL_law 480 = .ok (.goto 4, 3) := by decide +kernel
theorem dL_law_483 : decode cL_law 483 = .ok (.iconst 0, 1) := by decide +kernel
theorem dL_law_484 : decode cL_law 484 = .ok (.istore_n 2, 1) := by decide +kernel
theorem dL_law_485 : decode cL_law 485 = .ok (.lload 16, 2) := by decide +kernel
theorem dL_law_487 : decode cL_law 487 = .ok (.ldc2_w 21, 3) := by decide +kernel
theorem dL_law_490 : decode cL_law 490 = .ok (.lcmp, 1) := by decide +kernel
theorem dL_law_491 : decode cL_law 491 = .ok (.ifCond .ne 9, 3) := by decide +kernel
theorem dL_law_494 : decode cL_law 494 = .ok (.ldc2_w 29, 3) := by decide +kernel
theorem dL_law_497 : decode cL_law 497 = .ok (.goto 5, 3) := by decide +kernel
theorem dL_law_500 : decode cL_law 500 = .ok (.lload 16, 2) := by decide +kernel
theorem dL_law_502 : decode cL_law 502 = .ok (.lstore 16, 2) := by decide +kernel
theorem dL_law_504 : decode cL_law 504 = .ok (.goto 811, 3) := by decide +kernel
theorem dL_law_507 : decode cL_law 507 = .ok (.iload 13, 2) := by decide +kernel
theorem dL_law_509 : decode cL_law 509 = .ok (.iconst 5, 1) := by decide +kernel
theorem dL_law_510 : decode cL_law 510 = .ok (.if_icmp .ne 79, 3) := by decide +kernel
theorem dL_law_513 : decode cL_law 513 = .ok (.aload_n 1, 1) := by decide +kernel
theorem dL_law_514 : decode cL_law 514 = .ok (.iload 12, 2) := by decide +kernel
theorem dL_law_516 : decode cL_law 516 = .ok (.iconst 4, 1) := by decide +kernel
theorem dL_law_517 : decode cL_law 517 = .ok (.irem, 1) := by decide +kernel
theorem dL_law_518 : decode cL_law 518 = .ok (.iconst 1, 1) := by decide +kernel
theorem dL_law_519 : decode cL_law 519 = .ok (.iload 12, 2) := by decide +kernel
theorem dL_law_521 : decode cL_law 521 = .ok (.iconst 4, 1) := by decide +kernel
theorem dL_law_522 : decode cL_law 522 = .ok (.idiv, 1) := by decide +kernel
theorem dL_law_523 : decode cL_law 523 = .ok (.sipush 200, 3) := by decide +kernel
theorem dL_law_526 : decode cL_law 526 = .ok (.irem, 1) := by decide +kernel
theorem dL_law_527 : decode cL_law 527 = .ok (.iadd, 1) := by decide +kernel
theorem dL_law_528 : decode cL_law 528 = .ok (.invokestatic 169, 3) := by decide +kernel
theorem dL_law_531 : decode cL_law 531 = .ok (.lstore 16, 2) := by decide +kernel
theorem dL_law_533 : decode cL_law 533 = .ok (.lload 16, 2) := by decide +kernel
theorem dL_law_535 : decode cL_law 535 = .ok (.lconst 0, 1) := by decide +kernel
theorem dL_law_536 : decode cL_law 536 = .ok (.lcmp, 1) := by decide +kernel
theorem dL_law_537 : decode cL_law 537 = .ok (.ifCond .lt 43, 3) := by decide +kernel
theorem dL_law_540 : decode cL_law 540 = .ok (.aload_n 1, 1) := by decide +kernel
theorem dL_law_541 : decode cL_law 541 = .ok (.lload 16, 2) := by decide +kernel
theorem dL_law_543 : decode cL_law 543 = .ok (.l2i, 1) := by decide +kernel
theorem dL_law_544 : decode cL_law 544 = .ok (.iconst 2, 1) := by decide +kernel
theorem dL_law_545 : decode cL_law 545 = .ok (.invokestatic 114, 3) := by decide +kernel
theorem dL_law_548 : decode cL_law 548 = .ok (.iconst 1, 1) := by decide +kernel
theorem dL_law_549 : decode cL_law 549 = .ok (.iload 12, 2) := by decide +kernel
theorem dL_law_551 : decode cL_law 551 = .ok (.iconst 4, 1) := by decide +kernel
theorem dL_law_552 : decode cL_law 552 = .ok (.idiv, 1) := by decide +kernel
theorem dL_law_553 : decode cL_law 553 = .ok (.sipush 200, 3) := by decide +kernel
theorem dL_law_556 : decode cL_law 556 = .ok (.irem, 1) := by decide +kernel
theorem dL_law_557 : decode cL_law 557 = .ok (.iadd, 1) := by decide +kernel
theorem dL_law_558 : decode cL_law 558 = .ok (.i2l, 1) := by decide +kernel
theorem dL_law_559 : decode cL_law 559 = .ok (.lcmp, 1) := by decide +kernel
theorem dL_law_560 : decode cL_law 560 = .ok (.ifCond .ne 24, 3) := by decide +kernel
theorem dL_law_563 : decode cL_law 563 = .ok (.aload_n 1, 1) := by decide +kernel
theorem dL_law_564 : decode cL_law 564 = .ok (.lload 16, 2) := by decide +kernel
theorem dL_law_566 : decode cL_law 566 = .ok (.l2i, 1) := by decide +kernel
theorem dL_law_567 : decode cL_law 567 = .ok (.iconst 0, 1) := by decide +kernel
theorem dL_law_568 : decode cL_law 568 = .ok (.invokestatic 114, 3) := by decide +kernel
theorem dL_law_571 : decode cL_law 571 = .ok (.iload 12, 2) := by decide +kernel
theorem dL_law_573 : decode cL_law 573 = .ok (.iconst 4, 1) := by decide +kernel
theorem dL_law_574 : decode cL_law 574 = .ok (.irem, 1) := by decide +kernel
theorem dL_law_575 : decode cL_law 575 = .ok (.i2l, 1) := by decide +kernel
theorem dL_law_576 : decode cL_law 576 = .ok (.lcmp, 1) := by decide +kernel
theorem dL_law_577 : decode cL_law 577 = .ok (.ifCond .ne 7, 3) := by decide +kernel
theorem dL_law_580 : decode cL_law 580 = .ok (.iconst 1, 1) := by decide +kernel
theorem dL_law_581 : decode cL_law 581 = .ok (.goto 4, 3) := by decide +kernel
theorem dL_law_584 : decode cL_law 584 = .ok (.iconst 0, 1) := by decide +kernel
theorem dL_law_585 : decode cL_law 585 = .ok (.istore_n 2, 1) := by decide +kernel
theorem dL_law_586 : decode cL_law 586 = .ok (.goto 729, 3) := by decide +kernel
theorem dL_law_589 : decode cL_law 589 = .ok (.iload 13, 2) := by decide +kernel
theorem dL_law_591 : decode cL_law 591 = .ok (.bipush 6, 2) := by decide +kernel
theorem dL_law_593 : decode cL_law 593 = .ok (.if_icmp .ne 141, 3) := by decide +kernel
theorem dL_law_596 : decode cL_law 596 = .ok (.aload_n 1, 1) := by decide +kernel
theorem dL_law_597 : decode cL_law 597 = .ok (.iload 14, 2) := by decide +kernel
theorem dL_law_599 : decode cL_law 599 = .ok (.iconst 2, 1) := by decide +kernel
theorem dL_law_600 : decode cL_law 600 = .ok (.invokestatic 114, 3) := by decide +kernel
theorem dL_law_603 : decode cL_law 603 = .ok (.aload_n 1, 1) := by decide +kernel
theorem dL_law_604 : decode cL_law 604 = .ok (.iload 15, 2) := by decide +kernel
theorem dL_law_606 : decode cL_law 606 = .ok (.iconst 2, 1) := by decide +kernel
theorem dL_law_607 : decode cL_law 607 = .ok (.invokestatic 114, 3) := by decide +kernel
theorem dL_law_610 : decode cL_law 610 = .ok (.ladd, 1) := by decide +kernel
theorem dL_law_611 : decode cL_law 611 = .ok (.lstore 18, 2) := by decide +kernel
theorem dL_law_613 : decode cL_law 613 = .ok (.aload_n 1, 1) := by decide +kernel
theorem dL_law_614 : decode cL_law 614 = .ok (.iload 14, 2) := by decide +kernel
theorem dL_law_616 : decode cL_law 616 = .ok (.iload 15, 2) := by decide +kernel
theorem dL_law_618 : decode cL_law 618 = .ok (.iconst 2, 1) := by decide +kernel
theorem dL_law_619 : decode cL_law 619 = .ok (.iload 12, 2) := by decide +kernel
theorem dL_law_621 : decode cL_law 621 = .ok (.bipush 64, 2) := by decide +kernel
theorem dL_law_623 : decode cL_law 623 = .ok (.idiv, 1) := by decide +kernel
theorem dL_law_624 : decode cL_law 624 = .ok (.iconst 5, 1) := by decide +kernel
theorem dL_law_625 : decode cL_law 625 = .ok (.irem, 1) := by decide +kernel
theorem dL_law_626 : decode cL_law 626 = .ok (.iadd, 1) := by decide +kernel
theorem dL_law_627 : decode cL_law 627 = .ok (.invokestatic 171, 3) := by decide +kernel
theorem dL_law_630 : decode cL_law 630 = .ok (.lstore 16, 2) := by decide +kernel
theorem dL_law_632 : decode cL_law 632 = .ok (.lload 16, 2) := by decide +kernel
theorem dL_law_634 : decode cL_law 634 = .ok (.lconst 0, 1) := by decide +kernel
theorem dL_law_635 : decode cL_law 635 = .ok (.lcmp, 1) := by decide +kernel
theorem dL_law_636 : decode cL_law 636 = .ok (.ifCond .lt 70, 3) := by decide +kernel
theorem dL_law_639 : decode cL_law 639 = .ok (.aload_n 1, 1) := by decide +kernel
theorem dL_law_640 : decode cL_law 640 = .ok (.lload 16, 2) := by decide +kernel
theorem dL_law_642 : decode cL_law 642 = .ok (.l2i, 1) := by decide +kernel
theorem dL_law_643 : decode cL_law 643 = .ok (.iconst 2, 1) := by decide +kernel
theorem dL_law_644 : decode cL_law 644 = .ok (.invokestatic 114, 3) := by decide +kernel
theorem dL_law_647 : decode cL_law 647 = .ok (.lload 18, 2) := by decide +kernel
theorem dL_law_649 : decode cL_law 649 = .ok (.ldc2_w 121, 3) := by decide +kernel
theorem dL_law_652 : decode cL_law 652 = .ok (.lsub, 1) := by decide +kernel
theorem dL_law_653 : decode cL_law 653 = .ok (.iload 12, 2) := by decide +kernel
theorem dL_law_655 : decode cL_law 655 = .ok (.bipush 64, 2) := by decide +kernel
theorem dL_law_657 : decode cL_law 657 = .ok (.idiv, 1) := by decide +kernel
theorem dL_law_658 : decode cL_law 658 = .ok (.iconst 5, 1) := by decide +kernel
theorem dL_law_659 : decode cL_law 659 = .ok (.irem, 1) := by decide +kernel
theorem dL_law_660 : decode cL_law 660 = .ok (.i2l, 1) := by decide +kernel
theorem dL_law_661 : decode cL_law 661 = .ok (.lsub, 1) := by decide +kernel
theorem dL_law_662 : decode cL_law 662 = .ok (.lcmp, 1) := by decide +kernel
theorem dL_law_663 : decode cL_law 663 = .ok (.ifCond .ne 47, 3) := by decide +kernel
theorem dL_law_666 : decode cL_law 666 = .ok (.aload_n 1, 1) := by decide +kernel
theorem dL_law_667 : decode cL_law 667 = .ok (.iload 14, 2) := by decide +kernel
theorem dL_law_669 : decode cL_law 669 = .ok (.bipush 7, 2) := by decide +kernel
theorem dL_law_671 : decode cL_law 671 = .ok (.invokestatic 114, 3) := by decide +kernel
theorem dL_law_674 : decode cL_law 674 = .ok (.lconst 1, 1) := by decide +kernel
theorem dL_law_675 : decode cL_law 675 = .ok (.lcmp, 1) := by decide +kernel
theorem dL_law_676 : decode cL_law 676 = .ok (.ifCond .ne 34, 3) := by decide +kernel
theorem dL_law_679 : decode cL_law 679 = .ok (.aload_n 1, 1) := by decide +kernel
theorem dL_law_680 : decode cL_law 680 = .ok (.iload 15, 2) := by decide +kernel
theorem dL_law_682 : decode cL_law 682 = .ok (.bipush 7, 2) := by decide +kernel
theorem dL_law_684 : decode cL_law 684 = .ok (.invokestatic 114, 3) := by decide +kernel
theorem dL_law_687 : decode cL_law 687 = .ok (.lconst 1, 1) := by decide +kernel
theorem dL_law_688 : decode cL_law 688 = .ok (.lcmp, 1) := by decide +kernel
theorem dL_law_689 : decode cL_law 689 = .ok (.ifCond .ne 21, 3) := by decide +kernel
theorem dL_law_692 : decode cL_law 692 = .ok (.aload_n 1, 1) := by decide +kernel
theorem dL_law_693 : decode cL_law 693 = .ok (.lload 16, 2) := by decide +kernel
theorem dL_law_695 : decode cL_law 695 = .ok (.l2i, 1) := by decide +kernel
theorem dL_law_696 : decode cL_law 696 = .ok (.bipush 6, 2) := by decide +kernel
theorem dL_law_698 : decode cL_law 698 = .ok (.invokestatic 114, 3) := by decide +kernel
theorem dL_law_701 : decode cL_law 701 = .ok (.lconst 0, 1) := by decide +kernel
theorem dL_law_702 : decode cL_law 702 = .ok (.lcmp, 1) := by decide +kernel
theorem dL_law_703 : decode cL_law 703 = .ok (.ifCond .ne 7, 3) := by decide +kernel
theorem dL_law_706 : decode cL_law 706 = .ok (.iconst 1, 1) := by decide +kernel
theorem dL_law_707 : decode cL_law 707 = .ok (.goto 4, 3) := by decide +kernel
theorem dL_law_710 : decode cL_law 710 = .ok (.iconst 0, 1) := by decide +kernel
theorem dL_law_711 : decode cL_law 711 = .ok (.istore_n 2, 1) := by decide +kernel
theorem dL_law_712 : decode cL_law 712 = .ok (.lload 16, 2) := by decide +kernel
theorem dL_law_714 : decode cL_law 714 = .ok (.ldc2_w 21, 3) := by decide +kernel
theorem dL_law_717 : decode cL_law 717 = .ok (.lcmp, 1) := by decide +kernel
theorem dL_law_718 : decode cL_law 718 = .ok (.ifCond .ne 9, 3) := by decide +kernel
theorem dL_law_721 : decode cL_law 721 = .ok (.ldc2_w 29, 3) := by decide +kernel
theorem dL_law_724 : decode cL_law 724 = .ok (.goto 5, 3) := by decide +kernel
theorem dL_law_727 : decode cL_law 727 = .ok (.lload 16, 2) := by decide +kernel
theorem dL_law_729 : decode cL_law 729 = .ok (.lstore 16, 2) := by decide +kernel
theorem dL_law_731 : decode cL_law 731 = .ok (.goto 584, 3) := by decide +kernel
theorem dL_law_734 : decode cL_law 734 = .ok (.iload 13, 2) := by decide +kernel
theorem dL_law_736 : decode cL_law 736 = .ok (.bipush 7, 2) := by decide +kernel
theorem dL_law_738 : decode cL_law 738 = .ok (.if_icmp .ne 101, 3) := by decide +kernel
theorem dL_law_741 : decode cL_law 741 = .ok (.aload_n 1, 1) := by decide +kernel
theorem dL_law_742 : decode cL_law 742 = .ok (.iload 14, 2) := by decide +kernel
theorem dL_law_744 : decode cL_law 744 = .ok (.bipush 8, 2) := by decide +kernel
theorem dL_law_746 : decode cL_law 746 = .ok (.invokestatic 114, 3) := by decide +kernel
theorem dL_law_749 : decode cL_law 749 = .ok (.lstore 18, 2) := by decide +kernel
theorem dL_law_751 : decode cL_law 751 = .ok (.iconst 1, 1) := by decide +kernel
theorem dL_law_752 : decode cL_law 752 = .ok (.iload 12, 2) := by decide +kernel
theorem dL_law_754 : decode cL_law 754 = .ok (.sipush 300, 3) := by decide +kernel
theorem dL_law_757 : decode cL_law 757 = .ok (.irem, 1) := by decide +kernel
theorem dL_law_758 : decode cL_law 758 = .ok (.iadd, 1) := by decide +kernel
theorem dL_law_759 : decode cL_law 759 = .ok (.istore 20, 2) := by decide +kernel
theorem dL_law_761 : decode cL_law 761 = .ok (.aload_n 1, 1) := by decide +kernel
theorem dL_law_762 : decode cL_law 762 = .ok (.iload 14, 2) := by decide +kernel
theorem dL_law_764 : decode cL_law 764 = .ok (.iload 20, 2) := by decide +kernel
theorem dL_law_766 : decode cL_law 766 = .ok (.invokestatic 173, 3) := by decide +kernel
theorem dL_law_769 : decode cL_law 769 = .ok (.lstore 21, 2) := by decide +kernel
theorem dL_law_771 : decode cL_law 771 = .ok (.lload 21, 2) := by decide +kernel
theorem dL_law_773 : decode cL_law 773 = .ok (.ldc2_w 29, 3) := by decide +kernel
theorem dL_law_776 : decode cL_law 776 = .ok (.lcmp, 1) := by decide +kernel
theorem dL_law_777 : decode cL_law 777 = .ok (.ifCond .eq 53, 3) := by decide +kernel
theorem dL_law_780 : decode cL_law 780 = .ok (.iload 20, 2) := by decide +kernel
theorem dL_law_782 : decode cL_law 782 = .ok (.i2l, 1) := by decide +kernel
theorem dL_law_783 : decode cL_law 783 = .ok (.lload 18, 2) := by decide +kernel
theorem dL_law_785 : decode cL_law 785 = .ok (.lcmp, 1) := by decide +kernel
theorem dL_law_786 : decode cL_law 786 = .ok (.ifCond .le 30, 3) := by decide +kernel
theorem dL_law_789 : decode cL_law 789 = .ok (.lload 21, 2) := by decide +kernel
theorem dL_law_791 : decode cL_law 791 = .ok (.ldc2_w 206, 3) := by decide +kernel
theorem dL_law_794 : decode cL_law 794 = .ok (.lcmp, 1) := by decide +kernel
theorem dL_law_795 : decode cL_law 795 = .ok (.ifCond .ne 39, 3) := by decide +kernel
theorem dL_law_798 : decode cL_law 798 = .ok (.aload_n 1, 1) := by decide +kernel
theorem dL_law_799 : decode cL_law 799 = .ok (.iload 14, 2) := by decide +kernel
theorem dL_law_801 : decode cL_law 801 = .ok (.bipush 7, 2) := by decide +kernel
theorem dL_law_803 : decode cL_law 803 = .ok (.invokestatic 114, 3) := by decide +kernel
theorem dL_law_806 : decode cL_law 806 = .ok (.ldc2_w 121, 3) := by decide +kernel
theorem dL_law_809 : decode cL_law 809 = .ok (.lcmp, 1) := by decide +kernel
theorem dL_law_810 : decode cL_law 810 = .ok (.ifCond .ne 24, 3) := by decide +kernel
theorem dL_law_813 : decode cL_law 813 = .ok (.goto 17, 3) := by decide +kernel
theorem dL_law_816 : decode cL_law 816 = .ok (.lload 21, 2) := by decide +kernel
theorem dL_law_818 : decode cL_law 818 = .ok (.aload_n 1, 1) := by decide +kernel
theorem dL_law_819 : decode cL_law 819 = .ok (.iload 14, 2) := by decide +kernel
theorem dL_law_821 : decode cL_law 821 = .ok (.bipush 6, 2) := by decide +kernel
theorem dL_law_823 : decode cL_law 823 = .ok (.invokestatic 114, 3) := by decide +kernel
theorem dL_law_826 : decode cL_law 826 = .ok (.lcmp, 1) := by decide +kernel
theorem dL_law_827 : decode cL_law 827 = .ok (.ifCond .ne 7, 3) := by decide +kernel
theorem dL_law_830 : decode cL_law 830 = .ok (.iconst 1, 1) := by decide +kernel
theorem dL_law_831 : decode cL_law 831 = .ok (.goto 4, 3) := by decide +kernel
theorem dL_law_834 : decode cL_law 834 = .ok (.iconst 0, 1) := by decide +kernel
theorem dL_law_835 : decode cL_law 835 = .ok (.istore_n 2, 1) := by decide +kernel
theorem dL_law_836 : decode cL_law 836 = .ok (.goto 479, 3) := by decide +kernel
theorem dL_law_839 : decode cL_law 839 = .ok (.iload 13, 2) := by decide +kernel
theorem dL_law_841 : decode cL_law 841 = .ok (.bipush 8, 2) := by decide +kernel
theorem dL_law_843 : decode cL_law 843 = .ok (.if_icmp .ne 29, 3) := by decide +kernel
theorem dL_law_846 : decode cL_law 846 = .ok (.aload_n 1, 1) := by decide +kernel
theorem dL_law_847 : decode cL_law 847 = .ok (.iconst 1, 1) := by decide +kernel
theorem dL_law_848 : decode cL_law 848 = .ok (.iload 12, 2) := by decide +kernel
theorem dL_law_850 : decode cL_law 850 = .ok (.sipush 300, 3) := by decide +kernel
theorem dL_law_853 : decode cL_law 853 = .ok (.irem, 1) := by decide +kernel
theorem dL_law_854 : decode cL_law 854 = .ok (.iadd, 1) := by decide +kernel
theorem dL_law_855 : decode cL_law 855 = .ok (.invokestatic 175, 3) := by decide +kernel
theorem dL_law_858 : decode cL_law 858 = .ok (.lconst 0, 1) := by decide +kernel
theorem dL_law_859 : decode cL_law 859 = .ok (.lcmp, 1) := by decide +kernel
theorem dL_law_860 : decode cL_law 860 = .ok (.ifCond .lt 7, 3) := by decide +kernel
theorem dL_law_863 : decode cL_law 863 = .ok (.iconst 1, 1) := by decide +kernel
theorem dL_law_864 : decode cL_law 864 = .ok (.goto 4, 3) := by decide +kernel
theorem dL_law_867 : decode cL_law 867 = .ok (.iconst 0, 1) := by decide +kernel
theorem dL_law_868 : decode cL_law 868 = .ok (.istore_n 2, 1) := by decide +kernel
theorem dL_law_869 : decode cL_law 869 = .ok (.goto 446, 3) := by decide +kernel
theorem dL_law_872 : decode cL_law 872 = .ok (.iload 13, 2) := by decide +kernel
theorem dL_law_874 : decode cL_law 874 = .ok (.bipush 9, 2) := by decide +kernel
theorem dL_law_876 : decode cL_law 876 = .ok (.if_icmp .ne 165, 3) := by decide +kernel
theorem dL_law_879 : decode cL_law 879 = .ok (.iconst 1, 1) := by decide +kernel
theorem dL_law_880 : decode cL_law 880 = .ok (.iload 12, 2) := by decide +kernel
theorem dL_law_882 : decode cL_law 882 = .ok (.bipush 64, 2) := by decide +kernel
theorem dL_law_884 : decode cL_law 884 = .ok (.idiv, 1) := by decide +kernel
theorem dL_law_885 : decode cL_law 885 = .ok (.bipush 6, 2) := by decide +kernel
theorem dL_law_887 : decode cL_law 887 = .ok (.irem, 1) := by decide +kernel
theorem dL_law_888 : decode cL_law 888 = .ok (.iadd, 1) := by decide +kernel
theorem dL_law_889 : decode cL_law 889 = .ok (.istore 18, 2) := by decide +kernel
theorem dL_law_891 : decode cL_law 891 = .ok (.aload_n 1, 1) := by decide +kernel
theorem dL_law_892 : decode cL_law 892 = .ok (.iload 14, 2) := by decide +kernel
theorem dL_law_894 : decode cL_law 894 = .ok (.iload 18, 2) := by decide +kernel
theorem dL_law_896 : decode cL_law 896 = .ok (.iload 12, 2) := by decide +kernel
theorem dL_law_898 : decode cL_law 898 = .ok (.sipush 512, 3) := by decide +kernel
theorem dL_law_901 : decode cL_law 901 = .ok (.idiv, 1) := by decide +kernel
theorem dL_law_902 : decode cL_law 902 = .ok (.bipush 51, 2) := by decide +kernel
theorem dL_law_904 : decode cL_law 904 = .ok (.irem, 1) := by decide +kernel
theorem dL_law_905 : decode cL_law 905 = .ok (.invokestatic 177, 3) := by decide +kernel
theorem dL_law_908 : decode cL_law 908 = .ok (.lstore 19, 2) := by decide +kernel
theorem dL_law_910 : decode cL_law 910 = .ok (.lload 19, 2) := by decide +kernel
theorem dL_law_912 : decode cL_law 912 = .ok (.ldc2_w 29, 3) := by decide +kernel
theorem dL_law_915 : decode cL_law 915 = .ok (.lcmp, 1) := by decide +kernel
theorem dL_law_916 : decode cL_law 916 = .ok (.ifCond .eq 25, 3) := by decide +kernel
theorem dL_law_919 : decode cL_law 919 = .ok (.lload 19, 2) := by decide +kernel
theorem dL_law_921 : decode cL_law 921 = .ok (.iload 4, 2) := by decide +kernel
theorem dL_law_923 : decode cL_law 923 = .ok (.i2l, 1) := by decide +kernel
theorem dL_law_924 : decode cL_law 924 = .ok (.lcmp, 1) := by decide +kernel
theorem dL_law_925 : decode cL_law 925 = .ok (.ifCond .ne 20, 3) := by decide +kernel
theorem dL_law_928 : decode cL_law 928 = .ok (.aload_n 1, 1) := by decide +kernel
theorem dL_law_929 : decode cL_law 929 = .ok (.iload 14, 2) := by decide +kernel
theorem dL_law_931 : decode cL_law 931 = .ok (.bipush 7, 2) := by decide +kernel
theorem dL_law_933 : decode cL_law 933 = .ok (.invokestatic 114, 3) := by decide +kernel
theorem dL_law_936 : decode cL_law 936 = .ok (.lconst 0, 1) := by decide +kernel
theorem dL_law_937 : decode cL_law 937 = .ok (.lcmp, 1) := by decide +kernel
theorem dL_law_938 : decode cL_law 938 = .ok (.ifCond .ne 7, 3) := by decide +kernel
theorem dL_law_941 : decode cL_law 941 = .ok (.iconst 1, 1) := by decide +kernel
theorem dL_law_942 : decode cL_law 942 = .ok (.goto 4, 3) := by decide +kernel
theorem dL_law_945 : decode cL_law 945 = .ok (.iconst 0, 1) := by decide +kernel
theorem dL_law_946 : decode cL_law 946 = .ok (.istore_n 2, 1) := by decide +kernel
theorem dL_law_947 : decode cL_law 947 = .ok (.lload 19, 2) := by decide +kernel
theorem dL_law_949 : decode cL_law 949 = .ok (.lconst 0, 1) := by decide +kernel
theorem dL_law_950 : decode cL_law 950 = .ok (.lcmp, 1) := by decide +kernel
theorem dL_law_951 : decode cL_law 951 = .ok (.ifCond .lt 34, 3) := by decide +kernel
theorem dL_law_954 : decode cL_law 954 = .ok (.aload 7, 2) := by decide +kernel
theorem dL_law_956 : decode cL_law 956 = .ok (.iload 4, 2) := by decide +kernel
theorem dL_law_958 : decode cL_law 958 = .ok (.iload 14, 2) := by decide +kernel
theorem dL_law_960 : decode cL_law 960 = .ok (.iastore, 1) := by decide +kernel
theorem dL_law_961 : decode cL_law 961 = .ok (.aload 8, 2) := by decide +kernel
theorem dL_law_963 : decode cL_law 963 = .ok (.iload 4, 2) := by decide +kernel
theorem dL_law_965 : decode cL_law 965 = .ok (.iload 18, 2) := by decide +kernel
theorem dL_law_967 : decode cL_law 967 = .ok (.iastore, 1) := by decide +kernel
theorem dL_law_968 : decode cL_law 968 = .ok (.aload 9, 2) := by decide +kernel
theorem dL_law_970 : decode cL_law 970 = .ok (.iload 4, 2) := by decide +kernel
theorem dL_law_972 : decode cL_law 972 = .ok (.iload 12, 2) := by decide +kernel
theorem dL_law_974 : decode cL_law 974 = .ok (.sipush 512, 3) := by decide +kernel
theorem dL_law_977 : decode cL_law 977 = .ok (.idiv, 1) := by decide +kernel
theorem dL_law_978 : decode cL_law 978 = .ok (.bipush 51, 2) := by decide +kernel
theorem dL_law_980 : decode cL_law 980 = .ok (.irem, 1) := by decide +kernel
theorem dL_law_981 : decode cL_law 981 = .ok (.iastore, 1) := by decide +kernel
theorem dL_law_982 : decode cL_law 982 = .ok (.iinc 4 1, 3) := by decide +kernel
theorem dL_law_985 : decode cL_law 985 = .ok (.iconst 0, 1) := by decide +kernel
theorem dL_law_986 : decode cL_law 986 = .ok (.istore 21, 2) := by decide +kernel
theorem dL_law_988 : decode cL_law 988 = .ok (.iload 21, 2) := by decide +kernel
theorem dL_law_990 : decode cL_law 990 = .ok (.iload 4, 2) := by decide +kernel
theorem dL_law_992 : decode cL_law 992 = .ok (.if_icmp .ge 46, 3) := by decide +kernel
theorem dL_law_995 : decode cL_law 995 = .ok (.iload_n 2, 1) := by decide +kernel
theorem dL_law_996 : decode cL_law 996 = .ok (.ifCond .eq 42, 3) := by decide +kernel
theorem dL_law_999 : decode cL_law 999 = .ok (.aload_n 1, 1) := by decide +kernel
theorem dL_law_1000 : decode cL_law 1000 = .ok (.iload 21, 2) := by decide +kernel
theorem dL_law_1002 : decode cL_law 1002 = .ok (.aload 7, 2) := by decide +kernel
theorem dL_law_1004 : decode cL_law 1004 = .ok (.iload 21, 2) := by decide +kernel
theorem dL_law_1006 : decode cL_law 1006 = .ok (.iaload, 1) := by decide +kernel
theorem dL_law_1007 : decode cL_law 1007 = .ok (.aload 8, 2) := by decide +kernel
theorem dL_law_1009 : decode cL_law 1009 = .ok (.iload 21, 2) := by decide +kernel
theorem dL_law_1011 : decode cL_law 1011 = .ok (.iaload, 1) := by decide +kernel
theorem dL_law_1012 : decode cL_law 1012 = .ok (.aload 9, 2) := by decide +kernel
theorem dL_law_1014 : decode cL_law 1014 = .ok (.iload 21, 2) := by decide +kernel
theorem dL_law_1016 : decode cL_law 1016 = .ok (.iaload, 1) := by decide +kernel
theorem dL_law_1017 : decode cL_law 1017 = .ok (.iconst 1, 1) := by decide +kernel
theorem dL_law_1018 : decode cL_law 1018 = .ok (.iload 12, 2) := by decide +kernel
theorem dL_law_1020 : decode cL_law 1020 = .ok (.bipush 8, 2) := by decide +kernel
theorem dL_law_1022 : decode cL_law 1022 = .ok (.idiv, 1) := by decide +kernel
theorem dL_law_1023 : decode cL_law 1023 = .ok (.sipush 200, 3) := by decide +kernel
theorem dL_law_1026 : decode cL_law 1026 = .ok (.irem, 1) := by decide +kernel
theorem dL_law_1027 : decode cL_law 1027 = .ok (.iadd, 1) := by decide +kernel
theorem dL_law_1028 : decode cL_law 1028 = .ok (.invokestatic 213, 3) := by decide +kernel
theorem dL_law_1031 : decode cL_law 1031 = .ok (.istore_n 2, 1) := by decide +kernel
theorem dL_law_1032 : decode cL_law 1032 = .ok (.iinc 21 1, 3) := by decide +kernel
theorem dL_law_1035 : decode cL_law 1035 = .ok (.goto (-47), 3) := by decide +kernel
theorem dL_law_1038 : decode cL_law 1038 = .ok (.goto 277, 3) := by decide +kernel
theorem dL_law_1041 : decode cL_law 1041 = .ok (.iload 13, 2) := by decide +kernel
theorem dL_law_1043 : decode cL_law 1043 = .ok (.bipush 10, 2) := by decide +kernel
theorem dL_law_1045 : decode cL_law 1045 = .ok (.if_icmp .ne 174, 3) := by decide +kernel
theorem dL_law_1048 : decode cL_law 1048 = .ok (.iload 12, 2) := by decide +kernel
theorem dL_law_1050 : decode cL_law 1050 = .ok (.bipush 6, 2) := by decide +kernel
theorem dL_law_1052 : decode cL_law 1052 = .ok (.irem, 1) := by decide +kernel
theorem dL_law_1053 : decode cL_law 1053 = .ok (.ifCond .ne 41, 3) := by decide +kernel
theorem dL_law_1056 : decode cL_law 1056 = .ok (.iconst 3, 1) := by decide +kernel
theorem dL_law_1057 : decode cL_law 1057 = .ok (.iload 12, 2) := by decide +kernel
theorem dL_law_1059 : decode cL_law 1059 = .ok (.bipush 8, 2) := by decide +kernel
theorem dL_law_1061 : decode cL_law 1061 = .ok (.idiv, 1) := by decide +kernel
theorem dL_law_1062 : decode cL_law 1062 = .ok (.bipush 6, 2) := by decide +kernel
theorem dL_law_1064 : decode cL_law 1064 = .ok (.irem, 1) := by decide +kernel
theorem dL_law_1065 : decode cL_law 1065 = .ok (.iadd, 1) := by decide +kernel
theorem dL_law_1066 : decode cL_law 1066 = .ok (.istore 18, 2) := by decide +kernel
theorem dL_law_1068 : decode cL_law 1068 = .ok (.aload_n 1, 1) := by decide +kernel
theorem dL_law_1069 : decode cL_law 1069 = .ok (.iload 18, 2) := by decide +kernel
theorem dL_law_1071 : decode cL_law 1071 = .ok (.invokestatic 183, 3) := by decide +kernel
theorem dL_law_1074 : decode cL_law 1074 = .ok (.iload 6, 2) := by decide +kernel
theorem dL_law_1076 : decode cL_law 1076 = .ok (.i2l, 1) := by decide +kernel
theorem dL_law_1077 : decode cL_law 1077 = .ok (.lcmp, 1) := by decide +kernel
theorem dL_law_1078 : decode cL_law 1078 = .ok (.ifCond .ne 7, 3) := by decide +kernel
theorem dL_law_1081 : decode cL_law 1081 = .ok (.iconst 1, 1) := by decide +kernel
theorem dL_law_1082 : decode cL_law 1082 = .ok (.goto 4, 3) := by decide +kernel
theorem dL_law_1085 : decode cL_law 1085 = .ok (.iconst 0, 1) := by decide +kernel
theorem dL_law_1086 : decode cL_law 1086 = .ok (.istore_n 2, 1) := by decide +kernel
theorem dL_law_1087 : decode cL_law 1087 = .ok (.iload 18, 2) := by decide +kernel
theorem dL_law_1089 : decode cL_law 1089 = .ok (.istore 5, 2) := by decide +kernel
theorem dL_law_1091 : decode cL_law 1091 = .ok (.iconst 0, 1) := by decide +kernel
theorem dL_law_1092 : decode cL_law 1092 = .ok (.istore 6, 2) := by decide +kernel
theorem dL_law_1094 : decode cL_law 1094 = .ok (.iconst 0, 1) := by decide +kernel
theorem dL_law_1095 : decode cL_law 1095 = .ok (.istore 18, 2) := by decide +kernel
theorem dL_law_1097 : decode cL_law 1097 = .ok (.iload 18, 2) := by decide +kernel
theorem dL_law_1099 : decode cL_law 1099 = .ok (.iconst 5, 1) := by decide +kernel
theorem dL_law_1100 : decode cL_law 1100 = .ok (.if_icmp .ge 97, 3) := by decide +kernel
theorem dL_law_1103 : decode cL_law 1103 = .ok (.iload_n 2, 1) := by decide +kernel
theorem dL_law_1104 : decode cL_law 1104 = .ok (.ifCond .eq 93, 3) := by decide +kernel
theorem dL_law_1107 : decode cL_law 1107 = .ok (.aload_n 1, 1) := by decide +kernel
theorem dL_law_1108 : decode cL_law 1108 = .ok (.iload 12, 2) := by decide +kernel
theorem dL_law_1110 : decode cL_law 1110 = .ok (.iconst 1, 1) := by decide +kernel
theorem dL_law_1111 : decode cL_law 1111 = .ok (.iconst 3, 1) := by decide +kernel
theorem dL_law_1112 : decode cL_law 1112 = .ok (.iload 18, 2) := by decide +kernel
theorem dL_law_1114 : decode cL_law 1114 = .ok (.imul, 1) := by decide +kernel
theorem dL_law_1115 : decode cL_law 1115 = .ok (.iadd, 1) := by decide +kernel
theorem dL_law_1116 : decode cL_law 1116 = .ok (.idiv, 1) := by decide +kernel
theorem dL_law_1117 : decode cL_law 1117 = .ok (.iload 5, 2) := by decide +kernel
theorem dL_law_1119 : decode cL_law 1119 = .ok (.iconst 1, 1) := by decide +kernel
theorem dL_law_1120 : decode cL_law 1120 = .ok (.isub, 1) := by decide +kernel
theorem dL_law_1121 : decode cL_law 1121 = .ok (.irem, 1) := by decide +kernel
theorem dL_law_1122 : decode cL_law 1122 = .ok (.iload 12, 2) := by decide +kernel
theorem dL_law_1124 : decode cL_law 1124 = .ok (.iconst 2, 1) := by decide +kernel
theorem dL_law_1125 : decode cL_law 1125 = .ok (.iload 18, 2) := by decide +kernel
theorem dL_law_1127 : decode cL_law 1127 = .ok (.iadd, 1) := by decide +kernel
theorem dL_law_1128 : decode cL_law 1128 = .ok (.idiv, 1) := by decide +kernel
theorem dL_law_1129 : decode cL_law 1129 = .ok (.iconst 2, 1) := by decide +kernel
theorem dL_law_1130 : decode cL_law 1130 = .ok (.irem, 1) := by decide +kernel
theorem dL_law_1131 : decode cL_law 1131 = .ok (.ifCond .ne 7, 3) := by decide +kernel
theorem dL_law_1134 : decode cL_law 1134 = .ok (.iconst 1, 1) := by decide +kernel
theorem dL_law_1135 : decode cL_law 1135 = .ok (.goto 4, 3) := by decide +kernel
theorem dL_law_1138 : decode cL_law 1138 = .ok (.iconst 0, 1) := by decide +kernel
theorem dL_law_1139 : decode cL_law 1139 = .ok (.invokestatic 185, 3) := by decide +kernel
theorem dL_law_1142 : decode cL_law 1142 = .ok (.lstore 19, 2) := by decide +kernel
theorem dL_law_1144 : decode cL_law 1144 = .ok (.lload 19, 2) := by decide +kernel
theorem dL_law_1146 : decode cL_law 1146 = .ok (.iload 6, 2) := by decide +kernel
theorem dL_law_1148 : decode cL_law 1148 = .ok (.bipush 60, 2) := by decide +kernel
theorem dL_law_1150 : decode cL_law 1150 = .ok (.if_icmp .ne 9, 3) := by decide +kernel
theorem dL_law_1153 : decode cL_law 1153 = .ok (.ldc2_w 29, 3) := by decide +kernel
theorem dL_law_1156 : decode cL_law 1156 = .ok (.goto 8, 3) := by decide +kernel
theorem dL_law_1159 : decode cL_law 1159 = .ok (.iload 6, 2) := by decide +kernel
theorem dL_law_1161 : decode cL_law 1161 = .ok (.iconst 1, 1) := by decide +kernel
theorem dL_law_1162 : decode cL_law 1162 = .ok (.iadd, 1) := by decide +kernel
theorem dL_law_1163 : decode cL_law 1163 = .ok (.i2l, 1) := by decide +kernel
theorem dL_law_1164 : decode cL_law 1164 = .ok (.lcmp, 1) := by decide +kernel
theorem dL_law_1165 : decode cL_law 1165 = .ok (.ifCond .ne 7, 3) := by decide +kernel
theorem dL_law_1168 : decode cL_law 1168 = .ok (.iconst 1, 1) := by decide +kernel
theorem dL_law_1169 : decode cL_law 1169 = .ok (.goto 4, 3) := by decide +kernel
theorem dL_law_1172 : decode cL_law 1172 = .ok (.iconst 0, 1) := by decide +kernel
theorem dL_law_1173 : decode cL_law 1173 = .ok (.istore_n 2, 1) := by decide +kernel
theorem dL_law_1174 : decode cL_law 1174 = .ok (.iload 6, 2) := by decide +kernel
theorem dL_law_1176 : decode cL_law 1176 = .ok (.lload 19, 2) := by decide +kernel
theorem dL_law_1178 : decode cL_law 1178 = .ok (.lconst 0, 1) := by decide +kernel
theorem dL_law_1179 : decode cL_law 1179 = .ok (.lcmp, 1) := by decide +kernel
theorem dL_law_1180 : decode cL_law 1180 = .ok (.ifCond .lt 7, 3) := by decide +kernel
theorem dL_law_1183 : decode cL_law 1183 = .ok (.iconst 1, 1) := by decide +kernel
theorem dL_law_1184 : decode cL_law 1184 = .ok (.goto 4, 3) := by decide +kernel
theorem dL_law_1187 : decode cL_law 1187 = .ok (.iconst 0, 1) := by decide +kernel
theorem dL_law_1188 : decode cL_law 1188 = .ok (.iadd, 1) := by decide +kernel
theorem dL_law_1189 : decode cL_law 1189 = .ok (.istore 6, 2) := by decide +kernel
theorem dL_law_1191 : decode cL_law 1191 = .ok (.iinc 18 1, 3) := by decide +kernel
theorem dL_law_1194 : decode cL_law 1194 = .ok (.goto (-97), 3) := by decide +kernel
theorem dL_law_1197 : decode cL_law 1197 = .ok (.iload_n 2, 1) := by decide +kernel
theorem dL_law_1198 : decode cL_law 1198 = .ok (.ifCond .eq 16, 3) := by decide +kernel
theorem dL_law_1201 : decode cL_law 1201 = .ok (.aload_n 1, 1) := by decide +kernel
theorem dL_law_1202 : decode cL_law 1202 = .ok (.iload 5, 2) := by decide +kernel
theorem dL_law_1204 : decode cL_law 1204 = .ok (.invokestatic 217, 3) := by decide +kernel
theorem dL_law_1207 : decode cL_law 1207 = .ok (.ifCond .eq 7, 3) := by decide +kernel
theorem dL_law_1210 : decode cL_law 1210 = .ok (.iconst 1, 1) := by decide +kernel
theorem dL_law_1211 : decode cL_law 1211 = .ok (.goto 4, 3) := by decide +kernel
theorem dL_law_1214 : decode cL_law 1214 = .ok (.iconst 0, 1) := by decide +kernel
theorem dL_law_1215 : decode cL_law 1215 = .ok (.istore_n 2, 1) := by decide +kernel
theorem dL_law_1216 : decode cL_law 1216 = .ok (.goto 99, 3) := by decide +kernel
theorem dL_law_1219 : decode cL_law 1219 = .ok (.iload 13, 2) := by decide +kernel
theorem dL_law_1221 : decode cL_law 1221 = .ok (.bipush 11, 2) := by decide +kernel
theorem dL_law_1223 : decode cL_law 1223 = .ok (.if_icmp .ne 79, 3) := by decide +kernel
theorem dL_law_1226 : decode cL_law 1226 = .ok (.aload_n 1, 1) := by decide +kernel
theorem dL_law_1227 : decode cL_law 1227 = .ok (.iconst 0, 1) := by decide +kernel
theorem dL_law_1228 : decode cL_law 1228 = .ok (.iload 12, 2) := by decide +kernel
theorem dL_law_1230 : decode cL_law 1230 = .ok (.iconst 5, 1) := by decide +kernel
theorem dL_law_1231 : decode cL_law 1231 = .ok (.irem, 1) := by decide +kernel
theorem dL_law_1232 : decode cL_law 1232 = .ok (.iload 12, 2) := by decide +kernel
theorem dL_law_1234 : decode cL_law 1234 = .ok (.bipush 8, 2) := by decide +kernel
theorem dL_law_1236 : decode cL_law 1236 = .ok (.idiv, 1) := by decide +kernel
theorem dL_law_1237 : decode cL_law 1237 = .ok (.iconst 5, 1) := by decide +kernel
theorem dL_law_1238 : decode cL_law 1238 = .ok (.irem, 1) := by decide +kernel
theorem dL_law_1239 : decode cL_law 1239 = .ok (.iload 12, 2) := by decide +kernel
theorem dL_law_1241 : decode cL_law 1241 = .ok (.iconst 5, 1) := by decide +kernel
theorem dL_law_1242 : decode cL_law 1242 = .ok (.irem, 1) := by decide +kernel
theorem dL_law_1243 : decode cL_law 1243 = .ok (.iload 12, 2) := by decide +kernel
theorem dL_law_1245 : decode cL_law 1245 = .ok (.bipush 64, 2) := by decide +kernel
theorem dL_law_1247 : decode cL_law 1247 = .ok (.idiv, 1) := by decide +kernel
theorem dL_law_1248 : decode cL_law 1248 = .ok (.iconst 4, 1) := by decide +kernel
theorem dL_law_1249 : decode cL_law 1249 = .ok (.irem, 1) := by decide +kernel
theorem dL_law_1250 : decode cL_law 1250 = .ok (.iadd, 1) := by decide +kernel
theorem dL_law_1251 : decode cL_law 1251 = .ok (.iload 12, 2) := by decide +kernel
theorem dL_law_1253 : decode cL_law 1253 = .ok (.bipush 8, 2) := by decide +kernel
theorem dL_law_1255 : decode cL_law 1255 = .ok (.idiv, 1) := by decide +kernel
theorem dL_law_1256 : decode cL_law 1256 = .ok (.iconst 5, 1) := by decide +kernel
theorem dL_law_1257 : decode cL_law 1257 = .ok (.irem, 1) := by decide +kernel
theorem dL_law_1258 : decode cL_law 1258 = .ok (.iload 12, 2) := by decide +kernel
theorem dL_law_1260 : decode cL_law 1260 = .ok (.sipush 512, 3) := by decide +kernel
theorem dL_law_1263 : decode cL_law 1263 = .ok (.idiv, 1) := by decide +kernel
theorem dL_law_1264 : decode cL_law 1264 = .ok (.iconst 4, 1) := by decide +kernel
theorem dL_law_1265 : decode cL_law 1265 = .ok (.irem, 1) := by decide +kernel
theorem dL_law_1266 : decode cL_law 1266 = .ok (.iadd, 1) := by decide +kernel
theorem dL_law_1267 : decode cL_law 1267 = .ok (.invokestatic 193, 3) := by decide +kernel
theorem dL_law_1270 : decode cL_law 1270 = .ok (.lconst 0, 1) := by decide +kernel
theorem dL_law_1271 : decode cL_law 1271 = .ok (.lcmp, 1) := by decide +kernel
theorem dL_law_1272 : decode cL_law 1272 = .ok (.ifCond .lt 25, 3) := by decide +kernel
theorem dL_law_1275 : decode cL_law 1275 = .ok (.aload_n 1, 1) := by decide +kernel
theorem dL_law_1276 : decode cL_law 1276 = .ok (.iconst 0, 1) := by decide +kernel
theorem dL_law_1277 : decode cL_law 1277 = .ok (.iload 11, 2) := by decide +kernel
theorem dL_law_1279 : decode cL_law 1279 = .ok (.bipush 16, 2) := by decide +kernel
theorem dL_law_1281 : decode cL_law 1281 = .ok (.idiv, 1) := by decide +kernel
theorem dL_law_1282 : decode cL_law 1282 = .ok (.iload 12, 2) := by decide +kernel
theorem dL_law_1284 : decode cL_law 1284 = .ok (.bipush 32, 2) := by decide +kernel
theorem dL_law_1286 : decode cL_law 1286 = .ok (.idiv, 1) := by decide +kernel
theorem dL_law_1287 : decode cL_law 1287 = .ok (.invokestatic 221, 3) := by decide +kernel
theorem dL_law_1290 : decode cL_law 1290 = .ok (.ifCond .eq 7, 3) := by decide +kernel
theorem dL_law_1293 : decode cL_law 1293 = .ok (.iconst 1, 1) := by decide +kernel
theorem dL_law_1294 : decode cL_law 1294 = .ok (.goto 4, 3) := by decide +kernel
theorem dL_law_1297 : decode cL_law 1297 = .ok (.iconst 0, 1) := by decide +kernel
theorem dL_law_1298 : decode cL_law 1298 = .ok (.istore_n 2, 1) := by decide +kernel
theorem dL_law_1299 : decode cL_law 1299 = .ok (.goto 16, 3) := by decide +kernel
theorem dL_law_1302 : decode cL_law 1302 = .ok (.aload_n 1, 1) := by decide +kernel
theorem dL_law_1303 : decode cL_law 1303 = .ok (.iconst 0, 1) := by decide +kernel
theorem dL_law_1304 : decode cL_law 1304 = .ok (.iload 11, 2) := by decide +kernel
theorem dL_law_1306 : decode cL_law 1306 = .ok (.bipush 16, 2) := by decide +kernel
theorem dL_law_1308 : decode cL_law 1308 = .ok (.idiv, 1) := by decide +kernel
theorem dL_law_1309 : decode cL_law 1309 = .ok (.iload 12, 2) := by decide +kernel
theorem dL_law_1311 : decode cL_law 1311 = .ok (.invokestatic 221, 3) := by decide +kernel
theorem dL_law_1314 : decode cL_law 1314 = .ok (.istore_n 2, 1) := by decide +kernel
theorem dL_law_1315 : decode cL_law 1315 = .ok (.iload_n 3, 1) := by decide +kernel
theorem dL_law_1316 : decode cL_law 1316 = .ok (.lload 16, 2) := by decide +kernel
theorem dL_law_1318 : decode cL_law 1318 = .ok (.lconst 0, 1) := by decide +kernel
theorem dL_law_1319 : decode cL_law 1319 = .ok (.lcmp, 1) := by decide +kernel
theorem dL_law_1320 : decode cL_law 1320 = .ok (.ifCond .lt 7, 3) := by decide +kernel
theorem dL_law_1323 : decode cL_law 1323 = .ok (.iconst 1, 1) := by decide +kernel
theorem dL_law_1324 : decode cL_law 1324 = .ok (.goto 4, 3) := by decide +kernel
theorem dL_law_1327 : decode cL_law 1327 = .ok (.iconst 0, 1) := by decide +kernel
theorem dL_law_1328 : decode cL_law 1328 = .ok (.iadd, 1) := by decide +kernel
theorem dL_law_1329 : decode cL_law 1329 = .ok (.istore_n 3, 1) := by decide +kernel
theorem dL_law_1330 : decode cL_law 1330 = .ok (.iload 10, 2) := by decide +kernel
theorem dL_law_1332 : decode cL_law 1332 = .ok (.bipush 10, 2) := by decide +kernel
theorem dL_law_1334 : decode cL_law 1334 = .ok (.irem, 1) := by decide +kernel
theorem dL_law_1335 : decode cL_law 1335 = .ok (.bipush 9, 2) := by decide +kernel
theorem dL_law_1337 : decode cL_law 1337 = .ok (.if_icmp .ne 21, 3) := by decide +kernel
theorem dL_law_1340 : decode cL_law 1340 = .ok (.iload_n 2, 1) := by decide +kernel
theorem dL_law_1341 : decode cL_law 1341 = .ok (.ifCond .eq 15, 3) := by decide +kernel
theorem dL_law_1344 : decode cL_law 1344 = .ok (.aload_n 1, 1) := by decide +kernel
theorem dL_law_1345 : decode cL_law 1345 = .ok (.iload_n 3, 1) := by decide +kernel
theorem dL_law_1346 : decode cL_law 1346 = .ok (.invokestatic 225, 3) := by decide +kernel
theorem dL_law_1349 : decode cL_law 1349 = .ok (.ifCond .eq 7, 3) := by decide +kernel
theorem dL_law_1352 : decode cL_law 1352 = .ok (.iconst 1, 1) := by decide +kernel
theorem dL_law_1353 : decode cL_law 1353 = .ok (.goto 4, 3) := by decide +kernel
theorem dL_law_1356 : decode cL_law 1356 = .ok (.iconst 0, 1) := by decide +kernel
theorem dL_law_1357 : decode cL_law 1357 = .ok (.istore_n 2, 1) := by decide +kernel
theorem dL_law_1358 : decode cL_law 1358 = .ok (.iload 10, 2) := by decide +kernel
theorem dL_law_1360 : decode cL_law 1360 = .ok (.bipush 25, 2) := by decide +kernel
theorem dL_law_1362 : decode cL_law 1362 = .ok (.irem, 1) := by decide +kernel
theorem dL_law_1363 : decode cL_law 1363 = .ok (.bipush 24, 2) := by decide +kernel
theorem dL_law_1365 : decode cL_law 1365 = .ok (.if_icmp .ne 20, 3) := by decide +kernel
theorem dL_law_1368 : decode cL_law 1368 = .ok (.iload_n 2, 1) := by decide +kernel
theorem dL_law_1369 : decode cL_law 1369 = .ok (.ifCond .eq 14, 3) := by decide +kernel
theorem dL_law_1372 : decode cL_law 1372 = .ok (.aload_n 1, 1) := by decide +kernel
theorem dL_law_1373 : decode cL_law 1373 = .ok (.invokestatic 228, 3) := by decide +kernel
theorem dL_law_1376 : decode cL_law 1376 = .ok (.ifCond .eq 7, 3) := by decide +kernel
theorem dL_law_1379 : decode cL_law 1379 = .ok (.iconst 1, 1) := by decide +kernel
theorem dL_law_1380 : decode cL_law 1380 = .ok (.goto 4, 3) := by decide +kernel
theorem dL_law_1383 : decode cL_law 1383 = .ok (.iconst 0, 1) := by decide +kernel
theorem dL_law_1384 : decode cL_law 1384 = .ok (.istore_n 2, 1) := by decide +kernel
theorem dL_law_1385 : decode cL_law 1385 = .ok (.iinc 10 1, 3) := by decide +kernel
theorem dL_law_1388 : decode cL_law 1388 = .ok (.goto (-1329), 3) := by decide +kernel
theorem dL_law_1391 : decode cL_law 1391 = .ok (.iload_n 2, 1) := by decide +kernel
theorem dL_law_1392 : decode cL_law 1392 = .ok (.ireturn, 1) := by decide +kernel
