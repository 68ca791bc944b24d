-- Md_add
theorem d_Md_add_0 : decode b_Md_add 0 = .ok (.aload_n 0, 1) := by decide +kernel
theorem d_Md_add_1 : decode b_Md_add 1 = .ok (.getfield 55, 3) := by decide +kernel
theorem d_Md_add_4 : decode b_Md_add 4 = .ok (.ifCond .ne 35, 3) := by decide +kernel
theorem d_Md_add_7 : decode b_Md_add 7 = .ok (.aload_n 0, 1) := by decide +kernel
theorem d_Md_add_8 : decode b_Md_add 8 = .ok (.getfield 70, 3) := by decide +kernel
theorem d_Md_add_11 : decode b_Md_add 11 = .ok (.ifCond .ne 28, 3) := by decide +kernel
theorem d_Md_add_14 : decode b_Md_add 14 = .ok (.aload_n 0, 1) := by decide +kernel
theorem d_Md_add_15 : decode b_Md_add 15 = .ok (.getfield 58, 3) := by decide +kernel
theorem d_Md_add_18 : decode b_Md_add 18 = .ok (.ifCond .eq 26, 3) := by decide +kernel
theorem d_Md_add_21 : decode b_Md_add 21 = .ok (.aload_n 0, 1) := by decide +kernel
theorem d_Md_add_22 : decode b_Md_add 22 = .ok (.getfield 73, 3) := by decide +kernel
theorem d_Md_add_25 : decode b_Md_add 25 = .ok (.ifCond .eq 19, 3) := by decide +kernel
theorem d_Md_add_28 : decode b_Md_add 28 = .ok (.aload_n 0, 1) := by decide +kernel
theorem d_Md_add_29 : decode b_Md_add 29 = .ok (.getfield 51, 3) := by decide +kernel
theorem d_Md_add_32 : decode b_Md_add 32 = .ok (.aload_n 0, 1) := by decide +kernel
theorem d_Md_add_33 : decode b_Md_add 33 = .ok (.getfield 67, 3) := by decide +kernel
theorem d_Md_add_36 : decode b_Md_add 36 = .ok (.if_icmp .eq 8, 3) := by decide +kernel
theorem d_Md_add_39 : decode b_Md_add 39 = .ok (.iload_n 1, 1) := by decide +kernel
theorem d_Md_add_40 : decode b_Md_add 40 = .ok (.invokestatic 89, 3) := by decide +kernel
theorem d_Md_add_43 : decode b_Md_add 43 = .ok (.lreturn, 1) := by decide +kernel
theorem d_Md_add_44 : decode b_Md_add 44 = .ok (.aload_n 0, 1) := by decide +kernel
theorem d_Md_add_45 : decode b_Md_add 45 = .ok (.getfield 58, 3) := by decide +kernel
theorem d_Md_add_48 : decode b_Md_add 48 = .ok (.ifCond .eq 12, 3) := by decide +kernel
theorem d_Md_add_51 : decode b_Md_add 51 = .ok (.aload_n 0, 1) := by decide +kernel
theorem d_Md_add_52 : decode b_Md_add 52 = .ok (.getfield 51, 3) := by decide +kernel
theorem d_Md_add_55 : decode b_Md_add 55 = .ok (.iload_n 1, 1) := by decide +kernel
theorem d_Md_add_56 : decode b_Md_add 56 = .ok (.invokestatic 86, 3) := by decide +kernel
theorem d_Md_add_59 : decode b_Md_add 59 = .ok (.lreturn, 1) := by decide +kernel
theorem d_Md_add_60 : decode b_Md_add 60 = .ok (.aload_n 0, 1) := by decide +kernel
theorem d_Md_add_61 : decode b_Md_add 61 = .ok (.getfield 73, 3) := by decide +kernel
theorem d_Md_add_64 : decode b_Md_add 64 = .ok (.ifCond .eq 12, 3) := by decide +kernel
theorem d_Md_add_67 : decode b_Md_add 67 = .ok (.aload_n 0, 1) := by decide +kernel
theorem d_Md_add_68 : decode b_Md_add 68 = .ok (.getfield 67, 3) := by decide +kernel
theorem d_Md_add_71 : decode b_Md_add 71 = .ok (.iload_n 1, 1) := by decide +kernel
theorem d_Md_add_72 : decode b_Md_add 72 = .ok (.invokestatic 86, 3) := by decide +kernel
theorem d_Md_add_75 : decode b_Md_add 75 = .ok (.lreturn, 1) := by decide +kernel
theorem d_Md_add_76 : decode b_Md_add 76 = .ok (.aload_n 0, 1) := by decide +kernel
theorem d_Md_add_77 : decode b_Md_add 77 = .ok (.getfield 44, 3) := by decide +kernel
theorem d_Md_add_80 : decode b_Md_add 80 = .ok (.lconst 0, 1) := by decide +kernel
theorem d_Md_add_81 : decode b_Md_add 81 = .ok (.lcmp, 1) := by decide +kernel
theorem d_Md_add_82 : decode b_Md_add 82 = .ok (.ifCond .ne 36, 3) := by decide +kernel
theorem d_Md_add_85 : decode b_Md_add 85 = .ok (.aload_n 0, 1) := by decide +kernel
theorem d_Md_add_86 : decode b_Md_add 86 = .ok (.getfield 61, 3) := by decide +kernel
theorem d_Md_add_89 : decode b_Md_add 89 = .ok (.lconst 0, 1) := by decide +kernel
theorem d_Md_add_90 : decode b_Md_add 90 = .ok (.lcmp, 1) := by decide +kernel
theorem d_Md_add_91 : decode b_Md_add 91 = .ok (.ifCond .ne 27, 3) := by decide +kernel
theorem d_Md_add_94 : decode b_Md_add 94 = .ok (.aload_n 0, 1) := by decide +kernel
theorem d_Md_add_95 : decode b_Md_add 95 = .ok (.getfield 51, 3) := by decide +kernel
theorem d_Md_add_98 : decode b_Md_add 98 = .ok (.ifCond .eq 14, 3) := by decide +kernel
theorem d_Md_add_101 : decode b_Md_add 101 = .ok (.aload_n 0, 1) := by decide +kernel
theorem d_Md_add_102 : decode b_Md_add 102 = .ok (.getfield 67, 3) := by decide +kernel
theorem d_Md_add_105 : decode b_Md_add 105 = .ok (.ifCond .eq 7, 3) := by decide +kernel
theorem d_Md_add_108 : decode b_Md_add 108 = .ok (.iconst 1, 1) := by decide +kernel
theorem d_Md_add_109 : decode b_Md_add 109 = .ok (.goto 4, 3) := by decide +kernel
theorem d_Md_add_112 : decode b_Md_add 112 = .ok (.iconst 0, 1) := by decide +kernel
theorem d_Md_add_113 : decode b_Md_add 113 = .ok (.iload_n 1, 1) := by decide +kernel
theorem d_Md_add_114 : decode b_Md_add 114 = .ok (.invokestatic 32, 3) := by decide +kernel
theorem d_Md_add_117 : decode b_Md_add 117 = .ok (.lreturn, 1) := by decide +kernel
theorem d_Md_add_118 : decode b_Md_add 118 = .ok (.aload_n 0, 1) := by decide +kernel
theorem d_Md_add_119 : decode b_Md_add 119 = .ok (.getfield 44, 3) := by decide +kernel
theorem d_Md_add_122 : decode b_Md_add 122 = .ok (.lconst 0, 1) := by decide +kernel
theorem d_Md_add_123 : decode b_Md_add 123 = .ok (.lcmp, 1) := by decide +kernel
theorem d_Md_add_124 : decode b_Md_add 124 = .ok (.ifCond .ne 21, 3) := by decide +kernel
theorem d_Md_add_127 : decode b_Md_add 127 = .ok (.aload_n 0, 1) := by decide +kernel
theorem d_Md_add_128 : decode b_Md_add 128 = .ok (.getfield 67, 3) := by decide +kernel
theorem d_Md_add_131 : decode b_Md_add 131 = .ok (.aload_n 0, 1) := by decide +kernel
theorem d_Md_add_132 : decode b_Md_add 132 = .ok (.getfield 61, 3) := by decide +kernel
theorem d_Md_add_135 : decode b_Md_add 135 = .ok (.aload_n 0, 1) := by decide +kernel
theorem d_Md_add_136 : decode b_Md_add 136 = .ok (.getfield 64, 3) := by decide +kernel
theorem d_Md_add_139 : decode b_Md_add 139 = .ok (.iconst 0, 1) := by decide +kernel
theorem d_Md_add_140 : decode b_Md_add 140 = .ok (.iload_n 1, 1) := by decide +kernel
theorem d_Md_add_141 : decode b_Md_add 141 = .ok (.invokestatic 93, 3) := by decide +kernel
theorem d_Md_add_144 : decode b_Md_add 144 = .ok (.lreturn, 1) := by decide +kernel
theorem d_Md_add_145 : decode b_Md_add 145 = .ok (.aload_n 0, 1) := by decide +kernel
theorem d_Md_add_146 : decode b_Md_add 146 = .ok (.getfield 61, 3) := by decide +kernel
theorem d_Md_add_149 : decode b_Md_add 149 = .ok (.lconst 0, 1) := by decide +kernel
theorem d_Md_add_150 : decode b_Md_add 150 = .ok (.lcmp, 1) := by decide +kernel
theorem d_Md_add_151 : decode b_Md_add 151 = .ok (.ifCond .ne 21, 3) := by decide +kernel
theorem d_Md_add_154 : decode b_Md_add 154 = .ok (.aload_n 0, 1) := by decide +kernel
theorem d_Md_add_155 : decode b_Md_add 155 = .ok (.getfield 51, 3) := by decide +kernel
theorem d_Md_add_158 : decode b_Md_add 158 = .ok (.aload_n 0, 1) := by decide +kernel
theorem d_Md_add_159 : decode b_Md_add 159 = .ok (.getfield 44, 3) := by decide +kernel
theorem d_Md_add_162 : decode b_Md_add 162 = .ok (.aload_n 0, 1) := by decide +kernel
theorem d_Md_add_163 : decode b_Md_add 163 = .ok (.getfield 48, 3) := by decide +kernel
theorem d_Md_add_166 : decode b_Md_add 166 = .ok (.iconst 0, 1) := by decide +kernel
theorem d_Md_add_167 : decode b_Md_add 167 = .ok (.iload_n 1, 1) := by decide +kernel
theorem d_Md_add_168 : decode b_Md_add 168 = .ok (.invokestatic 93, 3) := by decide +kernel
theorem d_Md_add_171 : decode b_Md_add 171 = .ok (.lreturn, 1) := by decide +kernel
theorem d_Md_add_172 : decode b_Md_add 172 = .ok (.bipush 61, 2) := by decide +kernel
theorem d_Md_add_174 : decode b_Md_add 174 = .ok (.aload_n 0, 1) := by decide +kernel
theorem d_Md_add_175 : decode b_Md_add 175 = .ok (.getfield 44, 3) := by decide +kernel
theorem d_Md_add_178 : decode b_Md_add 178 = .ok (.invokestatic 76, 3) := by decide +kernel
theorem d_Md_add_181 : decode b_Md_add 181 = .ok (.isub, 1) := by decide +kernel
theorem d_Md_add_182 : decode b_Md_add 182 = .ok (.istore_n 2, 1) := by decide +kernel
theorem d_Md_add_183 : decode b_Md_add 183 = .ok (.bipush 61, 2) := by decide +kernel
theorem d_Md_add_185 : decode b_Md_add 185 = .ok (.aload_n 0, 1) := by decide +kernel
theorem d_Md_add_186 : decode b_Md_add 186 = .ok (.getfield 61, 3) := by decide +kernel
theorem d_Md_add_189 : decode b_Md_add 189 = .ok (.invokestatic 76, 3) := by decide +kernel
theorem d_Md_add_192 : decode b_Md_add 192 = .ok (.isub, 1) := by decide +kernel
theorem d_Md_add_193 : decode b_Md_add 193 = .ok (.istore_n 3, 1) := by decide +kernel
theorem d_Md_add_194 : decode b_Md_add 194 = .ok (.aload_n 0, 1) := by decide +kernel
theorem d_Md_add_195 : decode b_Md_add 195 = .ok (.getfield 44, 3) := by decide +kernel
theorem d_Md_add_198 : decode b_Md_add 198 = .ok (.iload_n 2, 1) := by decide +kernel
theorem d_Md_add_199 : decode b_Md_add 199 = .ok (.lshl, 1) := by decide +kernel
theorem d_Md_add_200 : decode b_Md_add 200 = .ok (.lstore 4, 2) := by decide +kernel
theorem d_Md_add_202 : decode b_Md_add 202 = .ok (.aload_n 0, 1) := by decide +kernel
theorem d_Md_add_203 : decode b_Md_add 203 = .ok (.getfield 61, 3) := by decide +kernel
theorem d_Md_add_206 : decode b_Md_add 206 = .ok (.iload_n 3, 1) := by decide +kernel
theorem d_Md_add_207 : decode b_Md_add 207 = .ok (.lshl, 1) := by decide +kernel
theorem d_Md_add_208 : decode b_Md_add 208 = .ok (.lstore 6, 2) := by decide +kernel
theorem d_Md_add_210 : decode b_Md_add 210 = .ok (.aload_n 0, 1) := by decide +kernel
theorem d_Md_add_211 : decode b_Md_add 211 = .ok (.getfield 48, 3) := by decide +kernel
theorem d_Md_add_214 : decode b_Md_add 214 = .ok (.iload_n 2, 1) := by decide +kernel
theorem d_Md_add_215 : decode b_Md_add 215 = .ok (.isub, 1) := by decide +kernel
theorem d_Md_add_216 : decode b_Md_add 216 = .ok (.istore 8, 2) := by decide +kernel
theorem d_Md_add_218 : decode b_Md_add 218 = .ok (.aload_n 0, 1) := by decide +kernel
theorem d_Md_add_219 : decode b_Md_add 219 = .ok (.getfield 64, 3) := by decide +kernel
theorem d_Md_add_222 : decode b_Md_add 222 = .ok (.iload_n 3, 1) := by decide +kernel
theorem d_Md_add_223 : decode b_Md_add 223 = .ok (.isub, 1) := by decide +kernel
theorem d_Md_add_224 : decode b_Md_add 224 = .ok (.istore 9, 2) := by decide +kernel
theorem d_Md_add_226 : decode b_Md_add 226 = .ok (.aload_n 0, 1) := by decide +kernel
theorem d_Md_add_227 : decode b_Md_add 227 = .ok (.getfield 51, 3) := by decide +kernel
theorem d_Md_add_230 : decode b_Md_add 230 = .ok (.istore 10, 2) := by decide +kernel
theorem d_Md_add_232 : decode b_Md_add 232 = .ok (.aload_n 0, 1) := by decide +kernel
theorem d_Md_add_233 : decode b_Md_add 233 = .ok (.getfield 67, 3) := by decide +kernel
theorem d_Md_add_236 : decode b_Md_add 236 = .ok (.istore 11, 2) := by decide +kernel
theorem d_Md_add_238 : decode b_Md_add 238 = .ok (.iload 8, 2) := by decide +kernel
theorem d_Md_add_240 : decode b_Md_add 240 = .ok (.iload 9, 2) := by decide +kernel
theorem d_Md_add_242 : decode b_Md_add 242 = .ok (.if_icmp .lt 18, 3) := by decide +kernel
theorem d_Md_add_245 : decode b_Md_add 245 = .ok (.iload 8, 2) := by decide +kernel
theorem d_Md_add_247 : decode b_Md_add 247 = .ok (.iload 9, 2) := by decide +kernel
theorem d_Md_add_249 : decode b_Md_add 249 = .ok (.if_icmp .ne 47, 3) := by decide +kernel
theorem d_Md_add_252 : decode b_Md_add 252 = .ok (.lload 4, 2) := by decide +kernel
theorem d_Md_add_254 : decode b_Md_add 254 = .ok (.lload 6, 2) := by decide +kernel
theorem d_Md_add_256 : decode b_Md_add 256 = .ok (.lcmp, 1) := by decide +kernel
theorem d_Md_add_257 : decode b_Md_add 257 = .ok (.ifCond .ge 39, 3) := by decide +kernel
theorem d_Md_add_260 : decode b_Md_add 260 = .ok (.lload 4, 2) := by decide +kernel
theorem d_Md_add_262 : decode b_Md_add 262 = .ok (.lstore 12, 2) := by decide +kernel
theorem d_Md_add_264 : decode b_Md_add 264 = .ok (.lload 6, 2) := by decide +kernel
theorem d_Md_add_266 : decode b_Md_add 266 = .ok (.lstore 4, 2) := by decide +kernel
theorem d_Md_add_268 : decode b_Md_add 268 = .ok (.lload 12, 2) := by decide +kernel
theorem d_Md_add_270 : decode b_Md_add 270 = .ok (.lstore 6, 2) := by decide +kernel
theorem d_Md_add_272 : decode b_Md_add 272 = .ok (.iload 8, 2) := by decide +kernel
theorem d_Md_add_274 : decode b_Md_add 274 = .ok (.istore 14, 2) := by decide +kernel
theorem d_Md_add_276 : decode b_Md_add 276 = .ok (.iload 9, 2) := by decide +kernel
theorem d_Md_add_278 : decode b_Md_add 278 = .ok (.istore 8, 2) := by decide +kernel
theorem d_Md_add_280 : decode b_Md_add 280 = .ok (.iload 14, 2) := by decide +kernel
theorem d_Md_add_282 : decode b_Md_add 282 = .ok (.istore 9, 2) := by decide +kernel
theorem d_Md_add_284 : decode b_Md_add 284 = .ok (.aload_n 0, 1) := by decide +kernel
theorem d_Md_add_285 : decode b_Md_add 285 = .ok (.getfield 67, 3) := by decide +kernel
theorem d_Md_add_288 : decode b_Md_add 288 = .ok (.istore 10, 2) := by decide +kernel
theorem d_Md_add_290 : decode b_Md_add 290 = .ok (.aload_n 0, 1) := by decide +kernel
theorem d_Md_add_291 : decode b_Md_add 291 = .ok (.getfield 51, 3) := by decide +kernel
theorem d_Md_add_294 : decode b_Md_add 294 = .ok (.istore 11, 2) := by decide +kernel
theorem d_Md_add_296 : decode b_Md_add 296 = .ok (.iload 8, 2) := by decide +kernel
theorem d_Md_add_298 : decode b_Md_add 298 = .ok (.iload 9, 2) := by decide +kernel
theorem d_Md_add_300 : decode b_Md_add 300 = .ok (.isub, 1) := by decide +kernel
theorem d_Md_add_301 : decode b_Md_add 301 = .ok (.istore 12, 2) := by decide +kernel
theorem d_Md_add_303 : decode b_Md_add 303 = .ok (.lload 4, 2) := by decide +kernel
theorem d_Md_add_305 : decode b_Md_add 305 = .ok (.iconst 1, 1) := by decide +kernel
theorem d_Md_add_306 : decode b_Md_add 306 = .ok (.lshl, 1) := by decide +kernel
theorem d_Md_add_307 : decode b_Md_add 307 = .ok (.lstore 4, 2) := by decide +kernel
theorem d_Md_add_309 : decode b_Md_add 309 = .ok (.lload 6, 2) := by decide +kernel
theorem d_Md_add_311 : decode b_Md_add 311 = .ok (.iconst 1, 1) := by decide +kernel
theorem d_Md_add_312 : decode b_Md_add 312 = .ok (.lshl, 1) := by decide +kernel
theorem d_Md_add_313 : decode b_Md_add 313 = .ok (.lstore 6, 2) := by decide +kernel
theorem d_Md_add_315 : decode b_Md_add 315 = .ok (.iload 12, 2) := by decide +kernel
theorem d_Md_add_317 : decode b_Md_add 317 = .ok (.bipush 62, 2) := by decide +kernel
theorem d_Md_add_319 : decode b_Md_add 319 = .ok (.if_icmp .le 7, 3) := by decide +kernel
theorem d_Md_add_322 : decode b_Md_add 322 = .ok (.lconst 0, 1) := by decide +kernel
theorem d_Md_add_323 : decode b_Md_add 323 = .ok (.goto 8, 3) := by decide +kernel
theorem d_Md_add_326 : decode b_Md_add 326 = .ok (.lload 6, 2) := by decide +kernel
theorem d_Md_add_328 : decode b_Md_add 328 = .ok (.iload 12, 2) := by decide +kernel
theorem d_Md_add_330 : decode b_Md_add 330 = .ok (.lshr, 1) := by decide +kernel
theorem d_Md_add_331 : decode b_Md_add 331 = .ok (.lstore 13, 2) := by decide +kernel
theorem d_Md_add_333 : decode b_Md_add 333 = .ok (.iload 12, 2) := by decide +kernel
theorem d_Md_add_335 : decode b_Md_add 335 = .ok (.bipush 62, 2) := by decide +kernel
theorem d_Md_add_337 : decode b_Md_add 337 = .ok (.if_icmp .gt 14, 3) := by decide +kernel
theorem d_Md_add_340 : decode b_Md_add 340 = .ok (.lload 13, 2) := by decide +kernel
theorem d_Md_add_342 : decode b_Md_add 342 = .ok (.iload 12, 2) := by decide +kernel
theorem d_Md_add_344 : decode b_Md_add 344 = .ok (.lshl, 1) := by decide +kernel
theorem d_Md_add_345 : decode b_Md_add 345 = .ok (.lload 6, 2) := by decide +kernel
theorem d_Md_add_347 : decode b_Md_add 347 = .ok (.lcmp, 1) := by decide +kernel
theorem d_Md_add_348 : decode b_Md_add 348 = .ok (.ifCond .eq 7, 3) := by decide +kernel
theorem d_Md_add_351 : decode b_Md_add 351 = .ok (.iconst 1, 1) := by decide +kernel
theorem d_Md_add_352 : decode b_Md_add 352 = .ok (.goto 4, 3) := by decide +kernel
theorem d_Md_add_355 : decode b_Md_add 355 = .ok (.iconst 0, 1) := by decide +kernel
theorem d_Md_add_356 : decode b_Md_add 356 = .ok (.istore 15, 2) := by decide +kernel
theorem d_Md_add_358 : decode b_Md_add 358 = .ok (.iload 10, 2) := by decide +kernel
theorem d_Md_add_360 : decode b_Md_add 360 = .ok (.iload 11, 2) := by decide +kernel
theorem d_Md_add_362 : decode b_Md_add 362 = .ok (.if_icmp .ne 21, 3) := by decide +kernel
theorem d_Md_add_365 : decode b_Md_add 365 = .ok (.iload 10, 2) := by decide +kernel
theorem d_Md_add_367 : decode b_Md_add 367 = .ok (.lload 4, 2) := by decide +kernel
theorem d_Md_add_369 : decode b_Md_add 369 = .ok (.lload 13, 2) := by decide +kernel
theorem d_Md_add_371 : decode b_Md_add 371 = .ok (.ladd, 1) := by decide +kernel
theorem d_Md_add_372 : decode b_Md_add 372 = .ok (.iload 8, 2) := by decide +kernel
theorem d_Md_add_374 : decode b_Md_add 374 = .ok (.iconst 1, 1) := by decide +kernel
theorem d_Md_add_375 : decode b_Md_add 375 = .ok (.isub, 1) := by decide +kernel
theorem d_Md_add_376 : decode b_Md_add 376 = .ok (.iload 15, 2) := by decide +kernel
theorem d_Md_add_378 : decode b_Md_add 378 = .ok (.iload_n 1, 1) := by decide +kernel
theorem d_Md_add_379 : decode b_Md_add 379 = .ok (.invokestatic 93, 3) := by decide +kernel
theorem d_Md_add_382 : decode b_Md_add 382 = .ok (.lreturn, 1) := by decide +kernel
theorem d_Md_add_383 : decode b_Md_add 383 = .ok (.lload 4, 2) := by decide +kernel
theorem d_Md_add_385 : decode b_Md_add 385 = .ok (.lload 13, 2) := by decide +kernel
theorem d_Md_add_387 : decode b_Md_add 387 = .ok (.lsub, 1) := by decide +kernel
theorem d_Md_add_388 : decode b_Md_add 388 = .ok (.iload 15, 2) := by decide +kernel
theorem d_Md_add_390 : decode b_Md_add 390 = .ok (.ifCond .eq 7, 3) := by decide +kernel
theorem d_Md_add_393 : decode b_Md_add 393 = .ok (.iconst 1, 1) := by decide +kernel
theorem d_Md_add_394 : decode b_Md_add 394 = .ok (.goto 4, 3) := by decide +kernel
theorem d_Md_add_397 : decode b_Md_add 397 = .ok (.iconst 0, 1) := by decide +kernel
theorem d_Md_add_398 : decode b_Md_add 398 = .ok (.i2l, 1) := by decide +kernel
theorem d_Md_add_399 : decode b_Md_add 399 = .ok (.lsub, 1) := by decide +kernel
theorem d_Md_add_400 : decode b_Md_add 400 = .ok (.lstore 16, 2) := by decide +kernel
theorem d_Md_add_402 : decode b_Md_add 402 = .ok (.lload 16, 2) := by decide +kernel
theorem d_Md_add_404 : decode b_Md_add 404 = .ok (.lconst 0, 1) := by decide +kernel
theorem d_Md_add_405 : decode b_Md_add 405 = .ok (.lcmp, 1) := by decide +kernel
theorem d_Md_add_406 : decode b_Md_add 406 = .ok (.ifCond .ne 10, 3) := by decide +kernel
theorem d_Md_add_409 : decode b_Md_add 409 = .ok (.iload 15, 2) := by decide +kernel
theorem d_Md_add_411 : decode b_Md_add 411 = .ok (.ifCond .ne 5, 3) := by decide +kernel
theorem d_Md_add_414 : decode b_Md_add 414 = .ok (.lconst 0, 1) := by decide +kernel
theorem d_Md_add_415 : decode b_Md_add 415 = .ok (.lreturn, 1) := by decide +kernel
theorem d_Md_add_416 : decode b_Md_add 416 = .ok (.iload 10, 2) := by decide +kernel
theorem d_Md_add_418 : decode b_Md_add 418 = .ok (.lload 16, 2) := by decide +kernel
theorem d_Md_add_420 : decode b_Md_add 420 = .ok (.iload 8, 2) := by decide +kernel
theorem d_Md_add_422 : decode b_Md_add 422 = .ok (.iconst 1, 1) := by decide +kernel
theorem d_Md_add_423 : decode b_Md_add 423 = .ok (.isub, 1) := by decide +kernel
theorem d_Md_add_424 : decode b_Md_add 424 = .ok (.iload 15, 2) := by decide +kernel
theorem d_Md_add_426 : decode b_Md_add 426 = .ok (.iload_n 1, 1) := by decide +kernel
theorem d_Md_add_427 : decode b_Md_add 427 = .ok (.invokestatic 93, 3) := by decide +kernel
theorem d_Md_add_430 : decode b_Md_add 430 = .ok (.lreturn, 1) := by decide +kernel
def F_Md_add (n : Nat) (m1 : Int64) (m2 : Int64) (e1 : Int32) (e2 : Int32) (mi1 : Int32) (mi2 : Int32) (na1 : Int32) (na2 : Int32) (fa1 : Int32) (fa2 : Int32) (a1 : Int32) : Option (Int64) := lt_ (fun (_ : Unit) => some (F_Md_nan a1)) fun j39 => if ¬ na1 = 0 then (j39 ()) else (if ¬ na2 = 0 then (j39 ()) else (lt_ (fun (_ : Unit) => if fa1 = 0 then (if fa2 = 0 then (lt_ (fun (_ : Unit) => if ¬ m1 = (0 : Int64) then (if ¬ m2 = (0 : Int64) then ((F_Md_length n m1).bind fun x1 => lt_ ((61 : Int32) - x1) fun x2 => (F_Md_length n m2).bind fun x3 => lt_ ((61 : Int32) - x3) fun x4 => lt_ (m1 <<< ((x2).toInt64 &&& 63)) fun x5 => lt_ (m2 <<< ((x4).toInt64 &&& 63)) fun x6 => lt_ (e1 - x2) fun x7 => lt_ (e2 - x4) fun x8 => lt_ (if x7 < x8 then x6 else if ¬ x7 = x8 then x5 else if x6 ≤ x5 then x5 else x6) fun x9 => lt_ (if x7 < x8 then x5 else if ¬ x7 = x8 then x6 else if x6 ≤ x5 then x6 else x5) fun x10 => lt_ (if x7 < x8 then x8 else if ¬ x7 = x8 then x7 else if x6 ≤ x5 then x7 else x8) fun x11 => lt_ (if x7 < x8 then x7 else if ¬ x7 = x8 then x8 else if x6 ≤ x5 then x8 else x7) fun x12 => lt_ (if x7 < x8 then mi2 else if ¬ x7 = x8 then mi1 else if x6 ≤ x5 then mi1 else mi2) fun x13 => lt_ (if x7 < x8 then mi1 else if ¬ x7 = x8 then mi2 else if x6 ≤ x5 then mi2 else mi1) fun x14 => lt_ (x11 - x12) fun x15 => lt_ (x9 <<< (((1 : Int32)).toInt64 &&& 63)) fun x16 => lt_ (x10 <<< (((1 : Int32)).toInt64 &&& 63)) fun x17 => lt_ (if x15 ≤ (62 : Int32) then x17 >>> ((x15).toInt64 &&& 63) else (0 : Int64)) fun x18 => lt_ (if (62 : Int32) < x15 then (1 : Int32) else if (x18 <<< ((x15).toInt64 &&& 63)) = x17 then (0 : Int32) else (1 : Int32)) fun x19 => if ¬ x13 = x14 then (lt_ (if x19 = 0 then (0 : Int32) else (1 : Int32)) fun x20 => lt_ ((x16 - x18) - ((x20).toInt64)) fun x21 => lt_ (fun (_ : Unit) => (F_Md_round n x13 x21 (x11 - (1 : Int32)) x19 a1).bind fun x22 => some x22) fun j416 => if ¬ x21 = (0 : Int64) then (j416 ()) else (if ¬ x19 = 0 then (j416 ()) else (some (0 : Int64)))) else ((F_Md_round n x13 (x16 + x18) (x11 - (1 : Int32)) x19 a1).bind fun x23 => some x23)) else ((F_Md_round n mi1 m1 e1 (0 : Int32) a1).bind fun x24 => some x24)) else ((F_Md_round n mi2 m2 e2 (0 : Int32) a1).bind fun x25 => some x25)) fun j118 => if ¬ m1 = (0 : Int64) then (j118 ()) else (if ¬ m2 = (0 : Int64) then (j118 ()) else (lt_ (if mi1 = 0 then (0 : Int32) else if mi2 = 0 then (0 : Int32) else (1 : Int32)) fun x26 => some (F_Md_sign x26 a1)))) else (some (F_Md_far mi2 a1))) else (some (F_Md_far mi1 a1))) fun j44 => if fa1 = 0 then (j44 ()) else (if fa2 = 0 then (j44 ()) else (if mi1 = mi2 then (j44 ()) else (j39 ())))))
set_option maxHeartbeats 4000000 in
set_option maxRecDepth 100000 in
theorem c_Md_add (l : Launch) (D : va_G) (A : Nat → Prop) (cI cL cC : ClassId) (ad : Nat → Nat) (X : va_W) (laid : Int32) (gone : Int32) (thr : Int32) (m1 : Int64) (m2 : Int64) (e1 : Int32) (e2 : Int32) (mi1 : Int32) (mi2 : Int32) (na1 : Int32) (na2 : Int32) (fa1 : Int32) (fa2 : Int32) (lets : Nat → Int32) (rlen : Int32) (rlaid : Int32) (rgone : Int32) (rthr : Int32) (were : Int32) (none_ : Int32) (beyo : Int32) (aN : Int32) (bN : Int32) (fN : Int32) (lN_ : Int32) (rN : Int32) (pN : Int32) (twos : Int32) (at_ : Int32) (rdig : Int32) (rpow : Int32) (good : Int32) (txt : Nat → Int32) (wri : Nat → Int32) (ra : Nat → Int32) (rb : Nat → Int32) (rfive : Nat → Int32) (rleft : Nat → Int32) (rright : Nat → Int32) (rpart : Nat → Int32) (n : Nat) (a1 : Int32) (r : Int64) (h : F_Md_add n m1 m2 e1 e2 mi1 mi2 na1 na2 fa1 fa2 a1 = some r) : Met l y_Md_add (.code y_Md_add b_Md_add 18 (some .long) :: BIG) ({ frames := 3, cells := 0, slots := 0, locals := 77 } : Room) (va_Pc [.ref (ad 0), .int a1] (gPre D A (tysV cI cL cC) (gM cI cL cC ad X laid gone thr m1 m2 e1 e2 mi1 mi2 na1 na2 fa1 fa2 lets rlen rlaid rgone rthr were none_ beyo aN bN fN lN_ rN pN twos at_ rdig rpow good txt wri ra rb rfive rleft rright rpart))) (gQ D A (some (.long r)) (gM cI cL cC ad X laid gone thr m1 m2 e1 e2 mi1 mi2 na1 na2 fa1 fa2 lets rlen rlaid rgone rthr were none_ beyo aN bN fN lN_ rN pN twos at_ rdig rpow good txt wri ra rb rfive rleft rright rpart)) 0 0 A := by
  refine gOpen_l rfl (Nat.le_of_ble_eq_true rfl) ?_
  intro p e s m args below meth c Q ls hx hb hml hown hts hT hNB hP hK hD hl hret
  have hown : s.vm.findClass R_Md = some m.cls := hown
  have hS : va_S A s.heap s.heap [] := va_S.rf
  have hl : lv_has ls 18 [(0, .ref (ad 0)), (1, .int a1)] := hl
  have h : (lt_ (fun (_ : Unit) => some (F_Md_nan a1)) fun j39 => if ¬ na1 = 0 then (j39 ()) else (if ¬ na2 = 0 then (j39 ()) else (lt_ (fun (_ : Unit) => if fa1 = 0 then (if fa2 = 0 then (lt_ (fun (_ : Unit) => if ¬ m1 = (0 : Int64) then (if ¬ m2 = (0 : Int64) then ((F_Md_length n m1).bind fun x1 => lt_ ((61 : Int32) - x1) fun x2 => (F_Md_length n m2).bind fun x3 => lt_ ((61 : Int32) - x3) fun x4 => lt_ (m1 <<< ((x2).toInt64 &&& 63)) fun x5 => lt_ (m2 <<< ((x4).toInt64 &&& 63)) fun x6 => lt_ (e1 - x2) fun x7 => lt_ (e2 - x4) fun x8 => lt_ (if x7 < x8 then x6 else if ¬ x7 = x8 then x5 else if x6 ≤ x5 then x5 else x6) fun x9 => lt_ (if x7 < x8 then x5 else if ¬ x7 = x8 then x6 else if x6 ≤ x5 then x6 else x5) fun x10 => lt_ (if x7 < x8 then x8 else if ¬ x7 = x8 then x7 else if x6 ≤ x5 then x7 else x8) fun x11 => lt_ (if x7 < x8 then x7 else if ¬ x7 = x8 then x8 else if x6 ≤ x5 then x8 else x7) fun x12 => lt_ (if x7 < x8 then mi2 else if ¬ x7 = x8 then mi1 else if x6 ≤ x5 then mi1 else mi2) fun x13 => lt_ (if x7 < x8 then mi1 else if ¬ x7 = x8 then mi2 else if x6 ≤ x5 then mi2 else mi1) fun x14 => lt_ (x11 - x12) fun x15 => lt_ (x9 <<< (((1 : Int32)).toInt64 &&& 63)) fun x16 => lt_ (x10 <<< (((1 : Int32)).toInt64 &&& 63)) fun x17 => lt_ (if x15 ≤ (62 : Int32) then x17 >>> ((x15).toInt64 &&& 63) else (0 : Int64)) fun x18 => lt_ (if (62 : Int32) < x15 then (1 : Int32) else if (x18 <<< ((x15).toInt64 &&& 63)) = x17 then (0 : Int32) else (1 : Int32)) fun x19 => if ¬ x13 = x14 then (lt_ (if x19 = 0 then (0 : Int32) else (1 : Int32)) fun x20 => lt_ ((x16 - x18) - ((x20).toInt64)) fun x21 => lt_ (fun (_ : Unit) => (F_Md_round n x13 x21 (x11 - (1 : Int32)) x19 a1).bind fun x22 => some x22) fun j416 => if ¬ x21 = (0 : Int64) then (j416 ()) else (if ¬ x19 = 0 then (j416 ()) else (some (0 : Int64)))) else ((F_Md_round n x13 (x16 + x18) (x11 - (1 : Int32)) x19 a1).bind fun x23 => some x23)) else ((F_Md_round n mi1 m1 e1 (0 : Int32) a1).bind fun x24 => some x24)) else ((F_Md_round n mi2 m2 e2 (0 : Int32) a1).bind fun x25 => some x25)) fun j118 => if ¬ m1 = (0 : Int64) then (j118 ()) else (if ¬ m2 = (0 : Int64) then (j118 ()) else (lt_ (if mi1 = 0 then (0 : Int32) else if mi2 = 0 then (0 : Int32) else (1 : Int32)) fun x26 => some (F_Md_sign x26 a1)))) else (some (F_Md_far mi2 a1))) else (some (F_Md_far mi1 a1))) fun j44 => if fa1 = 0 then (j44 ()) else (if fa2 = 0 then (j44 ()) else (if mi1 = mi2 then (j44 ()) else (j39 ())))))) = some r := h
  refine lv_aload_n hx hb d_Md_add_0 rfl (lv_at hl 0 rfl) ?_
  refine va_get (D := D) (ci := 4) (C := R_Md) (T := T_Md) (N := 15) hx hb hT in_Md hown hK hP 0 rfl rfl 11 (by decide) (hT _ m_257) (fun _ h9 => h9) rfl d_Md_add_1 ?_
  obtain ⟨j39, e_j39, h⟩ := lt_o h
  have hJ39 : ∀ (ls : Array Slot) (H : Heap) (locs : List Loc), lv_has ls 18 [(1, .int a1)] → va_P D cls (gM cI cL cC ad X laid gone thr m1 m2 e1 e2 mi1 mi2 na1 na2 fa1 fa2 lets rlen rlaid rgone rthr were none_ beyo aN bN fN lN_ rN pN twos at_ rdig rpow good txt wri ra rb rfive rleft rright rpart) H → va_D A (gM cI cL cC ad X laid gone thr m1 m2 e1 e2 mi1 mi2 na1 na2 fa1 fa2 lets rlen rlaid rgone rthr were none_ beyo aN bN fN lN_ rN pN twos at_ rdig rpow good txt wri ra rb rfive rleft rright rpart) → va_S A s.heap H locs → j39 () = some r → W p l e ({ frames := 3, cells := 0, slots := 0, locals := 77 } : Room) s m args below meth c H locs 0 0 Q (F0 m 39 ls []) := by
    intro  ls H locs hl hP hD hS h
    rw [e_j39] at h
    refine lv_iload_n hx hb d_Md_add_39 rfl (lv_at hl 0 rfl) ?_
    refine q_S (As := [.int a1]) (rest := []) (n := 1) hx hb hml hown hts (c_Md_nan l a1) rfl rfl m_259 m_260 m_261 m_130 (by decide +kernel) ⟨Nat.le_of_ble_eq_true rfl, Nat.le_of_ble_eq_true rfl⟩ (p0_bl) (fun U hU hW => p0_mv hU hW hNB) rfl hl.1 rfl (Nat.le_of_ble_eq_true rfl) d_Md_add_40 ⟨Nat.zero_le _, Nat.zero_le _⟩ ?_
    obtain rfl := Option.some.inj h
    exact hret 43 ls _ _ _ rfl hP hD hS d_Md_add_43
  refine lv_if_ne (tgt := 39) hx hb d_Md_add_4 rfl (fun hc => ?_) (fun hc => ?_)
  · have h := ite_t hc h
    exact hJ39 ls _ _ (lv_sub hl [1] rfl) hP hD hS h
  · have hc := not_not_intro hc
    have h := ite_f hc h
    refine lv_aload_n hx hb d_Md_add_7 rfl (lv_at hl 0 rfl) ?_
    refine va_get (D := D) (ci := 4) (C := R_Md) (T := T_Md) (N := 15) hx hb hT in_Md hown hK hP 0 rfl rfl 12 (by decide) (hT _ m_252) (fun _ h9 => h9) rfl d_Md_add_8 ?_
    refine lv_if_ne (tgt := 39) hx hb d_Md_add_11 rfl (fun hc => ?_) (fun hc => ?_)
    · have h := ite_t hc h
      exact hJ39 ls _ _ (lv_sub hl [1] rfl) hP hD hS h
    · have hc := not_not_intro hc
      have h := ite_f hc h
      refine lv_aload_n hx hb d_Md_add_14 rfl (lv_at hl 0 rfl) ?_
      refine va_get (D := D) (ci := 4) (C := R_Md) (T := T_Md) (N := 15) hx hb hT in_Md hown hK hP 0 rfl rfl 13 (by decide) (hT _ m_258) (fun _ h9 => h9) rfl d_Md_add_15 ?_
      obtain ⟨j44, e_j44, h⟩ := lt_o h
      have hJ44 : ∀ (ls : Array Slot) (H : Heap) (locs : List Loc), lv_has ls 18 [(0, .ref (ad 0)), (1, .int a1)] → va_P D cls (gM cI cL cC ad X laid gone thr m1 m2 e1 e2 mi1 mi2 na1 na2 fa1 fa2 lets rlen rlaid rgone rthr were none_ beyo aN bN fN lN_ rN pN twos at_ rdig rpow good txt wri ra rb rfive rleft rright rpart) H → va_D A (gM cI cL cC ad X laid gone thr m1 m2 e1 e2 mi1 mi2 na1 na2 fa1 fa2 lets rlen rlaid rgone rthr were none_ beyo aN bN fN lN_ rN pN twos at_ rdig rpow good txt wri ra rb rfive rleft rright rpart) → va_S A s.heap H locs → j44 () = some r → W p l e ({ frames := 3, cells := 0, slots := 0, locals := 77 } : Room) s m args below meth c H locs 0 0 Q (F0 m 44 ls []) := by
        intro  ls H locs hl hP hD hS h
        rw [e_j44] at h
        refine lv_aload_n hx hb d_Md_add_44 rfl (lv_at hl 0 rfl) ?_
        refine va_get (D := D) (ci := 4) (C := R_Md) (T := T_Md) (N := 15) hx hb hT in_Md hown hK hP 0 rfl rfl 13 (by decide) (hT _ m_258) (fun _ h9 => h9) rfl d_Md_add_45 ?_
        refine lv_if_eq (tgt := 60) hx hb d_Md_add_48 rfl (fun hc => ?_) (fun hc => ?_)
        · have h := ite_t hc h
          refine lv_aload_n hx hb d_Md_add_60 rfl (lv_at hl 0 rfl) ?_
          refine va_get (D := D) (ci := 4) (C := R_Md) (T := T_Md) (N := 15) hx hb hT in_Md hown hK hP 0 rfl rfl 14 (by decide) (hT _ m_253) (fun _ h9 => h9) rfl d_Md_add_61 ?_
          refine lv_if_eq (tgt := 76) hx hb d_Md_add_64 rfl (fun hc => ?_) (fun hc => ?_)
          · have h := ite_t hc h
            refine lv_aload_n hx hb d_Md_add_76 rfl (lv_at hl 0 rfl) ?_
            refine va_get (D := D) (ci := 4) (C := R_Md) (T := T_Md) (N := 15) hx hb hT in_Md hown hK hP 0 rfl rfl 5 (by decide) (hT _ m_254) (fun _ h9 => h9) rfl d_Md_add_77 ?_
            refine lv_lconst hx hb d_Md_add_80 lc_0 ?_
            refine W.lcmp hx hb d_Md_add_81 ?_
            obtain ⟨j118, e_j118, h⟩ := lt_o h
            have hJ118 : ∀ (ls : Array Slot) (H : Heap) (locs : List Loc), lv_has ls 18 [(0, .ref (ad 0)), (1, .int a1)] → va_P D cls (gM cI cL cC ad X laid gone thr m1 m2 e1 e2 mi1 mi2 na1 na2 fa1 fa2 lets rlen rlaid rgone rthr were none_ beyo aN bN fN lN_ rN pN twos at_ rdig rpow good txt wri ra rb rfive rleft rright rpart) H → va_D A (gM cI cL cC ad X laid gone thr m1 m2 e1 e2 mi1 mi2 na1 na2 fa1 fa2 lets rlen rlaid rgone rthr were none_ beyo aN bN fN lN_ rN pN twos at_ rdig rpow good txt wri ra rb rfive rleft rright rpart) → va_S A s.heap H locs → j118 () = some r → W p l e ({ frames := 3, cells := 0, slots := 0, locals := 77 } : Room) s m args below meth c H locs 0 0 Q (F0 m 118 ls []) := by
              intro  ls H locs hl hP hD hS h
              rw [e_j118] at h
              refine lv_aload_n hx hb d_Md_add_118 rfl (lv_at hl 0 rfl) ?_
              refine va_get (D := D) (ci := 4) (C := R_Md) (T := T_Md) (N := 15) hx hb hT in_Md hown hK hP 0 rfl rfl 5 (by decide) (hT _ m_254) (fun _ h9 => h9) rfl d_Md_add_119 ?_
              refine lv_lconst hx hb d_Md_add_122 lc_0 ?_
              refine W.lcmp hx hb d_Md_add_123 ?_
              refine lv_if_ne (tgt := 145) hx hb d_Md_add_124 rfl (fun hc => ?_) (fun hc => ?_)
              · have hc := mt (lg_cmp_eq _ _).mpr hc
                have h := ite_t hc h
                refine lv_aload_n hx hb d_Md_add_145 rfl (lv_at hl 0 rfl) ?_
                refine va_get (D := D) (ci := 4) (C := R_Md) (T := T_Md) (N := 15) hx hb hT in_Md hown hK hP 0 rfl rfl 6 (by decide) (hT _ m_249) (fun _ h9 => h9) rfl d_Md_add_146 ?_
                refine lv_lconst hx hb d_Md_add_149 lc_0 ?_
                refine W.lcmp hx hb d_Md_add_150 ?_
                refine lv_if_ne (tgt := 172) hx hb d_Md_add_151 rfl (fun hc => ?_) (fun hc => ?_)
                · have hc := mt (lg_cmp_eq _ _).mpr hc
                  have h := ite_t hc h
                  refine lv_bipush hx hb d_Md_add_172 bp_61 ?_
                  refine lv_aload_n hx hb d_Md_add_174 rfl (lv_at hl 0 rfl) ?_
                  refine va_get (D := D) (ci := 4) (C := R_Md) (T := T_Md) (N := 15) hx hb hT in_Md hown hK hP 0 rfl rfl 5 (by decide) (hT _ m_254) (fun _ h9 => h9) rfl d_Md_add_175 ?_
                  obtain ⟨x1, e_x1, h⟩ := bd_o h
                  refine q_S (As := [.long m1]) (rest := [.int (61 : Int32)]) (n := 1) hx hb hml hown hts (c_Md_length l n m1 _ e_x1) rfl rfl m_131 m_132 m_133 m_130 (by decide +kernel) ⟨Nat.le_of_ble_eq_true rfl, Nat.le_of_ble_eq_true rfl⟩ (p0_bl) (fun U hU hW => p0_mv hU hW hNB) rfl hl.1 rfl (Nat.le_of_ble_eq_true rfl) d_Md_add_178 ⟨Nat.zero_le _, Nat.zero_le _⟩ ?_
                  refine lv_isub hx hb d_Md_add_181 ?_
                  refine lv_topi (fun x2 e_x2 => ?_)
                  have h := lt_h e_x2 h
                  refine lv_istore_n hx hb d_Md_add_182 rfl hl (by decide) rfl (fun ls hl => ?_)
                  have hl : lv_has ls 18 [(2, .int x2), (0, .ref (ad 0)), (1, .int a1)] := hl
                  refine lv_bipush hx hb d_Md_add_183 bp_61 ?_
                  refine lv_aload_n hx hb d_Md_add_185 rfl (lv_at hl 1 rfl) ?_
                  refine va_get (D := D) (ci := 4) (C := R_Md) (T := T_Md) (N := 15) hx hb hT in_Md hown hK hP 0 rfl rfl 6 (by decide) (hT _ m_249) (fun _ h9 => h9) rfl d_Md_add_186 ?_
                  obtain ⟨x3, e_x3, h⟩ := bd_o h
                  refine q_S (As := [.long m2]) (rest := [.int (61 : Int32)]) (n := 1) hx hb hml hown hts (c_Md_length l n m2 _ e_x3) rfl rfl m_131 m_132 m_133 m_130 (by decide +kernel) ⟨Nat.le_of_ble_eq_true rfl, Nat.le_of_ble_eq_true rfl⟩ (p0_bl) (fun U hU hW => p0_mv hU hW hNB) rfl hl.1 rfl (Nat.le_of_ble_eq_true rfl) d_Md_add_189 ⟨Nat.zero_le _, Nat.zero_le _⟩ ?_
                  refine lv_isub hx hb d_Md_add_192 ?_
                  refine lv_topi (fun x4 e_x4 => ?_)
                  have h := lt_h e_x4 h
                  refine lv_istore_n hx hb d_Md_add_193 rfl hl (by decide) rfl (fun ls hl => ?_)
                  have hl : lv_has ls 18 [(3, .int x4), (2, .int x2), (0, .ref (ad 0)), (1, .int a1)] := hl
                  refine lv_aload_n hx hb d_Md_add_194 rfl (lv_at hl 2 rfl) ?_
                  refine va_get (D := D) (ci := 4) (C := R_Md) (T := T_Md) (N := 15) hx hb hT in_Md hown hK hP 0 rfl rfl 5 (by decide) (hT _ m_254) (fun _ h9 => h9) rfl d_Md_add_195 ?_
                  refine lv_iload_n hx hb d_Md_add_198 rfl (lv_at hl 1 rfl) ?_
                  refine lv_lshl hx hb d_Md_add_199 rfl ?_
                  refine lv_topl (fun x5 e_x5 => ?_)
                  have h := lt_h e_x5 h
                  refine lv_lstore hx hb d_Md_add_200 hl (by decide) rfl (fun ls hl => ?_)
                  have hl : lv_has ls 18 [(4, .long x5), (3, .int x4), (2, .int x2), (0, .ref (ad 0)), (1, .int a1)] := hl
                  refine lv_aload_n hx hb d_Md_add_202 rfl (lv_at hl 3 rfl) ?_
                  refine va_get (D := D) (ci := 4) (C := R_Md) (T := T_Md) (N := 15) hx hb hT in_Md hown hK hP 0 rfl rfl 6 (by decide) (hT _ m_249) (fun _ h9 => h9) rfl d_Md_add_203 ?_
                  refine lv_iload_n hx hb d_Md_add_206 rfl (lv_at hl 1 rfl) ?_
                  refine lv_lshl hx hb d_Md_add_207 rfl ?_
                  refine lv_topl (fun x6 e_x6 => ?_)
                  have h := lt_h e_x6 h
                  refine lv_lstore hx hb d_Md_add_208 hl (by decide) rfl (fun ls hl => ?_)
                  have hl : lv_has ls 18 [(6, .long x6), (4, .long x5), (3, .int x4), (2, .int x2), (0, .ref (ad 0)), (1, .int a1)] := hl
                  refine lv_aload_n hx hb d_Md_add_210 rfl (lv_at hl 4 rfl) ?_
                  refine va_get (D := D) (ci := 4) (C := R_Md) (T := T_Md) (N := 15) hx hb hT in_Md hown hK hP 0 rfl rfl 7 (by decide) (hT _ m_255) (fun _ h9 => h9) rfl d_Md_add_211 ?_
                  refine lv_iload_n hx hb d_Md_add_214 rfl (lv_at hl 3 rfl) ?_
                  refine lv_isub hx hb d_Md_add_215 ?_
                  refine lv_topi (fun x7 e_x7 => ?_)
                  have h := lt_h e_x7 h
                  refine lv_istore hx hb d_Md_add_216 hl (by decide) rfl (fun ls hl => ?_)
                  have hl : lv_has ls 18 [(8, .int x7), (6, .long x6), (4, .long x5), (3, .int x4), (2, .int x2), (0, .ref (ad 0)), (1, .int a1)] := hl
                  refine lv_aload_n hx hb d_Md_add_218 rfl (lv_at hl 5 rfl) ?_
                  refine va_get (D := D) (ci := 4) (C := R_Md) (T := T_Md) (N := 15) hx hb hT in_Md hown hK hP 0 rfl rfl 8 (by decide) (hT _ m_250) (fun _ h9 => h9) rfl d_Md_add_219 ?_
                  refine lv_iload_n hx hb d_Md_add_222 rfl (lv_at hl 3 rfl) ?_
                  refine lv_isub hx hb d_Md_add_223 ?_
                  refine lv_topi (fun x8 e_x8 => ?_)
                  have h := lt_h e_x8 h
                  refine lv_istore hx hb d_Md_add_224 hl (by decide) rfl (fun ls hl => ?_)
                  have hl : lv_has ls 18 [(9, .int x8), (8, .int x7), (6, .long x6), (4, .long x5), (3, .int x4), (2, .int x2), (0, .ref (ad 0)), (1, .int a1)] := hl
                  refine lv_aload_n hx hb d_Md_add_226 rfl (lv_at hl 6 rfl) ?_
                  refine va_get (D := D) (ci := 4) (C := R_Md) (T := T_Md) (N := 15) hx hb hT in_Md hown hK hP 0 rfl rfl 9 (by decide) (hT _ m_256) (fun _ h9 => h9) rfl d_Md_add_227 ?_
                  refine lv_istore hx hb d_Md_add_230 hl (by decide) rfl (fun ls hl => ?_)
                  have hl : lv_has ls 18 [(10, .int mi1), (9, .int x8), (8, .int x7), (6, .long x6), (4, .long x5), (3, .int x4), (2, .int x2), (0, .ref (ad 0)), (1, .int a1)] := hl
                  refine lv_aload_n hx hb d_Md_add_232 rfl (lv_at hl 7 rfl) ?_
                  refine va_get (D := D) (ci := 4) (C := R_Md) (T := T_Md) (N := 15) hx hb hT in_Md hown hK hP 0 rfl rfl 10 (by decide) (hT _ m_251) (fun _ h9 => h9) rfl d_Md_add_233 ?_
                  refine lv_istore hx hb d_Md_add_236 hl (by decide) rfl (fun ls hl => ?_)
                  have hl : lv_has ls 18 [(11, .int mi2), (10, .int mi1), (9, .int x8), (8, .int x7), (6, .long x6), (4, .long x5), (3, .int x4), (2, .int x2), (0, .ref (ad 0)), (1, .int a1)] := hl
                  refine lv_iload hx hb d_Md_add_238 (lv_at hl 3 rfl) ?_
                  refine lv_iload hx hb d_Md_add_240 (lv_at hl 2 rfl) ?_
                  obtain ⟨x9, e_x9, h⟩ := lt_o h
                  obtain ⟨x10, e_x10, h⟩ := lt_o h
                  obtain ⟨x11, e_x11, h⟩ := lt_o h
                  obtain ⟨x12, e_x12, h⟩ := lt_o h
                  obtain ⟨x13, e_x13, h⟩ := lt_o h
                  obtain ⟨x14, e_x14, h⟩ := lt_o h
                  have hJ296 : ∀ (x9' : Int64) (x10' : Int64) (x11' : Int32) (x12' : Int32) (x13' : Int32) (x14' : Int32) (ls : Array Slot), x9 = x9' → x10 = x10' → x11 = x11' → x12 = x12' → x13 = x13' → x14 = x14' → lv_has ls 18 [(1, .int a1), (4, .long x9'), (6, .long x10'), (8, .int x11'), (9, .int x12'), (10, .int x13'), (11, .int x14')] → W p l e ({ frames := 3, cells := 0, slots := 0, locals := 77 } : Room) s m args below meth c H locs 0 0 Q (F0 m 296 ls []) := by
                    intro x9' x10' x11' x12' x13' x14' ls q_x9 q_x10 q_x11 q_x12 q_x13 q_x14 hl
                    subst q_x9
                    subst q_x10
                    subst q_x11
                    subst q_x12
                    subst q_x13
                    subst q_x14
                    refine lv_iload hx hb d_Md_add_296 (lv_at hl 3 rfl) ?_
                    refine lv_iload hx hb d_Md_add_298 (lv_at hl 4 rfl) ?_
                    refine lv_isub hx hb d_Md_add_300 ?_
                    refine lv_topi (fun x15 e_x15 => ?_)
                    have h := lt_h e_x15 h
                    refine lv_istore hx hb d_Md_add_301 hl (by decide) rfl (fun ls hl => ?_)
                    have hl : lv_has ls 18 [(12, .int x15), (1, .int a1), (4, .long x9), (6, .long x10), (8, .int x11), (9, .int x12), (10, .int x13), (11, .int x14)] := hl
                    refine lv_lload hx hb d_Md_add_303 (lv_at hl 2 rfl) ?_
                    refine lv_iconst hx hb d_Md_add_305 ic_1 ?_
                    refine lv_lshl hx hb d_Md_add_306 rfl ?_
                    refine lv_topl (fun x16 e_x16 => ?_)
                    have h := lt_h e_x16 h
                    refine lv_lstore hx hb d_Md_add_307 hl (by decide) rfl (fun ls hl => ?_)
                    have hl : lv_has ls 18 [(4, .long x16), (12, .int x15), (1, .int a1), (6, .long x10), (8, .int x11), (9, .int x12), (10, .int x13), (11, .int x14)] := hl
                    refine lv_lload hx hb d_Md_add_309 (lv_at hl 3 rfl) ?_
                    refine lv_iconst hx hb d_Md_add_311 ic_1 ?_
                    refine lv_lshl hx hb d_Md_add_312 rfl ?_
                    refine lv_topl (fun x17 e_x17 => ?_)
                    have h := lt_h e_x17 h
                    refine lv_lstore hx hb d_Md_add_313 hl (by decide) rfl (fun ls hl => ?_)
                    have hl : lv_has ls 18 [(6, .long x17), (4, .long x16), (12, .int x15), (1, .int a1), (8, .int x11), (9, .int x12), (10, .int x13), (11, .int x14)] := hl
                    refine lv_iload hx hb d_Md_add_315 (lv_at hl 2 rfl) ?_
                    refine lv_bipush hx hb d_Md_add_317 bp_62 ?_
                    obtain ⟨x18, e_x18, h⟩ := lt_o h
                    have hJ331 : ∀ (x18' : Int64) (ls : Array Slot), x18 = x18' → lv_has ls 18 [(1, .int a1), (4, .long x16), (6, .long x17), (8, .int x11), (10, .int x13), (11, .int x14), (12, .int x15)] → W p l e ({ frames := 3, cells := 0, slots := 0, locals := 77 } : Room) s m args below meth c H locs 0 0 Q (F0 m 331 ls [.long x18']) := by
                      intro x18' ls q_x18 hl
                      subst q_x18
                      refine lv_lstore hx hb d_Md_add_331 hl (by decide) rfl (fun ls hl => ?_)
                      have hl : lv_has ls 18 [(13, .long x18), (1, .int a1), (4, .long x16), (6, .long x17), (8, .int x11), (10, .int x13), (11, .int x14), (12, .int x15)] := hl
                      refine lv_iload hx hb d_Md_add_333 (lv_at hl 7 rfl) ?_
                      refine lv_bipush hx hb d_Md_add_335 bp_62 ?_
                      obtain ⟨x19, e_x19, h⟩ := lt_o h
                      have hJ356 : ∀ (x19' : Int32) (ls : Array Slot), x19 = x19' → lv_has ls 18 [(1, .int a1), (4, .long x16), (8, .int x11), (10, .int x13), (11, .int x14), (13, .long x18)] → W p l e ({ frames := 3, cells := 0, slots := 0, locals := 77 } : Room) s m args below meth c H locs 0 0 Q (F0 m 356 ls [.int x19']) := by
                        intro x19' ls q_x19 hl
                        subst q_x19
                        refine lv_istore hx hb d_Md_add_356 hl (by decide) rfl (fun ls hl => ?_)
                        have hl : lv_has ls 18 [(15, .int x19), (1, .int a1), (4, .long x16), (8, .int x11), (10, .int x13), (11, .int x14), (13, .long x18)] := hl
                        refine lv_iload hx hb d_Md_add_358 (lv_at hl 4 rfl) ?_
                        refine lv_iload hx hb d_Md_add_360 (lv_at hl 5 rfl) ?_
                        refine lv_icmp_ne (tgt := 383) hx hb d_Md_add_362 rfl (fun hc => ?_) (fun hc => ?_)
                        · have h := ite_t hc h
                          refine lv_lload hx hb d_Md_add_383 (lv_at hl 2 rfl) ?_
                          refine lv_lload hx hb d_Md_add_385 (lv_at hl 6 rfl) ?_
                          refine lv_lsub hx hb d_Md_add_387 ?_
                          refine lv_iload hx hb d_Md_add_388 (lv_at hl 0 rfl) ?_
                          obtain ⟨x20, e_x20, h⟩ := lt_o h
                          have hJ398 : ∀ (x20' : Int32) (ls : Array Slot), x20 = x20' → lv_has ls 18 [(1, .int a1), (8, .int x11), (10, .int x13), (15, .int x19)] → W p l e ({ frames := 3, cells := 0, slots := 0, locals := 77 } : Room) s m args below meth c H locs 0 0 Q (F0 m 398 ls [.int x20', .long (x16 - x18)]) := by
                            intro x20' ls q_x20 hl
                            subst q_x20
                            refine lv_i2l hx hb d_Md_add_398 rfl ?_
                            refine lv_lsub hx hb d_Md_add_399 ?_
                            refine lv_topl (fun x21 e_x21 => ?_)
                            have h := lt_h e_x21 h
                            refine lv_lstore hx hb d_Md_add_400 hl (by decide) rfl (fun ls hl => ?_)
                            have hl : lv_has ls 18 [(16, .long x21), (1, .int a1), (8, .int x11), (10, .int x13), (15, .int x19)] := hl
                            refine lv_lload hx hb d_Md_add_402 (lv_at hl 0 rfl) ?_
                            refine lv_lconst hx hb d_Md_add_404 lc_0 ?_
                            refine W.lcmp hx hb d_Md_add_405 ?_
                            obtain ⟨j416, e_j416, h⟩ := lt_o h
                            have hJ416 : ∀ (ls : Array Slot) (H : Heap) (locs : List Loc), lv_has ls 18 [(1, .int a1), (8, .int x11), (10, .int x13), (15, .int x19), (16, .long x21)] → va_P D cls (gM cI cL cC ad X laid gone thr m1 m2 e1 e2 mi1 mi2 na1 na2 fa1 fa2 lets rlen rlaid rgone rthr were none_ beyo aN bN fN lN_ rN pN twos at_ rdig rpow good txt wri ra rb rfive rleft rright rpart) H → va_D A (gM cI cL cC ad X laid gone thr m1 m2 e1 e2 mi1 mi2 na1 na2 fa1 fa2 lets rlen rlaid rgone rthr were none_ beyo aN bN fN lN_ rN pN twos at_ rdig rpow good txt wri ra rb rfive rleft rright rpart) → va_S A s.heap H locs → j416 () = some r → W p l e ({ frames := 3, cells := 0, slots := 0, locals := 77 } : Room) s m args below meth c H locs 0 0 Q (F0 m 416 ls []) := by
                              intro  ls H locs hl hP hD hS h
                              rw [e_j416] at h
                              refine lv_iload hx hb d_Md_add_416 (lv_at hl 2 rfl) ?_
                              refine lv_lload hx hb d_Md_add_418 (lv_at hl 4 rfl) ?_
                              refine lv_iload hx hb d_Md_add_420 (lv_at hl 1 rfl) ?_
                              refine lv_iconst hx hb d_Md_add_422 ic_1 ?_
                              refine lv_isub hx hb d_Md_add_423 ?_
                              refine lv_iload hx hb d_Md_add_424 (lv_at hl 3 rfl) ?_
                              refine lv_iload_n hx hb d_Md_add_426 rfl (lv_at hl 0 rfl) ?_
                              obtain ⟨x22, e_x22, h⟩ := bd_o h
                              refine q_S (As := [.int x13, .long x21, .int (x11 - (1 : Int32)), .int x19, .int a1]) (rest := []) (n := 5) hx hb hml hown hts (c_Md_round l n x13 x21 (x11 - (1 : Int32)) x19 a1 _ e_x22) rfl rfl m_262 m_263 m_264 m_130 (by decide +kernel) ⟨Nat.le_of_ble_eq_true rfl, Nat.le_of_ble_eq_true rfl⟩ (p0_bl) (fun U hU hW => p0_mv hU hW hNB) rfl hl.1 rfl (Nat.le_of_ble_eq_true rfl) d_Md_add_427 ⟨Nat.zero_le _, Nat.zero_le _⟩ ?_
                              obtain rfl := Option.some.inj h
                              exact hret 430 ls _ _ _ rfl hP hD hS d_Md_add_430
                            refine lv_if_ne (tgt := 416) hx hb d_Md_add_406 rfl (fun hc => ?_) (fun hc => ?_)
                            · have hc := mt (lg_cmp_eq _ _).mpr hc
                              have h := ite_t hc h
                              exact hJ416 ls _ _ (lv_sub hl [1, 2, 3, 4, 0] rfl) hP hD hS h
                            · have hc := not_not_intro ((lg_cmp_eq _ _).mp hc)
                              have h := ite_f hc h
                              refine lv_iload hx hb d_Md_add_409 (lv_at hl 4 rfl) ?_
                              refine lv_if_ne (tgt := 416) hx hb d_Md_add_411 rfl (fun hc => ?_) (fun hc => ?_)
                              · have h := ite_t hc h
                                exact hJ416 ls _ _ (lv_sub hl [1, 2, 3, 4, 0] rfl) hP hD hS h
                              · have hc := not_not_intro hc
                                have h := ite_f hc h
                                refine lv_lconst hx hb d_Md_add_414 lc_0 ?_
                                obtain rfl := Option.some.inj h
                                exact hret 415 ls _ _ _ rfl hP hD hS d_Md_add_415
                          refine lv_if_eq (tgt := 397) hx hb d_Md_add_390 rfl (fun hc => ?_) (fun hc => ?_)
                          · have e_x20 := e_x20.trans (if_pos hc)
                            refine lv_iconst hx hb d_Md_add_397 ic_0 ?_
                            exact hJ398 _ ls e_x20 (lv_sub hl [1, 3, 4, 0] rfl)
                          · have e_x20 := e_x20.trans (if_neg hc)
                            refine lv_iconst hx hb d_Md_add_393 ic_1 ?_
                            refine lv_goto (tgt := 398) hx hb d_Md_add_394 rfl ?_
                            exact hJ398 _ ls e_x20 (lv_sub hl [1, 3, 4, 0] rfl)
                        · have hc := not_not_intro hc
                          have h := ite_f hc h
                          refine lv_iload hx hb d_Md_add_365 (lv_at hl 4 rfl) ?_
                          refine lv_lload hx hb d_Md_add_367 (lv_at hl 2 rfl) ?_
                          refine lv_lload hx hb d_Md_add_369 (lv_at hl 6 rfl) ?_
                          refine lv_ladd hx hb d_Md_add_371 ?_
                          refine lv_iload hx hb d_Md_add_372 (lv_at hl 3 rfl) ?_
                          refine lv_iconst hx hb d_Md_add_374 ic_1 ?_
                          refine lv_isub hx hb d_Md_add_375 ?_
                          refine lv_iload hx hb d_Md_add_376 (lv_at hl 0 rfl) ?_
                          refine lv_iload_n hx hb d_Md_add_378 rfl (lv_at hl 1 rfl) ?_
                          obtain ⟨x23, e_x23, h⟩ := bd_o h
                          refine q_S (As := [.int x13, .long (x16 + x18), .int (x11 - (1 : Int32)), .int x19, .int a1]) (rest := []) (n := 5) hx hb hml hown hts (c_Md_round l n x13 (x16 + x18) (x11 - (1 : Int32)) x19 a1 _ e_x23) rfl rfl m_262 m_263 m_264 m_130 (by decide +kernel) ⟨Nat.le_of_ble_eq_true rfl, Nat.le_of_ble_eq_true rfl⟩ (p0_bl) (fun U hU hW => p0_mv hU hW hNB) rfl hl.1 rfl (Nat.le_of_ble_eq_true rfl) d_Md_add_379 ⟨Nat.zero_le _, Nat.zero_le _⟩ ?_
                          obtain rfl := Option.some.inj h
                          exact hret 382 ls _ _ _ rfl hP hD hS d_Md_add_382
                      refine lv_icmp_gt (tgt := 351) hx hb d_Md_add_337 rfl (fun hc => ?_) (fun hc => ?_)
                      · have e_x19 := e_x19.trans (if_pos hc)
                        refine lv_iconst hx hb d_Md_add_351 ic_1 ?_
                        refine lv_goto (tgt := 356) hx hb d_Md_add_352 rfl ?_
                        exact hJ356 _ ls e_x19 (lv_sub hl [1, 2, 4, 5, 6, 0] rfl)
                      · have e_x19 := e_x19.trans (if_neg hc)
                        refine lv_lload hx hb d_Md_add_340 (lv_at hl 0 rfl) ?_
                        refine lv_iload hx hb d_Md_add_342 (lv_at hl 7 rfl) ?_
                        refine lv_lshl hx hb d_Md_add_344 rfl ?_
                        refine lv_lload hx hb d_Md_add_345 (lv_at hl 3 rfl) ?_
                        refine W.lcmp hx hb d_Md_add_347 ?_
                        refine lv_if_eq (tgt := 355) hx hb d_Md_add_348 rfl (fun hc => ?_) (fun hc => ?_)
                        · have hc := (lg_cmp_eq _ _).mp hc
                          have e_x19 := e_x19.trans (if_pos hc)
                          refine lv_iconst hx hb d_Md_add_355 ic_0 ?_
                          exact hJ356 _ ls e_x19 (lv_sub hl [1, 2, 4, 5, 6, 0] rfl)
                        · have hc := mt (lg_cmp_eq _ _).mpr hc
                          have e_x19 := e_x19.trans (if_neg hc)
                          refine lv_iconst hx hb d_Md_add_351 ic_1 ?_
                          refine lv_goto (tgt := 356) hx hb d_Md_add_352 rfl ?_
                          exact hJ356 _ ls e_x19 (lv_sub hl [1, 2, 4, 5, 6, 0] rfl)
                    refine lv_icmp_le (tgt := 326) hx hb d_Md_add_319 rfl (fun hc => ?_) (fun hc => ?_)
                    · have e_x18 := e_x18.trans (if_pos hc)
                      refine lv_lload hx hb d_Md_add_326 (lv_at hl 0 rfl) ?_
                      refine lv_iload hx hb d_Md_add_328 (lv_at hl 2 rfl) ?_
                      refine lv_lshr hx hb d_Md_add_330 rfl ?_
                      exact hJ331 _ ls e_x18 (lv_sub hl [3, 1, 0, 4, 6, 7, 2] rfl)
                    · have e_x18 := e_x18.trans (if_neg hc)
                      refine lv_lconst hx hb d_Md_add_322 lc_0 ?_
                      refine lv_goto (tgt := 331) hx hb d_Md_add_323 rfl ?_
                      exact hJ331 _ ls e_x18 (lv_sub hl [3, 1, 0, 4, 6, 7, 2] rfl)
                  refine lv_icmp_lt (tgt := 260) hx hb d_Md_add_242 rfl (fun hc => ?_) (fun hc => ?_)
                  · have e_x9 := e_x9.trans (if_pos hc)
                    have e_x10 := e_x10.trans (if_pos hc)
                    have e_x11 := e_x11.trans (if_pos hc)
                    have e_x12 := e_x12.trans (if_pos hc)
                    have e_x13 := e_x13.trans (if_pos hc)
                    have e_x14 := e_x14.trans (if_pos hc)
                    refine lv_lload hx hb d_Md_add_260 (lv_at hl 5 rfl) ?_
                    refine lv_lstore hx hb d_Md_add_262 hl (by decide) rfl (fun ls hl => ?_)
                    have hl : lv_has ls 18 [(12, .long x5), (11, .int mi2), (10, .int mi1), (9, .int x8), (8, .int x7), (6, .long x6), (4, .long x5), (3, .int x4), (2, .int x2), (0, .ref (ad 0)), (1, .int a1)] := hl
                    refine lv_lload hx hb d_Md_add_264 (lv_at hl 5 rfl) ?_
                    refine lv_lstore hx hb d_Md_add_266 hl (by decide) rfl (fun ls hl => ?_)
                    have hl : lv_has ls 18 [(4, .long x6), (12, .long x5), (11, .int mi2), (10, .int mi1), (9, .int x8), (8, .int x7), (6, .long x6), (3, .int x4), (2, .int x2), (0, .ref (ad 0)), (1, .int a1)] := hl
                    refine lv_lload hx hb d_Md_add_268 (lv_at hl 1 rfl) ?_
                    refine lv_lstore hx hb d_Md_add_270 hl (by decide) rfl (fun ls hl => ?_)
                    have hl : lv_has ls 18 [(6, .long x5), (4, .long x6), (12, .long x5), (11, .int mi2), (10, .int mi1), (9, .int x8), (8, .int x7), (3, .int x4), (2, .int x2), (0, .ref (ad 0)), (1, .int a1)] := hl
                    refine lv_iload hx hb d_Md_add_272 (lv_at hl 6 rfl) ?_
                    refine lv_istore hx hb d_Md_add_274 hl (by decide) rfl (fun ls hl => ?_)
                    have hl : lv_has ls 18 [(14, .int x7), (6, .long x5), (4, .long x6), (12, .long x5), (11, .int mi2), (10, .int mi1), (9, .int x8), (8, .int x7), (3, .int x4), (2, .int x2), (0, .ref (ad 0)), (1, .int a1)] := hl
                    refine lv_iload hx hb d_Md_add_276 (lv_at hl 6 rfl) ?_
                    refine lv_istore hx hb d_Md_add_278 hl (by decide) rfl (fun ls hl => ?_)
                    have hl : lv_has ls 18 [(8, .int x8), (14, .int x7), (6, .long x5), (4, .long x6), (12, .long x5), (11, .int mi2), (10, .int mi1), (9, .int x8), (3, .int x4), (2, .int x2), (0, .ref (ad 0)), (1, .int a1)] := hl
                    refine lv_iload hx hb d_Md_add_280 (lv_at hl 1 rfl) ?_
                    refine lv_istore hx hb d_Md_add_282 hl (by decide) rfl (fun ls hl => ?_)
                    have hl : lv_has ls 18 [(9, .int x7), (8, .int x8), (14, .int x7), (6, .long x5), (4, .long x6), (12, .long x5), (11, .int mi2), (10, .int mi1), (3, .int x4), (2, .int x2), (0, .ref (ad 0)), (1, .int a1)] := hl
                    refine lv_aload_n hx hb d_Md_add_284 rfl (lv_at hl 10 rfl) ?_
                    refine va_get (D := D) (ci := 4) (C := R_Md) (T := T_Md) (N := 15) hx hb hT in_Md hown hK hP 0 rfl rfl 10 (by decide) (hT _ m_251) (fun _ h9 => h9) rfl d_Md_add_285 ?_
                    refine lv_istore hx hb d_Md_add_288 hl (by decide) rfl (fun ls hl => ?_)
                    have hl : lv_has ls 18 [(10, .int mi2), (9, .int x7), (8, .int x8), (14, .int x7), (6, .long x5), (4, .long x6), (12, .long x5), (11, .int mi2), (3, .int x4), (2, .int x2), (0, .ref (ad 0)), (1, .int a1)] := hl
                    refine lv_aload_n hx hb d_Md_add_290 rfl (lv_at hl 10 rfl) ?_
                    refine va_get (D := D) (ci := 4) (C := R_Md) (T := T_Md) (N := 15) hx hb hT in_Md hown hK hP 0 rfl rfl 9 (by decide) (hT _ m_256) (fun _ h9 => h9) rfl d_Md_add_291 ?_
                    refine lv_istore hx hb d_Md_add_294 hl (by decide) rfl (fun ls hl => ?_)
                    have hl : lv_has ls 18 [(11, .int mi1), (10, .int mi2), (9, .int x7), (8, .int x8), (14, .int x7), (6, .long x5), (4, .long x6), (12, .long x5), (3, .int x4), (2, .int x2), (0, .ref (ad 0)), (1, .int a1)] := hl
                    exact hJ296 _ _ _ _ _ _ ls e_x9 e_x10 e_x11 e_x12 e_x13 e_x14 (lv_sub hl [11, 6, 5, 3, 2, 1, 0] rfl)
                  · have e_x9 := e_x9.trans (if_neg hc)
                    have e_x10 := e_x10.trans (if_neg hc)
                    have e_x11 := e_x11.trans (if_neg hc)
                    have e_x12 := e_x12.trans (if_neg hc)
                    have e_x13 := e_x13.trans (if_neg hc)
                    have e_x14 := e_x14.trans (if_neg hc)
                    refine lv_iload hx hb d_Md_add_245 (lv_at hl 3 rfl) ?_
                    refine lv_iload hx hb d_Md_add_247 (lv_at hl 2 rfl) ?_
                    refine lv_icmp_ne (tgt := 296) hx hb d_Md_add_249 rfl (fun hc => ?_) (fun hc => ?_)
                    · have e_x9 := e_x9.trans (if_pos hc)
                      have e_x10 := e_x10.trans (if_pos hc)
                      have e_x11 := e_x11.trans (if_pos hc)
                      have e_x12 := e_x12.trans (if_pos hc)
                      have e_x13 := e_x13.trans (if_pos hc)
                      have e_x14 := e_x14.trans (if_pos hc)
                      exact hJ296 _ _ _ _ _ _ ls e_x9 e_x10 e_x11 e_x12 e_x13 e_x14 (lv_sub hl [9, 5, 4, 3, 2, 1, 0] rfl)
                    · have hc := not_not_intro hc
                      have e_x9 := e_x9.trans (if_neg hc)
                      have e_x10 := e_x10.trans (if_neg hc)
                      have e_x11 := e_x11.trans (if_neg hc)
                      have e_x12 := e_x12.trans (if_neg hc)
                      have e_x13 := e_x13.trans (if_neg hc)
                      have e_x14 := e_x14.trans (if_neg hc)
                      refine lv_lload hx hb d_Md_add_252 (lv_at hl 5 rfl) ?_
                      refine lv_lload hx hb d_Md_add_254 (lv_at hl 4 rfl) ?_
                      refine W.lcmp hx hb d_Md_add_256 ?_
                      refine lv_if_ge (tgt := 296) hx hb d_Md_add_257 rfl (fun hc => ?_) (fun hc => ?_)
                      · have hc := (lg_cmp_ge _ _).mp hc
                        have e_x9 := e_x9.trans (if_pos hc)
                        have e_x10 := e_x10.trans (if_pos hc)
                        have e_x11 := e_x11.trans (if_pos hc)
                        have e_x12 := e_x12.trans (if_pos hc)
                        have e_x13 := e_x13.trans (if_pos hc)
                        have e_x14 := e_x14.trans (if_pos hc)
                        exact hJ296 _ _ _ _ _ _ ls e_x9 e_x10 e_x11 e_x12 e_x13 e_x14 (lv_sub hl [9, 5, 4, 3, 2, 1, 0] rfl)
                      · have hc := mt (lg_cmp_ge _ _).mpr hc
                        have e_x9 := e_x9.trans (if_neg hc)
                        have e_x10 := e_x10.trans (if_neg hc)
                        have e_x11 := e_x11.trans (if_neg hc)
                        have e_x12 := e_x12.trans (if_neg hc)
                        have e_x13 := e_x13.trans (if_neg hc)
                        have e_x14 := e_x14.trans (if_neg hc)
                        refine lv_lload hx hb d_Md_add_260 (lv_at hl 5 rfl) ?_
                        refine lv_lstore hx hb d_Md_add_262 hl (by decide) rfl (fun ls hl => ?_)
                        have hl : lv_has ls 18 [(12, .long x5), (11, .int mi2), (10, .int mi1), (9, .int x8), (8, .int x7), (6, .long x6), (4, .long x5), (3, .int x4), (2, .int x2), (0, .ref (ad 0)), (1, .int a1)] := hl
                        refine lv_lload hx hb d_Md_add_264 (lv_at hl 5 rfl) ?_
                        refine lv_lstore hx hb d_Md_add_266 hl (by decide) rfl (fun ls hl => ?_)
                        have hl : lv_has ls 18 [(4, .long x6), (12, .long x5), (11, .int mi2), (10, .int mi1), (9, .int x8), (8, .int x7), (6, .long x6), (3, .int x4), (2, .int x2), (0, .ref (ad 0)), (1, .int a1)] := hl
                        refine lv_lload hx hb d_Md_add_268 (lv_at hl 1 rfl) ?_
                        refine lv_lstore hx hb d_Md_add_270 hl (by decide) rfl (fun ls hl => ?_)
                        have hl : lv_has ls 18 [(6, .long x5), (4, .long x6), (12, .long x5), (11, .int mi2), (10, .int mi1), (9, .int x8), (8, .int x7), (3, .int x4), (2, .int x2), (0, .ref (ad 0)), (1, .int a1)] := hl
                        refine lv_iload hx hb d_Md_add_272 (lv_at hl 6 rfl) ?_
                        refine lv_istore hx hb d_Md_add_274 hl (by decide) rfl (fun ls hl => ?_)
                        have hl : lv_has ls 18 [(14, .int x7), (6, .long x5), (4, .long x6), (12, .long x5), (11, .int mi2), (10, .int mi1), (9, .int x8), (8, .int x7), (3, .int x4), (2, .int x2), (0, .ref (ad 0)), (1, .int a1)] := hl
                        refine lv_iload hx hb d_Md_add_276 (lv_at hl 6 rfl) ?_
                        refine lv_istore hx hb d_Md_add_278 hl (by decide) rfl (fun ls hl => ?_)
                        have hl : lv_has ls 18 [(8, .int x8), (14, .int x7), (6, .long x5), (4, .long x6), (12, .long x5), (11, .int mi2), (10, .int mi1), (9, .int x8), (3, .int x4), (2, .int x2), (0, .ref (ad 0)), (1, .int a1)] := hl
                        refine lv_iload hx hb d_Md_add_280 (lv_at hl 1 rfl) ?_
                        refine lv_istore hx hb d_Md_add_282 hl (by decide) rfl (fun ls hl => ?_)
                        have hl : lv_has ls 18 [(9, .int x7), (8, .int x8), (14, .int x7), (6, .long x5), (4, .long x6), (12, .long x5), (11, .int mi2), (10, .int mi1), (3, .int x4), (2, .int x2), (0, .ref (ad 0)), (1, .int a1)] := hl
                        refine lv_aload_n hx hb d_Md_add_284 rfl (lv_at hl 10 rfl) ?_
                        refine va_get (D := D) (ci := 4) (C := R_Md) (T := T_Md) (N := 15) hx hb hT in_Md hown hK hP 0 rfl rfl 10 (by decide) (hT _ m_251) (fun _ h9 => h9) rfl d_Md_add_285 ?_
                        refine lv_istore hx hb d_Md_add_288 hl (by decide) rfl (fun ls hl => ?_)
                        have hl : lv_has ls 18 [(10, .int mi2), (9, .int x7), (8, .int x8), (14, .int x7), (6, .long x5), (4, .long x6), (12, .long x5), (11, .int mi2), (3, .int x4), (2, .int x2), (0, .ref (ad 0)), (1, .int a1)] := hl
                        refine lv_aload_n hx hb d_Md_add_290 rfl (lv_at hl 10 rfl) ?_
                        refine va_get (D := D) (ci := 4) (C := R_Md) (T := T_Md) (N := 15) hx hb hT in_Md hown hK hP 0 rfl rfl 9 (by decide) (hT _ m_256) (fun _ h9 => h9) rfl d_Md_add_291 ?_
                        refine lv_istore hx hb d_Md_add_294 hl (by decide) rfl (fun ls hl => ?_)
                        have hl : lv_has ls 18 [(11, .int mi1), (10, .int mi2), (9, .int x7), (8, .int x8), (14, .int x7), (6, .long x5), (4, .long x6), (12, .long x5), (3, .int x4), (2, .int x2), (0, .ref (ad 0)), (1, .int a1)] := hl
                        exact hJ296 _ _ _ _ _ _ ls e_x9 e_x10 e_x11 e_x12 e_x13 e_x14 (lv_sub hl [11, 6, 5, 3, 2, 1, 0] rfl)
                · have hc := not_not_intro ((lg_cmp_eq _ _).mp hc)
                  have h := ite_f hc h
                  refine lv_aload_n hx hb d_Md_add_154 rfl (lv_at hl 0 rfl) ?_
                  refine va_get (D := D) (ci := 4) (C := R_Md) (T := T_Md) (N := 15) hx hb hT in_Md hown hK hP 0 rfl rfl 9 (by decide) (hT _ m_256) (fun _ h9 => h9) rfl d_Md_add_155 ?_
                  refine lv_aload_n hx hb d_Md_add_158 rfl (lv_at hl 0 rfl) ?_
                  refine va_get (D := D) (ci := 4) (C := R_Md) (T := T_Md) (N := 15) hx hb hT in_Md hown hK hP 0 rfl rfl 5 (by decide) (hT _ m_254) (fun _ h9 => h9) rfl d_Md_add_159 ?_
                  refine lv_aload_n hx hb d_Md_add_162 rfl (lv_at hl 0 rfl) ?_
                  refine va_get (D := D) (ci := 4) (C := R_Md) (T := T_Md) (N := 15) hx hb hT in_Md hown hK hP 0 rfl rfl 7 (by decide) (hT _ m_255) (fun _ h9 => h9) rfl d_Md_add_163 ?_
                  refine lv_iconst hx hb d_Md_add_166 ic_0 ?_
                  refine lv_iload_n hx hb d_Md_add_167 rfl (lv_at hl 1 rfl) ?_
                  obtain ⟨x24, e_x24, h⟩ := bd_o h
                  refine q_S (As := [.int mi1, .long m1, .int e1, .int (0 : Int32), .int a1]) (rest := []) (n := 5) hx hb hml hown hts (c_Md_round l n mi1 m1 e1 (0 : Int32) a1 _ e_x24) rfl rfl m_262 m_263 m_264 m_130 (by decide +kernel) ⟨Nat.le_of_ble_eq_true rfl, Nat.le_of_ble_eq_true rfl⟩ (p0_bl) (fun U hU hW => p0_mv hU hW hNB) rfl hl.1 rfl (Nat.le_of_ble_eq_true rfl) d_Md_add_168 ⟨Nat.zero_le _, Nat.zero_le _⟩ ?_
                  obtain rfl := Option.some.inj h
                  exact hret 171 ls _ _ _ rfl hP hD hS d_Md_add_171
              · have hc := not_not_intro ((lg_cmp_eq _ _).mp hc)
                have h := ite_f hc h
                refine lv_aload_n hx hb d_Md_add_127 rfl (lv_at hl 0 rfl) ?_
                refine va_get (D := D) (ci := 4) (C := R_Md) (T := T_Md) (N := 15) hx hb hT in_Md hown hK hP 0 rfl rfl 10 (by decide) (hT _ m_251) (fun _ h9 => h9) rfl d_Md_add_128 ?_
                refine lv_aload_n hx hb d_Md_add_131 rfl (lv_at hl 0 rfl) ?_
                refine va_get (D := D) (ci := 4) (C := R_Md) (T := T_Md) (N := 15) hx hb hT in_Md hown hK hP 0 rfl rfl 6 (by decide) (hT _ m_249) (fun _ h9 => h9) rfl d_Md_add_132 ?_
                refine lv_aload_n hx hb d_Md_add_135 rfl (lv_at hl 0 rfl) ?_
                refine va_get (D := D) (ci := 4) (C := R_Md) (T := T_Md) (N := 15) hx hb hT in_Md hown hK hP 0 rfl rfl 8 (by decide) (hT _ m_250) (fun _ h9 => h9) rfl d_Md_add_136 ?_
                refine lv_iconst hx hb d_Md_add_139 ic_0 ?_
                refine lv_iload_n hx hb d_Md_add_140 rfl (lv_at hl 1 rfl) ?_
                obtain ⟨x25, e_x25, h⟩ := bd_o h
                refine q_S (As := [.int mi2, .long m2, .int e2, .int (0 : Int32), .int a1]) (rest := []) (n := 5) hx hb hml hown hts (c_Md_round l n mi2 m2 e2 (0 : Int32) a1 _ e_x25) rfl rfl m_262 m_263 m_264 m_130 (by decide +kernel) ⟨Nat.le_of_ble_eq_true rfl, Nat.le_of_ble_eq_true rfl⟩ (p0_bl) (fun U hU hW => p0_mv hU hW hNB) rfl hl.1 rfl (Nat.le_of_ble_eq_true rfl) d_Md_add_141 ⟨Nat.zero_le _, Nat.zero_le _⟩ ?_
                obtain rfl := Option.some.inj h
                exact hret 144 ls _ _ _ rfl hP hD hS d_Md_add_144
            refine lv_if_ne (tgt := 118) hx hb d_Md_add_82 rfl (fun hc => ?_) (fun hc => ?_)
            · have hc := mt (lg_cmp_eq _ _).mpr hc
              have h := ite_t hc h
              exact hJ118 ls _ _ (lv_sub hl [0, 1] rfl) hP hD hS h
            · have hc := not_not_intro ((lg_cmp_eq _ _).mp hc)
              have h := ite_f hc h
              refine lv_aload_n hx hb d_Md_add_85 rfl (lv_at hl 0 rfl) ?_
              refine va_get (D := D) (ci := 4) (C := R_Md) (T := T_Md) (N := 15) hx hb hT in_Md hown hK hP 0 rfl rfl 6 (by decide) (hT _ m_249) (fun _ h9 => h9) rfl d_Md_add_86 ?_
              refine lv_lconst hx hb d_Md_add_89 lc_0 ?_
              refine W.lcmp hx hb d_Md_add_90 ?_
              refine lv_if_ne (tgt := 118) hx hb d_Md_add_91 rfl (fun hc => ?_) (fun hc => ?_)
              · have hc := mt (lg_cmp_eq _ _).mpr hc
                have h := ite_t hc h
                exact hJ118 ls _ _ (lv_sub hl [0, 1] rfl) hP hD hS h
              · have hc := not_not_intro ((lg_cmp_eq _ _).mp hc)
                have h := ite_f hc h
                refine lv_aload_n hx hb d_Md_add_94 rfl (lv_at hl 0 rfl) ?_
                refine va_get (D := D) (ci := 4) (C := R_Md) (T := T_Md) (N := 15) hx hb hT in_Md hown hK hP 0 rfl rfl 9 (by decide) (hT _ m_256) (fun _ h9 => h9) rfl d_Md_add_95 ?_
                obtain ⟨x26, e_x26, h⟩ := lt_o h
                have hJ113 : ∀ (x26' : Int32) (ls : Array Slot), x26 = x26' → lv_has ls 18 [(1, .int a1)] → W p l e ({ frames := 3, cells := 0, slots := 0, locals := 77 } : Room) s m args below meth c H locs 0 0 Q (F0 m 113 ls [.int x26']) := by
                  intro x26' ls q_x26 hl
                  subst q_x26
                  refine lv_iload_n hx hb d_Md_add_113 rfl (lv_at hl 0 rfl) ?_
                  refine q_S (As := [.int x26, .int a1]) (rest := []) (n := 2) hx hb hml hown hts (c_Md_sign l x26 a1) rfl rfl m_127 m_128 m_129 m_130 (by decide +kernel) ⟨Nat.le_of_ble_eq_true rfl, Nat.le_of_ble_eq_true rfl⟩ (p0_bl) (fun U hU hW => p0_mv hU hW hNB) rfl hl.1 rfl (Nat.le_of_ble_eq_true rfl) d_Md_add_114 ⟨Nat.zero_le _, Nat.zero_le _⟩ ?_
                  obtain rfl := Option.some.inj h
                  exact hret 117 ls _ _ _ rfl hP hD hS d_Md_add_117
                refine lv_if_eq (tgt := 112) hx hb d_Md_add_98 rfl (fun hc => ?_) (fun hc => ?_)
                · have e_x26 := e_x26.trans (if_pos hc)
                  refine lv_iconst hx hb d_Md_add_112 ic_0 ?_
                  exact hJ113 _ ls e_x26 (lv_sub hl [1] rfl)
                · have e_x26 := e_x26.trans (if_neg hc)
                  refine lv_aload_n hx hb d_Md_add_101 rfl (lv_at hl 0 rfl) ?_
                  refine va_get (D := D) (ci := 4) (C := R_Md) (T := T_Md) (N := 15) hx hb hT in_Md hown hK hP 0 rfl rfl 10 (by decide) (hT _ m_251) (fun _ h9 => h9) rfl d_Md_add_102 ?_
                  refine lv_if_eq (tgt := 112) hx hb d_Md_add_105 rfl (fun hc => ?_) (fun hc => ?_)
                  · have e_x26 := e_x26.trans (if_pos hc)
                    refine lv_iconst hx hb d_Md_add_112 ic_0 ?_
                    exact hJ113 _ ls e_x26 (lv_sub hl [1] rfl)
                  · have e_x26 := e_x26.trans (if_neg hc)
                    refine lv_iconst hx hb d_Md_add_108 ic_1 ?_
                    refine lv_goto (tgt := 113) hx hb d_Md_add_109 rfl ?_
                    exact hJ113 _ ls e_x26 (lv_sub hl [1] rfl)
          · have h := ite_f hc h
            refine lv_aload_n hx hb d_Md_add_67 rfl (lv_at hl 0 rfl) ?_
            refine va_get (D := D) (ci := 4) (C := R_Md) (T := T_Md) (N := 15) hx hb hT in_Md hown hK hP 0 rfl rfl 10 (by decide) (hT _ m_251) (fun _ h9 => h9) rfl d_Md_add_68 ?_
            refine lv_iload_n hx hb d_Md_add_71 rfl (lv_at hl 1 rfl) ?_
            refine q_S (As := [.int mi2, .int a1]) (rest := []) (n := 2) hx hb hml hown hts (c_Md_far l mi2 a1) rfl rfl m_135 m_136 m_137 m_130 (by decide +kernel) ⟨Nat.le_of_ble_eq_true rfl, Nat.le_of_ble_eq_true rfl⟩ (p0_bl) (fun U hU hW => p0_mv hU hW hNB) rfl hl.1 rfl (Nat.le_of_ble_eq_true rfl) d_Md_add_72 ⟨Nat.zero_le _, Nat.zero_le _⟩ ?_
            obtain rfl := Option.some.inj h
            exact hret 75 ls _ _ _ rfl hP hD hS d_Md_add_75
        · have h := ite_f hc h
          refine lv_aload_n hx hb d_Md_add_51 rfl (lv_at hl 0 rfl) ?_
          refine va_get (D := D) (ci := 4) (C := R_Md) (T := T_Md) (N := 15) hx hb hT in_Md hown hK hP 0 rfl rfl 9 (by decide) (hT _ m_256) (fun _ h9 => h9) rfl d_Md_add_52 ?_
          refine lv_iload_n hx hb d_Md_add_55 rfl (lv_at hl 1 rfl) ?_
          refine q_S (As := [.int mi1, .int a1]) (rest := []) (n := 2) hx hb hml hown hts (c_Md_far l mi1 a1) rfl rfl m_135 m_136 m_137 m_130 (by decide +kernel) ⟨Nat.le_of_ble_eq_true rfl, Nat.le_of_ble_eq_true rfl⟩ (p0_bl) (fun U hU hW => p0_mv hU hW hNB) rfl hl.1 rfl (Nat.le_of_ble_eq_true rfl) d_Md_add_56 ⟨Nat.zero_le _, Nat.zero_le _⟩ ?_
          obtain rfl := Option.some.inj h
          exact hret 59 ls _ _ _ rfl hP hD hS d_Md_add_59
      refine lv_if_eq (tgt := 44) hx hb d_Md_add_18 rfl (fun hc => ?_) (fun hc => ?_)
      · have h := ite_t hc h
        exact hJ44 ls _ _ (lv_sub hl [0, 1] rfl) hP hD hS h
      · have h := ite_f hc h
        refine lv_aload_n hx hb d_Md_add_21 rfl (lv_at hl 0 rfl) ?_
        refine va_get (D := D) (ci := 4) (C := R_Md) (T := T_Md) (N := 15) hx hb hT in_Md hown hK hP 0 rfl rfl 14 (by decide) (hT _ m_253) (fun _ h9 => h9) rfl d_Md_add_22 ?_
        refine lv_if_eq (tgt := 44) hx hb d_Md_add_25 rfl (fun hc => ?_) (fun hc => ?_)
        · have h := ite_t hc h
          exact hJ44 ls _ _ (lv_sub hl [0, 1] rfl) hP hD hS h
        · have h := ite_f hc h
          refine lv_aload_n hx hb d_Md_add_28 rfl (lv_at hl 0 rfl) ?_
          refine va_get (D := D) (ci := 4) (C := R_Md) (T := T_Md) (N := 15) hx hb hT in_Md hown hK hP 0 rfl rfl 9 (by decide) (hT _ m_256) (fun _ h9 => h9) rfl d_Md_add_29 ?_
          refine lv_aload_n hx hb d_Md_add_32 rfl (lv_at hl 0 rfl) ?_
          refine va_get (D := D) (ci := 4) (C := R_Md) (T := T_Md) (N := 15) hx hb hT in_Md hown hK hP 0 rfl rfl 10 (by decide) (hT _ m_251) (fun _ h9 => h9) rfl d_Md_add_33 ?_
          refine lv_icmp_eq (tgt := 44) hx hb d_Md_add_36 rfl (fun hc => ?_) (fun hc => ?_)
          · have h := ite_t hc h
            exact hJ44 ls _ _ (lv_sub hl [0, 1] rfl) hP hD hS h
          · have h := ite_f hc h
            exact hJ39 ls _ _ (lv_sub hl [1] rfl) hP hD hS h
-- Md_times
theorem d_Md_times_0 : decode b_Md_times 0 = .ok (.aload_n 0, 1) := by decide +kernel
theorem d_Md_times_1 : decode b_Md_times 1 = .ok (.getfield 51, 3) := by decide +kernel
theorem d_Md_times_4 : decode b_Md_times 4 = .ok (.aload_n 0, 1) := by decide +kernel
theorem d_Md_times_5 : decode b_Md_times 5 = .ok (.getfield 67, 3) := by decide +kernel
theorem d_Md_times_8 : decode b_Md_times 8 = .ok (.if_icmp .eq 7, 3) := by decide +kernel
theorem d_Md_times_11 : decode b_Md_times 11 = .ok (.iconst 1, 1) := by decide +kernel
theorem d_Md_times_12 : decode b_Md_times 12 = .ok (.goto 4, 3) := by decide +kernel
theorem d_Md_times_15 : decode b_Md_times 15 = .ok (.iconst 0, 1) := by decide +kernel
theorem d_Md_times_16 : decode b_Md_times 16 = .ok (.istore_n 2, 1) := by decide +kernel
theorem d_Md_times_17 : decode b_Md_times 17 = .ok (.aload_n 0, 1) := by decide +kernel
theorem d_Md_times_18 : decode b_Md_times 18 = .ok (.getfield 55, 3) := by decide +kernel
theorem d_Md_times_21 : decode b_Md_times 21 = .ok (.ifCond .ne 56, 3) := by decide +kernel
theorem d_Md_times_24 : decode b_Md_times 24 = .ok (.aload_n 0, 1) := by decide +kernel
theorem d_Md_times_25 : decode b_Md_times 25 = .ok (.getfield 70, 3) := by decide +kernel
theorem d_Md_times_28 : decode b_Md_times 28 = .ok (.ifCond .ne 49, 3) := by decide +kernel
theorem d_Md_times_31 : decode b_Md_times 31 = .ok (.aload_n 0, 1) := by decide +kernel
theorem d_Md_times_32 : decode b_Md_times 32 = .ok (.getfield 58, 3) := by decide +kernel
theorem d_Md_times_35 : decode b_Md_times 35 = .ok (.ifCond .eq 19, 3) := by decide +kernel
theorem d_Md_times_38 : decode b_Md_times 38 = .ok (.aload_n 0, 1) := by decide +kernel
theorem d_Md_times_39 : decode b_Md_times 39 = .ok (.getfield 61, 3) := by decide +kernel
theorem d_Md_times_42 : decode b_Md_times 42 = .ok (.lconst 0, 1) := by decide +kernel
theorem d_Md_times_43 : decode b_Md_times 43 = .ok (.lcmp, 1) := by decide +kernel
theorem d_Md_times_44 : decode b_Md_times 44 = .ok (.ifCond .ne 10, 3) := by decide +kernel
theorem d_Md_times_47 : decode b_Md_times 47 = .ok (.aload_n 0, 1) := by decide +kernel
theorem d_Md_times_48 : decode b_Md_times 48 = .ok (.getfield 73, 3) := by decide +kernel
theorem d_Md_times_51 : decode b_Md_times 51 = .ok (.ifCond .eq 26, 3) := by decide +kernel
theorem d_Md_times_54 : decode b_Md_times 54 = .ok (.aload_n 0, 1) := by decide +kernel
theorem d_Md_times_55 : decode b_Md_times 55 = .ok (.getfield 73, 3) := by decide +kernel
theorem d_Md_times_58 : decode b_Md_times 58 = .ok (.ifCond .eq 24, 3) := by decide +kernel
theorem d_Md_times_61 : decode b_Md_times 61 = .ok (.aload_n 0, 1) := by decide +kernel
theorem d_Md_times_62 : decode b_Md_times 62 = .ok (.getfield 44, 3) := by decide +kernel
theorem d_Md_times_65 : decode b_Md_times 65 = .ok (.lconst 0, 1) := by decide +kernel
theorem d_Md_times_66 : decode b_Md_times 66 = .ok (.lcmp, 1) := by decide +kernel
theorem d_Md_times_67 : decode b_Md_times 67 = .ok (.ifCond .ne 15, 3) := by decide +kernel
theorem d_Md_times_70 : decode b_Md_times 70 = .ok (.aload_n 0, 1) := by decide +kernel
theorem d_Md_times_71 : decode b_Md_times 71 = .ok (.getfield 58, 3) := by decide +kernel
theorem d_Md_times_74 : decode b_Md_times 74 = .ok (.ifCond .ne 8, 3) := by decide +kernel
theorem d_Md_times_77 : decode b_Md_times 77 = .ok (.iload_n 1, 1) := by decide +kernel
theorem d_Md_times_78 : decode b_Md_times 78 = .ok (.invokestatic 89, 3) := by decide +kernel
theorem d_Md_times_81 : decode b_Md_times 81 = .ok (.lreturn, 1) := by decide +kernel
theorem d_Md_times_82 : decode b_Md_times 82 = .ok (.aload_n 0, 1) := by decide +kernel
theorem d_Md_times_83 : decode b_Md_times 83 = .ok (.getfield 58, 3) := by decide +kernel
theorem d_Md_times_86 : decode b_Md_times 86 = .ok (.ifCond .ne 10, 3) := by decide +kernel
theorem d_Md_times_89 : decode b_Md_times 89 = .ok (.aload_n 0, 1) := by decide +kernel
theorem d_Md_times_90 : decode b_Md_times 90 = .ok (.getfield 73, 3) := by decide +kernel
theorem d_Md_times_93 : decode b_Md_times 93 = .ok (.ifCond .eq 9, 3) := by decide +kernel
theorem d_Md_times_96 : decode b_Md_times 96 = .ok (.iload_n 2, 1) := by decide +kernel
theorem d_Md_times_97 : decode b_Md_times 97 = .ok (.iload_n 1, 1) := by decide +kernel
theorem d_Md_times_98 : decode b_Md_times 98 = .ok (.invokestatic 86, 3) := by decide +kernel
theorem d_Md_times_101 : decode b_Md_times 101 = .ok (.lreturn, 1) := by decide +kernel
theorem d_Md_times_102 : decode b_Md_times 102 = .ok (.aload_n 0, 1) := by decide +kernel
theorem d_Md_times_103 : decode b_Md_times 103 = .ok (.getfield 44, 3) := by decide +kernel
theorem d_Md_times_106 : decode b_Md_times 106 = .ok (.lconst 0, 1) := by decide +kernel
theorem d_Md_times_107 : decode b_Md_times 107 = .ok (.lcmp, 1) := by decide +kernel
theorem d_Md_times_108 : decode b_Md_times 108 = .ok (.ifCond .eq 12, 3) := by decide +kernel
theorem d_Md_times_111 : decode b_Md_times 111 = .ok (.aload_n 0, 1) := by decide +kernel
theorem d_Md_times_112 : decode b_Md_times 112 = .ok (.getfield 61, 3) := by decide +kernel
theorem d_Md_times_115 : decode b_Md_times 115 = .ok (.lconst 0, 1) := by decide +kernel
theorem d_Md_times_116 : decode b_Md_times 116 = .ok (.lcmp, 1) := by decide +kernel
theorem d_Md_times_117 : decode b_Md_times 117 = .ok (.ifCond .ne 9, 3) := by decide +kernel
theorem d_Md_times_120 : decode b_Md_times 120 = .ok (.iload_n 2, 1) := by decide +kernel
theorem d_Md_times_121 : decode b_Md_times 121 = .ok (.iload_n 1, 1) := by decide +kernel
theorem d_Md_times_122 : decode b_Md_times 122 = .ok (.invokestatic 32, 3) := by decide +kernel
theorem d_Md_times_125 : decode b_Md_times 125 = .ok (.lreturn, 1) := by decide +kernel
theorem d_Md_times_126 : decode b_Md_times 126 = .ok (.aload_n 0, 1) := by decide +kernel
theorem d_Md_times_127 : decode b_Md_times 127 = .ok (.getfield 44, 3) := by decide +kernel
theorem d_Md_times_130 : decode b_Md_times 130 = .ok (.ldc2_w 97, 3) := by decide +kernel
theorem d_Md_times_133 : decode b_Md_times 133 = .ok (.land, 1) := by decide +kernel
theorem d_Md_times_134 : decode b_Md_times 134 = .ok (.lstore_n 3, 1) := by decide +kernel
theorem d_Md_times_135 : decode b_Md_times 135 = .ok (.aload_n 0, 1) := by decide +kernel
theorem d_Md_times_136 : decode b_Md_times 136 = .ok (.getfield 44, 3) := by decide +kernel
theorem d_Md_times_139 : decode b_Md_times 139 = .ok (.bipush 27, 2) := by decide +kernel
theorem d_Md_times_141 : decode b_Md_times 141 = .ok (.lshr, 1) := by decide +kernel
theorem d_Md_times_142 : decode b_Md_times 142 = .ok (.lstore 5, 2) := by decide +kernel
theorem d_Md_times_144 : decode b_Md_times 144 = .ok (.aload_n 0, 1) := by decide +kernel
theorem d_Md_times_145 : decode b_Md_times 145 = .ok (.getfield 61, 3) := by decide +kernel
theorem d_Md_times_148 : decode b_Md_times 148 = .ok (.ldc2_w 97, 3) := by decide +kernel
theorem d_Md_times_151 : decode b_Md_times 151 = .ok (.land, 1) := by decide +kernel
theorem d_Md_times_152 : decode b_Md_times 152 = .ok (.lstore 7, 2) := by decide +kernel
theorem d_Md_times_154 : decode b_Md_times 154 = .ok (.aload_n 0, 1) := by decide +kernel
theorem d_Md_times_155 : decode b_Md_times 155 = .ok (.getfield 61, 3) := by decide +kernel
theorem d_Md_times_158 : decode b_Md_times 158 = .ok (.bipush 27, 2) := by decide +kernel
theorem d_Md_times_160 : decode b_Md_times 160 = .ok (.lshr, 1) := by decide +kernel
theorem d_Md_times_161 : decode b_Md_times 161 = .ok (.lstore 9, 2) := by decide +kernel
theorem d_Md_times_163 : decode b_Md_times 163 = .ok (.lload_n 3, 1) := by decide +kernel
theorem d_Md_times_164 : decode b_Md_times 164 = .ok (.lload 7, 2) := by decide +kernel
theorem d_Md_times_166 : decode b_Md_times 166 = .ok (.lmul, 1) := by decide +kernel
theorem d_Md_times_167 : decode b_Md_times 167 = .ok (.lstore 11, 2) := by decide +kernel
theorem d_Md_times_169 : decode b_Md_times 169 = .ok (.lload_n 3, 1) := by decide +kernel
theorem d_Md_times_170 : decode b_Md_times 170 = .ok (.lload 9, 2) := by decide +kernel
theorem d_Md_times_172 : decode b_Md_times 172 = .ok (.lmul, 1) := by decide +kernel
theorem d_Md_times_173 : decode b_Md_times 173 = .ok (.lload 5, 2) := by decide +kernel
theorem d_Md_times_175 : decode b_Md_times 175 = .ok (.lload 7, 2) := by decide +kernel
theorem d_Md_times_177 : decode b_Md_times 177 = .ok (.lmul, 1) := by decide +kernel
theorem d_Md_times_178 : decode b_Md_times 178 = .ok (.ladd, 1) := by decide +kernel
theorem d_Md_times_179 : decode b_Md_times 179 = .ok (.lload 11, 2) := by decide +kernel
theorem d_Md_times_181 : decode b_Md_times 181 = .ok (.bipush 27, 2) := by decide +kernel
theorem d_Md_times_183 : decode b_Md_times 183 = .ok (.lshr, 1) := by decide +kernel
theorem d_Md_times_184 : decode b_Md_times 184 = .ok (.ladd, 1) := by decide +kernel
theorem d_Md_times_185 : decode b_Md_times 185 = .ok (.lstore 13, 2) := by decide +kernel
theorem d_Md_times_187 : decode b_Md_times 187 = .ok (.lload 5, 2) := by decide +kernel
theorem d_Md_times_189 : decode b_Md_times 189 = .ok (.lload 9, 2) := by decide +kernel
theorem d_Md_times_191 : decode b_Md_times 191 = .ok (.lmul, 1) := by decide +kernel
theorem d_Md_times_192 : decode b_Md_times 192 = .ok (.lload 13, 2) := by decide +kernel
theorem d_Md_times_194 : decode b_Md_times 194 = .ok (.bipush 27, 2) := by decide +kernel
theorem d_Md_times_196 : decode b_Md_times 196 = .ok (.lshr, 1) := by decide +kernel
theorem d_Md_times_197 : decode b_Md_times 197 = .ok (.ladd, 1) := by decide +kernel
theorem d_Md_times_198 : decode b_Md_times 198 = .ok (.lstore 15, 2) := by decide +kernel
theorem d_Md_times_200 : decode b_Md_times 200 = .ok (.lload 13, 2) := by decide +kernel
theorem d_Md_times_202 : decode b_Md_times 202 = .ok (.ldc2_w 97, 3) := by decide +kernel
theorem d_Md_times_205 : decode b_Md_times 205 = .ok (.land, 1) := by decide +kernel
theorem d_Md_times_206 : decode b_Md_times 206 = .ok (.bipush 27, 2) := by decide +kernel
theorem d_Md_times_208 : decode b_Md_times 208 = .ok (.lshl, 1) := by decide +kernel
theorem d_Md_times_209 : decode b_Md_times 209 = .ok (.lload 11, 2) := by decide +kernel
theorem d_Md_times_211 : decode b_Md_times 211 = .ok (.ldc2_w 97, 3) := by decide +kernel
theorem d_Md_times_214 : decode b_Md_times 214 = .ok (.land, 1) := by decide +kernel
theorem d_Md_times_215 : decode b_Md_times 215 = .ok (.lor, 1) := by decide +kernel
theorem d_Md_times_216 : decode b_Md_times 216 = .ok (.lstore 17, 2) := by decide +kernel
theorem d_Md_times_218 : decode b_Md_times 218 = .ok (.lload 15, 2) := by decide +kernel
theorem d_Md_times_220 : decode b_Md_times 220 = .ok (.invokestatic 76, 3) := by decide +kernel
theorem d_Md_times_223 : decode b_Md_times 223 = .ok (.istore 19, 2) := by decide +kernel
theorem d_Md_times_225 : decode b_Md_times 225 = .ok (.iload 19, 2) := by decide +kernel
theorem d_Md_times_227 : decode b_Md_times 227 = .ok (.ifCond .ne 21, 3) := by decide +kernel
theorem d_Md_times_230 : decode b_Md_times 230 = .ok (.iload_n 2, 1) := by decide +kernel
theorem d_Md_times_231 : decode b_Md_times 231 = .ok (.lload 17, 2) := by decide +kernel
theorem d_Md_times_233 : decode b_Md_times 233 = .ok (.aload_n 0, 1) := by decide +kernel
theorem d_Md_times_234 : decode b_Md_times 234 = .ok (.getfield 48, 3) := by decide +kernel
theorem d_Md_times_237 : decode b_Md_times 237 = .ok (.aload_n 0, 1) := by decide +kernel
theorem d_Md_times_238 : decode b_Md_times 238 = .ok (.getfield 64, 3) := by decide +kernel
theorem d_Md_times_241 : decode b_Md_times 241 = .ok (.iadd, 1) := by decide +kernel
theorem d_Md_times_242 : decode b_Md_times 242 = .ok (.iconst 0, 1) := by decide +kernel
theorem d_Md_times_243 : decode b_Md_times 243 = .ok (.iload_n 1, 1) := by decide +kernel
theorem d_Md_times_244 : decode b_Md_times 244 = .ok (.invokestatic 93, 3) := by decide +kernel
theorem d_Md_times_247 : decode b_Md_times 247 = .ok (.lreturn, 1) := by decide +kernel
theorem d_Md_times_248 : decode b_Md_times 248 = .ok (.bipush 62, 2) := by decide +kernel
theorem d_Md_times_250 : decode b_Md_times 250 = .ok (.iload 19, 2) := by decide +kernel
theorem d_Md_times_252 : decode b_Md_times 252 = .ok (.isub, 1) := by decide +kernel
theorem d_Md_times_253 : decode b_Md_times 253 = .ok (.istore 20, 2) := by decide +kernel
theorem d_Md_times_255 : decode b_Md_times 255 = .ok (.iload 20, 2) := by decide +kernel
theorem d_Md_times_257 : decode b_Md_times 257 = .ok (.bipush 54, 2) := by decide +kernel
theorem d_Md_times_259 : decode b_Md_times 259 = .ok (.if_icmp .lt 27, 3) := by decide +kernel
theorem d_Md_times_262 : decode b_Md_times 262 = .ok (.iload_n 2, 1) := by decide +kernel
theorem d_Md_times_263 : decode b_Md_times 263 = .ok (.lload 15, 2) := by decide +kernel
theorem d_Md_times_265 : decode b_Md_times 265 = .ok (.bipush 54, 2) := by decide +kernel
theorem d_Md_times_267 : decode b_Md_times 267 = .ok (.lshl, 1) := by decide +kernel
theorem d_Md_times_268 : decode b_Md_times 268 = .ok (.lload 17, 2) := by decide +kernel
theorem d_Md_times_270 : decode b_Md_times 270 = .ok (.lor, 1) := by decide +kernel
theorem d_Md_times_271 : decode b_Md_times 271 = .ok (.aload_n 0, 1) := by decide +kernel
theorem d_Md_times_272 : decode b_Md_times 272 = .ok (.getfield 48, 3) := by decide +kernel
theorem d_Md_times_275 : decode b_Md_times 275 = .ok (.aload_n 0, 1) := by decide +kernel
theorem d_Md_times_276 : decode b_Md_times 276 = .ok (.getfield 64, 3) := by decide +kernel
theorem d_Md_times_279 : decode b_Md_times 279 = .ok (.iadd, 1) := by decide +kernel
theorem d_Md_times_280 : decode b_Md_times 280 = .ok (.iconst 0, 1) := by decide +kernel
theorem d_Md_times_281 : decode b_Md_times 281 = .ok (.iload_n 1, 1) := by decide +kernel
theorem d_Md_times_282 : decode b_Md_times 282 = .ok (.invokestatic 93, 3) := by decide +kernel
theorem d_Md_times_285 : decode b_Md_times 285 = .ok (.lreturn, 1) := by decide +kernel
theorem d_Md_times_286 : decode b_Md_times 286 = .ok (.bipush 54, 2) := by decide +kernel
theorem d_Md_times_288 : decode b_Md_times 288 = .ok (.iload 20, 2) := by decide +kernel
theorem d_Md_times_290 : decode b_Md_times 290 = .ok (.isub, 1) := by decide +kernel
theorem d_Md_times_291 : decode b_Md_times 291 = .ok (.istore 21, 2) := by decide +kernel
theorem d_Md_times_293 : decode b_Md_times 293 = .ok (.iload_n 2, 1) := by decide +kernel
theorem d_Md_times_294 : decode b_Md_times 294 = .ok (.lload 15, 2) := by decide +kernel
theorem d_Md_times_296 : decode b_Md_times 296 = .ok (.iload 20, 2) := by decide +kernel
theorem d_Md_times_298 : decode b_Md_times 298 = .ok (.lshl, 1) := by decide +kernel
theorem d_Md_times_299 : decode b_Md_times 299 = .ok (.lload 17, 2) := by decide +kernel
theorem d_Md_times_301 : decode b_Md_times 301 = .ok (.iload 21, 2) := by decide +kernel
theorem d_Md_times_303 : decode b_Md_times 303 = .ok (.lshr, 1) := by decide +kernel
theorem d_Md_times_304 : decode b_Md_times 304 = .ok (.lor, 1) := by decide +kernel
theorem d_Md_times_305 : decode b_Md_times 305 = .ok (.aload_n 0, 1) := by decide +kernel
theorem d_Md_times_306 : decode b_Md_times 306 = .ok (.getfield 48, 3) := by decide +kernel
theorem d_Md_times_309 : decode b_Md_times 309 = .ok (.aload_n 0, 1) := by decide +kernel
theorem d_Md_times_310 : decode b_Md_times 310 = .ok (.getfield 64, 3) := by decide +kernel
theorem d_Md_times_313 : decode b_Md_times 313 = .ok (.iadd, 1) := by decide +kernel
theorem d_Md_times_314 : decode b_Md_times 314 = .ok (.iload 21, 2) := by decide +kernel
theorem d_Md_times_316 : decode b_Md_times 316 = .ok (.iadd, 1) := by decide +kernel
theorem d_Md_times_317 : decode b_Md_times 317 = .ok (.lload 17, 2) := by decide +kernel
theorem d_Md_times_319 : decode b_Md_times 319 = .ok (.lconst 1, 1) := by decide +kernel
theorem d_Md_times_320 : decode b_Md_times 320 = .ok (.iload 21, 2) := by decide +kernel
theorem d_Md_times_322 : decode b_Md_times 322 = .ok (.lshl, 1) := by decide +kernel
theorem d_Md_times_323 : decode b_Md_times 323 = .ok (.lconst 1, 1) := by decide +kernel
theorem d_Md_times_324 : decode b_Md_times 324 = .ok (.lsub, 1) := by decide +kernel
theorem d_Md_times_325 : decode b_Md_times 325 = .ok (.land, 1) := by decide +kernel
theorem d_Md_times_326 : decode b_Md_times 326 = .ok (.lconst 0, 1) := by decide +kernel
theorem d_Md_times_327 : decode b_Md_times 327 = .ok (.lcmp, 1) := by decide +kernel
theorem d_Md_times_328 : decode b_Md_times 328 = .ok (.ifCond .eq 7, 3) := by decide +kernel
theorem d_Md_times_331 : decode b_Md_times 331 = .ok (.iconst 1, 1) := by decide +kernel
theorem d_Md_times_332 : decode b_Md_times 332 = .ok (.goto 4, 3) := by decide +kernel
theorem d_Md_times_335 : decode b_Md_times 335 = .ok (.iconst 0, 1) := by decide +kernel
theorem d_Md_times_336 : decode b_Md_times 336 = .ok (.iload_n 1, 1) := by decide +kernel
theorem d_Md_times_337 : decode b_Md_times 337 = .ok (.invokestatic 93, 3) := by decide +kernel
theorem d_Md_times_340 : decode b_Md_times 340 = .ok (.lreturn, 1) := by decide +kernel
def F_Md_times (n : Nat) (m1 : Int64) (m2 : Int64) (e1 : Int32) (e2 : Int32) (mi1 : Int32) (mi2 : Int32) (na1 : Int32) (na2 : Int32) (fa1 : Int32) (fa2 : Int32) (a1 : Int32) : Option (Int64) := lt_ (if mi1 = mi2 then (0 : Int32) else (1 : Int32)) fun x1 => lt_ (fun (_ : Unit) => some (F_Md_nan a1)) fun j77 => if ¬ na1 = 0 then (j77 ()) else (if ¬ na2 = 0 then (j77 ()) else (lt_ (fun (_ : Unit) => lt_ (fun (_ : Unit) => lt_ (fun (_ : Unit) => some (F_Md_far x1 a1)) fun j96 => if ¬ fa1 = 0 then (j96 ()) else (if fa2 = 0 then (lt_ (fun (_ : Unit) => some (F_Md_sign x1 a1)) fun j120 => if m1 = (0 : Int64) then (j120 ()) else (if ¬ m2 = (0 : Int64) then (lt_ (m1 &&& (134217727 : Int64)) fun x2 => lt_ (m1 >>> (((27 : Int32)).toInt64 &&& 63)) fun x3 => lt_ (m2 &&& (134217727 : Int64)) fun x4 => lt_ (m2 >>> (((27 : Int32)).toInt64 &&& 63)) fun x5 => lt_ (x2 * x4) fun x6 => lt_ (((x2 * x5) + (x3 * x4)) + (x6 >>> (((27 : Int32)).toInt64 &&& 63))) fun x7 => lt_ ((x3 * x5) + (x7 >>> (((27 : Int32)).toInt64 &&& 63))) fun x8 => lt_ (((x7 &&& (134217727 : Int64)) <<< (((27 : Int32)).toInt64 &&& 63)) ||| (x6 &&& (134217727 : Int64))) fun x9 => (F_Md_length n x8).bind fun x10 => if ¬ x10 = 0 then (lt_ ((62 : Int32) - x10) fun x11 => if x11 < (54 : Int32) then (lt_ ((54 : Int32) - x11) fun x12 => lt_ (if (x9 &&& (((1 : Int64) <<< ((x12).toInt64 &&& 63)) - (1 : Int64))) = (0 : Int64) then (0 : Int32) else (1 : Int32)) fun x13 => (F_Md_round n x1 ((x8 <<< ((x11).toInt64 &&& 63)) ||| (x9 >>> ((x12).toInt64 &&& 63))) ((e1 + e2) + x12) x13 a1).bind fun x14 => some x14) else ((F_Md_round n x1 ((x8 <<< (((54 : Int32)).toInt64 &&& 63)) ||| x9) (e1 + e2) (0 : Int32) a1).bind fun x15 => some x15)) else ((F_Md_round n x1 x9 (e1 + e2) (0 : Int32) a1).bind fun x16 => some x16)) else (j120 ()))) else (j96 ()))) fun j82 => if fa2 = 0 then (j82 ()) else (if ¬ m1 = (0 : Int64) then (j82 ()) else (if ¬ fa1 = 0 then (j82 ()) else (j77 ())))) fun j54 => if fa1 = 0 then (j54 ()) else (if ¬ m2 = (0 : Int64) then (j54 ()) else (if fa2 = 0 then (j77 ()) else (j54 ())))))
set_option maxHeartbeats 4000000 in
set_option maxRecDepth 100000 in
theorem c_Md_times (l : Launch) (D : va_G) (A : Nat → Prop) (cI cL cC : ClassId) (ad : Nat → Nat) (X : va_W) (laid : Int32) (gone : Int32) (thr : Int32) (m1 : Int64) (m2 : Int64) (e1 : Int32) (e2 : Int32) (mi1 : Int32) (mi2 : Int32) (na1 : Int32) (na2 : Int32) (fa1 : Int32) (fa2 : Int32) (lets : Nat → Int32) (rlen : Int32) (rlaid : Int32) (rgone : Int32) (rthr : Int32) (were : Int32) (none_ : Int32) (beyo : Int32) (aN : Int32) (bN : Int32) (fN : Int32) (lN_ : Int32) (rN : Int32) (pN : Int32) (twos : Int32) (at_ : Int32) (rdig : Int32) (rpow : Int32) (good : Int32) (txt : Nat → Int32) (wri : Nat → Int32) (ra : Nat → Int32) (rb : Nat → Int32) (rfive : Nat → Int32) (rleft : Nat → Int32) (rright : Nat → Int32) (rpart : Nat → Int32) (n : Nat) (a1 : Int32) (r : Int64) (h : F_Md_times n m1 m2 e1 e2 mi1 mi2 na1 na2 fa1 fa2 a1 = some r) : Met l y_Md_times (.code y_Md_times b_Md_times 22 (some .long) :: BIG) ({ frames := 3, cells := 0, slots := 0, locals := 77 } : Room) (va_Pc [.ref (ad 0), .int a1] (gPre D A (tysV cI cL cC) (gM cI cL cC ad X laid gone thr m1 m2 e1 e2 mi1 mi2 na1 na2 fa1 fa2 lets rlen rlaid rgone rthr were none_ beyo aN bN fN lN_ rN pN twos at_ rdig rpow good txt wri ra rb rfive rleft rright rpart))) (gQ D A (some (.long r)) (gM cI cL cC ad X laid gone thr m1 m2 e1 e2 mi1 mi2 na1 na2 fa1 fa2 lets rlen rlaid rgone rthr were none_ beyo aN bN fN lN_ rN pN twos at_ rdig rpow good txt wri ra rb rfive rleft rright rpart)) 0 0 A := by
  refine gOpen_l rfl (Nat.le_of_ble_eq_true rfl) ?_
  intro p e s m args below meth c Q ls hx hb hml hown hts hT hNB hP hK hD hl hret
  have hown : s.vm.findClass R_Md = some m.cls := hown
  have hS : va_S A s.heap s.heap [] := va_S.rf
  have hl : lv_has ls 22 [(0, .ref (ad 0)), (1, .int a1)] := hl
  have h : (lt_ (if mi1 = mi2 then (0 : Int32) else (1 : Int32)) fun x1 => lt_ (fun (_ : Unit) => some (F_Md_nan a1)) fun j77 => if ¬ na1 = 0 then (j77 ()) else (if ¬ na2 = 0 then (j77 ()) else (lt_ (fun (_ : Unit) => lt_ (fun (_ : Unit) => lt_ (fun (_ : Unit) => some (F_Md_far x1 a1)) fun j96 => if ¬ fa1 = 0 then (j96 ()) else (if fa2 = 0 then (lt_ (fun (_ : Unit) => some (F_Md_sign x1 a1)) fun j120 => if m1 = (0 : Int64) then (j120 ()) else (if ¬ m2 = (0 : Int64) then (lt_ (m1 &&& (134217727 : Int64)) fun x2 => lt_ (m1 >>> (((27 : Int32)).toInt64 &&& 63)) fun x3 => lt_ (m2 &&& (134217727 : Int64)) fun x4 => lt_ (m2 >>> (((27 : Int32)).toInt64 &&& 63)) fun x5 => lt_ (x2 * x4) fun x6 => lt_ (((x2 * x5) + (x3 * x4)) + (x6 >>> (((27 : Int32)).toInt64 &&& 63))) fun x7 => lt_ ((x3 * x5) + (x7 >>> (((27 : Int32)).toInt64 &&& 63))) fun x8 => lt_ (((x7 &&& (134217727 : Int64)) <<< (((27 : Int32)).toInt64 &&& 63)) ||| (x6 &&& (134217727 : Int64))) fun x9 => (F_Md_length n x8).bind fun x10 => if ¬ x10 = 0 then (lt_ ((62 : Int32) - x10) fun x11 => if x11 < (54 : Int32) then (lt_ ((54 : Int32) - x11) fun x12 => lt_ (if (x9 &&& (((1 : Int64) <<< ((x12).toInt64 &&& 63)) - (1 : Int64))) = (0 : Int64) then (0 : Int32) else (1 : Int32)) fun x13 => (F_Md_round n x1 ((x8 <<< ((x11).toInt64 &&& 63)) ||| (x9 >>> ((x12).toInt64 &&& 63))) ((e1 + e2) + x12) x13 a1).bind fun x14 => some x14) else ((F_Md_round n x1 ((x8 <<< (((54 : Int32)).toInt64 &&& 63)) ||| x9) (e1 + e2) (0 : Int32) a1).bind fun x15 => some x15)) else ((F_Md_round n x1 x9 (e1 + e2) (0 : Int32) a1).bind fun x16 => some x16)) else (j120 ()))) else (j96 ()))) fun j82 => if fa2 = 0 then (j82 ()) else (if ¬ m1 = (0 : Int64) then (j82 ()) else (if ¬ fa1 = 0 then (j82 ()) else (j77 ())))) fun j54 => if fa1 = 0 then (j54 ()) else (if ¬ m2 = (0 : Int64) then (j54 ()) else (if fa2 = 0 then (j77 ()) else (j54 ())))))) = some r := h
  refine lv_aload_n hx hb d_Md_times_0 rfl (lv_at hl 0 rfl) ?_
  refine va_get (D := D) (ci := 4) (C := R_Md) (T := T_Md) (N := 15) hx hb hT in_Md hown hK hP 0 rfl rfl 9 (by decide) (hT _ m_256) (fun _ h9 => h9) rfl d_Md_times_1 ?_
  refine lv_aload_n hx hb d_Md_times_4 rfl (lv_at hl 0 rfl) ?_
  refine va_get (D := D) (ci := 4) (C := R_Md) (T := T_Md) (N := 15) hx hb hT in_Md hown hK hP 0 rfl rfl 10 (by decide) (hT _ m_251) (fun _ h9 => h9) rfl d_Md_times_5 ?_
  obtain ⟨x1, e_x1, h⟩ := lt_o h
  have hJ16 : ∀ (x1' : Int32) (ls : Array Slot), x1 = x1' → lv_has ls 22 [(0, .ref (ad 0)), (1, .int a1)] → W p l e ({ frames := 3, cells := 0, slots := 0, locals := 77 } : Room) s m args below meth c s.heap [] 0 0 Q (F0 m 16 ls [.int x1']) := by
    intro x1' ls q_x1 hl
    subst q_x1
    refine lv_istore_n hx hb d_Md_times_16 rfl hl (by decide) rfl (fun ls hl => ?_)
    have hl : lv_has ls 22 [(2, .int x1), (0, .ref (ad 0)), (1, .int a1)] := hl
    refine lv_aload_n hx hb d_Md_times_17 rfl (lv_at hl 1 rfl) ?_
    refine va_get (D := D) (ci := 4) (C := R_Md) (T := T_Md) (N := 15) hx hb hT in_Md hown hK hP 0 rfl rfl 11 (by decide) (hT _ m_257) (fun _ h9 => h9) rfl d_Md_times_18 ?_
    obtain ⟨j77, e_j77, h⟩ := lt_o h
    have hJ77 : ∀ (ls : Array Slot) (H : Heap) (locs : List Loc), lv_has ls 22 [(1, .int a1)] → va_P D cls (gM cI cL cC ad X laid gone thr m1 m2 e1 e2 mi1 mi2 na1 na2 fa1 fa2 lets rlen rlaid rgone rthr were none_ beyo aN bN fN lN_ rN pN twos at_ rdig rpow good txt wri ra rb rfive rleft rright rpart) H → va_D A (gM cI cL cC ad X laid gone thr m1 m2 e1 e2 mi1 mi2 na1 na2 fa1 fa2 lets rlen rlaid rgone rthr were none_ beyo aN bN fN lN_ rN pN twos at_ rdig rpow good txt wri ra rb rfive rleft rright rpart) → va_S A s.heap H locs → j77 () = some r → W p l e ({ frames := 3, cells := 0, slots := 0, locals := 77 } : Room) s m args below meth c H locs 0 0 Q (F0 m 77 ls []) := by
      intro  ls H locs hl hP hD hS h
      rw [e_j77] at h
      refine lv_iload_n hx hb d_Md_times_77 rfl (lv_at hl 0 rfl) ?_
      refine q_S (As := [.int a1]) (rest := []) (n := 1) hx hb hml hown hts (c_Md_nan l a1) rfl rfl m_259 m_260 m_261 m_130 (by decide +kernel) ⟨Nat.le_of_ble_eq_true rfl, Nat.le_of_ble_eq_true rfl⟩ (p0_bl) (fun U hU hW => p0_mv hU hW hNB) rfl hl.1 rfl (Nat.le_of_ble_eq_true rfl) d_Md_times_78 ⟨Nat.zero_le _, Nat.zero_le _⟩ ?_
      obtain rfl := Option.some.inj h
      exact hret 81 ls _ _ _ rfl hP hD hS d_Md_times_81
    refine lv_if_ne (tgt := 77) hx hb d_Md_times_21 rfl (fun hc => ?_) (fun hc => ?_)
    · have h := ite_t hc h
      exact hJ77 ls _ _ (lv_sub hl [2] rfl) hP hD hS h
    · have hc := not_not_intro hc
      have h := ite_f hc h
      refine lv_aload_n hx hb d_Md_times_24 rfl (lv_at hl 1 rfl) ?_
      refine va_get (D := D) (ci := 4) (C := R_Md) (T := T_Md) (N := 15) hx hb hT in_Md hown hK hP 0 rfl rfl 12 (by decide) (hT _ m_252) (fun _ h9 => h9) rfl d_Md_times_25 ?_
      refine lv_if_ne (tgt := 77) hx hb d_Md_times_28 rfl (fun hc => ?_) (fun hc => ?_)
      · have h := ite_t hc h
        exact hJ77 ls _ _ (lv_sub hl [2] rfl) hP hD hS h
      · have hc := not_not_intro hc
        have h := ite_f hc h
        refine lv_aload_n hx hb d_Md_times_31 rfl (lv_at hl 1 rfl) ?_
        refine va_get (D := D) (ci := 4) (C := R_Md) (T := T_Md) (N := 15) hx hb hT in_Md hown hK hP 0 rfl rfl 13 (by decide) (hT _ m_258) (fun _ h9 => h9) rfl d_Md_times_32 ?_
        obtain ⟨j54, e_j54, h⟩ := lt_o h
        have hJ54 : ∀ (ls : Array Slot) (H : Heap) (locs : List Loc), lv_has ls 22 [(0, .ref (ad 0)), (1, .int a1), (2, .int x1)] → va_P D cls (gM cI cL cC ad X laid gone thr m1 m2 e1 e2 mi1 mi2 na1 na2 fa1 fa2 lets rlen rlaid rgone rthr were none_ beyo aN bN fN lN_ rN pN twos at_ rdig rpow good txt wri ra rb rfive rleft rright rpart) H → va_D A (gM cI cL cC ad X laid gone thr m1 m2 e1 e2 mi1 mi2 na1 na2 fa1 fa2 lets rlen rlaid rgone rthr were none_ beyo aN bN fN lN_ rN pN twos at_ rdig rpow good txt wri ra rb rfive rleft rright rpart) → va_S A s.heap H locs → j54 () = some r → W p l e ({ frames := 3, cells := 0, slots := 0, locals := 77 } : Room) s m args below meth c H locs 0 0 Q (F0 m 54 ls []) := by
          intro  ls H locs hl hP hD hS h
          rw [e_j54] at h
          refine lv_aload_n hx hb d_Md_times_54 rfl (lv_at hl 0 rfl) ?_
          refine va_get (D := D) (ci := 4) (C := R_Md) (T := T_Md) (N := 15) hx hb hT in_Md hown hK hP 0 rfl rfl 14 (by decide) (hT _ m_253) (fun _ h9 => h9) rfl d_Md_times_55 ?_
          obtain ⟨j82, e_j82, h⟩ := lt_o h
          have hJ82 : ∀ (ls : Array Slot) (H : Heap) (locs : List Loc), lv_has ls 22 [(0, .ref (ad 0)), (1, .int a1), (2, .int x1)] → va_P D cls (gM cI cL cC ad X laid gone thr m1 m2 e1 e2 mi1 mi2 na1 na2 fa1 fa2 lets rlen rlaid rgone rthr were none_ beyo aN bN fN lN_ rN pN twos at_ rdig rpow good txt wri ra rb rfive rleft rright rpart) H → va_D A (gM cI cL cC ad X laid gone thr m1 m2 e1 e2 mi1 mi2 na1 na2 fa1 fa2 lets rlen rlaid rgone rthr were none_ beyo aN bN fN lN_ rN pN twos at_ rdig rpow good txt wri ra rb rfive rleft rright rpart) → va_S A s.heap H locs → j82 () = some r → W p l e ({ frames := 3, cells := 0, slots := 0, locals := 77 } : Room) s m args below meth c H locs 0 0 Q (F0 m 82 ls []) := by
            intro  ls H locs hl hP hD hS h
            rw [e_j82] at h
            refine lv_aload_n hx hb d_Md_times_82 rfl (lv_at hl 0 rfl) ?_
            refine va_get (D := D) (ci := 4) (C := R_Md) (T := T_Md) (N := 15) hx hb hT in_Md hown hK hP 0 rfl rfl 13 (by decide) (hT _ m_258) (fun _ h9 => h9) rfl d_Md_times_83 ?_
            obtain ⟨j96, e_j96, h⟩ := lt_o h
            have hJ96 : ∀ (ls : Array Slot) (H : Heap) (locs : List Loc), lv_has ls 22 [(1, .int a1), (2, .int x1)] → va_P D cls (gM cI cL cC ad X laid gone thr m1 m2 e1 e2 mi1 mi2 na1 na2 fa1 fa2 lets rlen rlaid rgone rthr were none_ beyo aN bN fN lN_ rN pN twos at_ rdig rpow good txt wri ra rb rfive rleft rright rpart) H → va_D A (gM cI cL cC ad X laid gone thr m1 m2 e1 e2 mi1 mi2 na1 na2 fa1 fa2 lets rlen rlaid rgone rthr were none_ beyo aN bN fN lN_ rN pN twos at_ rdig rpow good txt wri ra rb rfive rleft rright rpart) → va_S A s.heap H locs → j96 () = some r → W p l e ({ frames := 3, cells := 0, slots := 0, locals := 77 } : Room) s m args below meth c H locs 0 0 Q (F0 m 96 ls []) := by
              intro  ls H locs hl hP hD hS h
              rw [e_j96] at h
              refine lv_iload_n hx hb d_Md_times_96 rfl (lv_at hl 1 rfl) ?_
              refine lv_iload_n hx hb d_Md_times_97 rfl (lv_at hl 0 rfl) ?_
              refine q_S (As := [.int x1, .int a1]) (rest := []) (n := 2) hx hb hml hown hts (c_Md_far l x1 a1) rfl rfl m_135 m_136 m_137 m_130 (by decide +kernel) ⟨Nat.le_of_ble_eq_true rfl, Nat.le_of_ble_eq_true rfl⟩ (p0_bl) (fun U hU hW => p0_mv hU hW hNB) rfl hl.1 rfl (Nat.le_of_ble_eq_true rfl) d_Md_times_98 ⟨Nat.zero_le _, Nat.zero_le _⟩ ?_
              obtain rfl := Option.some.inj h
              exact hret 101 ls _ _ _ rfl hP hD hS d_Md_times_101
            refine lv_if_ne (tgt := 96) hx hb d_Md_times_86 rfl (fun hc => ?_) (fun hc => ?_)
            · have h := ite_t hc h
              exact hJ96 ls _ _ (lv_sub hl [1, 2] rfl) hP hD hS h
            · have hc := not_not_intro hc
              have h := ite_f hc h
              refine lv_aload_n hx hb d_Md_times_89 rfl (lv_at hl 0 rfl) ?_
              refine va_get (D := D) (ci := 4) (C := R_Md) (T := T_Md) (N := 15) hx hb hT in_Md hown hK hP 0 rfl rfl 14 (by decide) (hT _ m_253) (fun _ h9 => h9) rfl d_Md_times_90 ?_
              refine lv_if_eq (tgt := 102) hx hb d_Md_times_93 rfl (fun hc => ?_) (fun hc => ?_)
              · have h := ite_t hc h
                refine lv_aload_n hx hb d_Md_times_102 rfl (lv_at hl 0 rfl) ?_
                refine va_get (D := D) (ci := 4) (C := R_Md) (T := T_Md) (N := 15) hx hb hT in_Md hown hK hP 0 rfl rfl 5 (by decide) (hT _ m_254) (fun _ h9 => h9) rfl d_Md_times_103 ?_
                refine lv_lconst hx hb d_Md_times_106 lc_0 ?_
                refine W.lcmp hx hb d_Md_times_107 ?_
                obtain ⟨j120, e_j120, h⟩ := lt_o h
                have hJ120 : ∀ (ls : Array Slot) (H : Heap) (locs : List Loc), lv_has ls 22 [(1, .int a1), (2, .int x1)] → va_P D cls (gM cI cL cC ad X laid gone thr m1 m2 e1 e2 mi1 mi2 na1 na2 fa1 fa2 lets rlen rlaid rgone rthr were none_ beyo aN bN fN lN_ rN pN twos at_ rdig rpow good txt wri ra rb rfive rleft rright rpart) H → va_D A (gM cI cL cC ad X laid gone thr m1 m2 e1 e2 mi1 mi2 na1 na2 fa1 fa2 lets rlen rlaid rgone rthr were none_ beyo aN bN fN lN_ rN pN twos at_ rdig rpow good txt wri ra rb rfive rleft rright rpart) → va_S A s.heap H locs → j120 () = some r → W p l e ({ frames := 3, cells := 0, slots := 0, locals := 77 } : Room) s m args below meth c H locs 0 0 Q (F0 m 120 ls []) := by
                  intro  ls H locs hl hP hD hS h
                  rw [e_j120] at h
                  refine lv_iload_n hx hb d_Md_times_120 rfl (lv_at hl 1 rfl) ?_
                  refine lv_iload_n hx hb d_Md_times_121 rfl (lv_at hl 0 rfl) ?_
                  refine q_S (As := [.int x1, .int a1]) (rest := []) (n := 2) hx hb hml hown hts (c_Md_sign l x1 a1) rfl rfl m_127 m_128 m_129 m_130 (by decide +kernel) ⟨Nat.le_of_ble_eq_true rfl, Nat.le_of_ble_eq_true rfl⟩ (p0_bl) (fun U hU hW => p0_mv hU hW hNB) rfl hl.1 rfl (Nat.le_of_ble_eq_true rfl) d_Md_times_122 ⟨Nat.zero_le _, Nat.zero_le _⟩ ?_
                  obtain rfl := Option.some.inj h
                  exact hret 125 ls _ _ _ rfl hP hD hS d_Md_times_125
                refine lv_if_eq (tgt := 120) hx hb d_Md_times_108 rfl (fun hc => ?_) (fun hc => ?_)
                · have hc := (lg_cmp_eq _ _).mp hc
                  have h := ite_t hc h
                  exact hJ120 ls _ _ (lv_sub hl [1, 2] rfl) hP hD hS h
                · have hc := mt (lg_cmp_eq _ _).mpr hc
                  have h := ite_f hc h
                  refine lv_aload_n hx hb d_Md_times_111 rfl (lv_at hl 0 rfl) ?_
                  refine va_get (D := D) (ci := 4) (C := R_Md) (T := T_Md) (N := 15) hx hb hT in_Md hown hK hP 0 rfl rfl 6 (by decide) (hT _ m_249) (fun _ h9 => h9) rfl d_Md_times_112 ?_
                  refine lv_lconst hx hb d_Md_times_115 lc_0 ?_
                  refine W.lcmp hx hb d_Md_times_116 ?_
                  refine lv_if_ne (tgt := 126) hx hb d_Md_times_117 rfl (fun hc => ?_) (fun hc => ?_)
                  · have hc := mt (lg_cmp_eq _ _).mpr hc
                    have h := ite_t hc h
                    refine lv_aload_n hx hb d_Md_times_126 rfl (lv_at hl 0 rfl) ?_
                    refine va_get (D := D) (ci := 4) (C := R_Md) (T := T_Md) (N := 15) hx hb hT in_Md hown hK hP 0 rfl rfl 5 (by decide) (hT _ m_254) (fun _ h9 => h9) rfl d_Md_times_127 ?_
                    refine lv_ldc2 hx hb hown (hT _ m_265) d_Md_times_130 ?_
                    refine lv_land hx hb d_Md_times_133 ?_
                    refine lv_topl (fun x2 e_x2 => ?_)
                    have h := lt_h e_x2 h
                    refine lv_lstore_n hx hb d_Md_times_134 rfl hl (by decide) rfl (fun ls hl => ?_)
                    have hl : lv_has ls 22 [(3, .long x2), (0, .ref (ad 0)), (1, .int a1), (2, .int x1)] := hl
                    refine lv_aload_n hx hb d_Md_times_135 rfl (lv_at hl 1 rfl) ?_
                    refine va_get (D := D) (ci := 4) (C := R_Md) (T := T_Md) (N := 15) hx hb hT in_Md hown hK hP 0 rfl rfl 5 (by decide) (hT _ m_254) (fun _ h9 => h9) rfl d_Md_times_136 ?_
                    refine lv_bipush hx hb d_Md_times_139 bp_27 ?_
                    refine lv_lshr hx hb d_Md_times_141 rfl ?_
                    refine lv_topl (fun x3 e_x3 => ?_)
                    have h := lt_h e_x3 h
                    refine lv_lstore hx hb d_Md_times_142 hl (by decide) rfl (fun ls hl => ?_)
                    have hl : lv_has ls 22 [(5, .long x3), (3, .long x2), (0, .ref (ad 0)), (1, .int a1), (2, .int x1)] := hl
                    refine lv_aload_n hx hb d_Md_times_144 rfl (lv_at hl 2 rfl) ?_
                    refine va_get (D := D) (ci := 4) (C := R_Md) (T := T_Md) (N := 15) hx hb hT in_Md hown hK hP 0 rfl rfl 6 (by decide) (hT _ m_249) (fun _ h9 => h9) rfl d_Md_times_145 ?_
                    refine lv_ldc2 hx hb hown (hT _ m_265) d_Md_times_148 ?_
                    refine lv_land hx hb d_Md_times_151 ?_
                    refine lv_topl (fun x4 e_x4 => ?_)
                    have h := lt_h e_x4 h
                    refine lv_lstore hx hb d_Md_times_152 hl (by decide) rfl (fun ls hl => ?_)
                    have hl : lv_has ls 22 [(7, .long x4), (5, .long x3), (3, .long x2), (0, .ref (ad 0)), (1, .int a1), (2, .int x1)] := hl
                    refine lv_aload_n hx hb d_Md_times_154 rfl (lv_at hl 3 rfl) ?_
                    refine va_get (D := D) (ci := 4) (C := R_Md) (T := T_Md) (N := 15) hx hb hT in_Md hown hK hP 0 rfl rfl 6 (by decide) (hT _ m_249) (fun _ h9 => h9) rfl d_Md_times_155 ?_
                    refine lv_bipush hx hb d_Md_times_158 bp_27 ?_
                    refine lv_lshr hx hb d_Md_times_160 rfl ?_
                    refine lv_topl (fun x5 e_x5 => ?_)
                    have h := lt_h e_x5 h
                    refine lv_lstore hx hb d_Md_times_161 hl (by decide) rfl (fun ls hl => ?_)
                    have hl : lv_has ls 22 [(9, .long x5), (7, .long x4), (5, .long x3), (3, .long x2), (0, .ref (ad 0)), (1, .int a1), (2, .int x1)] := hl
                    refine lv_lload_n hx hb d_Md_times_163 rfl (lv_at hl 3 rfl) ?_
                    refine lv_lload hx hb d_Md_times_164 (lv_at hl 1 rfl) ?_
                    refine lv_lmul hx hb d_Md_times_166 ?_
                    refine lv_topl (fun x6 e_x6 => ?_)
                    have h := lt_h e_x6 h
                    refine lv_lstore hx hb d_Md_times_167 hl (by decide) rfl (fun ls hl => ?_)
                    have hl : lv_has ls 22 [(11, .long x6), (9, .long x5), (7, .long x4), (5, .long x3), (3, .long x2), (0, .ref (ad 0)), (1, .int a1), (2, .int x1)] := hl
                    refine lv_lload_n hx hb d_Md_times_169 rfl (lv_at hl 4 rfl) ?_
                    refine lv_lload hx hb d_Md_times_170 (lv_at hl 1 rfl) ?_
                    refine lv_lmul hx hb d_Md_times_172 ?_
                    refine lv_lload hx hb d_Md_times_173 (lv_at hl 3 rfl) ?_
                    refine lv_lload hx hb d_Md_times_175 (lv_at hl 2 rfl) ?_
                    refine lv_lmul hx hb d_Md_times_177 ?_
                    refine lv_ladd hx hb d_Md_times_178 ?_
                    refine lv_lload hx hb d_Md_times_179 (lv_at hl 0 rfl) ?_
                    refine lv_bipush hx hb d_Md_times_181 bp_27 ?_
                    refine lv_lshr hx hb d_Md_times_183 rfl ?_
                    refine lv_ladd hx hb d_Md_times_184 ?_
                    refine lv_topl (fun x7 e_x7 => ?_)
                    have h := lt_h e_x7 h
                    refine lv_lstore hx hb d_Md_times_185 hl (by decide) rfl (fun ls hl => ?_)
                    have hl : lv_has ls 22 [(13, .long x7), (11, .long x6), (9, .long x5), (7, .long x4), (5, .long x3), (3, .long x2), (0, .ref (ad 0)), (1, .int a1), (2, .int x1)] := hl
                    refine lv_lload hx hb d_Md_times_187 (lv_at hl 4 rfl) ?_
                    refine lv_lload hx hb d_Md_times_189 (lv_at hl 2 rfl) ?_
                    refine lv_lmul hx hb d_Md_times_191 ?_
                    refine lv_lload hx hb d_Md_times_192 (lv_at hl 0 rfl) ?_
                    refine lv_bipush hx hb d_Md_times_194 bp_27 ?_
                    refine lv_lshr hx hb d_Md_times_196 rfl ?_
                    refine lv_ladd hx hb d_Md_times_197 ?_
                    refine lv_topl (fun x8 e_x8 => ?_)
                    have h := lt_h e_x8 h
                    refine lv_lstore hx hb d_Md_times_198 hl (by decide) rfl (fun ls hl => ?_)
                    have hl : lv_has ls 22 [(15, .long x8), (13, .long x7), (11, .long x6), (9, .long x5), (7, .long x4), (5, .long x3), (3, .long x2), (0, .ref (ad 0)), (1, .int a1), (2, .int x1)] := hl
                    refine lv_lload hx hb d_Md_times_200 (lv_at hl 1 rfl) ?_
                    refine lv_ldc2 hx hb hown (hT _ m_265) d_Md_times_202 ?_
                    refine lv_land hx hb d_Md_times_205 ?_
                    refine lv_bipush hx hb d_Md_times_206 bp_27 ?_
                    refine lv_lshl hx hb d_Md_times_208 rfl ?_
                    refine lv_lload hx hb d_Md_times_209 (lv_at hl 2 rfl) ?_
                    refine lv_ldc2 hx hb hown (hT _ m_265) d_Md_times_211 ?_
                    refine lv_land hx hb d_Md_times_214 ?_
                    refine lv_lor hx hb d_Md_times_215 ?_
                    refine lv_topl (fun x9 e_x9 => ?_)
                    have h := lt_h e_x9 h
                    refine lv_lstore hx hb d_Md_times_216 hl (by decide) rfl (fun ls hl => ?_)
                    have hl : lv_has ls 22 [(17, .long x9), (15, .long x8), (13, .long x7), (11, .long x6), (9, .long x5), (7, .long x4), (5, .long x3), (3, .long x2), (0, .ref (ad 0)), (1, .int a1), (2, .int x1)] := hl
                    refine lv_lload hx hb d_Md_times_218 (lv_at hl 1 rfl) ?_
                    obtain ⟨x10, e_x10, h⟩ := bd_o h
                    refine q_S (As := [.long x8]) (rest := []) (n := 1) hx hb hml hown hts (c_Md_length l n x8 _ e_x10) rfl rfl m_131 m_132 m_133 m_130 (by decide +kernel) ⟨Nat.le_of_ble_eq_true rfl, Nat.le_of_ble_eq_true rfl⟩ (p0_bl) (fun U hU hW => p0_mv hU hW hNB) rfl hl.1 rfl (Nat.le_of_ble_eq_true rfl) d_Md_times_220 ⟨Nat.zero_le _, Nat.zero_le _⟩ ?_
                    refine lv_istore hx hb d_Md_times_223 hl (by decide) rfl (fun ls hl => ?_)
                    have hl : lv_has ls 22 [(19, .int x10), (17, .long x9), (15, .long x8), (13, .long x7), (11, .long x6), (9, .long x5), (7, .long x4), (5, .long x3), (3, .long x2), (0, .ref (ad 0)), (1, .int a1), (2, .int x1)] := hl
                    refine lv_iload hx hb d_Md_times_225 (lv_at hl 0 rfl) ?_
                    refine lv_if_ne (tgt := 248) hx hb d_Md_times_227 rfl (fun hc => ?_) (fun hc => ?_)
                    · have h := ite_t hc h
                      refine lv_bipush hx hb d_Md_times_248 bp_62 ?_
                      refine lv_iload hx hb d_Md_times_250 (lv_at hl 0 rfl) ?_
                      refine lv_isub hx hb d_Md_times_252 ?_
                      refine lv_topi (fun x11 e_x11 => ?_)
                      have h := lt_h e_x11 h
                      refine lv_istore hx hb d_Md_times_253 hl (by decide) rfl (fun ls hl => ?_)
                      have hl : lv_has ls 22 [(20, .int x11), (19, .int x10), (17, .long x9), (15, .long x8), (13, .long x7), (11, .long x6), (9, .long x5), (7, .long x4), (5, .long x3), (3, .long x2), (0, .ref (ad 0)), (1, .int a1), (2, .int x1)] := hl
                      refine lv_iload hx hb d_Md_times_255 (lv_at hl 0 rfl) ?_
                      refine lv_bipush hx hb d_Md_times_257 bp_54 ?_
                      refine lv_icmp_lt (tgt := 286) hx hb d_Md_times_259 rfl (fun hc => ?_) (fun hc => ?_)
                      · have h := ite_t hc h
                        refine lv_bipush hx hb d_Md_times_286 bp_54 ?_
                        refine lv_iload hx hb d_Md_times_288 (lv_at hl 0 rfl) ?_
                        refine lv_isub hx hb d_Md_times_290 ?_
                        refine lv_topi (fun x12 e_x12 => ?_)
                        have h := lt_h e_x12 h
                        refine lv_istore hx hb d_Md_times_291 hl (by decide) rfl (fun ls hl => ?_)
                        have hl : lv_has ls 22 [(21, .int x12), (20, .int x11), (19, .int x10), (17, .long x9), (15, .long x8), (13, .long x7), (11, .long x6), (9, .long x5), (7, .long x4), (5, .long x3), (3, .long x2), (0, .ref (ad 0)), (1, .int a1), (2, .int x1)] := hl
                        refine lv_iload_n hx hb d_Md_times_293 rfl (lv_at hl 13 rfl) ?_
                        refine lv_lload hx hb d_Md_times_294 (lv_at hl 4 rfl) ?_
                        refine lv_iload hx hb d_Md_times_296 (lv_at hl 1 rfl) ?_
                        refine lv_lshl hx hb d_Md_times_298 rfl ?_
                        refine lv_lload hx hb d_Md_times_299 (lv_at hl 3 rfl) ?_
                        refine lv_iload hx hb d_Md_times_301 (lv_at hl 0 rfl) ?_
                        refine lv_lshr hx hb d_Md_times_303 rfl ?_
                        refine lv_lor hx hb d_Md_times_304 ?_
                        refine lv_aload_n hx hb d_Md_times_305 rfl (lv_at hl 11 rfl) ?_
                        refine va_get (D := D) (ci := 4) (C := R_Md) (T := T_Md) (N := 15) hx hb hT in_Md hown hK hP 0 rfl rfl 7 (by decide) (hT _ m_255) (fun _ h9 => h9) rfl d_Md_times_306 ?_
                        refine lv_aload_n hx hb d_Md_times_309 rfl (lv_at hl 11 rfl) ?_
                        refine va_get (D := D) (ci := 4) (C := R_Md) (T := T_Md) (N := 15) hx hb hT in_Md hown hK hP 0 rfl rfl 8 (by decide) (hT _ m_250) (fun _ h9 => h9) rfl d_Md_times_310 ?_
                        refine lv_iadd hx hb d_Md_times_313 ?_
                        refine lv_iload hx hb d_Md_times_314 (lv_at hl 0 rfl) ?_
                        refine lv_iadd hx hb d_Md_times_316 ?_
                        refine lv_lload hx hb d_Md_times_317 (lv_at hl 3 rfl) ?_
                        refine lv_lconst hx hb d_Md_times_319 lc_1 ?_
                        refine lv_iload hx hb d_Md_times_320 (lv_at hl 0 rfl) ?_
                        refine lv_lshl hx hb d_Md_times_322 rfl ?_
                        refine lv_lconst hx hb d_Md_times_323 lc_1 ?_
                        refine lv_lsub hx hb d_Md_times_324 ?_
                        refine lv_land hx hb d_Md_times_325 ?_
                        refine lv_lconst hx hb d_Md_times_326 lc_0 ?_
                        refine W.lcmp hx hb d_Md_times_327 ?_
                        obtain ⟨x13, e_x13, h⟩ := lt_o h
                        have hJ336 : ∀ (x13' : Int32) (ls : Array Slot), x13 = x13' → lv_has ls 22 [(1, .int a1)] → W p l e ({ frames := 3, cells := 0, slots := 0, locals := 77 } : Room) s m args below meth c H locs 0 0 Q (F0 m 336 ls [.int x13', .int ((e1 + e2) + x12), .long ((x8 <<< ((x11).toInt64 &&& 63)) ||| (x9 >>> ((x12).toInt64 &&& 63))), .int x1]) := by
                          intro x13' ls q_x13 hl
                          subst q_x13
                          refine lv_iload_n hx hb d_Md_times_336 rfl (lv_at hl 0 rfl) ?_
                          obtain ⟨x14, e_x14, h⟩ := bd_o h
                          refine q_S (As := [.int x1, .long ((x8 <<< ((x11).toInt64 &&& 63)) ||| (x9 >>> ((x12).toInt64 &&& 63))), .int ((e1 + e2) + x12), .int x13, .int a1]) (rest := []) (n := 5) hx hb hml hown hts (c_Md_round l n x1 ((x8 <<< ((x11).toInt64 &&& 63)) ||| (x9 >>> ((x12).toInt64 &&& 63))) ((e1 + e2) + x12) x13 a1 _ e_x14) rfl rfl m_262 m_263 m_264 m_130 (by decide +kernel) ⟨Nat.le_of_ble_eq_true rfl, Nat.le_of_ble_eq_true rfl⟩ (p0_bl) (fun U hU hW => p0_mv hU hW hNB) rfl hl.1 rfl (Nat.le_of_ble_eq_true rfl) d_Md_times_337 ⟨Nat.zero_le _, Nat.zero_le _⟩ ?_
                          obtain rfl := Option.some.inj h
                          exact hret 340 ls _ _ _ rfl hP hD hS d_Md_times_340
                        refine lv_if_eq (tgt := 335) hx hb d_Md_times_328 rfl (fun hc => ?_) (fun hc => ?_)
                        · have hc := (lg_cmp_eq _ _).mp hc
                          have e_x13 := e_x13.trans (if_pos hc)
                          refine lv_iconst hx hb d_Md_times_335 ic_0 ?_
                          exact hJ336 _ ls e_x13 (lv_sub hl [12] rfl)
                        · have hc := mt (lg_cmp_eq _ _).mpr hc
                          have e_x13 := e_x13.trans (if_neg hc)
                          refine lv_iconst hx hb d_Md_times_331 ic_1 ?_
                          refine lv_goto (tgt := 336) hx hb d_Md_times_332 rfl ?_
                          exact hJ336 _ ls e_x13 (lv_sub hl [12] rfl)
                      · have h := ite_f hc h
                        refine lv_iload_n hx hb d_Md_times_262 rfl (lv_at hl 12 rfl) ?_
                        refine lv_lload hx hb d_Md_times_263 (lv_at hl 3 rfl) ?_
                        refine lv_bipush hx hb d_Md_times_265 bp_54 ?_
                        refine lv_lshl hx hb d_Md_times_267 rfl ?_
                        refine lv_lload hx hb d_Md_times_268 (lv_at hl 2 rfl) ?_
                        refine lv_lor hx hb d_Md_times_270 ?_
                        refine lv_aload_n hx hb d_Md_times_271 rfl (lv_at hl 10 rfl) ?_
                        refine va_get (D := D) (ci := 4) (C := R_Md) (T := T_Md) (N := 15) hx hb hT in_Md hown hK hP 0 rfl rfl 7 (by decide) (hT _ m_255) (fun _ h9 => h9) rfl d_Md_times_272 ?_
                        refine lv_aload_n hx hb d_Md_times_275 rfl (lv_at hl 10 rfl) ?_
                        refine va_get (D := D) (ci := 4) (C := R_Md) (T := T_Md) (N := 15) hx hb hT in_Md hown hK hP 0 rfl rfl 8 (by decide) (hT _ m_250) (fun _ h9 => h9) rfl d_Md_times_276 ?_
                        refine lv_iadd hx hb d_Md_times_279 ?_
                        refine lv_iconst hx hb d_Md_times_280 ic_0 ?_
                        refine lv_iload_n hx hb d_Md_times_281 rfl (lv_at hl 11 rfl) ?_
                        obtain ⟨x15, e_x15, h⟩ := bd_o h
                        refine q_S (As := [.int x1, .long ((x8 <<< (((54 : Int32)).toInt64 &&& 63)) ||| x9), .int (e1 + e2), .int (0 : Int32), .int a1]) (rest := []) (n := 5) hx hb hml hown hts (c_Md_round l n x1 ((x8 <<< (((54 : Int32)).toInt64 &&& 63)) ||| x9) (e1 + e2) (0 : Int32) a1 _ e_x15) rfl rfl m_262 m_263 m_264 m_130 (by decide +kernel) ⟨Nat.le_of_ble_eq_true rfl, Nat.le_of_ble_eq_true rfl⟩ (p0_bl) (fun U hU hW => p0_mv hU hW hNB) rfl hl.1 rfl (Nat.le_of_ble_eq_true rfl) d_Md_times_282 ⟨Nat.zero_le _, Nat.zero_le _⟩ ?_
                        obtain rfl := Option.some.inj h
                        exact hret 285 ls _ _ _ rfl hP hD hS d_Md_times_285
                    · have hc := not_not_intro hc
                      have h := ite_f hc h
                      refine lv_iload_n hx hb d_Md_times_230 rfl (lv_at hl 11 rfl) ?_
                      refine lv_lload hx hb d_Md_times_231 (lv_at hl 1 rfl) ?_
                      refine lv_aload_n hx hb d_Md_times_233 rfl (lv_at hl 9 rfl) ?_
                      refine va_get (D := D) (ci := 4) (C := R_Md) (T := T_Md) (N := 15) hx hb hT in_Md hown hK hP 0 rfl rfl 7 (by decide) (hT _ m_255) (fun _ h9 => h9) rfl d_Md_times_234 ?_
                      refine lv_aload_n hx hb d_Md_times_237 rfl (lv_at hl 9 rfl) ?_
                      refine va_get (D := D) (ci := 4) (C := R_Md) (T := T_Md) (N := 15) hx hb hT in_Md hown hK hP 0 rfl rfl 8 (by decide) (hT _ m_250) (fun _ h9 => h9) rfl d_Md_times_238 ?_
                      refine lv_iadd hx hb d_Md_times_241 ?_
                      refine lv_iconst hx hb d_Md_times_242 ic_0 ?_
                      refine lv_iload_n hx hb d_Md_times_243 rfl (lv_at hl 10 rfl) ?_
                      obtain ⟨x16, e_x16, h⟩ := bd_o h
                      refine q_S (As := [.int x1, .long x9, .int (e1 + e2), .int (0 : Int32), .int a1]) (rest := []) (n := 5) hx hb hml hown hts (c_Md_round l n x1 x9 (e1 + e2) (0 : Int32) a1 _ e_x16) rfl rfl m_262 m_263 m_264 m_130 (by decide +kernel) ⟨Nat.le_of_ble_eq_true rfl, Nat.le_of_ble_eq_true rfl⟩ (p0_bl) (fun U hU hW => p0_mv hU hW hNB) rfl hl.1 rfl (Nat.le_of_ble_eq_true rfl) d_Md_times_244 ⟨Nat.zero_le _, Nat.zero_le _⟩ ?_
                      obtain rfl := Option.some.inj h
                      exact hret 247 ls _ _ _ rfl hP hD hS d_Md_times_247
                  · have hc := not_not_intro ((lg_cmp_eq _ _).mp hc)
                    have h := ite_f hc h
                    exact hJ120 ls _ _ (lv_sub hl [1, 2] rfl) hP hD hS h
              · have h := ite_f hc h
                exact hJ96 ls _ _ (lv_sub hl [1, 2] rfl) hP hD hS h
          refine lv_if_eq (tgt := 82) hx hb d_Md_times_58 rfl (fun hc => ?_) (fun hc => ?_)
          · have h := ite_t hc h
            exact hJ82 ls _ _ (lv_sub hl [0, 1, 2] rfl) hP hD hS h
          · have h := ite_f hc h
            refine lv_aload_n hx hb d_Md_times_61 rfl (lv_at hl 0 rfl) ?_
            refine va_get (D := D) (ci := 4) (C := R_Md) (T := T_Md) (N := 15) hx hb hT in_Md hown hK hP 0 rfl rfl 5 (by decide) (hT _ m_254) (fun _ h9 => h9) rfl d_Md_times_62 ?_
            refine lv_lconst hx hb d_Md_times_65 lc_0 ?_
            refine W.lcmp hx hb d_Md_times_66 ?_
            refine lv_if_ne (tgt := 82) hx hb d_Md_times_67 rfl (fun hc => ?_) (fun hc => ?_)
            · have hc := mt (lg_cmp_eq _ _).mpr hc
              have h := ite_t hc h
              exact hJ82 ls _ _ (lv_sub hl [0, 1, 2] rfl) hP hD hS h
            · have hc := not_not_intro ((lg_cmp_eq _ _).mp hc)
              have h := ite_f hc h
              refine lv_aload_n hx hb d_Md_times_70 rfl (lv_at hl 0 rfl) ?_
              refine va_get (D := D) (ci := 4) (C := R_Md) (T := T_Md) (N := 15) hx hb hT in_Md hown hK hP 0 rfl rfl 13 (by decide) (hT _ m_258) (fun _ h9 => h9) rfl d_Md_times_71 ?_
              refine lv_if_ne (tgt := 82) hx hb d_Md_times_74 rfl (fun hc => ?_) (fun hc => ?_)
              · have h := ite_t hc h
                exact hJ82 ls _ _ (lv_sub hl [0, 1, 2] rfl) hP hD hS h
              · have hc := not_not_intro hc
                have h := ite_f hc h
                exact hJ77 ls _ _ (lv_sub hl [1] rfl) hP hD hS h
        refine lv_if_eq (tgt := 54) hx hb d_Md_times_35 rfl (fun hc => ?_) (fun hc => ?_)
        · have h := ite_t hc h
          exact hJ54 ls _ _ (lv_sub hl [1, 2, 0] rfl) hP hD hS h
        · have h := ite_f hc h
          refine lv_aload_n hx hb d_Md_times_38 rfl (lv_at hl 1 rfl) ?_
          refine va_get (D := D) (ci := 4) (C := R_Md) (T := T_Md) (N := 15) hx hb hT in_Md hown hK hP 0 rfl rfl 6 (by decide) (hT _ m_249) (fun _ h9 => h9) rfl d_Md_times_39 ?_
          refine lv_lconst hx hb d_Md_times_42 lc_0 ?_
          refine W.lcmp hx hb d_Md_times_43 ?_
          refine lv_if_ne (tgt := 54) hx hb d_Md_times_44 rfl (fun hc => ?_) (fun hc => ?_)
          · have hc := mt (lg_cmp_eq _ _).mpr hc
            have h := ite_t hc h
            exact hJ54 ls _ _ (lv_sub hl [1, 2, 0] rfl) hP hD hS h
          · have hc := not_not_intro ((lg_cmp_eq _ _).mp hc)
            have h := ite_f hc h
            refine lv_aload_n hx hb d_Md_times_47 rfl (lv_at hl 1 rfl) ?_
            refine va_get (D := D) (ci := 4) (C := R_Md) (T := T_Md) (N := 15) hx hb hT in_Md hown hK hP 0 rfl rfl 14 (by decide) (hT _ m_253) (fun _ h9 => h9) rfl d_Md_times_48 ?_
            refine lv_if_eq (tgt := 77) hx hb d_Md_times_51 rfl (fun hc => ?_) (fun hc => ?_)
            · have h := ite_t hc h
              exact hJ77 ls _ _ (lv_sub hl [2] rfl) hP hD hS h
            · have h := ite_f hc h
              exact hJ54 ls _ _ (lv_sub hl [1, 2, 0] rfl) hP hD hS h
  refine lv_icmp_eq (tgt := 15) hx hb d_Md_times_8 rfl (fun hc => ?_) (fun hc => ?_)
  · have e_x1 := e_x1.trans (if_pos hc)
    refine lv_iconst hx hb d_Md_times_15 ic_0 ?_
    exact hJ16 _ ls e_x1 (lv_sub hl [0, 1] rfl)
  · have e_x1 := e_x1.trans (if_neg hc)
    refine lv_iconst hx hb d_Md_times_11 ic_1 ?_
    refine lv_goto (tgt := 16) hx hb d_Md_times_12 rfl ?_
    exact hJ16 _ ls e_x1 (lv_sub hl [0, 1] rfl)
