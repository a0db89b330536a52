theorem dX12_init_0 : decode cX12_init 0 = .ok (.aload_n 0, 1) := by decide +kernel
theorem dX12_init_1 : decode cX12_init 1 = .ok (.invokespecial 1, 3) := by decide +kernel
theorem dX12_init_4 : decode cX12_init 4 = .ok (.aload_n 0, 1) := by decide +kernel
theorem dX12_init_5 : decode cX12_init 5 = .ok (.bipush 8, 2) := by decide +kernel
theorem dX12_init_7 : decode cX12_init 7 = .ok (.newarray .int, 2) := by decide +kernel
theorem dX12_init_9 : decode cX12_init 9 = .ok (.putfield 7, 3) := by decide +kernel
theorem dX12_init_12 : decode cX12_init 12 = .ok (.aload_n 0, 1) := by decide +kernel
theorem dX12_init_13 : decode cX12_init 13 = .ok (.sipush 128, 3) := by decide +kernel
theorem dX12_init_16 : decode cX12_init 16 = .ok (.newarray .int, 2) := by decide +kernel
theorem dX12_init_18 : decode cX12_init 18 = .ok (.putfield 13, 3) := by decide +kernel
theorem dX12_init_21 : decode cX12_init 21 = .ok (.aload_n 0, 1) := by decide +kernel
theorem dX12_init_22 : decode cX12_init 22 = .ok (.sipush 128, 3) := by decide +kernel
theorem dX12_init_25 : decode cX12_init 25 = .ok (.newarray .int, 2) := by decide +kernel
theorem dX12_init_27 : decode cX12_init 27 = .ok (.putfield 16, 3) := by decide +kernel
theorem dX12_init_30 : decode cX12_init 30 = .ok (.aload_n 0, 1) := by decide +kernel
theorem dX12_init_31 : decode cX12_init 31 = .ok (.sipush 128, 3) := by decide +kernel
theorem dX12_init_34 : decode cX12_init 34 = .ok (.newarray .int, 2) := by decide +kernel
theorem dX12_init_36 : decode cX12_init 36 = .ok (.putfield 19, 3) := by decide +kernel
theorem dX12_init_39 : decode cX12_init 39 = .ok (.aload_n 0, 1) := by decide +kernel
theorem dX12_init_40 : decode cX12_init 40 = .ok (.sipush 8192, 3) := by decide +kernel
theorem dX12_init_43 : decode cX12_init 43 = .ok (.newarray .boolean, 2) := by decide +kernel
theorem dX12_init_45 : decode cX12_init 45 = .ok (.putfield 22, 3) := by decide +kernel
theorem dX12_init_48 : decode cX12_init 48 = .ok (.aload_n 0, 1) := by decide +kernel
theorem dX12_init_49 : decode cX12_init 49 = .ok (.bipush 6, 2) := by decide +kernel
theorem dX12_init_51 : decode cX12_init 51 = .ok (.newarray .int, 2) := by decide +kernel
theorem dX12_init_53 : decode cX12_init 53 = .ok (.putfield 26, 3) := by decide +kernel
theorem dX12_init_56 : decode cX12_init 56 = .ok (.aload_n 0, 1) := by decide +kernel
theorem dX12_init_57 : decode cX12_init 57 = .ok (.bipush 6, 2) := by decide +kernel
theorem dX12_init_59 : decode cX12_init 59 = .ok (.newarray .int, 2) := by decide +kernel
theorem dX12_init_61 : decode cX12_init 61 = .ok (.putfield 29, 3) := by decide +kernel
theorem dX12_init_64 : decode cX12_init 64 = .ok (.aload_n 0, 1) := by decide +kernel
theorem dX12_init_65 : decode cX12_init 65 = .ok (.bipush 6, 2) := by decide +kernel
theorem dX12_init_67 : decode cX12_init 67 = .ok (.newarray .int, 2) := by decide +kernel
theorem dX12_init_69 : decode cX12_init 69 = .ok (.putfield 32, 3) := by decide +kernel
theorem dX12_init_72 : decode cX12_init 72 = .ok (.aload_n 0, 1) := by decide +kernel
theorem dX12_init_73 : decode cX12_init 73 = .ok (.bipush 6, 2) := by decide +kernel
theorem dX12_init_75 : decode cX12_init 75 = .ok (.newarray .int, 2) := by decide +kernel
theorem dX12_init_77 : decode cX12_init 77 = .ok (.putfield 35, 3) := by decide +kernel
theorem dX12_init_80 : decode cX12_init 80 = .ok (.aload_n 0, 1) := by decide +kernel
theorem dX12_init_81 : decode cX12_init 81 = .ok (.sipush 220, 3) := by decide +kernel
theorem dX12_init_84 : decode cX12_init 84 = .ok (.newarray .byte, 2) := by decide +kernel
theorem dX12_init_86 : decode cX12_init 86 = .ok (.putfield 38, 3) := by decide +kernel
theorem dX12_init_89 : decode cX12_init 89 = .ok (.aload_n 0, 1) := by decide +kernel
theorem dX12_init_90 : decode cX12_init 90 = .ok (.sipush 180, 3) := by decide +kernel
theorem dX12_init_93 : decode cX12_init 93 = .ok (.newarray .int, 2) := by decide +kernel
theorem dX12_init_95 : decode cX12_init 95 = .ok (.putfield 42, 3) := by decide +kernel
theorem dX12_init_98 : decode cX12_init 98 = .ok (.aload_n 0, 1) := by decide +kernel
theorem dX12_init_99 : decode cX12_init 99 = .ok (.sipush 180, 3) := by decide +kernel
theorem dX12_init_102 : decode cX12_init 102 = .ok (.newarray .int, 2) := by decide +kernel
theorem dX12_init_104 : decode cX12_init 104 = .ok (.putfield 45, 3) := by decide +kernel
theorem dX12_init_107 : decode cX12_init 107 = .ok (.aload_n 0, 1) := by decide +kernel
theorem dX12_init_108 : decode cX12_init 108 = .ok (.bipush 12, 2) := by decide +kernel
theorem dX12_init_110 : decode cX12_init 110 = .ok (.newarray .int, 2) := by decide +kernel
theorem dX12_init_112 : decode cX12_init 112 = .ok (.putfield 48, 3) := by decide +kernel
theorem dX12_init_115 : decode cX12_init 115 = .ok (.aload_n 0, 1) := by decide +kernel
theorem dX12_init_116 : decode cX12_init 116 = .ok (.bipush 12, 2) := by decide +kernel
theorem dX12_init_118 : decode cX12_init 118 = .ok (.newarray .int, 2) := by decide +kernel
theorem dX12_init_120 : decode cX12_init 120 = .ok (.putfield 51, 3) := by decide +kernel
theorem dX12_init_123 : decode cX12_init 123 = .ok (.aload_n 0, 1) := by decide +kernel
theorem dX12_init_124 : decode cX12_init 124 = .ok (.bipush 12, 2) := by decide +kernel
theorem dX12_init_126 : decode cX12_init 126 = .ok (.newarray .int, 2) := by decide +kernel
theorem dX12_init_128 : decode cX12_init 128 = .ok (.putfield 54, 3) := by decide +kernel
theorem dX12_init_131 : decode cX12_init 131 = .ok (.aload_n 0, 1) := by decide +kernel
theorem dX12_init_132 : decode cX12_init 132 = .ok (.sipush 180, 3) := by decide +kernel
theorem dX12_init_135 : decode cX12_init 135 = .ok (.newarray .int, 2) := by decide +kernel
theorem dX12_init_137 : decode cX12_init 137 = .ok (.putfield 57, 3) := by decide +kernel
theorem dX12_init_140 : decode cX12_init 140 = .ok (.aload_n 0, 1) := by decide +kernel
theorem dX12_init_141 : decode cX12_init 141 = .ok (.bipush 12, 2) := by decide +kernel
theorem dX12_init_143 : decode cX12_init 143 = .ok (.newarray .int, 2) := by decide +kernel
theorem dX12_init_145 : decode cX12_init 145 = .ok (.putfield 60, 3) := by decide +kernel
theorem dX12_init_148 : decode cX12_init 148 = .ok (.aload_n 0, 1) := by decide +kernel
theorem dX12_init_149 : decode cX12_init 149 = .ok (.bipush 12, 2) := by decide +kernel
theorem dX12_init_151 : decode cX12_init 151 = .ok (.newarray .int, 2) := by decide +kernel
theorem dX12_init_153 : decode cX12_init 153 = .ok (.putfield 63, 3) := by decide +kernel
theorem dX12_init_156 : decode cX12_init 156 = .ok (.aload_n 0, 1) := by decide +kernel
theorem dX12_init_157 : decode cX12_init 157 = .ok (.bipush 12, 2) := by decide +kernel
theorem dX12_init_159 : decode cX12_init 159 = .ok (.newarray .int, 2) := by decide +kernel
theorem dX12_init_161 : decode cX12_init 161 = .ok (.putfield 66, 3) := by decide +kernel
theorem dX12_init_164 : decode cX12_init 164 = .ok (.aload_n 0, 1) := by decide +kernel
theorem dX12_init_165 : decode cX12_init 165 = .ok (.sipush 180, 3) := by decide +kernel
theorem dX12_init_168 : decode cX12_init 168 = .ok (.newarray .int, 2) := by decide +kernel
theorem dX12_init_170 : decode cX12_init 170 = .ok (.putfield 69, 3) := by decide +kernel
theorem dX12_init_173 : decode cX12_init 173 = .ok (.aload_n 0, 1) := by decide +kernel
theorem dX12_init_174 : decode cX12_init 174 = .ok (.bipush 9, 2) := by decide +kernel
theorem dX12_init_176 : decode cX12_init 176 = .ok (.newarray .int, 2) := by decide +kernel
theorem dX12_init_178 : decode cX12_init 178 = .ok (.putfield 72, 3) := by decide +kernel
theorem dX12_init_181 : decode cX12_init 181 = .ok (.aload_n 0, 1) := by decide +kernel
theorem dX12_init_182 : decode cX12_init 182 = .ok (.bipush 12, 2) := by decide +kernel
theorem dX12_init_184 : decode cX12_init 184 = .ok (.newarray .int, 2) := by decide +kernel
theorem dX12_init_186 : decode cX12_init 186 = .ok (.putfield 75, 3) := by decide +kernel
theorem dX12_init_189 : decode cX12_init 189 = .ok (.aload_n 0, 1) := by decide +kernel
theorem dX12_init_190 : decode cX12_init 190 = .ok (.bipush 12, 2) := by decide +kernel
theorem dX12_init_192 : decode cX12_init 192 = .ok (.newarray .int, 2) := by decide +kernel
theorem dX12_init_194 : decode cX12_init 194 = .ok (.putfield 78, 3) := by decide +kernel
theorem dX12_init_197 : decode cX12_init 197 = .ok (.aload_n 0, 1) := by decide +kernel
theorem dX12_init_198 : decode cX12_init 198 = .ok (.bipush 12, 2) := by decide +kernel
theorem dX12_init_200 : decode cX12_init 200 = .ok (.newarray .int, 2) := by decide +kernel
theorem dX12_init_202 : decode cX12_init 202 = .ok (.putfield 81, 3) := by decide +kernel
theorem dX12_init_205 : decode cX12_init 205 = .ok (.aload_n 0, 1) := by decide +kernel
theorem dX12_init_206 : decode cX12_init 206 = .ok (.bipush 12, 2) := by decide +kernel
theorem dX12_init_208 : decode cX12_init 208 = .ok (.newarray .int, 2) := by decide +kernel
theorem dX12_init_210 : decode cX12_init 210 = .ok (.putfield 84, 3) := by decide +kernel
theorem dX12_init_213 : decode cX12_init 213 = .ok (.aload_n 0, 1) := by decide +kernel
theorem dX12_init_214 : decode cX12_init 214 = .ok (.bipush 12, 2) := by decide +kernel
theorem dX12_init_216 : decode cX12_init 216 = .ok (.newarray .int, 2) := by decide +kernel
theorem dX12_init_218 : decode cX12_init 218 = .ok (.putfield 87, 3) := by decide +kernel
theorem dX12_init_221 : decode cX12_init 221 = .ok (.aload_n 0, 1) := by decide +kernel
theorem dX12_init_222 : decode cX12_init 222 = .ok (.bipush 12, 2) := by decide +kernel
theorem dX12_init_224 : decode cX12_init 224 = .ok (.newarray .int, 2) := by decide +kernel
theorem dX12_init_226 : decode cX12_init 226 = .ok (.putfield 90, 3) := by decide +kernel
theorem dX12_init_229 : decode cX12_init 229 = .ok (.aload_n 0, 1) := by decide +kernel
theorem dX12_init_230 : decode cX12_init 230 = .ok (.bipush 72, 2) := by decide +kernel
theorem dX12_init_232 : decode cX12_init 232 = .ok (.newarray .int, 2) := by decide +kernel
theorem dX12_init_234 : decode cX12_init 234 = .ok (.putfield 93, 3) := by decide +kernel
theorem dX12_init_237 : decode cX12_init 237 = .ok (.aload_n 0, 1) := by decide +kernel
theorem dX12_init_238 : decode cX12_init 238 = .ok (.bipush 72, 2) := by decide +kernel
theorem dX12_init_240 : decode cX12_init 240 = .ok (.newarray .int, 2) := by decide +kernel
theorem dX12_init_242 : decode cX12_init 242 = .ok (.putfield 96, 3) := by decide +kernel
theorem dX12_init_245 : decode cX12_init 245 = .ok (.aload_n 0, 1) := by decide +kernel
theorem dX12_init_246 : decode cX12_init 246 = .ok (.bipush 72, 2) := by decide +kernel
theorem dX12_init_248 : decode cX12_init 248 = .ok (.newarray .int, 2) := by decide +kernel
theorem dX12_init_250 : decode cX12_init 250 = .ok (.putfield 99, 3) := by decide +kernel
theorem dX12_init_253 : decode cX12_init 253 = .ok (.aload_n 0, 1) := by decide +kernel
theorem dX12_init_254 : decode cX12_init 254 = .ok (.sipush 12288, 3) := by decide +kernel
theorem dX12_init_257 : decode cX12_init 257 = .ok (.newarray .int, 2) := by decide +kernel
theorem dX12_init_259 : decode cX12_init 259 = .ok (.putfield 102, 3) := by decide +kernel
theorem dX12_init_262 : decode cX12_init 262 = .ok (.aload_n 0, 1) := by decide +kernel
theorem dX12_init_263 : decode cX12_init 263 = .ok (.sipush 12288, 3) := by decide +kernel
theorem dX12_init_266 : decode cX12_init 266 = .ok (.newarray .int, 2) := by decide +kernel
theorem dX12_init_268 : decode cX12_init 268 = .ok (.putfield 105, 3) := by decide +kernel
theorem dX12_init_271 : decode cX12_init 271 = .ok (.aload_n 0, 1) := by decide +kernel
theorem dX12_init_272 : decode cX12_init 272 = .ok (.sipush 12288, 3) := by decide +kernel
theorem dX12_init_275 : decode cX12_init 275 = .ok (.newarray .int, 2) := by decide +kernel
theorem dX12_init_277 : decode cX12_init 277 = .ok (.putfield 108, 3) := by decide +kernel
theorem dX12_init_280 : decode cX12_init 280 = .ok (.aload_n 0, 1) := by decide +kernel
theorem dX12_init_281 : decode cX12_init 281 = .ok (.bipush 6, 2) := by decide +kernel
theorem dX12_init_283 : decode cX12_init 283 = .ok (.newarray .int, 2) := by decide +kernel
theorem dX12_init_285 : decode cX12_init 285 = .ok (.putfield 111, 3) := by decide +kernel
theorem dX12_init_288 : decode cX12_init 288 = .ok (.aload_n 0, 1) := by decide +kernel
theorem dX12_init_289 : decode cX12_init 289 = .ok (.bipush 6, 2) := by decide +kernel
theorem dX12_init_291 : decode cX12_init 291 = .ok (.newarray .int, 2) := by decide +kernel
theorem dX12_init_293 : decode cX12_init 293 = .ok (.putfield 114, 3) := by decide +kernel
theorem dX12_init_296 : decode cX12_init 296 = .ok (.aload_n 0, 1) := by decide +kernel
theorem dX12_init_297 : decode cX12_init 297 = .ok (.bipush 6, 2) := by decide +kernel
theorem dX12_init_299 : decode cX12_init 299 = .ok (.newarray .int, 2) := by decide +kernel
theorem dX12_init_301 : decode cX12_init 301 = .ok (.putfield 117, 3) := by decide +kernel
theorem dX12_init_304 : decode cX12_init 304 = .ok (.aload_n 0, 1) := by decide +kernel
theorem dX12_init_305 : decode cX12_init 305 = .ok (.sipush 8192, 3) := by decide +kernel
theorem dX12_init_308 : decode cX12_init 308 = .ok (.newarray .int, 2) := by decide +kernel
theorem dX12_init_310 : decode cX12_init 310 = .ok (.putfield 120, 3) := by decide +kernel
theorem dX12_init_313 : decode cX12_init 313 = .ok (.aload_n 0, 1) := by decide +kernel
theorem dX12_init_314 : decode cX12_init 314 = .ok (.sipush 8192, 3) := by decide +kernel
theorem dX12_init_317 : decode cX12_init 317 = .ok (.newarray .int, 2) := by decide +kernel
theorem dX12_init_319 : decode cX12_init 319 = .ok (.putfield 123, 3) := by decide +kernel
theorem dX12_init_322 : decode cX12_init 322 = .ok (.aload_n 0, 1) := by decide +kernel
theorem dX12_init_323 : decode cX12_init 323 = .ok (.bipush 65, 2) := by decide +kernel
theorem dX12_init_325 : decode cX12_init 325 = .ok (.newarray .int, 2) := by decide +kernel
theorem dX12_init_327 : decode cX12_init 327 = .ok (.putfield 126, 3) := by decide +kernel
theorem dX12_init_330 : decode cX12_init 330 = .ok (.aload_n 0, 1) := by decide +kernel
theorem dX12_init_331 : decode cX12_init 331 = .ok (.sipush 25350, 3) := by decide +kernel
theorem dX12_init_334 : decode cX12_init 334 = .ok (.newarray .int, 2) := by decide +kernel
theorem dX12_init_336 : decode cX12_init 336 = .ok (.putfield 129, 3) := by decide +kernel
theorem dX12_init_339 : decode cX12_init 339 = .ok (.aload_n 0, 1) := by decide +kernel
theorem dX12_init_340 : decode cX12_init 340 = .ok (.sipush 1024, 3) := by decide +kernel
theorem dX12_init_343 : decode cX12_init 343 = .ok (.newarray .boolean, 2) := by decide +kernel
theorem dX12_init_345 : decode cX12_init 345 = .ok (.putfield 132, 3) := by decide +kernel
theorem dX12_init_348 : decode cX12_init 348 = .ok (.aload_n 0, 1) := by decide +kernel
theorem dX12_init_349 : decode cX12_init 349 = .ok (.sipush 4096, 3) := by decide +kernel
theorem dX12_init_352 : decode cX12_init 352 = .ok (.newarray .int, 2) := by decide +kernel
theorem dX12_init_354 : decode cX12_init 354 = .ok (.putfield 135, 3) := by decide +kernel
theorem dX12_init_357 : decode cX12_init 357 = .ok (.aload_n 0, 1) := by decide +kernel
theorem dX12_init_358 : decode cX12_init 358 = .ok (.sipush 1024, 3) := by decide +kernel
theorem dX12_init_361 : decode cX12_init 361 = .ok (.newarray .boolean, 2) := by decide +kernel
theorem dX12_init_363 : decode cX12_init 363 = .ok (.putfield 138, 3) := by decide +kernel
theorem dX12_init_366 : decode cX12_init 366 = .ok (.aload_n 0, 1) := by decide +kernel
theorem dX12_init_367 : decode cX12_init 367 = .ok (.sipush 1024, 3) := by decide +kernel
theorem dX12_init_370 : decode cX12_init 370 = .ok (.newarray .boolean, 2) := by decide +kernel
theorem dX12_init_372 : decode cX12_init 372 = .ok (.putfield 141, 3) := by decide +kernel
theorem dX12_init_375 : decode cX12_init 375 = .ok (.aload_n 0, 1) := by decide +kernel
theorem dX12_init_376 : decode cX12_init 376 = .ok (.sipush 1024, 3) := by decide +kernel
theorem dX12_init_379 : decode cX12_init 379 = .ok (.newarray .int, 2) := by decide +kernel
theorem dX12_init_381 : decode cX12_init 381 = .ok (.putfield 144, 3) := by decide +kernel
theorem dX12_init_384 : decode cX12_init 384 = .ok (.aload_n 0, 1) := by decide +kernel
theorem dX12_init_385 : decode cX12_init 385 = .ok (.bipush 31, 2) := by decide +kernel
theorem dX12_init_387 : decode cX12_init 387 = .ok (.putfield 147, 3) := by decide +kernel
theorem dX12_init_390 : decode cX12_init 390 = .ok (.aload_n 0, 1) := by decide +kernel
theorem dX12_init_391 : decode cX12_init 391 = .ok (.bipush 31, 2) := by decide +kernel
theorem dX12_init_393 : decode cX12_init 393 = .ok (.putfield 151, 3) := by decide +kernel
theorem dX12_init_396 : decode cX12_init 396 = .ok (.return_, 1) := by decide +kernel
theorem dX12_in_0 : decode cX12_in 0 = .ok (.iload_n 0, 1) := by decide +kernel
theorem dX12_in_1 : decode cX12_in 1 = .ok (.iload_n 1, 1) := by decide +kernel
theorem dX12_in_2 : decode cX12_in 2 = .ok (.if_icmp .lt 12, 3) := by decide +kernel
theorem dX12_in_5 : decode cX12_in 5 = .ok (.iload_n 0, 1) := by decide +kernel
theorem dX12_in_6 : decode cX12_in 6 = .ok (.iload_n 2, 1) := by decide +kernel
theorem dX12_in_7 : decode cX12_in 7 = .ok (.if_icmp .gt 7, 3) := by decide +kernel
theorem dX12_in_10 : decode cX12_in 10 = .ok (.iconst 1, 1) := by decide +kernel
theorem dX12_in_11 : decode cX12_in 11 = .ok (.goto 4, 3) := by decide +kernel
theorem dX12_in_14 : decode cX12_in 14 = .ok (.iconst 0, 1) := by decide +kernel
theorem dX12_in_15 : decode cX12_in 15 = .ok (.ireturn, 1) := by decide +kernel
theorem dX12_size_0 : decode cX12_size 0 = .ok (.iload_n 0, 1) := by decide +kernel
theorem dX12_size_1 : decode cX12_size 1 = .ok (.ifCond .ge 8, 3) := by decide +kernel
theorem dX12_size_4 : decode cX12_size 4 = .ok (.iload_n 0, 1) := by decide +kernel
theorem dX12_size_5 : decode cX12_size 5 = .ok (.ineg, 1) := by decide +kernel
theorem dX12_size_6 : decode cX12_size 6 = .ok (.goto 4, 3) := by decide +kernel
theorem dX12_size_9 : decode cX12_size 9 = .ok (.iload_n 0, 1) := by decide +kernel
theorem dX12_size_10 : decode cX12_size 10 = .ok (.ireturn, 1) := by decide +kernel
theorem dX12_isCell_0 : decode cX12_isCell 0 = .ok (.iload_n 0, 1) := by decide +kernel
theorem dX12_isCell_1 : decode cX12_isCell 1 = .ok (.ifCond .lt 23, 3) := by decide +kernel
theorem dX12_isCell_4 : decode cX12_isCell 4 = .ok (.iload_n 0, 1) := by decide +kernel
theorem dX12_isCell_5 : decode cX12_isCell 5 = .ok (.bipush 32, 2) := by decide +kernel
theorem dX12_isCell_7 : decode cX12_isCell 7 = .ok (.if_icmp .ge 17, 3) := by decide +kernel
theorem dX12_isCell_10 : decode cX12_isCell 10 = .ok (.iload_n 1, 1) := by decide +kernel
theorem dX12_isCell_11 : decode cX12_isCell 11 = .ok (.ifCond .lt 13, 3) := by decide +kernel
theorem dX12_isCell_14 : decode cX12_isCell 14 = .ok (.iload_n 1, 1) := by decide +kernel
theorem dX12_isCell_15 : decode cX12_isCell 15 = .ok (.bipush 32, 2) := by decide +kernel
theorem dX12_isCell_17 : decode cX12_isCell 17 = .ok (.if_icmp .ge 7, 3) := by decide +kernel
theorem dX12_isCell_20 : decode cX12_isCell 20 = .ok (.iconst 1, 1) := by decide +kernel
theorem dX12_isCell_21 : decode cX12_isCell 21 = .ok (.goto 4, 3) := by decide +kernel
theorem dX12_isCell_24 : decode cX12_isCell 24 = .ok (.iconst 0, 1) := by decide +kernel
theorem dX12_isCell_25 : decode cX12_isCell 25 = .ok (.ireturn, 1) := by decide +kernel
theorem dX12_isDirection_0 : decode cX12_isDirection 0 = .ok (.iload_n 0, 1) := by decide +kernel
theorem dX12_isDirection_1 : decode cX12_isDirection 1 = .ok (.ifCond .lt 12, 3) := by decide +kernel
theorem dX12_isDirection_4 : decode cX12_isDirection 4 = .ok (.iload_n 0, 1) := by decide +kernel
theorem dX12_isDirection_5 : decode cX12_isDirection 5 = .ok (.iconst 4, 1) := by decide +kernel
theorem dX12_isDirection_6 : decode cX12_isDirection 6 = .ok (.if_icmp .ge 7, 3) := by decide +kernel
theorem dX12_isDirection_9 : decode cX12_isDirection 9 = .ok (.iconst 1, 1) := by decide +kernel
theorem dX12_isDirection_10 : decode cX12_isDirection 10 = .ok (.goto 4, 3) := by decide +kernel
theorem dX12_isDirection_13 : decode cX12_isDirection 13 = .ok (.iconst 0, 1) := by decide +kernel
theorem dX12_isDirection_14 : decode cX12_isDirection 14 = .ok (.ireturn, 1) := by decide +kernel
theorem dX12_stepX_0 : decode cX12_stepX 0 = .ok (.iload_n 0, 1) := by decide +kernel
theorem dX12_stepX_1 : decode cX12_stepX 1 = .ok (.iconst 1, 1) := by decide +kernel
theorem dX12_stepX_2 : decode cX12_stepX 2 = .ok (.if_icmp .ne 7, 3) := by decide +kernel
theorem dX12_stepX_5 : decode cX12_stepX 5 = .ok (.iconst 1, 1) := by decide +kernel
theorem dX12_stepX_6 : decode cX12_stepX 6 = .ok (.goto 13, 3) := by decide +kernel
theorem dX12_stepX_9 : decode cX12_stepX 9 = .ok (.iload_n 0, 1) := by decide +kernel
theorem dX12_stepX_10 : decode cX12_stepX 10 = .ok (.iconst 3, 1) := by decide +kernel
theorem dX12_stepX_11 : decode cX12_stepX 11 = .ok (.if_icmp .ne 7, 3) := by decide +kernel
theorem dX12_stepX_14 : decode cX12_stepX 14 = .ok (.iconst (-1), 1) := by decide +kernel
theorem dX12_stepX_15 : decode cX12_stepX 15 = .ok (.goto 4, 3) := by decide +kernel
theorem dX12_stepX_18 : decode cX12_stepX 18 = .ok (.iconst 0, 1) := by decide +kernel
theorem dX12_stepX_19 : decode cX12_stepX 19 = .ok (.ireturn, 1) := by decide +kernel
theorem dX12_stepY_0 : decode cX12_stepY 0 = .ok (.iload_n 0, 1) := by decide +kernel
theorem dX12_stepY_1 : decode cX12_stepY 1 = .ok (.ifCond .ne 7, 3) := by decide +kernel
theorem dX12_stepY_4 : decode cX12_stepY 4 = .ok (.iconst 1, 1) := by decide +kernel
theorem dX12_stepY_5 : decode cX12_stepY 5 = .ok (.goto 13, 3) := by decide +kernel
theorem dX12_stepY_8 : decode cX12_stepY 8 = .ok (.iload_n 0, 1) := by decide +kernel
theorem dX12_stepY_9 : decode cX12_stepY 9 = .ok (.iconst 2, 1) := by decide +kernel
theorem dX12_stepY_10 : decode cX12_stepY 10 = .ok (.if_icmp .ne 7, 3) := by decide +kernel
theorem dX12_stepY_13 : decode cX12_stepY 13 = .ok (.iconst (-1), 1) := by decide +kernel
theorem dX12_stepY_14 : decode cX12_stepY 14 = .ok (.goto 4, 3) := by decide +kernel
theorem dX12_stepY_17 : decode cX12_stepY 17 = .ok (.iconst 0, 1) := by decide +kernel
theorem dX12_stepY_18 : decode cX12_stepY 18 = .ok (.ireturn, 1) := by decide +kernel
theorem dX12_isCoast_0 : decode cX12_isCoast 0 = .ok (.iload_n 1, 1) := by decide +kernel
theorem dX12_isCoast_1 : decode cX12_isCoast 1 = .ok (.ifCond .lt 15, 3) := by decide +kernel
theorem dX12_isCoast_4 : decode cX12_isCoast 4 = .ok (.iload_n 1, 1) := by decide +kernel
theorem dX12_isCoast_5 : decode cX12_isCoast 5 = .ok (.aload_n 0, 1) := by decide +kernel
theorem dX12_isCoast_6 : decode cX12_isCoast 6 = .ok (.getfield 154, 3) := by decide +kernel
theorem dX12_isCoast_9 : decode cX12_isCoast 9 = .ok (.if_icmp .ge 7, 3) := by decide +kernel
theorem dX12_isCoast_12 : decode cX12_isCoast 12 = .ok (.iconst 1, 1) := by decide +kernel
theorem dX12_isCoast_13 : decode cX12_isCoast 13 = .ok (.goto 4, 3) := by decide +kernel
theorem dX12_isCoast_16 : decode cX12_isCoast 16 = .ok (.iconst 0, 1) := by decide +kernel
theorem dX12_isCoast_17 : decode cX12_isCoast 17 = .ok (.ireturn, 1) := by decide +kernel
theorem dX12_next0_0 : decode cX12_next0 0 = .ok (.bipush 16, 2) := by decide +kernel
theorem dX12_next0_2 : decode cX12_next0 2 = .ok (.iload_n 1, 1) := by decide +kernel
theorem dX12_next0_3 : decode cX12_next0 3 = .ok (.imul, 1) := by decide +kernel
theorem dX12_next0_4 : decode cX12_next0 4 = .ok (.iload_n 2, 1) := by decide +kernel
theorem dX12_next0_5 : decode cX12_next0 5 = .ok (.iconst 1, 1) := by decide +kernel
theorem dX12_next0_6 : decode cX12_next0 6 = .ok (.iadd, 1) := by decide +kernel
theorem dX12_next0_7 : decode cX12_next0 7 = .ok (.aload_n 0, 1) := by decide +kernel
theorem dX12_next0_8 : decode cX12_next0 8 = .ok (.getfield 7, 3) := by decide +kernel
theorem dX12_next0_11 : decode cX12_next0 11 = .ok (.iload_n 1, 1) := by decide +kernel
theorem dX12_next0_12 : decode cX12_next0 12 = .ok (.iaload, 1) := by decide +kernel
theorem dX12_next0_13 : decode cX12_next0 13 = .ok (.if_icmp .ne 7, 3) := by decide +kernel
theorem dX12_next0_16 : decode cX12_next0 16 = .ok (.iconst 0, 1) := by decide +kernel
theorem dX12_next0_17 : decode cX12_next0 17 = .ok (.goto 6, 3) := by decide +kernel
theorem dX12_next0_20 : decode cX12_next0 20 = .ok (.iload_n 2, 1) := by decide +kernel
theorem dX12_next0_21 : decode cX12_next0 21 = .ok (.iconst 1, 1) := by decide +kernel
theorem dX12_next0_22 : decode cX12_next0 22 = .ok (.iadd, 1) := by decide +kernel
theorem dX12_next0_23 : decode cX12_next0 23 = .ok (.iadd, 1) := by decide +kernel
theorem dX12_next0_24 : decode cX12_next0 24 = .ok (.ireturn, 1) := by decide +kernel
theorem dX12_isSide_0 : decode cX12_isSide 0 = .ok (.bipush 16, 2) := by decide +kernel
theorem dX12_isSide_2 : decode cX12_isSide 2 = .ok (.iload_n 1, 1) := by decide +kernel
theorem dX12_isSide_3 : decode cX12_isSide 3 = .ok (.imul, 1) := by decide +kernel
theorem dX12_isSide_4 : decode cX12_isSide 4 = .ok (.iload_n 2, 1) := by decide +kernel
theorem dX12_isSide_5 : decode cX12_isSide 5 = .ok (.iadd, 1) := by decide +kernel
theorem dX12_isSide_6 : decode cX12_isSide 6 = .ok (.istore_n 3, 1) := by decide +kernel
theorem dX12_isSide_7 : decode cX12_isSide 7 = .ok (.aload_n 0, 1) := by decide +kernel
theorem dX12_isSide_8 : decode cX12_isSide 8 = .ok (.iload_n 1, 1) := by decide +kernel
theorem dX12_isSide_9 : decode cX12_isSide 9 = .ok (.iload_n 2, 1) := by decide +kernel
theorem dX12_isSide_10 : decode cX12_isSide 10 = .ok (.invokevirtual 157, 3) := by decide +kernel
theorem dX12_isSide_13 : decode cX12_isSide 13 = .ok (.istore 4, 2) := by decide +kernel
theorem dX12_isSide_15 : decode cX12_isSide 15 = .ok (.iload_n 2, 1) := by decide +kernel
theorem dX12_isSide_16 : decode cX12_isSide 16 = .ok (.iconst 2, 1) := by decide +kernel
theorem dX12_isSide_17 : decode cX12_isSide 17 = .ok (.irem, 1) := by decide +kernel
theorem dX12_isSide_18 : decode cX12_isSide 18 = .ok (.ifCond .ne 43, 3) := by decide +kernel
theorem dX12_isSide_21 : decode cX12_isSide 21 = .ok (.aload_n 0, 1) := by decide +kernel
theorem dX12_isSide_22 : decode cX12_isSide 22 = .ok (.getfield 16, 3) := by decide +kernel
theorem dX12_isSide_25 : decode cX12_isSide 25 = .ok (.iload_n 3, 1) := by decide +kernel
theorem dX12_isSide_26 : decode cX12_isSide 26 = .ok (.iaload, 1) := by decide +kernel
theorem dX12_isSide_27 : decode cX12_isSide 27 = .ok (.aload_n 0, 1) := by decide +kernel
theorem dX12_isSide_28 : decode cX12_isSide 28 = .ok (.getfield 16, 3) := by decide +kernel
theorem dX12_isSide_31 : decode cX12_isSide 31 = .ok (.iload 4, 2) := by decide +kernel
theorem dX12_isSide_33 : decode cX12_isSide 33 = .ok (.iaload, 1) := by decide +kernel
theorem dX12_isSide_34 : decode cX12_isSide 34 = .ok (.if_icmp .ne 23, 3) := by decide +kernel
theorem dX12_isSide_37 : decode cX12_isSide 37 = .ok (.aload_n 0, 1) := by decide +kernel
theorem dX12_isSide_38 : decode cX12_isSide 38 = .ok (.getfield 13, 3) := by decide +kernel
theorem dX12_isSide_41 : decode cX12_isSide 41 = .ok (.iload_n 3, 1) := by decide +kernel
theorem dX12_isSide_42 : decode cX12_isSide 42 = .ok (.iaload, 1) := by decide +kernel
theorem dX12_isSide_43 : decode cX12_isSide 43 = .ok (.aload_n 0, 1) := by decide +kernel
theorem dX12_isSide_44 : decode cX12_isSide 44 = .ok (.getfield 13, 3) := by decide +kernel
theorem dX12_isSide_47 : decode cX12_isSide 47 = .ok (.iload 4, 2) := by decide +kernel
theorem dX12_isSide_49 : decode cX12_isSide 49 = .ok (.iaload, 1) := by decide +kernel
theorem dX12_isSide_50 : decode cX12_isSide 50 = .ok (.if_icmp .eq 7, 3) := by decide +kernel
theorem dX12_isSide_53 : decode cX12_isSide 53 = .ok (.iconst 1, 1) := by decide +kernel
theorem dX12_isSide_54 : decode cX12_isSide 54 = .ok (.goto 44, 3) := by decide +kernel
theorem dX12_isSide_57 : decode cX12_isSide 57 = .ok (.iconst 0, 1) := by decide +kernel
theorem dX12_isSide_58 : decode cX12_isSide 58 = .ok (.goto 40, 3) := by decide +kernel
theorem dX12_isSide_61 : decode cX12_isSide 61 = .ok (.aload_n 0, 1) := by decide +kernel
theorem dX12_isSide_62 : decode cX12_isSide 62 = .ok (.getfield 13, 3) := by decide +kernel
theorem dX12_isSide_65 : decode cX12_isSide 65 = .ok (.iload_n 3, 1) := by decide +kernel
theorem dX12_isSide_66 : decode cX12_isSide 66 = .ok (.iaload, 1) := by decide +kernel
theorem dX12_isSide_67 : decode cX12_isSide 67 = .ok (.aload_n 0, 1) := by decide +kernel
theorem dX12_isSide_68 : decode cX12_isSide 68 = .ok (.getfield 13, 3) := by decide +kernel
theorem dX12_isSide_71 : decode cX12_isSide 71 = .ok (.iload 4, 2) := by decide +kernel
theorem dX12_isSide_73 : decode cX12_isSide 73 = .ok (.iaload, 1) := by decide +kernel
theorem dX12_isSide_74 : decode cX12_isSide 74 = .ok (.if_icmp .ne 23, 3) := by decide +kernel
theorem dX12_isSide_77 : decode cX12_isSide 77 = .ok (.aload_n 0, 1) := by decide +kernel
theorem dX12_isSide_78 : decode cX12_isSide 78 = .ok (.getfield 16, 3) := by decide +kernel
theorem dX12_isSide_81 : decode cX12_isSide 81 = .ok (.iload_n 3, 1) := by decide +kernel
theorem dX12_isSide_82 : decode cX12_isSide 82 = .ok (.iaload, 1) := by decide +kernel
theorem dX12_isSide_83 : decode cX12_isSide 83 = .ok (.aload_n 0, 1) := by decide +kernel
theorem dX12_isSide_84 : decode cX12_isSide 84 = .ok (.getfield 16, 3) := by decide +kernel
theorem dX12_isSide_87 : decode cX12_isSide 87 = .ok (.iload 4, 2) := by decide +kernel
theorem dX12_isSide_89 : decode cX12_isSide 89 = .ok (.iaload, 1) := by decide +kernel
theorem dX12_isSide_90 : decode cX12_isSide 90 = .ok (.if_icmp .eq 7, 3) := by decide +kernel
theorem dX12_isSide_93 : decode cX12_isSide 93 = .ok (.iconst 1, 1) := by decide +kernel
theorem dX12_isSide_94 : decode cX12_isSide 94 = .ok (.goto 4, 3) := by decide +kernel
theorem dX12_isSide_97 : decode cX12_isSide 97 = .ok (.iconst 0, 1) := by decide +kernel
theorem dX12_isSide_98 : decode cX12_isSide 98 = .ok (.ireturn, 1) := by decide +kernel
theorem dX12_isBetween_0 : decode cX12_isBetween 0 = .ok (.iload_n 1, 1) := by decide +kernel
theorem dX12_isBetween_1 : decode cX12_isBetween 1 = .ok (.iload_n 2, 1) := by decide +kernel
theorem dX12_isBetween_2 : decode cX12_isBetween 2 = .ok (.if_icmp .ge 21, 3) := by decide +kernel
theorem dX12_isBetween_5 : decode cX12_isBetween 5 = .ok (.iload_n 0, 1) := by decide +kernel
theorem dX12_isBetween_6 : decode cX12_isBetween 6 = .ok (.iload_n 1, 1) := by decide +kernel
theorem dX12_isBetween_7 : decode cX12_isBetween 7 = .ok (.if_icmp .lt 12, 3) := by decide +kernel
theorem dX12_isBetween_10 : decode cX12_isBetween 10 = .ok (.iload_n 0, 1) := by decide +kernel
theorem dX12_isBetween_11 : decode cX12_isBetween 11 = .ok (.iload_n 2, 1) := by decide +kernel
theorem dX12_isBetween_12 : decode cX12_isBetween 12 = .ok (.if_icmp .ge 7, 3) := by decide +kernel
theorem dX12_isBetween_15 : decode cX12_isBetween 15 = .ok (.iconst 1, 1) := by decide +kernel
theorem dX12_isBetween_16 : decode cX12_isBetween 16 = .ok (.goto 22, 3) := by decide +kernel
theorem dX12_isBetween_19 : decode cX12_isBetween 19 = .ok (.iconst 0, 1) := by decide +kernel
theorem dX12_isBetween_20 : decode cX12_isBetween 20 = .ok (.goto 18, 3) := by decide +kernel
theorem dX12_isBetween_23 : decode cX12_isBetween 23 = .ok (.iload_n 0, 1) := by decide +kernel
theorem dX12_isBetween_24 : decode cX12_isBetween 24 = .ok (.iload_n 2, 1) := by decide +kernel
theorem dX12_isBetween_25 : decode cX12_isBetween 25 = .ok (.if_icmp .lt 12, 3) := by decide +kernel
theorem dX12_isBetween_28 : decode cX12_isBetween 28 = .ok (.iload_n 0, 1) := by decide +kernel
theorem dX12_isBetween_29 : decode cX12_isBetween 29 = .ok (.iload_n 1, 1) := by decide +kernel
theorem dX12_isBetween_30 : decode cX12_isBetween 30 = .ok (.if_icmp .ge 7, 3) := by decide +kernel
theorem dX12_isBetween_33 : decode cX12_isBetween 33 = .ok (.iconst 1, 1) := by decide +kernel
theorem dX12_isBetween_34 : decode cX12_isBetween 34 = .ok (.goto 4, 3) := by decide +kernel
theorem dX12_isBetween_37 : decode cX12_isBetween 37 = .ok (.iconst 0, 1) := by decide +kernel
theorem dX12_isBetween_38 : decode cX12_isBetween 38 = .ok (.ireturn, 1) := by decide +kernel
theorem dX12_laysLand_0 : decode cX12_laysLand 0 = .ok (.iconst 0, 1) := by decide +kernel
theorem dX12_laysLand_1 : decode cX12_laysLand 1 = .ok (.istore_n 2, 1) := by decide +kernel
theorem dX12_laysLand_2 : decode cX12_laysLand 2 = .ok (.iload_n 2, 1) := by decide +kernel
theorem dX12_laysLand_3 : decode cX12_laysLand 3 = .ok (.sipush 1024, 3) := by decide +kernel
theorem dX12_laysLand_6 : decode cX12_laysLand 6 = .ok (.if_icmp .ge 120, 3) := by decide +kernel
theorem dX12_laysLand_9 : decode cX12_laysLand 9 = .ok (.iload_n 2, 1) := by decide +kernel
theorem dX12_laysLand_10 : decode cX12_laysLand 10 = .ok (.bipush 32, 2) := by decide +kernel
theorem dX12_laysLand_12 : decode cX12_laysLand 12 = .ok (.irem, 1) := by decide +kernel
theorem dX12_laysLand_13 : decode cX12_laysLand 13 = .ok (.istore_n 3, 1) := by decide +kernel
theorem dX12_laysLand_14 : decode cX12_laysLand 14 = .ok (.iload_n 2, 1) := by decide +kernel
theorem dX12_laysLand_15 : decode cX12_laysLand 15 = .ok (.bipush 32, 2) := by decide +kernel
theorem dX12_laysLand_17 : decode cX12_laysLand 17 = .ok (.idiv, 1) := by decide +kernel
theorem dX12_laysLand_18 : decode cX12_laysLand 18 = .ok (.istore 4, 2) := by decide +kernel
theorem dX12_laysLand_20 : decode cX12_laysLand 20 = .ok (.iconst 0, 1) := by decide +kernel
theorem dX12_laysLand_21 : decode cX12_laysLand 21 = .ok (.istore 5, 2) := by decide +kernel
theorem dX12_laysLand_23 : decode cX12_laysLand 23 = .ok (.iconst 1, 1) := by decide +kernel
theorem dX12_laysLand_24 : decode cX12_laysLand 24 = .ok (.istore 6, 2) := by decide +kernel
theorem dX12_laysLand_26 : decode cX12_laysLand 26 = .ok (.iload 6, 2) := by decide +kernel
theorem dX12_laysLand_28 : decode cX12_laysLand 28 = .ok (.aload_n 0, 1) := by decide +kernel
theorem dX12_laysLand_29 : decode cX12_laysLand 29 = .ok (.getfield 7, 3) := by decide +kernel
theorem dX12_laysLand_32 : decode cX12_laysLand 32 = .ok (.iload_n 1, 1) := by decide +kernel
theorem dX12_laysLand_33 : decode cX12_laysLand 33 = .ok (.iaload, 1) := by decide +kernel
theorem dX12_laysLand_34 : decode cX12_laysLand 34 = .ok (.if_icmp .ge 72, 3) := by decide +kernel
theorem dX12_laysLand_37 : decode cX12_laysLand 37 = .ok (.aload_n 0, 1) := by decide +kernel
theorem dX12_laysLand_38 : decode cX12_laysLand 38 = .ok (.getfield 13, 3) := by decide +kernel
theorem dX12_laysLand_41 : decode cX12_laysLand 41 = .ok (.bipush 16, 2) := by decide +kernel
theorem dX12_laysLand_43 : decode cX12_laysLand 43 = .ok (.iload_n 1, 1) := by decide +kernel
theorem dX12_laysLand_44 : decode cX12_laysLand 44 = .ok (.imul, 1) := by decide +kernel
theorem dX12_laysLand_45 : decode cX12_laysLand 45 = .ok (.iload 6, 2) := by decide +kernel
theorem dX12_laysLand_47 : decode cX12_laysLand 47 = .ok (.iadd, 1) := by decide +kernel
theorem dX12_laysLand_48 : decode cX12_laysLand 48 = .ok (.iaload, 1) := by decide +kernel
theorem dX12_laysLand_49 : decode cX12_laysLand 49 = .ok (.iload_n 3, 1) := by decide +kernel
theorem dX12_laysLand_50 : decode cX12_laysLand 50 = .ok (.if_icmp .gt 47, 3) := by decide +kernel
theorem dX12_laysLand_53 : decode cX12_laysLand 53 = .ok (.iload 4, 2) := by decide +kernel
theorem dX12_laysLand_55 : decode cX12_laysLand 55 = .ok (.aload_n 0, 1) := by decide +kernel
theorem dX12_laysLand_56 : decode cX12_laysLand 56 = .ok (.getfield 16, 3) := by decide +kernel
theorem dX12_laysLand_59 : decode cX12_laysLand 59 = .ok (.bipush 16, 2) := by decide +kernel
theorem dX12_laysLand_61 : decode cX12_laysLand 61 = .ok (.iload_n 1, 1) := by decide +kernel
theorem dX12_laysLand_62 : decode cX12_laysLand 62 = .ok (.imul, 1) := by decide +kernel
theorem dX12_laysLand_63 : decode cX12_laysLand 63 = .ok (.iload 6, 2) := by decide +kernel
theorem dX12_laysLand_65 : decode cX12_laysLand 65 = .ok (.iadd, 1) := by decide +kernel
theorem dX12_laysLand_66 : decode cX12_laysLand 66 = .ok (.iaload, 1) := by decide +kernel
theorem dX12_laysLand_67 : decode cX12_laysLand 67 = .ok (.aload_n 0, 1) := by decide +kernel
theorem dX12_laysLand_68 : decode cX12_laysLand 68 = .ok (.getfield 16, 3) := by decide +kernel
theorem dX12_laysLand_71 : decode cX12_laysLand 71 = .ok (.aload_n 0, 1) := by decide +kernel
theorem dX12_laysLand_72 : decode cX12_laysLand 72 = .ok (.iload_n 1, 1) := by decide +kernel
theorem dX12_laysLand_73 : decode cX12_laysLand 73 = .ok (.iload 6, 2) := by decide +kernel
theorem dX12_laysLand_75 : decode cX12_laysLand 75 = .ok (.invokevirtual 157, 3) := by decide +kernel
theorem dX12_laysLand_78 : decode cX12_laysLand 78 = .ok (.iaload, 1) := by decide +kernel
theorem dX12_laysLand_79 : decode cX12_laysLand 79 = .ok (.invokestatic 161, 3) := by decide +kernel
theorem dX12_laysLand_82 : decode cX12_laysLand 82 = .ok (.ifCond .eq 15, 3) := by decide +kernel
theorem dX12_laysLand_85 : decode cX12_laysLand 85 = .ok (.iload 5, 2) := by decide +kernel
theorem dX12_laysLand_87 : decode cX12_laysLand 87 = .ok (.ifCond .ne 7, 3) := by decide +kernel
theorem dX12_laysLand_90 : decode cX12_laysLand 90 = .ok (.iconst 1, 1) := by decide +kernel
theorem dX12_laysLand_91 : decode cX12_laysLand 91 = .ok (.goto 4, 3) := by decide +kernel
theorem dX12_laysLand_94 : decode cX12_laysLand 94 = .ok (.iconst 0, 1) := by decide +kernel
theorem dX12_laysLand_95 : decode cX12_laysLand 95 = .ok (.istore 5, 2) := by decide +kernel
theorem dX12_laysLand_97 : decode cX12_laysLand 97 = .ok (.iload 6, 2) := by decide +kernel
theorem dX12_laysLand_99 : decode cX12_laysLand 99 = .ok (.iconst 2, 1) := by decide +kernel
theorem dX12_laysLand_100 : decode cX12_laysLand 100 = .ok (.iadd, 1) := by decide +kernel
theorem dX12_laysLand_101 : decode cX12_laysLand 101 = .ok (.istore 6, 2) := by decide +kernel
theorem dX12_laysLand_103 : decode cX12_laysLand 103 = .ok (.goto (-77), 3) := by decide +kernel
theorem dX12_laysLand_106 : decode cX12_laysLand 106 = .ok (.aload_n 0, 1) := by decide +kernel
theorem dX12_laysLand_107 : decode cX12_laysLand 107 = .ok (.getfield 22, 3) := by decide +kernel
theorem dX12_laysLand_110 : decode cX12_laysLand 110 = .ok (.sipush 1024, 3) := by decide +kernel
theorem dX12_laysLand_113 : decode cX12_laysLand 113 = .ok (.iload_n 1, 1) := by decide +kernel
theorem dX12_laysLand_114 : decode cX12_laysLand 114 = .ok (.imul, 1) := by decide +kernel
theorem dX12_laysLand_115 : decode cX12_laysLand 115 = .ok (.iload_n 2, 1) := by decide +kernel
theorem dX12_laysLand_116 : decode cX12_laysLand 116 = .ok (.iadd, 1) := by decide +kernel
theorem dX12_laysLand_117 : decode cX12_laysLand 117 = .ok (.iload 5, 2) := by decide +kernel
theorem dX12_laysLand_119 : decode cX12_laysLand 119 = .ok (.bastore, 1) := by decide +kernel
theorem dX12_laysLand_120 : decode cX12_laysLand 120 = .ok (.iinc 2 1, 3) := by decide +kernel
theorem dX12_laysLand_123 : decode cX12_laysLand 123 = .ok (.goto (-121), 3) := by decide +kernel
theorem dX12_laysLand_126 : decode cX12_laysLand 126 = .ok (.return_, 1) := by decide +kernel
theorem dX12_isCorner_0 : decode cX12_isCorner 0 = .ok (.iload_n 0, 1) := by decide +kernel
theorem dX12_isCorner_1 : decode cX12_isCorner 1 = .ok (.ifCond .lt 13, 3) := by decide +kernel
theorem dX12_isCorner_4 : decode cX12_isCorner 4 = .ok (.iload_n 0, 1) := by decide +kernel
theorem dX12_isCorner_5 : decode cX12_isCorner 5 = .ok (.bipush 33, 2) := by decide +kernel
theorem dX12_isCorner_7 : decode cX12_isCorner 7 = .ok (.if_icmp .ge 7, 3) := by decide +kernel
theorem dX12_isCorner_10 : decode cX12_isCorner 10 = .ok (.iconst 1, 1) := by decide +kernel
theorem dX12_isCorner_11 : decode cX12_isCorner 11 = .ok (.goto 4, 3) := by decide +kernel
theorem dX12_isCorner_14 : decode cX12_isCorner 14 = .ok (.iconst 0, 1) := by decide +kernel
theorem dX12_isCorner_15 : decode cX12_isCorner 15 = .ok (.ireturn, 1) := by decide +kernel
theorem dX12_firstWrong_0 : decode cX12_firstWrong 0 = .ok (.aload_n 0, 1) := by decide +kernel
theorem dX12_firstWrong_1 : decode cX12_firstWrong 1 = .ok (.getfield 154, 3) := by decide +kernel
theorem dX12_firstWrong_4 : decode cX12_firstWrong 4 = .ok (.istore_n 2, 1) := by decide +kernel
theorem dX12_firstWrong_5 : decode cX12_firstWrong 5 = .ok (.aload_n 0, 1) := by decide +kernel
theorem dX12_firstWrong_6 : decode cX12_firstWrong 6 = .ok (.getfield 7, 3) := by decide +kernel
theorem dX12_firstWrong_9 : decode cX12_firstWrong 9 = .ok (.iload_n 2, 1) := by decide +kernel
theorem dX12_firstWrong_10 : decode cX12_firstWrong 10 = .ok (.iload_n 1, 1) := by decide +kernel
theorem dX12_firstWrong_11 : decode cX12_firstWrong 11 = .ok (.iastore, 1) := by decide +kernel
theorem dX12_firstWrong_12 : decode cX12_firstWrong 12 = .ok (.iconst 0, 1) := by decide +kernel
theorem dX12_firstWrong_13 : decode cX12_firstWrong 13 = .ok (.istore_n 3, 1) := by decide +kernel
theorem dX12_firstWrong_14 : decode cX12_firstWrong 14 = .ok (.iload_n 3, 1) := by decide +kernel
theorem dX12_firstWrong_15 : decode cX12_firstWrong 15 = .ok (.iload_n 1, 1) := by decide +kernel
theorem dX12_firstWrong_16 : decode cX12_firstWrong 16 = .ok (.if_icmp .ge 124, 3) := by decide +kernel
theorem dX12_firstWrong_19 : decode cX12_firstWrong 19 = .ok (.aload_n 0, 1) := by decide +kernel
theorem dX12_firstWrong_20 : decode cX12_firstWrong 20 = .ok (.getfield 38, 3) := by decide +kernel
theorem dX12_firstWrong_23 : decode cX12_firstWrong 23 = .ok (.iconst 2, 1) := by decide +kernel
theorem dX12_firstWrong_24 : decode cX12_firstWrong 24 = .ok (.iload_n 3, 1) := by decide +kernel
theorem dX12_firstWrong_25 : decode cX12_firstWrong 25 = .ok (.imul, 1) := by decide +kernel
theorem dX12_firstWrong_26 : decode cX12_firstWrong 26 = .ok (.baload, 1) := by decide +kernel
theorem dX12_firstWrong_27 : decode cX12_firstWrong 27 = .ok (.invokestatic 165, 3) := by decide +kernel
theorem dX12_firstWrong_30 : decode cX12_firstWrong 30 = .ok (.ifCond .ne 7, 3) := by decide +kernel
theorem dX12_firstWrong_33 : decode cX12_firstWrong 33 = .ok (.iconst 2, 1) := by decide +kernel
theorem dX12_firstWrong_34 : decode cX12_firstWrong 34 = .ok (.iload_n 3, 1) := by decide +kernel
theorem dX12_firstWrong_35 : decode cX12_firstWrong 35 = .ok (.imul, 1) := by decide +kernel
theorem dX12_firstWrong_36 : decode cX12_firstWrong 36 = .ok (.ireturn, 1) := by decide +kernel
theorem dX12_firstWrong_37 : decode cX12_firstWrong 37 = .ok (.aload_n 0, 1) := by decide +kernel
theorem dX12_firstWrong_38 : decode cX12_firstWrong 38 = .ok (.getfield 38, 3) := by decide +kernel
theorem dX12_firstWrong_41 : decode cX12_firstWrong 41 = .ok (.iconst 2, 1) := by decide +kernel
theorem dX12_firstWrong_42 : decode cX12_firstWrong 42 = .ok (.iload_n 3, 1) := by decide +kernel
theorem dX12_firstWrong_43 : decode cX12_firstWrong 43 = .ok (.imul, 1) := by decide +kernel
theorem dX12_firstWrong_44 : decode cX12_firstWrong 44 = .ok (.iconst 1, 1) := by decide +kernel
theorem dX12_firstWrong_45 : decode cX12_firstWrong 45 = .ok (.iadd, 1) := by decide +kernel
theorem dX12_firstWrong_46 : decode cX12_firstWrong 46 = .ok (.baload, 1) := by decide +kernel
theorem dX12_firstWrong_47 : decode cX12_firstWrong 47 = .ok (.invokestatic 165, 3) := by decide +kernel
theorem dX12_firstWrong_50 : decode cX12_firstWrong 50 = .ok (.ifCond .ne 9, 3) := by decide +kernel
theorem dX12_firstWrong_53 : decode cX12_firstWrong 53 = .ok (.iconst 2, 1) := by decide +kernel
theorem dX12_firstWrong_54 : decode cX12_firstWrong 54 = .ok (.iload_n 3, 1) := by decide +kernel
theorem dX12_firstWrong_55 : decode cX12_firstWrong 55 = .ok (.imul, 1) := by decide +kernel
theorem dX12_firstWrong_56 : decode cX12_firstWrong 56 = .ok (.iconst 1, 1) := by decide +kernel
theorem dX12_firstWrong_57 : decode cX12_firstWrong 57 = .ok (.iadd, 1) := by decide +kernel
theorem dX12_firstWrong_58 : decode cX12_firstWrong 58 = .ok (.ireturn, 1) := by decide +kernel
theorem dX12_firstWrong_59 : decode cX12_firstWrong 59 = .ok (.aload_n 0, 1) := by decide +kernel
theorem dX12_firstWrong_60 : decode cX12_firstWrong 60 = .ok (.getfield 13, 3) := by decide +kernel
theorem dX12_firstWrong_63 : decode cX12_firstWrong 63 = .ok (.bipush 16, 2) := by decide +kernel
theorem dX12_firstWrong_65 : decode cX12_firstWrong 65 = .ok (.iload_n 2, 1) := by decide +kernel
theorem dX12_firstWrong_66 : decode cX12_firstWrong 66 = .ok (.imul, 1) := by decide +kernel
theorem dX12_firstWrong_67 : decode cX12_firstWrong 67 = .ok (.iload_n 3, 1) := by decide +kernel
theorem dX12_firstWrong_68 : decode cX12_firstWrong 68 = .ok (.iadd, 1) := by decide +kernel
theorem dX12_firstWrong_69 : decode cX12_firstWrong 69 = .ok (.aload_n 0, 1) := by decide +kernel
theorem dX12_firstWrong_70 : decode cX12_firstWrong 70 = .ok (.getfield 38, 3) := by decide +kernel
theorem dX12_firstWrong_73 : decode cX12_firstWrong 73 = .ok (.iconst 2, 1) := by decide +kernel
theorem dX12_firstWrong_74 : decode cX12_firstWrong 74 = .ok (.iload_n 3, 1) := by decide +kernel
theorem dX12_firstWrong_75 : decode cX12_firstWrong 75 = .ok (.imul, 1) := by decide +kernel
theorem dX12_firstWrong_76 : decode cX12_firstWrong 76 = .ok (.baload, 1) := by decide +kernel
theorem dX12_firstWrong_77 : decode cX12_firstWrong 77 = .ok (.iastore, 1) := by decide +kernel
theorem dX12_firstWrong_78 : decode cX12_firstWrong 78 = .ok (.aload_n 0, 1) := by decide +kernel
theorem dX12_firstWrong_79 : decode cX12_firstWrong 79 = .ok (.getfield 16, 3) := by decide +kernel
theorem dX12_firstWrong_82 : decode cX12_firstWrong 82 = .ok (.bipush 16, 2) := by decide +kernel
theorem dX12_firstWrong_84 : decode cX12_firstWrong 84 = .ok (.iload_n 2, 1) := by decide +kernel
theorem dX12_firstWrong_85 : decode cX12_firstWrong 85 = .ok (.imul, 1) := by decide +kernel
theorem dX12_firstWrong_86 : decode cX12_firstWrong 86 = .ok (.iload_n 3, 1) := by decide +kernel
theorem dX12_firstWrong_87 : decode cX12_firstWrong 87 = .ok (.iadd, 1) := by decide +kernel
theorem dX12_firstWrong_88 : decode cX12_firstWrong 88 = .ok (.aload_n 0, 1) := by decide +kernel
theorem dX12_firstWrong_89 : decode cX12_firstWrong 89 = .ok (.getfield 38, 3) := by decide +kernel
theorem dX12_firstWrong_92 : decode cX12_firstWrong 92 = .ok (.iconst 2, 1) := by decide +kernel
theorem dX12_firstWrong_93 : decode cX12_firstWrong 93 = .ok (.iload_n 3, 1) := by decide +kernel
theorem dX12_firstWrong_94 : decode cX12_firstWrong 94 = .ok (.imul, 1) := by decide +kernel
theorem dX12_firstWrong_95 : decode cX12_firstWrong 95 = .ok (.iconst 1, 1) := by decide +kernel
theorem dX12_firstWrong_96 : decode cX12_firstWrong 96 = .ok (.iadd, 1) := by decide +kernel
theorem dX12_firstWrong_97 : decode cX12_firstWrong 97 = .ok (.baload, 1) := by decide +kernel
theorem dX12_firstWrong_98 : decode cX12_firstWrong 98 = .ok (.iastore, 1) := by decide +kernel
theorem dX12_firstWrong_99 : decode cX12_firstWrong 99 = .ok (.iload_n 3, 1) := by decide +kernel
theorem dX12_firstWrong_100 : decode cX12_firstWrong 100 = .ok (.ifCond .le 14, 3) := by decide +kernel
theorem dX12_firstWrong_103 : decode cX12_firstWrong 103 = .ok (.aload_n 0, 1) := by decide +kernel
theorem dX12_firstWrong_104 : decode cX12_firstWrong 104 = .ok (.iload_n 2, 1) := by decide +kernel
theorem dX12_firstWrong_105 : decode cX12_firstWrong 105 = .ok (.iload_n 3, 1) := by decide +kernel
theorem dX12_firstWrong_106 : decode cX12_firstWrong 106 = .ok (.iconst 1, 1) := by decide +kernel
theorem dX12_firstWrong_107 : decode cX12_firstWrong 107 = .ok (.isub, 1) := by decide +kernel
theorem dX12_firstWrong_108 : decode cX12_firstWrong 108 = .ok (.invokevirtual 169, 3) := by decide +kernel
theorem dX12_firstWrong_111 : decode cX12_firstWrong 111 = .ok (.ifCond .eq 19, 3) := by decide +kernel
theorem dX12_firstWrong_114 : decode cX12_firstWrong 114 = .ok (.iload_n 3, 1) := by decide +kernel
theorem dX12_firstWrong_115 : decode cX12_firstWrong 115 = .ok (.iload_n 1, 1) := by decide +kernel
theorem dX12_firstWrong_116 : decode cX12_firstWrong 116 = .ok (.iconst 1, 1) := by decide +kernel
theorem dX12_firstWrong_117 : decode cX12_firstWrong 117 = .ok (.isub, 1) := by decide +kernel
theorem dX12_firstWrong_118 : decode cX12_firstWrong 118 = .ok (.if_icmp .ne 16, 3) := by decide +kernel
theorem dX12_firstWrong_121 : decode cX12_firstWrong 121 = .ok (.aload_n 0, 1) := by decide +kernel
theorem dX12_firstWrong_122 : decode cX12_firstWrong 122 = .ok (.iload_n 2, 1) := by decide +kernel
theorem dX12_firstWrong_123 : decode cX12_firstWrong 123 = .ok (.iload_n 3, 1) := by decide +kernel
theorem dX12_firstWrong_124 : decode cX12_firstWrong 124 = .ok (.invokevirtual 169, 3) := by decide +kernel
theorem dX12_firstWrong_127 : decode cX12_firstWrong 127 = .ok (.ifCond .ne 7, 3) := by decide +kernel
theorem dX12_firstWrong_130 : decode cX12_firstWrong 130 = .ok (.iconst 2, 1) := by decide +kernel
theorem dX12_firstWrong_131 : decode cX12_firstWrong 131 = .ok (.iload_n 3, 1) := by decide +kernel
theorem dX12_firstWrong_132 : decode cX12_firstWrong 132 = .ok (.imul, 1) := by decide +kernel
theorem dX12_firstWrong_133 : decode cX12_firstWrong 133 = .ok (.ireturn, 1) := by decide +kernel
theorem dX12_firstWrong_134 : decode cX12_firstWrong 134 = .ok (.iinc 3 1, 3) := by decide +kernel
theorem dX12_firstWrong_137 : decode cX12_firstWrong 137 = .ok (.goto (-123), 3) := by decide +kernel
theorem dX12_firstWrong_140 : decode cX12_firstWrong 140 = .ok (.iconst 0, 1) := by decide +kernel
theorem dX12_firstWrong_141 : decode cX12_firstWrong 141 = .ok (.istore_n 3, 1) := by decide +kernel
theorem dX12_firstWrong_142 : decode cX12_firstWrong 142 = .ok (.iload_n 3, 1) := by decide +kernel
theorem dX12_firstWrong_143 : decode cX12_firstWrong 143 = .ok (.iload_n 1, 1) := by decide +kernel
theorem dX12_firstWrong_144 : decode cX12_firstWrong 144 = .ok (.if_icmp .ge 54, 3) := by decide +kernel
theorem dX12_firstWrong_147 : decode cX12_firstWrong 147 = .ok (.aload_n 0, 1) := by decide +kernel
theorem dX12_firstWrong_148 : decode cX12_firstWrong 148 = .ok (.getfield 38, 3) := by decide +kernel
theorem dX12_firstWrong_151 : decode cX12_firstWrong 151 = .ok (.iconst 2, 1) := by decide +kernel
theorem dX12_firstWrong_152 : decode cX12_firstWrong 152 = .ok (.iload_n 1, 1) := by decide +kernel
theorem dX12_firstWrong_153 : decode cX12_firstWrong 153 = .ok (.imul, 1) := by decide +kernel
theorem dX12_firstWrong_154 : decode cX12_firstWrong 154 = .ok (.iload_n 3, 1) := by decide +kernel
theorem dX12_firstWrong_155 : decode cX12_firstWrong 155 = .ok (.iadd, 1) := by decide +kernel
theorem dX12_firstWrong_156 : decode cX12_firstWrong 156 = .ok (.baload, 1) := by decide +kernel
theorem dX12_firstWrong_157 : decode cX12_firstWrong 157 = .ok (.iconst 0, 1) := by decide +kernel
theorem dX12_firstWrong_158 : decode cX12_firstWrong 158 = .ok (.iconst 2, 1) := by decide +kernel
theorem dX12_firstWrong_159 : decode cX12_firstWrong 159 = .ok (.invokestatic 173, 3) := by decide +kernel
theorem dX12_firstWrong_162 : decode cX12_firstWrong 162 = .ok (.ifCond .ne 9, 3) := by decide +kernel
theorem dX12_firstWrong_165 : decode cX12_firstWrong 165 = .ok (.iconst 2, 1) := by decide +kernel
theorem dX12_firstWrong_166 : decode cX12_firstWrong 166 = .ok (.iload_n 1, 1) := by decide +kernel
theorem dX12_firstWrong_167 : decode cX12_firstWrong 167 = .ok (.imul, 1) := by decide +kernel
theorem dX12_firstWrong_168 : decode cX12_firstWrong 168 = .ok (.iload_n 3, 1) := by decide +kernel
theorem dX12_firstWrong_169 : decode cX12_firstWrong 169 = .ok (.iadd, 1) := by decide +kernel
theorem dX12_firstWrong_170 : decode cX12_firstWrong 170 = .ok (.ireturn, 1) := by decide +kernel
theorem dX12_firstWrong_171 : decode cX12_firstWrong 171 = .ok (.aload_n 0, 1) := by decide +kernel
theorem dX12_firstWrong_172 : decode cX12_firstWrong 172 = .ok (.getfield 19, 3) := by decide +kernel
theorem dX12_firstWrong_175 : decode cX12_firstWrong 175 = .ok (.bipush 16, 2) := by decide +kernel
theorem dX12_firstWrong_177 : decode cX12_firstWrong 177 = .ok (.iload_n 2, 1) := by decide +kernel
theorem dX12_firstWrong_178 : decode cX12_firstWrong 178 = .ok (.imul, 1) := by decide +kernel
theorem dX12_firstWrong_179 : decode cX12_firstWrong 179 = .ok (.iload_n 3, 1) := by decide +kernel
theorem dX12_firstWrong_180 : decode cX12_firstWrong 180 = .ok (.iadd, 1) := by decide +kernel
theorem dX12_firstWrong_181 : decode cX12_firstWrong 181 = .ok (.aload_n 0, 1) := by decide +kernel
theorem dX12_firstWrong_182 : decode cX12_firstWrong 182 = .ok (.getfield 38, 3) := by decide +kernel
theorem dX12_firstWrong_185 : decode cX12_firstWrong 185 = .ok (.iconst 2, 1) := by decide +kernel
theorem dX12_firstWrong_186 : decode cX12_firstWrong 186 = .ok (.iload_n 1, 1) := by decide +kernel
theorem dX12_firstWrong_187 : decode cX12_firstWrong 187 = .ok (.imul, 1) := by decide +kernel
theorem dX12_firstWrong_188 : decode cX12_firstWrong 188 = .ok (.iload_n 3, 1) := by decide +kernel
theorem dX12_firstWrong_189 : decode cX12_firstWrong 189 = .ok (.iadd, 1) := by decide +kernel
theorem dX12_firstWrong_190 : decode cX12_firstWrong 190 = .ok (.baload, 1) := by decide +kernel
theorem dX12_firstWrong_191 : decode cX12_firstWrong 191 = .ok (.iastore, 1) := by decide +kernel
theorem dX12_firstWrong_192 : decode cX12_firstWrong 192 = .ok (.iinc 3 1, 3) := by decide +kernel
theorem dX12_firstWrong_195 : decode cX12_firstWrong 195 = .ok (.goto (-53), 3) := by decide +kernel
theorem dX12_firstWrong_198 : decode cX12_firstWrong 198 = .ok (.iconst (-1), 1) := by decide +kernel
theorem dX12_firstWrong_199 : decode cX12_firstWrong 199 = .ok (.ireturn, 1) := by decide +kernel
theorem dX12_coast_0 : decode cX12_coast 0 = .ok (.iload_n 1, 1) := by decide +kernel
theorem dX12_coast_1 : decode cX12_coast 1 = .ok (.iconst 4, 1) := by decide +kernel
theorem dX12_coast_2 : decode cX12_coast 2 = .ok (.bipush 16, 2) := by decide +kernel
theorem dX12_coast_4 : decode cX12_coast 4 = .ok (.invokestatic 173, 3) := by decide +kernel
theorem dX12_coast_7 : decode cX12_coast 7 = .ok (.ifCond .eq 29, 3) := by decide +kernel
theorem dX12_coast_10 : decode cX12_coast 10 = .ok (.iload_n 1, 1) := by decide +kernel
theorem dX12_coast_11 : decode cX12_coast 11 = .ok (.iconst 2, 1) := by decide +kernel
theorem dX12_coast_12 : decode cX12_coast 12 = .ok (.irem, 1) := by decide +kernel
theorem dX12_coast_13 : decode cX12_coast 13 = .ok (.iconst 1, 1) := by decide +kernel
theorem dX12_coast_14 : decode cX12_coast 14 = .ok (.if_icmp .eq 22, 3) := by decide +kernel
theorem dX12_coast_17 : decode cX12_coast 17 = .ok (.aload_n 0, 1) := by decide +kernel
theorem dX12_coast_18 : decode cX12_coast 18 = .ok (.getfield 154, 3) := by decide +kernel
theorem dX12_coast_21 : decode cX12_coast 21 = .ok (.bipush 8, 2) := by decide +kernel
theorem dX12_coast_23 : decode cX12_coast 23 = .ok (.if_icmp .eq 13, 3) := by decide +kernel
theorem dX12_coast_26 : decode cX12_coast 26 = .ok (.iconst 3, 1) := by decide +kernel
theorem dX12_coast_27 : decode cX12_coast 27 = .ok (.iload_n 1, 1) := by decide +kernel
theorem dX12_coast_28 : decode cX12_coast 28 = .ok (.imul, 1) := by decide +kernel
theorem dX12_coast_29 : decode cX12_coast 29 = .ok (.aload_n 0, 1) := by decide +kernel
theorem dX12_coast_30 : decode cX12_coast 30 = .ok (.getfield 176, 3) := by decide +kernel
theorem dX12_coast_33 : decode cX12_coast 33 = .ok (.if_icmp .le 5, 3) := by decide +kernel
theorem dX12_coast_36 : decode cX12_coast 36 = .ok (.iconst (-1), 1) := by decide +kernel
theorem dX12_coast_37 : decode cX12_coast 37 = .ok (.ireturn, 1) := by decide +kernel
theorem dX12_coast_38 : decode cX12_coast 38 = .ok (.aload_n 0, 1) := by decide +kernel
theorem dX12_coast_39 : decode cX12_coast 39 = .ok (.iconst 0, 1) := by decide +kernel
theorem dX12_coast_40 : decode cX12_coast 40 = .ok (.putfield 176, 3) := by decide +kernel
theorem dX12_coast_43 : decode cX12_coast 43 = .ok (.aload_n 0, 1) := by decide +kernel
theorem dX12_coast_44 : decode cX12_coast 44 = .ok (.iload_n 1, 1) := by decide +kernel
theorem dX12_coast_45 : decode cX12_coast 45 = .ok (.invokevirtual 179, 3) := by decide +kernel
theorem dX12_coast_48 : decode cX12_coast 48 = .ok (.istore_n 2, 1) := by decide +kernel
theorem dX12_coast_49 : decode cX12_coast 49 = .ok (.iload_n 2, 1) := by decide +kernel
theorem dX12_coast_50 : decode cX12_coast 50 = .ok (.iconst (-1), 1) := by decide +kernel
theorem dX12_coast_51 : decode cX12_coast 51 = .ok (.if_icmp .eq 9, 3) := by decide +kernel
theorem dX12_coast_54 : decode cX12_coast 54 = .ok (.sipush (-1000), 3) := by decide +kernel
theorem dX12_coast_57 : decode cX12_coast 57 = .ok (.iload_n 2, 1) := by decide +kernel
theorem dX12_coast_58 : decode cX12_coast 58 = .ok (.isub, 1) := by decide +kernel
theorem dX12_coast_59 : decode cX12_coast 59 = .ok (.ireturn, 1) := by decide +kernel
theorem dX12_coast_60 : decode cX12_coast 60 = .ok (.aload_n 0, 1) := by decide +kernel
theorem dX12_coast_61 : decode cX12_coast 61 = .ok (.aload_n 0, 1) := by decide +kernel
theorem dX12_coast_62 : decode cX12_coast 62 = .ok (.getfield 154, 3) := by decide +kernel
theorem dX12_coast_65 : decode cX12_coast 65 = .ok (.invokevirtual 183, 3) := by decide +kernel
theorem dX12_coast_68 : decode cX12_coast 68 = .ok (.aload_n 0, 1) := by decide +kernel
theorem dX12_coast_69 : decode cX12_coast 69 = .ok (.aload_n 0, 1) := by decide +kernel
theorem dX12_coast_70 : decode cX12_coast 70 = .ok (.getfield 154, 3) := by decide +kernel
theorem dX12_coast_73 : decode cX12_coast 73 = .ok (.iconst 1, 1) := by decide +kernel
theorem dX12_coast_74 : decode cX12_coast 74 = .ok (.iadd, 1) := by decide +kernel
theorem dX12_coast_75 : decode cX12_coast 75 = .ok (.putfield 154, 3) := by decide +kernel
theorem dX12_coast_78 : decode cX12_coast 78 = .ok (.aload_n 0, 1) := by decide +kernel
theorem dX12_coast_79 : decode cX12_coast 79 = .ok (.getfield 154, 3) := by decide +kernel
theorem dX12_coast_82 : decode cX12_coast 82 = .ok (.iconst 1, 1) := by decide +kernel
theorem dX12_coast_83 : decode cX12_coast 83 = .ok (.isub, 1) := by decide +kernel
theorem dX12_coast_84 : decode cX12_coast 84 = .ok (.ireturn, 1) := by decide +kernel
theorem dX12_push_0 : decode cX12_push 0 = .ok (.aload_n 0, 1) := by decide +kernel
theorem dX12_push_1 : decode cX12_push 1 = .ok (.iload_n 1, 1) := by decide +kernel
theorem dX12_push_2 : decode cX12_push 2 = .ok (.invokevirtual 187, 3) := by decide +kernel
theorem dX12_push_5 : decode cX12_push 5 = .ok (.ifCond .eq 41, 3) := by decide +kernel
theorem dX12_push_8 : decode cX12_push 8 = .ok (.iload_n 2, 1) := by decide +kernel
theorem dX12_push_9 : decode cX12_push 9 = .ok (.ifCond .lt 37, 3) := by decide +kernel
theorem dX12_push_12 : decode cX12_push 12 = .ok (.iload_n 2, 1) := by decide +kernel
theorem dX12_push_13 : decode cX12_push 13 = .ok (.aload_n 0, 1) := by decide +kernel
theorem dX12_push_14 : decode cX12_push 14 = .ok (.getfield 7, 3) := by decide +kernel
theorem dX12_push_17 : decode cX12_push 17 = .ok (.iload_n 1, 1) := by decide +kernel
theorem dX12_push_18 : decode cX12_push 18 = .ok (.iaload, 1) := by decide +kernel
theorem dX12_push_19 : decode cX12_push 19 = .ok (.if_icmp .ge 27, 3) := by decide +kernel
theorem dX12_push_22 : decode cX12_push 22 = .ok (.iload_n 3, 1) := by decide +kernel
theorem dX12_push_23 : decode cX12_push 23 = .ok (.bipush (-9), 2) := by decide +kernel
theorem dX12_push_25 : decode cX12_push 25 = .ok (.bipush 9, 2) := by decide +kernel
theorem dX12_push_27 : decode cX12_push 27 = .ok (.invokestatic 173, 3) := by decide +kernel
theorem dX12_push_30 : decode cX12_push 30 = .ok (.ifCond .eq 16, 3) := by decide +kernel
theorem dX12_push_33 : decode cX12_push 33 = .ok (.iload_n 3, 1) := by decide +kernel
theorem dX12_push_34 : decode cX12_push 34 = .ok (.ifCond .eq 12, 3) := by decide +kernel
theorem dX12_push_37 : decode cX12_push 37 = .ok (.aload_n 0, 1) := by decide +kernel
theorem dX12_push_38 : decode cX12_push 38 = .ok (.getfield 154, 3) := by decide +kernel
theorem dX12_push_41 : decode cX12_push 41 = .ok (.bipush 8, 2) := by decide +kernel
theorem dX12_push_43 : decode cX12_push 43 = .ok (.if_icmp .ne 5, 3) := by decide +kernel
theorem dX12_push_46 : decode cX12_push 46 = .ok (.iconst (-1), 1) := by decide +kernel
theorem dX12_push_47 : decode cX12_push 47 = .ok (.ireturn, 1) := by decide +kernel
theorem dX12_push_48 : decode cX12_push 48 = .ok (.aload_n 0, 1) := by decide +kernel
theorem dX12_push_49 : decode cX12_push 49 = .ok (.getfield 154, 3) := by decide +kernel
theorem dX12_push_52 : decode cX12_push 52 = .ok (.istore 4, 2) := by decide +kernel
theorem dX12_push_54 : decode cX12_push 54 = .ok (.aload_n 0, 1) := by decide +kernel
theorem dX12_push_55 : decode cX12_push 55 = .ok (.getfield 7, 3) := by decide +kernel
theorem dX12_push_58 : decode cX12_push 58 = .ok (.iload 4, 2) := by decide +kernel
theorem dX12_push_60 : decode cX12_push 60 = .ok (.aload_n 0, 1) := by decide +kernel
theorem dX12_push_61 : decode cX12_push 61 = .ok (.getfield 7, 3) := by decide +kernel
theorem dX12_push_64 : decode cX12_push 64 = .ok (.iload_n 1, 1) := by decide +kernel
theorem dX12_push_65 : decode cX12_push 65 = .ok (.iaload, 1) := by decide +kernel
theorem dX12_push_66 : decode cX12_push 66 = .ok (.iastore, 1) := by decide +kernel
theorem dX12_push_67 : decode cX12_push 67 = .ok (.iconst 0, 1) := by decide +kernel
theorem dX12_push_68 : decode cX12_push 68 = .ok (.istore 5, 2) := by decide +kernel
theorem dX12_push_70 : decode cX12_push 70 = .ok (.iload 5, 2) := by decide +kernel
theorem dX12_push_72 : decode cX12_push 72 = .ok (.aload_n 0, 1) := by decide +kernel
theorem dX12_push_73 : decode cX12_push 73 = .ok (.getfield 7, 3) := by decide +kernel
theorem dX12_push_76 : decode cX12_push 76 = .ok (.iload_n 1, 1) := by decide +kernel
theorem dX12_push_77 : decode cX12_push 77 = .ok (.iaload, 1) := by decide +kernel
theorem dX12_push_78 : decode cX12_push 78 = .ok (.if_icmp .ge 148, 3) := by decide +kernel
theorem dX12_push_81 : decode cX12_push 81 = .ok (.iload 5, 2) := by decide +kernel
theorem dX12_push_83 : decode cX12_push 83 = .ok (.iload_n 2, 1) := by decide +kernel
theorem dX12_push_84 : decode cX12_push 84 = .ok (.if_icmp .eq 19, 3) := by decide +kernel
theorem dX12_push_87 : decode cX12_push 87 = .ok (.bipush 16, 2) := by decide +kernel
theorem dX12_push_89 : decode cX12_push 89 = .ok (.iload_n 1, 1) := by decide +kernel
theorem dX12_push_90 : decode cX12_push 90 = .ok (.imul, 1) := by decide +kernel
theorem dX12_push_91 : decode cX12_push 91 = .ok (.iload 5, 2) := by decide +kernel
theorem dX12_push_93 : decode cX12_push 93 = .ok (.iadd, 1) := by decide +kernel
theorem dX12_push_94 : decode cX12_push 94 = .ok (.aload_n 0, 1) := by decide +kernel
theorem dX12_push_95 : decode cX12_push 95 = .ok (.iload_n 1, 1) := by decide +kernel
theorem dX12_push_96 : decode cX12_push 96 = .ok (.iload_n 2, 1) := by decide +kernel
theorem dX12_push_97 : decode cX12_push 97 = .ok (.invokevirtual 157, 3) := by decide +kernel
theorem dX12_push_100 : decode cX12_push 100 = .ok (.if_icmp .ne 7, 3) := by decide +kernel
theorem dX12_push_103 : decode cX12_push 103 = .ok (.iconst 1, 1) := by decide +kernel
theorem dX12_push_104 : decode cX12_push 104 = .ok (.goto 4, 3) := by decide +kernel
theorem dX12_push_107 : decode cX12_push 107 = .ok (.iconst 0, 1) := by decide +kernel
theorem dX12_push_108 : decode cX12_push 108 = .ok (.istore 6, 2) := by decide +kernel
theorem dX12_push_110 : decode cX12_push 110 = .ok (.aload_n 0, 1) := by decide +kernel
theorem dX12_push_111 : decode cX12_push 111 = .ok (.getfield 13, 3) := by decide +kernel
theorem dX12_push_114 : decode cX12_push 114 = .ok (.bipush 16, 2) := by decide +kernel
theorem dX12_push_116 : decode cX12_push 116 = .ok (.iload 4, 2) := by decide +kernel
theorem dX12_push_118 : decode cX12_push 118 = .ok (.imul, 1) := by decide +kernel
theorem dX12_push_119 : decode cX12_push 119 = .ok (.iload 5, 2) := by decide +kernel
theorem dX12_push_121 : decode cX12_push 121 = .ok (.iadd, 1) := by decide +kernel
theorem dX12_push_122 : decode cX12_push 122 = .ok (.aload_n 0, 1) := by decide +kernel
theorem dX12_push_123 : decode cX12_push 123 = .ok (.getfield 13, 3) := by decide +kernel
theorem dX12_push_126 : decode cX12_push 126 = .ok (.bipush 16, 2) := by decide +kernel
theorem dX12_push_128 : decode cX12_push 128 = .ok (.iload_n 1, 1) := by decide +kernel
theorem dX12_push_129 : decode cX12_push 129 = .ok (.imul, 1) := by decide +kernel
theorem dX12_push_130 : decode cX12_push 130 = .ok (.iload 5, 2) := by decide +kernel
theorem dX12_push_132 : decode cX12_push 132 = .ok (.iadd, 1) := by decide +kernel
theorem dX12_push_133 : decode cX12_push 133 = .ok (.iaload, 1) := by decide +kernel
theorem dX12_push_134 : decode cX12_push 134 = .ok (.iload 6, 2) := by decide +kernel
theorem dX12_push_136 : decode cX12_push 136 = .ok (.ifCond .eq 14, 3) := by decide +kernel
theorem dX12_push_139 : decode cX12_push 139 = .ok (.iload_n 2, 1) := by decide +kernel
theorem dX12_push_140 : decode cX12_push 140 = .ok (.iconst 2, 1) := by decide +kernel
theorem dX12_push_141 : decode cX12_push 141 = .ok (.irem, 1) := by decide +kernel
theorem dX12_push_142 : decode cX12_push 142 = .ok (.iconst 1, 1) := by decide +kernel
theorem dX12_push_143 : decode cX12_push 143 = .ok (.if_icmp .ne 7, 3) := by decide +kernel
theorem dX12_push_146 : decode cX12_push 146 = .ok (.iload_n 3, 1) := by decide +kernel
theorem dX12_push_147 : decode cX12_push 147 = .ok (.goto 4, 3) := by decide +kernel
theorem dX12_push_150 : decode cX12_push 150 = .ok (.iconst 0, 1) := by decide +kernel
theorem dX12_push_151 : decode cX12_push 151 = .ok (.iadd, 1) := by decide +kernel
theorem dX12_push_152 : decode cX12_push 152 = .ok (.iastore, 1) := by decide +kernel
theorem dX12_push_153 : decode cX12_push 153 = .ok (.aload_n 0, 1) := by decide +kernel
theorem dX12_push_154 : decode cX12_push 154 = .ok (.getfield 16, 3) := by decide +kernel
theorem dX12_push_157 : decode cX12_push 157 = .ok (.bipush 16, 2) := by decide +kernel
theorem dX12_push_159 : decode cX12_push 159 = .ok (.iload 4, 2) := by decide +kernel
theorem dX12_push_161 : decode cX12_push 161 = .ok (.imul, 1) := by decide +kernel
theorem dX12_push_162 : decode cX12_push 162 = .ok (.iload 5, 2) := by decide +kernel
theorem dX12_push_164 : decode cX12_push 164 = .ok (.iadd, 1) := by decide +kernel
theorem dX12_push_165 : decode cX12_push 165 = .ok (.aload_n 0, 1) := by decide +kernel
theorem dX12_push_166 : decode cX12_push 166 = .ok (.getfield 16, 3) := by decide +kernel
theorem dX12_push_169 : decode cX12_push 169 = .ok (.bipush 16, 2) := by decide +kernel
theorem dX12_push_171 : decode cX12_push 171 = .ok (.iload_n 1, 1) := by decide +kernel
theorem dX12_push_172 : decode cX12_push 172 = .ok (.imul, 1) := by decide +kernel
theorem dX12_push_173 : decode cX12_push 173 = .ok (.iload 5, 2) := by decide +kernel
theorem dX12_push_175 : decode cX12_push 175 = .ok (.iadd, 1) := by decide +kernel
theorem dX12_push_176 : decode cX12_push 176 = .ok (.iaload, 1) := by decide +kernel
theorem dX12_push_177 : decode cX12_push 177 = .ok (.iload 6, 2) := by decide +kernel
theorem dX12_push_179 : decode cX12_push 179 = .ok (.ifCond .eq 13, 3) := by decide +kernel
theorem dX12_push_182 : decode cX12_push 182 = .ok (.iload_n 2, 1) := by decide +kernel
theorem dX12_push_183 : decode cX12_push 183 = .ok (.iconst 2, 1) := by decide +kernel
theorem dX12_push_184 : decode cX12_push 184 = .ok (.irem, 1) := by decide +kernel
theorem dX12_push_185 : decode cX12_push 185 = .ok (.ifCond .ne 7, 3) := by decide +kernel
theorem dX12_push_188 : decode cX12_push 188 = .ok (.iload_n 3, 1) := by decide +kernel
theorem dX12_push_189 : decode cX12_push 189 = .ok (.goto 4, 3) := by decide +kernel
theorem dX12_push_192 : decode cX12_push 192 = .ok (.iconst 0, 1) := by decide +kernel
theorem dX12_push_193 : decode cX12_push 193 = .ok (.iadd, 1) := by decide +kernel
theorem dX12_push_194 : decode cX12_push 194 = .ok (.iastore, 1) := by decide +kernel
theorem dX12_push_195 : decode cX12_push 195 = .ok (.aload_n 0, 1) := by decide +kernel
theorem dX12_push_196 : decode cX12_push 196 = .ok (.getfield 19, 3) := by decide +kernel
theorem dX12_push_199 : decode cX12_push 199 = .ok (.bipush 16, 2) := by decide +kernel
theorem dX12_push_201 : decode cX12_push 201 = .ok (.iload 4, 2) := by decide +kernel
theorem dX12_push_203 : decode cX12_push 203 = .ok (.imul, 1) := by decide +kernel
theorem dX12_push_204 : decode cX12_push 204 = .ok (.iload 5, 2) := by decide +kernel
theorem dX12_push_206 : decode cX12_push 206 = .ok (.iadd, 1) := by decide +kernel
theorem dX12_push_207 : decode cX12_push 207 = .ok (.aload_n 0, 1) := by decide +kernel
theorem dX12_push_208 : decode cX12_push 208 = .ok (.getfield 19, 3) := by decide +kernel
theorem dX12_push_211 : decode cX12_push 211 = .ok (.bipush 16, 2) := by decide +kernel
theorem dX12_push_213 : decode cX12_push 213 = .ok (.iload_n 1, 1) := by decide +kernel
theorem dX12_push_214 : decode cX12_push 214 = .ok (.imul, 1) := by decide +kernel
theorem dX12_push_215 : decode cX12_push 215 = .ok (.iload 5, 2) := by decide +kernel
theorem dX12_push_217 : decode cX12_push 217 = .ok (.iadd, 1) := by decide +kernel
theorem dX12_push_218 : decode cX12_push 218 = .ok (.iaload, 1) := by decide +kernel
theorem dX12_push_219 : decode cX12_push 219 = .ok (.iastore, 1) := by decide +kernel
theorem dX12_push_220 : decode cX12_push 220 = .ok (.iinc 5 1, 3) := by decide +kernel
theorem dX12_push_223 : decode cX12_push 223 = .ok (.goto (-153), 3) := by decide +kernel
theorem dX12_push_226 : decode cX12_push 226 = .ok (.iconst 0, 1) := by decide +kernel
theorem dX12_push_227 : decode cX12_push 227 = .ok (.istore 5, 2) := by decide +kernel
theorem dX12_push_229 : decode cX12_push 229 = .ok (.iload 5, 2) := by decide +kernel
theorem dX12_push_231 : decode cX12_push 231 = .ok (.aload_n 0, 1) := by decide +kernel
theorem dX12_push_232 : decode cX12_push 232 = .ok (.getfield 7, 3) := by decide +kernel
theorem dX12_push_235 : decode cX12_push 235 = .ok (.iload 4, 2) := by decide +kernel
theorem dX12_push_237 : decode cX12_push 237 = .ok (.iaload, 1) := by decide +kernel
theorem dX12_push_238 : decode cX12_push 238 = .ok (.if_icmp .ge 61, 3) := by decide +kernel
theorem dX12_push_241 : decode cX12_push 241 = .ok (.aload_n 0, 1) := by decide +kernel
theorem dX12_push_242 : decode cX12_push 242 = .ok (.getfield 13, 3) := by decide +kernel
theorem dX12_push_245 : decode cX12_push 245 = .ok (.bipush 16, 2) := by decide +kernel
theorem dX12_push_247 : decode cX12_push 247 = .ok (.iload 4, 2) := by decide +kernel
theorem dX12_push_249 : decode cX12_push 249 = .ok (.imul, 1) := by decide +kernel
theorem dX12_push_250 : decode cX12_push 250 = .ok (.iload 5, 2) := by decide +kernel
theorem dX12_push_252 : decode cX12_push 252 = .ok (.iadd, 1) := by decide +kernel
theorem dX12_push_253 : decode cX12_push 253 = .ok (.iaload, 1) := by decide +kernel
theorem dX12_push_254 : decode cX12_push 254 = .ok (.invokestatic 165, 3) := by decide +kernel
theorem dX12_push_257 : decode cX12_push 257 = .ok (.ifCond .eq 33, 3) := by decide +kernel
theorem dX12_push_260 : decode cX12_push 260 = .ok (.aload_n 0, 1) := by decide +kernel
theorem dX12_push_261 : decode cX12_push 261 = .ok (.getfield 16, 3) := by decide +kernel
theorem dX12_push_264 : decode cX12_push 264 = .ok (.bipush 16, 2) := by decide +kernel
theorem dX12_push_266 : decode cX12_push 266 = .ok (.iload 4, 2) := by decide +kernel
theorem dX12_push_268 : decode cX12_push 268 = .ok (.imul, 1) := by decide +kernel
theorem dX12_push_269 : decode cX12_push 269 = .ok (.iload 5, 2) := by decide +kernel
theorem dX12_push_271 : decode cX12_push 271 = .ok (.iadd, 1) := by decide +kernel
theorem dX12_push_272 : decode cX12_push 272 = .ok (.iaload, 1) := by decide +kernel
theorem dX12_push_273 : decode cX12_push 273 = .ok (.invokestatic 165, 3) := by decide +kernel
theorem dX12_push_276 : decode cX12_push 276 = .ok (.ifCond .eq 14, 3) := by decide +kernel
theorem dX12_push_279 : decode cX12_push 279 = .ok (.aload_n 0, 1) := by decide +kernel
theorem dX12_push_280 : decode cX12_push 280 = .ok (.iload 4, 2) := by decide +kernel
theorem dX12_push_282 : decode cX12_push 282 = .ok (.iload 5, 2) := by decide +kernel
theorem dX12_push_284 : decode cX12_push 284 = .ok (.invokevirtual 169, 3) := by decide +kernel
theorem dX12_push_287 : decode cX12_push 287 = .ok (.ifCond .ne 6, 3) := by decide +kernel
theorem dX12_push_290 : decode cX12_push 290 = .ok (.bipush (-2), 2) := by decide +kernel
theorem dX12_push_292 : decode cX12_push 292 = .ok (.ireturn, 1) := by decide +kernel
theorem dX12_push_293 : decode cX12_push 293 = .ok (.iinc 5 1, 3) := by decide +kernel
theorem dX12_push_296 : decode cX12_push 296 = .ok (.goto (-67), 3) := by decide +kernel
theorem dX12_push_299 : decode cX12_push 299 = .ok (.aload_n 0, 1) := by decide +kernel
theorem dX12_push_300 : decode cX12_push 300 = .ok (.iload 4, 2) := by decide +kernel
theorem dX12_push_302 : decode cX12_push 302 = .ok (.invokevirtual 183, 3) := by decide +kernel
theorem dX12_push_305 : decode cX12_push 305 = .ok (.aload_n 0, 1) := by decide +kernel
theorem dX12_push_306 : decode cX12_push 306 = .ok (.aload_n 0, 1) := by decide +kernel
theorem dX12_push_307 : decode cX12_push 307 = .ok (.getfield 154, 3) := by decide +kernel
theorem dX12_push_310 : decode cX12_push 310 = .ok (.iconst 1, 1) := by decide +kernel
theorem dX12_push_311 : decode cX12_push 311 = .ok (.iadd, 1) := by decide +kernel
theorem dX12_push_312 : decode cX12_push 312 = .ok (.putfield 154, 3) := by decide +kernel
theorem dX12_push_315 : decode cX12_push 315 = .ok (.iload 4, 2) := by decide +kernel
theorem dX12_push_317 : decode cX12_push 317 = .ok (.ireturn, 1) := by decide +kernel
theorem dX12_isLandAt_0 : decode cX12_isLandAt 0 = .ok (.aload_n 0, 1) := by decide +kernel
theorem dX12_isLandAt_1 : decode cX12_isLandAt 1 = .ok (.getfield 22, 3) := by decide +kernel
theorem dX12_isLandAt_4 : decode cX12_isLandAt 4 = .ok (.sipush 1024, 3) := by decide +kernel
theorem dX12_isLandAt_7 : decode cX12_isLandAt 7 = .ok (.iload_n 1, 1) := by decide +kernel
theorem dX12_isLandAt_8 : decode cX12_isLandAt 8 = .ok (.imul, 1) := by decide +kernel
theorem dX12_isLandAt_9 : decode cX12_isLandAt 9 = .ok (.bipush 32, 2) := by decide +kernel
theorem dX12_isLandAt_11 : decode cX12_isLandAt 11 = .ok (.iload_n 3, 1) := by decide +kernel
theorem dX12_isLandAt_12 : decode cX12_isLandAt 12 = .ok (.imul, 1) := by decide +kernel
theorem dX12_isLandAt_13 : decode cX12_isLandAt 13 = .ok (.iadd, 1) := by decide +kernel
theorem dX12_isLandAt_14 : decode cX12_isLandAt 14 = .ok (.iload_n 2, 1) := by decide +kernel
theorem dX12_isLandAt_15 : decode cX12_isLandAt 15 = .ok (.iadd, 1) := by decide +kernel
theorem dX12_isLandAt_16 : decode cX12_isLandAt 16 = .ok (.baload, 1) := by decide +kernel
theorem dX12_isLandAt_17 : decode cX12_isLandAt 17 = .ok (.ireturn, 1) := by decide +kernel
theorem dX12_land_0 : decode cX12_land 0 = .ok (.aload_n 0, 1) := by decide +kernel
theorem dX12_land_1 : decode cX12_land 1 = .ok (.iload_n 1, 1) := by decide +kernel
theorem dX12_land_2 : decode cX12_land 2 = .ok (.invokevirtual 187, 3) := by decide +kernel
theorem dX12_land_5 : decode cX12_land 5 = .ok (.ifCond .eq 11, 3) := by decide +kernel
theorem dX12_land_8 : decode cX12_land 8 = .ok (.iload_n 2, 1) := by decide +kernel
theorem dX12_land_9 : decode cX12_land 9 = .ok (.iload_n 3, 1) := by decide +kernel
theorem dX12_land_10 : decode cX12_land 10 = .ok (.invokestatic 190, 3) := by decide +kernel
theorem dX12_land_13 : decode cX12_land 13 = .ok (.ifCond .ne 7, 3) := by decide +kernel
theorem dX12_land_16 : decode cX12_land 16 = .ok (.iconst (-1), 1) := by decide +kernel
theorem dX12_land_17 : decode cX12_land 17 = .ok (.goto 18, 3) := by decide +kernel
theorem dX12_land_20 : decode cX12_land 20 = .ok (.aload_n 0, 1) := by decide +kernel
theorem dX12_land_21 : decode cX12_land 21 = .ok (.iload_n 1, 1) := by decide +kernel
theorem dX12_land_22 : decode cX12_land 22 = .ok (.iload_n 2, 1) := by decide +kernel
theorem dX12_land_23 : decode cX12_land 23 = .ok (.iload_n 3, 1) := by decide +kernel
theorem dX12_land_24 : decode cX12_land 24 = .ok (.invokevirtual 193, 3) := by decide +kernel
theorem dX12_land_27 : decode cX12_land 27 = .ok (.ifCond .eq 7, 3) := by decide +kernel
theorem dX12_land_30 : decode cX12_land 30 = .ok (.iconst 1, 1) := by decide +kernel
theorem dX12_land_31 : decode cX12_land 31 = .ok (.goto 4, 3) := by decide +kernel
theorem dX12_land_34 : decode cX12_land 34 = .ok (.iconst 0, 1) := by decide +kernel
theorem dX12_land_35 : decode cX12_land 35 = .ok (.ireturn, 1) := by decide +kernel
theorem dX12_stepsTo_0 : decode cX12_stepsTo 0 = .ok (.iconst 1, 1) := by decide +kernel
theorem dX12_stepsTo_1 : decode cX12_stepsTo 1 = .ok (.istore 5, 2) := by decide +kernel
theorem dX12_stepsTo_3 : decode cX12_stepsTo 3 = .ok (.iload_n 2, 1) := by decide +kernel
theorem dX12_stepsTo_4 : decode cX12_stepsTo 4 = .ok (.iload 5, 2) := by decide +kernel
theorem dX12_stepsTo_6 : decode cX12_stepsTo 6 = .ok (.iload 4, 2) := by decide +kernel
theorem dX12_stepsTo_8 : decode cX12_stepsTo 8 = .ok (.invokestatic 196, 3) := by decide +kernel
theorem dX12_stepsTo_11 : decode cX12_stepsTo 11 = .ok (.imul, 1) := by decide +kernel
theorem dX12_stepsTo_12 : decode cX12_stepsTo 12 = .ok (.iadd, 1) := by decide +kernel
theorem dX12_stepsTo_13 : decode cX12_stepsTo 13 = .ok (.iload_n 3, 1) := by decide +kernel
theorem dX12_stepsTo_14 : decode cX12_stepsTo 14 = .ok (.iload 5, 2) := by decide +kernel
theorem dX12_stepsTo_16 : decode cX12_stepsTo 16 = .ok (.iload 4, 2) := by decide +kernel
theorem dX12_stepsTo_18 : decode cX12_stepsTo 18 = .ok (.invokestatic 199, 3) := by decide +kernel
theorem dX12_stepsTo_21 : decode cX12_stepsTo 21 = .ok (.imul, 1) := by decide +kernel
theorem dX12_stepsTo_22 : decode cX12_stepsTo 22 = .ok (.iadd, 1) := by decide +kernel
theorem dX12_stepsTo_23 : decode cX12_stepsTo 23 = .ok (.invokestatic 190, 3) := by decide +kernel
theorem dX12_stepsTo_26 : decode cX12_stepsTo 26 = .ok (.ifCond .eq 43, 3) := by decide +kernel
theorem dX12_stepsTo_29 : decode cX12_stepsTo 29 = .ok (.aload_n 0, 1) := by decide +kernel
theorem dX12_stepsTo_30 : decode cX12_stepsTo 30 = .ok (.iload_n 1, 1) := by decide +kernel
theorem dX12_stepsTo_31 : decode cX12_stepsTo 31 = .ok (.iload_n 2, 1) := by decide +kernel
theorem dX12_stepsTo_32 : decode cX12_stepsTo 32 = .ok (.iload 5, 2) := by decide +kernel
theorem dX12_stepsTo_34 : decode cX12_stepsTo 34 = .ok (.iload 4, 2) := by decide +kernel
theorem dX12_stepsTo_36 : decode cX12_stepsTo 36 = .ok (.invokestatic 196, 3) := by decide +kernel
theorem dX12_stepsTo_39 : decode cX12_stepsTo 39 = .ok (.imul, 1) := by decide +kernel
theorem dX12_stepsTo_40 : decode cX12_stepsTo 40 = .ok (.iadd, 1) := by decide +kernel
theorem dX12_stepsTo_41 : decode cX12_stepsTo 41 = .ok (.iload_n 3, 1) := by decide +kernel
theorem dX12_stepsTo_42 : decode cX12_stepsTo 42 = .ok (.iload 5, 2) := by decide +kernel
theorem dX12_stepsTo_44 : decode cX12_stepsTo 44 = .ok (.iload 4, 2) := by decide +kernel
theorem dX12_stepsTo_46 : decode cX12_stepsTo 46 = .ok (.invokestatic 199, 3) := by decide +kernel
theorem dX12_stepsTo_49 : decode cX12_stepsTo 49 = .ok (.imul, 1) := by decide +kernel
theorem dX12_stepsTo_50 : decode cX12_stepsTo 50 = .ok (.iadd, 1) := by decide +kernel
theorem dX12_stepsTo_51 : decode cX12_stepsTo 51 = .ok (.invokevirtual 193, 3) := by decide +kernel
theorem dX12_stepsTo_54 : decode cX12_stepsTo 54 = .ok (.ifCond .eq 6, 3) := by decide +kernel
theorem dX12_stepsTo_57 : decode cX12_stepsTo 57 = .ok (.iload 5, 2) := by decide +kernel
theorem dX12_stepsTo_59 : decode cX12_stepsTo 59 = .ok (.ireturn, 1) := by decide +kernel
theorem dX12_stepsTo_60 : decode cX12_stepsTo 60 = .ok (.iload 5, 2) := by decide +kernel
theorem dX12_stepsTo_62 : decode cX12_stepsTo 62 = .ok (.iconst 1, 1) := by decide +kernel
theorem dX12_stepsTo_63 : decode cX12_stepsTo 63 = .ok (.iadd, 1) := by decide +kernel
theorem dX12_stepsTo_64 : decode cX12_stepsTo 64 = .ok (.istore 5, 2) := by decide +kernel
theorem dX12_stepsTo_66 : decode cX12_stepsTo 66 = .ok (.goto (-63), 3) := by decide +kernel
theorem dX12_stepsTo_69 : decode cX12_stepsTo 69 = .ok (.iconst 0, 1) := by decide +kernel
theorem dX12_stepsTo_70 : decode cX12_stepsTo 70 = .ok (.ireturn, 1) := by decide +kernel
theorem dX12_sortAt_0 : decode cX12_sortAt 0 = .ok (.iconst 0, 1) := by decide +kernel
theorem dX12_sortAt_1 : decode cX12_sortAt 1 = .ok (.istore 5, 2) := by decide +kernel
theorem dX12_sortAt_3 : decode cX12_sortAt 3 = .ok (.iload 5, 2) := by decide +kernel
theorem dX12_sortAt_5 : decode cX12_sortAt 5 = .ok (.aload_n 0, 1) := by decide +kernel
theorem dX12_sortAt_6 : decode cX12_sortAt 6 = .ok (.getfield 7, 3) := by decide +kernel
theorem dX12_sortAt_9 : decode cX12_sortAt 9 = .ok (.iload_n 1, 1) := by decide +kernel
theorem dX12_sortAt_10 : decode cX12_sortAt 10 = .ok (.iaload, 1) := by decide +kernel
theorem dX12_sortAt_11 : decode cX12_sortAt 11 = .ok (.if_icmp .ge 181, 3) := by decide +kernel
theorem dX12_sortAt_14 : decode cX12_sortAt 14 = .ok (.bipush 16, 2) := by decide +kernel
theorem dX12_sortAt_16 : decode cX12_sortAt 16 = .ok (.iload_n 1, 1) := by decide +kernel
theorem dX12_sortAt_17 : decode cX12_sortAt 17 = .ok (.imul, 1) := by decide +kernel
theorem dX12_sortAt_18 : decode cX12_sortAt 18 = .ok (.iload 5, 2) := by decide +kernel
theorem dX12_sortAt_20 : decode cX12_sortAt 20 = .ok (.iadd, 1) := by decide +kernel
theorem dX12_sortAt_21 : decode cX12_sortAt 21 = .ok (.istore 6, 2) := by decide +kernel
theorem dX12_sortAt_23 : decode cX12_sortAt 23 = .ok (.aload_n 0, 1) := by decide +kernel
theorem dX12_sortAt_24 : decode cX12_sortAt 24 = .ok (.iload_n 1, 1) := by decide +kernel
theorem dX12_sortAt_25 : decode cX12_sortAt 25 = .ok (.iload 5, 2) := by decide +kernel
theorem dX12_sortAt_27 : decode cX12_sortAt 27 = .ok (.invokevirtual 157, 3) := by decide +kernel
theorem dX12_sortAt_30 : decode cX12_sortAt 30 = .ok (.istore 7, 2) := by decide +kernel
theorem dX12_sortAt_32 : decode cX12_sortAt 32 = .ok (.iload 5, 2) := by decide +kernel
theorem dX12_sortAt_34 : decode cX12_sortAt 34 = .ok (.iconst 2, 1) := by decide +kernel
theorem dX12_sortAt_35 : decode cX12_sortAt 35 = .ok (.irem, 1) := by decide +kernel
theorem dX12_sortAt_36 : decode cX12_sortAt 36 = .ok (.ifCond .ne 7, 3) := by decide +kernel
theorem dX12_sortAt_39 : decode cX12_sortAt 39 = .ok (.iconst 1, 1) := by decide +kernel
theorem dX12_sortAt_40 : decode cX12_sortAt 40 = .ok (.goto 4, 3) := by decide +kernel
theorem dX12_sortAt_43 : decode cX12_sortAt 43 = .ok (.iconst 0, 1) := by decide +kernel
theorem dX12_sortAt_44 : decode cX12_sortAt 44 = .ok (.istore 8, 2) := by decide +kernel
theorem dX12_sortAt_46 : decode cX12_sortAt 46 = .ok (.iload 8, 2) := by decide +kernel
theorem dX12_sortAt_48 : decode cX12_sortAt 48 = .ok (.iload 4, 2) := by decide +kernel
theorem dX12_sortAt_50 : decode cX12_sortAt 50 = .ok (.iconst 2, 1) := by decide +kernel
theorem dX12_sortAt_51 : decode cX12_sortAt 51 = .ok (.irem, 1) := by decide +kernel
theorem dX12_sortAt_52 : decode cX12_sortAt 52 = .ok (.ifCond .ne 7, 3) := by decide +kernel
theorem dX12_sortAt_55 : decode cX12_sortAt 55 = .ok (.iconst 1, 1) := by decide +kernel
theorem dX12_sortAt_56 : decode cX12_sortAt 56 = .ok (.goto 4, 3) := by decide +kernel
theorem dX12_sortAt_59 : decode cX12_sortAt 59 = .ok (.iconst 0, 1) := by decide +kernel
theorem dX12_sortAt_60 : decode cX12_sortAt 60 = .ok (.if_icmp .eq 6, 3) := by decide +kernel
theorem dX12_sortAt_63 : decode cX12_sortAt 63 = .ok (.goto 123, 3) := by decide +kernel
theorem dX12_sortAt_66 : decode cX12_sortAt 66 = .ok (.iload 8, 2) := by decide +kernel
theorem dX12_sortAt_68 : decode cX12_sortAt 68 = .ok (.ifCond .eq 54, 3) := by decide +kernel
theorem dX12_sortAt_71 : decode cX12_sortAt 71 = .ok (.aload_n 0, 1) := by decide +kernel
theorem dX12_sortAt_72 : decode cX12_sortAt 72 = .ok (.getfield 16, 3) := by decide +kernel
theorem dX12_sortAt_75 : decode cX12_sortAt 75 = .ok (.iload 6, 2) := by decide +kernel
theorem dX12_sortAt_77 : decode cX12_sortAt 77 = .ok (.iaload, 1) := by decide +kernel
theorem dX12_sortAt_78 : decode cX12_sortAt 78 = .ok (.iload 4, 2) := by decide +kernel
theorem dX12_sortAt_80 : decode cX12_sortAt 80 = .ok (.ifCond .ne 7, 3) := by decide +kernel
theorem dX12_sortAt_83 : decode cX12_sortAt 83 = .ok (.iload_n 3, 1) := by decide +kernel
theorem dX12_sortAt_84 : decode cX12_sortAt 84 = .ok (.goto 6, 3) := by decide +kernel
theorem dX12_sortAt_87 : decode cX12_sortAt 87 = .ok (.iload_n 3, 1) := by decide +kernel
theorem dX12_sortAt_88 : decode cX12_sortAt 88 = .ok (.iconst 1, 1) := by decide +kernel
theorem dX12_sortAt_89 : decode cX12_sortAt 89 = .ok (.iadd, 1) := by decide +kernel
theorem dX12_sortAt_90 : decode cX12_sortAt 90 = .ok (.if_icmp .ne 28, 3) := by decide +kernel
theorem dX12_sortAt_93 : decode cX12_sortAt 93 = .ok (.iload_n 2, 1) := by decide +kernel
theorem dX12_sortAt_94 : decode cX12_sortAt 94 = .ok (.aload_n 0, 1) := by decide +kernel
theorem dX12_sortAt_95 : decode cX12_sortAt 95 = .ok (.getfield 13, 3) := by decide +kernel
theorem dX12_sortAt_98 : decode cX12_sortAt 98 = .ok (.iload 6, 2) := by decide +kernel
theorem dX12_sortAt_100 : decode cX12_sortAt 100 = .ok (.iaload, 1) := by decide +kernel
theorem dX12_sortAt_101 : decode cX12_sortAt 101 = .ok (.aload_n 0, 1) := by decide +kernel
theorem dX12_sortAt_102 : decode cX12_sortAt 102 = .ok (.getfield 13, 3) := by decide +kernel
theorem dX12_sortAt_105 : decode cX12_sortAt 105 = .ok (.iload 7, 2) := by decide +kernel
theorem dX12_sortAt_107 : decode cX12_sortAt 107 = .ok (.iaload, 1) := by decide +kernel
theorem dX12_sortAt_108 : decode cX12_sortAt 108 = .ok (.invokestatic 161, 3) := by decide +kernel
theorem dX12_sortAt_111 : decode cX12_sortAt 111 = .ok (.ifCond .eq 7, 3) := by decide +kernel
theorem dX12_sortAt_114 : decode cX12_sortAt 114 = .ok (.iconst 1, 1) := by decide +kernel
theorem dX12_sortAt_115 : decode cX12_sortAt 115 = .ok (.goto 56, 3) := by decide +kernel
theorem dX12_sortAt_118 : decode cX12_sortAt 118 = .ok (.iconst 0, 1) := by decide +kernel
theorem dX12_sortAt_119 : decode cX12_sortAt 119 = .ok (.goto 52, 3) := by decide +kernel
theorem dX12_sortAt_122 : decode cX12_sortAt 122 = .ok (.aload_n 0, 1) := by decide +kernel
theorem dX12_sortAt_123 : decode cX12_sortAt 123 = .ok (.getfield 13, 3) := by decide +kernel
theorem dX12_sortAt_126 : decode cX12_sortAt 126 = .ok (.iload 6, 2) := by decide +kernel
theorem dX12_sortAt_128 : decode cX12_sortAt 128 = .ok (.iaload, 1) := by decide +kernel
theorem dX12_sortAt_129 : decode cX12_sortAt 129 = .ok (.iload 4, 2) := by decide +kernel
theorem dX12_sortAt_131 : decode cX12_sortAt 131 = .ok (.iconst 1, 1) := by decide +kernel
theorem dX12_sortAt_132 : decode cX12_sortAt 132 = .ok (.if_icmp .ne 7, 3) := by decide +kernel
theorem dX12_sortAt_135 : decode cX12_sortAt 135 = .ok (.iload_n 2, 1) := by decide +kernel
theorem dX12_sortAt_136 : decode cX12_sortAt 136 = .ok (.goto 6, 3) := by decide +kernel
theorem dX12_sortAt_139 : decode cX12_sortAt 139 = .ok (.iload_n 2, 1) := by decide +kernel
theorem dX12_sortAt_140 : decode cX12_sortAt 140 = .ok (.iconst 1, 1) := by decide +kernel
theorem dX12_sortAt_141 : decode cX12_sortAt 141 = .ok (.iadd, 1) := by decide +kernel
theorem dX12_sortAt_142 : decode cX12_sortAt 142 = .ok (.if_icmp .ne 28, 3) := by decide +kernel
theorem dX12_sortAt_145 : decode cX12_sortAt 145 = .ok (.iload_n 3, 1) := by decide +kernel
theorem dX12_sortAt_146 : decode cX12_sortAt 146 = .ok (.aload_n 0, 1) := by decide +kernel
theorem dX12_sortAt_147 : decode cX12_sortAt 147 = .ok (.getfield 16, 3) := by decide +kernel
theorem dX12_sortAt_150 : decode cX12_sortAt 150 = .ok (.iload 6, 2) := by decide +kernel
theorem dX12_sortAt_152 : decode cX12_sortAt 152 = .ok (.iaload, 1) := by decide +kernel
theorem dX12_sortAt_153 : decode cX12_sortAt 153 = .ok (.aload_n 0, 1) := by decide +kernel
theorem dX12_sortAt_154 : decode cX12_sortAt 154 = .ok (.getfield 16, 3) := by decide +kernel
theorem dX12_sortAt_157 : decode cX12_sortAt 157 = .ok (.iload 7, 2) := by decide +kernel
theorem dX12_sortAt_159 : decode cX12_sortAt 159 = .ok (.iaload, 1) := by decide +kernel
theorem dX12_sortAt_160 : decode cX12_sortAt 160 = .ok (.invokestatic 161, 3) := by decide +kernel
theorem dX12_sortAt_163 : decode cX12_sortAt 163 = .ok (.ifCond .eq 7, 3) := by decide +kernel
theorem dX12_sortAt_166 : decode cX12_sortAt 166 = .ok (.iconst 1, 1) := by decide +kernel
theorem dX12_sortAt_167 : decode cX12_sortAt 167 = .ok (.goto 4, 3) := by decide +kernel
theorem dX12_sortAt_170 : decode cX12_sortAt 170 = .ok (.iconst 0, 1) := by decide +kernel
theorem dX12_sortAt_171 : decode cX12_sortAt 171 = .ok (.istore 9, 2) := by decide +kernel
theorem dX12_sortAt_173 : decode cX12_sortAt 173 = .ok (.iload 9, 2) := by decide +kernel
theorem dX12_sortAt_175 : decode cX12_sortAt 175 = .ok (.ifCond .eq 11, 3) := by decide +kernel
theorem dX12_sortAt_178 : decode cX12_sortAt 178 = .ok (.aload_n 0, 1) := by decide +kernel
theorem dX12_sortAt_179 : decode cX12_sortAt 179 = .ok (.getfield 19, 3) := by decide +kernel
theorem dX12_sortAt_182 : decode cX12_sortAt 182 = .ok (.iload 6, 2) := by decide +kernel
theorem dX12_sortAt_184 : decode cX12_sortAt 184 = .ok (.iaload, 1) := by decide +kernel
theorem dX12_sortAt_185 : decode cX12_sortAt 185 = .ok (.ireturn, 1) := by decide +kernel
theorem dX12_sortAt_186 : decode cX12_sortAt 186 = .ok (.iinc 5 1, 3) := by decide +kernel
theorem dX12_sortAt_189 : decode cX12_sortAt 189 = .ok (.goto (-186), 3) := by decide +kernel
theorem dX12_sortAt_192 : decode cX12_sortAt 192 = .ok (.iconst (-1), 1) := by decide +kernel
theorem dX12_sortAt_193 : decode cX12_sortAt 193 = .ok (.ireturn, 1) := by decide +kernel
theorem dX12_sortTo_0 : decode cX12_sortTo 0 = .ok (.aload_n 0, 1) := by decide +kernel
theorem dX12_sortTo_1 : decode cX12_sortTo 1 = .ok (.iload_n 1, 1) := by decide +kernel
theorem dX12_sortTo_2 : decode cX12_sortTo 2 = .ok (.iload_n 2, 1) := by decide +kernel
theorem dX12_sortTo_3 : decode cX12_sortTo 3 = .ok (.iload_n 3, 1) := by decide +kernel
theorem dX12_sortTo_4 : decode cX12_sortTo 4 = .ok (.iload 4, 2) := by decide +kernel
theorem dX12_sortTo_6 : decode cX12_sortTo 6 = .ok (.invokevirtual 202, 3) := by decide +kernel
theorem dX12_sortTo_9 : decode cX12_sortTo 9 = .ok (.istore 5, 2) := by decide +kernel
theorem dX12_sortTo_11 : decode cX12_sortTo 11 = .ok (.iload 5, 2) := by decide +kernel
theorem dX12_sortTo_13 : decode cX12_sortTo 13 = .ok (.ifCond .ne 8, 3) := by decide +kernel
theorem dX12_sortTo_16 : decode cX12_sortTo 16 = .ok (.bipush (-2), 2) := by decide +kernel
theorem dX12_sortTo_18 : decode cX12_sortTo 18 = .ok (.goto 30, 3) := by decide +kernel
theorem dX12_sortTo_21 : decode cX12_sortTo 21 = .ok (.aload_n 0, 1) := by decide +kernel
theorem dX12_sortTo_22 : decode cX12_sortTo 22 = .ok (.iload_n 1, 1) := by decide +kernel
theorem dX12_sortTo_23 : decode cX12_sortTo 23 = .ok (.iload_n 2, 1) := by decide +kernel
theorem dX12_sortTo_24 : decode cX12_sortTo 24 = .ok (.iload 5, 2) := by decide +kernel
theorem dX12_sortTo_26 : decode cX12_sortTo 26 = .ok (.iload 4, 2) := by decide +kernel
theorem dX12_sortTo_28 : decode cX12_sortTo 28 = .ok (.invokestatic 196, 3) := by decide +kernel
theorem dX12_sortTo_31 : decode cX12_sortTo 31 = .ok (.imul, 1) := by decide +kernel
theorem dX12_sortTo_32 : decode cX12_sortTo 32 = .ok (.iadd, 1) := by decide +kernel
theorem dX12_sortTo_33 : decode cX12_sortTo 33 = .ok (.iload_n 3, 1) := by decide +kernel
theorem dX12_sortTo_34 : decode cX12_sortTo 34 = .ok (.iload 5, 2) := by decide +kernel
theorem dX12_sortTo_36 : decode cX12_sortTo 36 = .ok (.iload 4, 2) := by decide +kernel
theorem dX12_sortTo_38 : decode cX12_sortTo 38 = .ok (.invokestatic 199, 3) := by decide +kernel
theorem dX12_sortTo_41 : decode cX12_sortTo 41 = .ok (.imul, 1) := by decide +kernel
theorem dX12_sortTo_42 : decode cX12_sortTo 42 = .ok (.iadd, 1) := by decide +kernel
theorem dX12_sortTo_43 : decode cX12_sortTo 43 = .ok (.iload 4, 2) := by decide +kernel
theorem dX12_sortTo_45 : decode cX12_sortTo 45 = .ok (.invokevirtual 206, 3) := by decide +kernel
theorem dX12_sortTo_48 : decode cX12_sortTo 48 = .ok (.ireturn, 1) := by decide +kernel
theorem dX12_echoOf_0 : decode cX12_echoOf 0 = .ok (.aload_n 0, 1) := by decide +kernel
theorem dX12_echoOf_1 : decode cX12_echoOf 1 = .ok (.iload_n 1, 1) := by decide +kernel
theorem dX12_echoOf_2 : decode cX12_echoOf 2 = .ok (.iload_n 2, 1) := by decide +kernel
theorem dX12_echoOf_3 : decode cX12_echoOf 3 = .ok (.iload_n 3, 1) := by decide +kernel
theorem dX12_echoOf_4 : decode cX12_echoOf 4 = .ok (.iload 4, 2) := by decide +kernel
theorem dX12_echoOf_6 : decode cX12_echoOf 6 = .ok (.invokevirtual 209, 3) := by decide +kernel
theorem dX12_echoOf_9 : decode cX12_echoOf 9 = .ok (.istore 5, 2) := by decide +kernel
theorem dX12_echoOf_11 : decode cX12_echoOf 11 = .ok (.iload 5, 2) := by decide +kernel
theorem dX12_echoOf_13 : decode cX12_echoOf 13 = .ok (.bipush (-2), 2) := by decide +kernel
theorem dX12_echoOf_15 : decode cX12_echoOf 15 = .ok (.if_icmp .eq 9, 3) := by decide +kernel
theorem dX12_echoOf_18 : decode cX12_echoOf 18 = .ok (.iload 5, 2) := by decide +kernel
theorem dX12_echoOf_20 : decode cX12_echoOf 20 = .ok (.iconst 1, 1) := by decide +kernel
theorem dX12_echoOf_21 : decode cX12_echoOf 21 = .ok (.if_icmp .ne 7, 3) := by decide +kernel
theorem dX12_echoOf_24 : decode cX12_echoOf 24 = .ok (.iconst 0, 1) := by decide +kernel
theorem dX12_echoOf_25 : decode cX12_echoOf 25 = .ok (.goto 14, 3) := by decide +kernel
theorem dX12_echoOf_28 : decode cX12_echoOf 28 = .ok (.iconst 2, 1) := by decide +kernel
theorem dX12_echoOf_29 : decode cX12_echoOf 29 = .ok (.aload_n 0, 1) := by decide +kernel
theorem dX12_echoOf_30 : decode cX12_echoOf 30 = .ok (.iload_n 1, 1) := by decide +kernel
theorem dX12_echoOf_31 : decode cX12_echoOf 31 = .ok (.iload_n 2, 1) := by decide +kernel
theorem dX12_echoOf_32 : decode cX12_echoOf 32 = .ok (.iload_n 3, 1) := by decide +kernel
theorem dX12_echoOf_33 : decode cX12_echoOf 33 = .ok (.iload 4, 2) := by decide +kernel
theorem dX12_echoOf_35 : decode cX12_echoOf 35 = .ok (.invokevirtual 202, 3) := by decide +kernel
theorem dX12_echoOf_38 : decode cX12_echoOf 38 = .ok (.imul, 1) := by decide +kernel
theorem dX12_echoOf_39 : decode cX12_echoOf 39 = .ok (.ireturn, 1) := by decide +kernel
theorem dX12_mayBeNone_0 : decode cX12_mayBeNone 0 = .ok (.aload_n 0, 1) := by decide +kernel
theorem dX12_mayBeNone_1 : decode cX12_mayBeNone 1 = .ok (.iload_n 1, 1) := by decide +kernel
theorem dX12_mayBeNone_2 : decode cX12_mayBeNone 2 = .ok (.iload_n 2, 1) := by decide +kernel
theorem dX12_mayBeNone_3 : decode cX12_mayBeNone 3 = .ok (.iload_n 3, 1) := by decide +kernel
theorem dX12_mayBeNone_4 : decode cX12_mayBeNone 4 = .ok (.iload 4, 2) := by decide +kernel
theorem dX12_mayBeNone_6 : decode cX12_mayBeNone 6 = .ok (.invokevirtual 209, 3) := by decide +kernel
theorem dX12_mayBeNone_9 : decode cX12_mayBeNone 9 = .ok (.ifCond .eq 7, 3) := by decide +kernel
theorem dX12_mayBeNone_12 : decode cX12_mayBeNone 12 = .ok (.iconst 1, 1) := by decide +kernel
theorem dX12_mayBeNone_13 : decode cX12_mayBeNone 13 = .ok (.goto 4, 3) := by decide +kernel
theorem dX12_mayBeNone_16 : decode cX12_mayBeNone 16 = .ok (.iconst 0, 1) := by decide +kernel
theorem dX12_mayBeNone_17 : decode cX12_mayBeNone 17 = .ok (.ireturn, 1) := by decide +kernel
theorem dX12_facing_0 : decode cX12_facing 0 = .ok (.aload_n 0, 1) := by decide +kernel
theorem dX12_facing_1 : decode cX12_facing 1 = .ok (.iload_n 1, 1) := by decide +kernel
theorem dX12_facing_2 : decode cX12_facing 2 = .ok (.invokevirtual 187, 3) := by decide +kernel
theorem dX12_facing_5 : decode cX12_facing 5 = .ok (.ifCond .eq 29, 3) := by decide +kernel
theorem dX12_facing_8 : decode cX12_facing 8 = .ok (.iload_n 2, 1) := by decide +kernel
theorem dX12_facing_9 : decode cX12_facing 9 = .ok (.iload_n 3, 1) := by decide +kernel
theorem dX12_facing_10 : decode cX12_facing 10 = .ok (.invokestatic 190, 3) := by decide +kernel
theorem dX12_facing_13 : decode cX12_facing 13 = .ok (.ifCond .eq 21, 3) := by decide +kernel
theorem dX12_facing_16 : decode cX12_facing 16 = .ok (.iload 4, 2) := by decide +kernel
theorem dX12_facing_18 : decode cX12_facing 18 = .ok (.invokestatic 212, 3) := by decide +kernel
theorem dX12_facing_21 : decode cX12_facing 21 = .ok (.ifCond .eq 13, 3) := by decide +kernel
theorem dX12_facing_24 : decode cX12_facing 24 = .ok (.iload 5, 2) := by decide +kernel
theorem dX12_facing_26 : decode cX12_facing 26 = .ok (.iconst 0, 1) := by decide +kernel
theorem dX12_facing_27 : decode cX12_facing 27 = .ok (.iconst 2, 1) := by decide +kernel
theorem dX12_facing_28 : decode cX12_facing 28 = .ok (.invokestatic 173, 3) := by decide +kernel
theorem dX12_facing_31 : decode cX12_facing 31 = .ok (.ifCond .ne 5, 3) := by decide +kernel
theorem dX12_facing_34 : decode cX12_facing 34 = .ok (.iconst (-1), 1) := by decide +kernel
theorem dX12_facing_35 : decode cX12_facing 35 = .ok (.ireturn, 1) := by decide +kernel
theorem dX12_facing_36 : decode cX12_facing 36 = .ok (.aload_n 0, 1) := by decide +kernel
theorem dX12_facing_37 : decode cX12_facing 37 = .ok (.iload_n 1, 1) := by decide +kernel
theorem dX12_facing_38 : decode cX12_facing 38 = .ok (.iload_n 2, 1) := by decide +kernel
theorem dX12_facing_39 : decode cX12_facing 39 = .ok (.iload_n 3, 1) := by decide +kernel
theorem dX12_facing_40 : decode cX12_facing 40 = .ok (.invokevirtual 193, 3) := by decide +kernel
theorem dX12_facing_43 : decode cX12_facing 43 = .ok (.ifCond .eq 6, 3) := by decide +kernel
theorem dX12_facing_46 : decode cX12_facing 46 = .ok (.bipush (-3), 2) := by decide +kernel
theorem dX12_facing_48 : decode cX12_facing 48 = .ok (.ireturn, 1) := by decide +kernel
theorem dX12_facing_49 : decode cX12_facing 49 = .ok (.iload 5, 2) := by decide +kernel
theorem dX12_facing_51 : decode cX12_facing 51 = .ok (.ifCond .ne 15, 3) := by decide +kernel
theorem dX12_facing_54 : decode cX12_facing 54 = .ok (.aload_n 0, 1) := by decide +kernel
theorem dX12_facing_55 : decode cX12_facing 55 = .ok (.iload_n 1, 1) := by decide +kernel
theorem dX12_facing_56 : decode cX12_facing 56 = .ok (.iload_n 2, 1) := by decide +kernel
theorem dX12_facing_57 : decode cX12_facing 57 = .ok (.iload_n 3, 1) := by decide +kernel
theorem dX12_facing_58 : decode cX12_facing 58 = .ok (.iload 4, 2) := by decide +kernel
theorem dX12_facing_60 : decode cX12_facing 60 = .ok (.invokevirtual 202, 3) := by decide +kernel
theorem dX12_facing_63 : decode cX12_facing 63 = .ok (.goto 30, 3) := by decide +kernel
theorem dX12_facing_66 : decode cX12_facing 66 = .ok (.iload 5, 2) := by decide +kernel
theorem dX12_facing_68 : decode cX12_facing 68 = .ok (.iconst 1, 1) := by decide +kernel
theorem dX12_facing_69 : decode cX12_facing 69 = .ok (.if_icmp .ne 15, 3) := by decide +kernel
theorem dX12_facing_72 : decode cX12_facing 72 = .ok (.aload_n 0, 1) := by decide +kernel
theorem dX12_facing_73 : decode cX12_facing 73 = .ok (.iload_n 1, 1) := by decide +kernel
theorem dX12_facing_74 : decode cX12_facing 74 = .ok (.iload_n 2, 1) := by decide +kernel
theorem dX12_facing_75 : decode cX12_facing 75 = .ok (.iload_n 3, 1) := by decide +kernel
theorem dX12_facing_76 : decode cX12_facing 76 = .ok (.iload 4, 2) := by decide +kernel
theorem dX12_facing_78 : decode cX12_facing 78 = .ok (.invokevirtual 209, 3) := by decide +kernel
theorem dX12_facing_81 : decode cX12_facing 81 = .ok (.goto 12, 3) := by decide +kernel
theorem dX12_facing_84 : decode cX12_facing 84 = .ok (.aload_n 0, 1) := by decide +kernel
theorem dX12_facing_85 : decode cX12_facing 85 = .ok (.iload_n 1, 1) := by decide +kernel
theorem dX12_facing_86 : decode cX12_facing 86 = .ok (.iload_n 2, 1) := by decide +kernel
theorem dX12_facing_87 : decode cX12_facing 87 = .ok (.iload_n 3, 1) := by decide +kernel
theorem dX12_facing_88 : decode cX12_facing 88 = .ok (.iload 4, 2) := by decide +kernel
theorem dX12_facing_90 : decode cX12_facing 90 = .ok (.invokevirtual 215, 3) := by decide +kernel
theorem dX12_facing_93 : decode cX12_facing 93 = .ok (.ireturn, 1) := by decide +kernel
theorem dX12_isSounder_0 : decode cX12_isSounder 0 = .ok (.iload_n 1, 1) := by decide +kernel
theorem dX12_isSounder_1 : decode cX12_isSounder 1 = .ok (.ifCond .lt 15, 3) := by decide +kernel
theorem dX12_isSounder_4 : decode cX12_isSounder 4 = .ok (.iload_n 1, 1) := by decide +kernel
theorem dX12_isSounder_5 : decode cX12_isSounder 5 = .ok (.aload_n 0, 1) := by decide +kernel
theorem dX12_isSounder_6 : decode cX12_isSounder 6 = .ok (.getfield 218, 3) := by decide +kernel
theorem dX12_isSounder_9 : decode cX12_isSounder 9 = .ok (.if_icmp .ge 7, 3) := by decide +kernel
theorem dX12_isSounder_12 : decode cX12_isSounder 12 = .ok (.iconst 1, 1) := by decide +kernel
theorem dX12_isSounder_13 : decode cX12_isSounder 13 = .ok (.goto 4, 3) := by decide +kernel
theorem dX12_isSounder_16 : decode cX12_isSounder 16 = .ok (.iconst 0, 1) := by decide +kernel
theorem dX12_isSounder_17 : decode cX12_isSounder 17 = .ok (.ireturn, 1) := by decide +kernel
theorem dX12_sounder_0 : decode cX12_sounder 0 = .ok (.iload_n 1, 1) := by decide +kernel
theorem dX12_sounder_1 : decode cX12_sounder 1 = .ok (.iload_n 2, 1) := by decide +kernel
theorem dX12_sounder_2 : decode cX12_sounder 2 = .ok (.invokestatic 190, 3) := by decide +kernel
theorem dX12_sounder_5 : decode cX12_sounder 5 = .ok (.ifCond .eq 32, 3) := by decide +kernel
theorem dX12_sounder_8 : decode cX12_sounder 8 = .ok (.iload_n 3, 1) := by decide +kernel
theorem dX12_sounder_9 : decode cX12_sounder 9 = .ok (.iconst 0, 1) := by decide +kernel
theorem dX12_sounder_10 : decode cX12_sounder 10 = .ok (.iconst 3, 1) := by decide +kernel
theorem dX12_sounder_11 : decode cX12_sounder 11 = .ok (.invokestatic 173, 3) := by decide +kernel
theorem dX12_sounder_14 : decode cX12_sounder 14 = .ok (.ifCond .eq 23, 3) := by decide +kernel
theorem dX12_sounder_17 : decode cX12_sounder 17 = .ok (.iload 4, 2) := by decide +kernel
theorem dX12_sounder_19 : decode cX12_sounder 19 = .ok (.iconst 0, 1) := by decide +kernel
theorem dX12_sounder_20 : decode cX12_sounder 20 = .ok (.bipush 99, 2) := by decide +kernel
theorem dX12_sounder_22 : decode cX12_sounder 22 = .ok (.invokestatic 173, 3) := by decide +kernel
theorem dX12_sounder_25 : decode cX12_sounder 25 = .ok (.ifCond .eq 12, 3) := by decide +kernel
theorem dX12_sounder_28 : decode cX12_sounder 28 = .ok (.aload_n 0, 1) := by decide +kernel
theorem dX12_sounder_29 : decode cX12_sounder 29 = .ok (.getfield 218, 3) := by decide +kernel
theorem dX12_sounder_32 : decode cX12_sounder 32 = .ok (.bipush 6, 2) := by decide +kernel
theorem dX12_sounder_34 : decode cX12_sounder 34 = .ok (.if_icmp .ne 5, 3) := by decide +kernel
theorem dX12_sounder_37 : decode cX12_sounder 37 = .ok (.iconst (-1), 1) := by decide +kernel
theorem dX12_sounder_38 : decode cX12_sounder 38 = .ok (.ireturn, 1) := by decide +kernel
theorem dX12_sounder_39 : decode cX12_sounder 39 = .ok (.aload_n 0, 1) := by decide +kernel
theorem dX12_sounder_40 : decode cX12_sounder 40 = .ok (.getfield 26, 3) := by decide +kernel
theorem dX12_sounder_43 : decode cX12_sounder 43 = .ok (.aload_n 0, 1) := by decide +kernel
theorem dX12_sounder_44 : decode cX12_sounder 44 = .ok (.getfield 218, 3) := by decide +kernel
theorem dX12_sounder_47 : decode cX12_sounder 47 = .ok (.iload_n 1, 1) := by decide +kernel
theorem dX12_sounder_48 : decode cX12_sounder 48 = .ok (.iastore, 1) := by decide +kernel
theorem dX12_sounder_49 : decode cX12_sounder 49 = .ok (.aload_n 0, 1) := by decide +kernel
theorem dX12_sounder_50 : decode cX12_sounder 50 = .ok (.getfield 29, 3) := by decide +kernel
theorem dX12_sounder_53 : decode cX12_sounder 53 = .ok (.aload_n 0, 1) := by decide +kernel
theorem dX12_sounder_54 : decode cX12_sounder 54 = .ok (.getfield 218, 3) := by decide +kernel
theorem dX12_sounder_57 : decode cX12_sounder 57 = .ok (.iload_n 2, 1) := by decide +kernel
theorem dX12_sounder_58 : decode cX12_sounder 58 = .ok (.iastore, 1) := by decide +kernel
theorem dX12_sounder_59 : decode cX12_sounder 59 = .ok (.aload_n 0, 1) := by decide +kernel
theorem dX12_sounder_60 : decode cX12_sounder 60 = .ok (.getfield 32, 3) := by decide +kernel
theorem dX12_sounder_63 : decode cX12_sounder 63 = .ok (.aload_n 0, 1) := by decide +kernel
theorem dX12_sounder_64 : decode cX12_sounder 64 = .ok (.getfield 218, 3) := by decide +kernel
theorem dX12_sounder_67 : decode cX12_sounder 67 = .ok (.iload_n 3, 1) := by decide +kernel
theorem dX12_sounder_68 : decode cX12_sounder 68 = .ok (.iastore, 1) := by decide +kernel
theorem dX12_sounder_69 : decode cX12_sounder 69 = .ok (.aload_n 0, 1) := by decide +kernel
theorem dX12_sounder_70 : decode cX12_sounder 70 = .ok (.getfield 35, 3) := by decide +kernel
theorem dX12_sounder_73 : decode cX12_sounder 73 = .ok (.aload_n 0, 1) := by decide +kernel
theorem dX12_sounder_74 : decode cX12_sounder 74 = .ok (.getfield 218, 3) := by decide +kernel
theorem dX12_sounder_77 : decode cX12_sounder 77 = .ok (.iload 4, 2) := by decide +kernel
theorem dX12_sounder_79 : decode cX12_sounder 79 = .ok (.iastore, 1) := by decide +kernel
theorem dX12_sounder_80 : decode cX12_sounder 80 = .ok (.aload_n 0, 1) := by decide +kernel
theorem dX12_sounder_81 : decode cX12_sounder 81 = .ok (.aload_n 0, 1) := by decide +kernel
theorem dX12_sounder_82 : decode cX12_sounder 82 = .ok (.getfield 218, 3) := by decide +kernel
theorem dX12_sounder_85 : decode cX12_sounder 85 = .ok (.iconst 1, 1) := by decide +kernel
theorem dX12_sounder_86 : decode cX12_sounder 86 = .ok (.iadd, 1) := by decide +kernel
theorem dX12_sounder_87 : decode cX12_sounder 87 = .ok (.putfield 218, 3) := by decide +kernel
theorem dX12_sounder_90 : decode cX12_sounder 90 = .ok (.aload_n 0, 1) := by decide +kernel
theorem dX12_sounder_91 : decode cX12_sounder 91 = .ok (.getfield 218, 3) := by decide +kernel
theorem dX12_sounder_94 : decode cX12_sounder 94 = .ok (.iconst 1, 1) := by decide +kernel
theorem dX12_sounder_95 : decode cX12_sounder 95 = .ok (.isub, 1) := by decide +kernel
theorem dX12_sounder_96 : decode cX12_sounder 96 = .ok (.ireturn, 1) := by decide +kernel
theorem dX12_types_0 : decode cX12_types 0 = .ok (.iconst 3, 1) := by decide +kernel
theorem dX12_types_1 : decode cX12_types 1 = .ok (.istore_n 2, 1) := by decide +kernel
theorem dX12_types_2 : decode cX12_types 2 = .ok (.iload_n 2, 1) := by decide +kernel
theorem dX12_types_3 : decode cX12_types 3 = .ok (.ifCond .lt 35, 3) := by decide +kernel
theorem dX12_types_6 : decode cX12_types 6 = .ok (.aload_n 0, 1) := by decide +kernel
theorem dX12_types_7 : decode cX12_types 7 = .ok (.getfield 38, 3) := by decide +kernel
theorem dX12_types_10 : decode cX12_types 10 = .ok (.aload_n 0, 1) := by decide +kernel
theorem dX12_types_11 : decode cX12_types 11 = .ok (.getfield 176, 3) := by decide +kernel
theorem dX12_types_14 : decode cX12_types 14 = .ok (.iload_n 1, 1) := by decide +kernel
theorem dX12_types_15 : decode cX12_types 15 = .ok (.bipush 8, 2) := by decide +kernel
theorem dX12_types_17 : decode cX12_types 17 = .ok (.iload_n 2, 1) := by decide +kernel
theorem dX12_types_18 : decode cX12_types 18 = .ok (.imul, 1) := by decide +kernel
theorem dX12_types_19 : decode cX12_types 19 = .ok (.ishr, 1) := by decide +kernel
theorem dX12_types_20 : decode cX12_types 20 = .ok (.i2b, 1) := by decide +kernel
theorem dX12_types_21 : decode cX12_types 21 = .ok (.bastore, 1) := by decide +kernel
theorem dX12_types_22 : decode cX12_types 22 = .ok (.aload_n 0, 1) := by decide +kernel
theorem dX12_types_23 : decode cX12_types 23 = .ok (.aload_n 0, 1) := by decide +kernel
theorem dX12_types_24 : decode cX12_types 24 = .ok (.getfield 176, 3) := by decide +kernel
theorem dX12_types_27 : decode cX12_types 27 = .ok (.iconst 1, 1) := by decide +kernel
theorem dX12_types_28 : decode cX12_types 28 = .ok (.iadd, 1) := by decide +kernel
theorem dX12_types_29 : decode cX12_types 29 = .ok (.putfield 176, 3) := by decide +kernel
theorem dX12_types_32 : decode cX12_types 32 = .ok (.iinc 2 (-1), 3) := by decide +kernel
theorem dX12_types_35 : decode cX12_types 35 = .ok (.goto (-33), 3) := by decide +kernel
theorem dX12_types_38 : decode cX12_types 38 = .ok (.return_, 1) := by decide +kernel
theorem dX12_feed_0 : decode cX12_feed 0 = .ok (.aload_n 0, 1) := by decide +kernel
theorem dX12_feed_1 : decode cX12_feed 1 = .ok (.getfield 176, 3) := by decide +kernel
theorem dX12_feed_4 : decode cX12_feed 4 = .ok (.bipush 20, 2) := by decide +kernel
theorem dX12_feed_6 : decode cX12_feed 6 = .ok (.iadd, 1) := by decide +kernel
theorem dX12_feed_7 : decode cX12_feed 7 = .ok (.sipush 220, 3) := by decide +kernel
theorem dX12_feed_10 : decode cX12_feed 10 = .ok (.if_icmp .le 5, 3) := by decide +kernel
theorem dX12_feed_13 : decode cX12_feed 13 = .ok (.iconst (-1), 1) := by decide +kernel
theorem dX12_feed_14 : decode cX12_feed 14 = .ok (.ireturn, 1) := by decide +kernel
theorem dX12_feed_15 : decode cX12_feed 15 = .ok (.aload_n 0, 1) := by decide +kernel
theorem dX12_feed_16 : decode cX12_feed 16 = .ok (.iload_n 1, 1) := by decide +kernel
theorem dX12_feed_17 : decode cX12_feed 17 = .ok (.invokevirtual 221, 3) := by decide +kernel
theorem dX12_feed_20 : decode cX12_feed 20 = .ok (.aload_n 0, 1) := by decide +kernel
theorem dX12_feed_21 : decode cX12_feed 21 = .ok (.iload_n 2, 1) := by decide +kernel
theorem dX12_feed_22 : decode cX12_feed 22 = .ok (.invokevirtual 221, 3) := by decide +kernel
theorem dX12_feed_25 : decode cX12_feed 25 = .ok (.aload_n 0, 1) := by decide +kernel
theorem dX12_feed_26 : decode cX12_feed 26 = .ok (.iload_n 3, 1) := by decide +kernel
theorem dX12_feed_27 : decode cX12_feed 27 = .ok (.invokevirtual 221, 3) := by decide +kernel
theorem dX12_feed_30 : decode cX12_feed 30 = .ok (.aload_n 0, 1) := by decide +kernel
theorem dX12_feed_31 : decode cX12_feed 31 = .ok (.iload 4, 2) := by decide +kernel
theorem dX12_feed_33 : decode cX12_feed 33 = .ok (.invokevirtual 221, 3) := by decide +kernel
theorem dX12_feed_36 : decode cX12_feed 36 = .ok (.aload_n 0, 1) := by decide +kernel
theorem dX12_feed_37 : decode cX12_feed 37 = .ok (.iload 5, 2) := by decide +kernel
theorem dX12_feed_39 : decode cX12_feed 39 = .ok (.invokevirtual 221, 3) := by decide +kernel
theorem dX12_feed_42 : decode cX12_feed 42 = .ok (.aload_n 0, 1) := by decide +kernel
theorem dX12_feed_43 : decode cX12_feed 43 = .ok (.getfield 176, 3) := by decide +kernel
theorem dX12_feed_46 : decode cX12_feed 46 = .ok (.ireturn, 1) := by decide +kernel
theorem dX12_here_0 : decode cX12_here 0 = .ok (.aload_n 0, 1) := by decide +kernel
theorem dX12_here_1 : decode cX12_here 1 = .ok (.getfield 224, 3) := by decide +kernel
theorem dX12_here_4 : decode cX12_here 4 = .ok (.aload_n 0, 1) := by decide +kernel
theorem dX12_here_5 : decode cX12_here 5 = .ok (.getfield 227, 3) := by decide +kernel
theorem dX12_here_8 : decode cX12_here 8 = .ok (.if_icmp .ge 19, 3) := by decide +kernel
theorem dX12_here_11 : decode cX12_here 11 = .ok (.aload_n 0, 1) := by decide +kernel
theorem dX12_here_12 : decode cX12_here 12 = .ok (.getfield 38, 3) := by decide +kernel
theorem dX12_here_15 : decode cX12_here 15 = .ok (.aload_n 0, 1) := by decide +kernel
theorem dX12_here_16 : decode cX12_here 16 = .ok (.getfield 224, 3) := by decide +kernel
theorem dX12_here_19 : decode cX12_here 19 = .ok (.baload, 1) := by decide +kernel
theorem dX12_here_20 : decode cX12_here 20 = .ok (.sipush 255, 3) := by decide +kernel
theorem dX12_here_23 : decode cX12_here 23 = .ok (.iand, 1) := by decide +kernel
theorem dX12_here_24 : decode cX12_here 24 = .ok (.goto 4, 3) := by decide +kernel
theorem dX12_here_27 : decode cX12_here 27 = .ok (.iconst (-1), 1) := by decide +kernel
theorem dX12_here_28 : decode cX12_here 28 = .ok (.ireturn, 1) := by decide +kernel
theorem dX12_isDigit_0 : decode cX12_isDigit 0 = .ok (.aload_n 0, 1) := by decide +kernel
theorem dX12_isDigit_1 : decode cX12_isDigit 1 = .ok (.invokevirtual 230, 3) := by decide +kernel
theorem dX12_isDigit_4 : decode cX12_isDigit 4 = .ok (.bipush 48, 2) := by decide +kernel
theorem dX12_isDigit_6 : decode cX12_isDigit 6 = .ok (.if_icmp .lt 16, 3) := by decide +kernel
theorem dX12_isDigit_9 : decode cX12_isDigit 9 = .ok (.aload_n 0, 1) := by decide +kernel
theorem dX12_isDigit_10 : decode cX12_isDigit 10 = .ok (.invokevirtual 230, 3) := by decide +kernel
theorem dX12_isDigit_13 : decode cX12_isDigit 13 = .ok (.bipush 57, 2) := by decide +kernel
theorem dX12_isDigit_15 : decode cX12_isDigit 15 = .ok (.if_icmp .gt 7, 3) := by decide +kernel
theorem dX12_isDigit_18 : decode cX12_isDigit 18 = .ok (.iconst 1, 1) := by decide +kernel
theorem dX12_isDigit_19 : decode cX12_isDigit 19 = .ok (.goto 4, 3) := by decide +kernel
theorem dX12_isDigit_22 : decode cX12_isDigit 22 = .ok (.iconst 0, 1) := by decide +kernel
theorem dX12_isDigit_23 : decode cX12_isDigit 23 = .ok (.ireturn, 1) := by decide +kernel
theorem dX12_wrongAt_0 : decode cX12_wrongAt 0 = .ok (.aload_n 0, 1) := by decide +kernel
theorem dX12_wrongAt_1 : decode cX12_wrongAt 1 = .ok (.sipush (-1000), 3) := by decide +kernel
theorem dX12_wrongAt_4 : decode cX12_wrongAt 4 = .ok (.iload_n 1, 1) := by decide +kernel
theorem dX12_wrongAt_5 : decode cX12_wrongAt 5 = .ok (.imul, 1) := by decide +kernel
theorem dX12_wrongAt_6 : decode cX12_wrongAt 6 = .ok (.iload_n 2, 1) := by decide +kernel
theorem dX12_wrongAt_7 : decode cX12_wrongAt 7 = .ok (.isub, 1) := by decide +kernel
theorem dX12_wrongAt_8 : decode cX12_wrongAt 8 = .ok (.putfield 234, 3) := by decide +kernel
theorem dX12_wrongAt_11 : decode cX12_wrongAt 11 = .ok (.iconst 0, 1) := by decide +kernel
theorem dX12_wrongAt_12 : decode cX12_wrongAt 12 = .ok (.ireturn, 1) := by decide +kernel
theorem dX12_takes_0 : decode cX12_takes 0 = .ok (.aload_n 0, 1) := by decide +kernel
theorem dX12_takes_1 : decode cX12_takes 1 = .ok (.invokevirtual 230, 3) := by decide +kernel
theorem dX12_takes_4 : decode cX12_takes 4 = .ok (.iload_n 1, 1) := by decide +kernel
theorem dX12_takes_5 : decode cX12_takes 5 = .ok (.if_icmp .eq 13, 3) := by decide +kernel
theorem dX12_takes_8 : decode cX12_takes 8 = .ok (.aload_n 0, 1) := by decide +kernel
theorem dX12_takes_9 : decode cX12_takes 9 = .ok (.iconst 1, 1) := by decide +kernel
theorem dX12_takes_10 : decode cX12_takes 10 = .ok (.aload_n 0, 1) := by decide +kernel
theorem dX12_takes_11 : decode cX12_takes 11 = .ok (.getfield 224, 3) := by decide +kernel
theorem dX12_takes_14 : decode cX12_takes 14 = .ok (.invokevirtual 237, 3) := by decide +kernel
theorem dX12_takes_17 : decode cX12_takes 17 = .ok (.ireturn, 1) := by decide +kernel
theorem dX12_takes_18 : decode cX12_takes 18 = .ok (.aload_n 0, 1) := by decide +kernel
theorem dX12_takes_19 : decode cX12_takes 19 = .ok (.aload_n 0, 1) := by decide +kernel
theorem dX12_takes_20 : decode cX12_takes 20 = .ok (.getfield 224, 3) := by decide +kernel
theorem dX12_takes_23 : decode cX12_takes 23 = .ok (.iconst 1, 1) := by decide +kernel
theorem dX12_takes_24 : decode cX12_takes 24 = .ok (.iadd, 1) := by decide +kernel
theorem dX12_takes_25 : decode cX12_takes 25 = .ok (.putfield 224, 3) := by decide +kernel
theorem dX12_takes_28 : decode cX12_takes 28 = .ok (.iconst 1, 1) := by decide +kernel
theorem dX12_takes_29 : decode cX12_takes 29 = .ok (.ireturn, 1) := by decide +kernel
theorem dX12_readsNumber_0 : decode cX12_readsNumber 0 = .ok (.aload_n 0, 1) := by decide +kernel
theorem dX12_readsNumber_1 : decode cX12_readsNumber 1 = .ok (.getfield 224, 3) := by decide +kernel
theorem dX12_readsNumber_4 : decode cX12_readsNumber 4 = .ok (.istore_n 1, 1) := by decide +kernel
theorem dX12_readsNumber_5 : decode cX12_readsNumber 5 = .ok (.aload_n 0, 1) := by decide +kernel
theorem dX12_readsNumber_6 : decode cX12_readsNumber 6 = .ok (.iconst 0, 1) := by decide +kernel
theorem dX12_readsNumber_7 : decode cX12_readsNumber 7 = .ok (.putfield 240, 3) := by decide +kernel
theorem dX12_readsNumber_10 : decode cX12_readsNumber 10 = .ok (.aload_n 0, 1) := by decide +kernel
theorem dX12_readsNumber_11 : decode cX12_readsNumber 11 = .ok (.invokevirtual 243, 3) := by decide +kernel
theorem dX12_readsNumber_14 : decode cX12_readsNumber 14 = .ok (.ifCond .eq 55, 3) := by decide +kernel
theorem dX12_readsNumber_17 : decode cX12_readsNumber 17 = .ok (.aload_n 0, 1) := by decide +kernel
theorem dX12_readsNumber_18 : decode cX12_readsNumber 18 = .ok (.getfield 224, 3) := by decide +kernel
theorem dX12_readsNumber_21 : decode cX12_readsNumber 21 = .ok (.iload_n 1, 1) := by decide +kernel
theorem dX12_readsNumber_22 : decode cX12_readsNumber 22 = .ok (.iconst 5, 1) := by decide +kernel
theorem dX12_readsNumber_23 : decode cX12_readsNumber 23 = .ok (.iadd, 1) := by decide +kernel
theorem dX12_readsNumber_24 : decode cX12_readsNumber 24 = .ok (.if_icmp .ne 13, 3) := by decide +kernel
theorem dX12_readsNumber_27 : decode cX12_readsNumber 27 = .ok (.aload_n 0, 1) := by decide +kernel
theorem dX12_readsNumber_28 : decode cX12_readsNumber 28 = .ok (.iconst 2, 1) := by decide +kernel
theorem dX12_readsNumber_29 : decode cX12_readsNumber 29 = .ok (.aload_n 0, 1) := by decide +kernel
theorem dX12_readsNumber_30 : decode cX12_readsNumber 30 = .ok (.getfield 224, 3) := by decide +kernel
theorem dX12_readsNumber_33 : decode cX12_readsNumber 33 = .ok (.invokevirtual 237, 3) := by decide +kernel
theorem dX12_readsNumber_36 : decode cX12_readsNumber 36 = .ok (.ireturn, 1) := by decide +kernel
theorem dX12_readsNumber_37 : decode cX12_readsNumber 37 = .ok (.aload_n 0, 1) := by decide +kernel
theorem dX12_readsNumber_38 : decode cX12_readsNumber 38 = .ok (.bipush 10, 2) := by decide +kernel
theorem dX12_readsNumber_40 : decode cX12_readsNumber 40 = .ok (.aload_n 0, 1) := by decide +kernel
theorem dX12_readsNumber_41 : decode cX12_readsNumber 41 = .ok (.getfield 240, 3) := by decide +kernel
theorem dX12_readsNumber_44 : decode cX12_readsNumber 44 = .ok (.imul, 1) := by decide +kernel
theorem dX12_readsNumber_45 : decode cX12_readsNumber 45 = .ok (.aload_n 0, 1) := by decide +kernel
theorem dX12_readsNumber_46 : decode cX12_readsNumber 46 = .ok (.invokevirtual 230, 3) := by decide +kernel
theorem dX12_readsNumber_49 : decode cX12_readsNumber 49 = .ok (.iadd, 1) := by decide +kernel
theorem dX12_readsNumber_50 : decode cX12_readsNumber 50 = .ok (.bipush 48, 2) := by decide +kernel
theorem dX12_readsNumber_52 : decode cX12_readsNumber 52 = .ok (.isub, 1) := by decide +kernel
theorem dX12_readsNumber_53 : decode cX12_readsNumber 53 = .ok (.putfield 240, 3) := by decide +kernel
theorem dX12_readsNumber_56 : decode cX12_readsNumber 56 = .ok (.aload_n 0, 1) := by decide +kernel
theorem dX12_readsNumber_57 : decode cX12_readsNumber 57 = .ok (.aload_n 0, 1) := by decide +kernel
theorem dX12_readsNumber_58 : decode cX12_readsNumber 58 = .ok (.getfield 224, 3) := by decide +kernel
theorem dX12_readsNumber_61 : decode cX12_readsNumber 61 = .ok (.iconst 1, 1) := by decide +kernel
theorem dX12_readsNumber_62 : decode cX12_readsNumber 62 = .ok (.iadd, 1) := by decide +kernel
theorem dX12_readsNumber_63 : decode cX12_readsNumber 63 = .ok (.putfield 224, 3) := by decide +kernel
theorem dX12_readsNumber_66 : decode cX12_readsNumber 66 = .ok (.goto (-56), 3) := by decide +kernel
theorem dX12_readsNumber_69 : decode cX12_readsNumber 69 = .ok (.iconst 1, 1) := by decide +kernel
theorem dX12_readsNumber_70 : decode cX12_readsNumber 70 = .ok (.ireturn, 1) := by decide +kernel
theorem dX12_notes_0 : decode cX12_notes 0 = .ok (.aload_n 0, 1) := by decide +kernel
theorem dX12_notes_1 : decode cX12_notes 1 = .ok (.getfield 42, 3) := by decide +kernel
theorem dX12_notes_4 : decode cX12_notes 4 = .ok (.aload_n 0, 1) := by decide +kernel
theorem dX12_notes_5 : decode cX12_notes 5 = .ok (.getfield 247, 3) := by decide +kernel
theorem dX12_notes_8 : decode cX12_notes 8 = .ok (.ldc 250, 2) := by decide +kernel
theorem dX12_notes_10 : decode cX12_notes 10 = .ok (.iload_n 1, 1) := by decide +kernel
theorem dX12_notes_11 : decode cX12_notes 11 = .ok (.imul, 1) := by decide +kernel
theorem dX12_notes_12 : decode cX12_notes 12 = .ok (.iload_n 2, 1) := by decide +kernel
theorem dX12_notes_13 : decode cX12_notes 13 = .ok (.iadd, 1) := by decide +kernel
theorem dX12_notes_14 : decode cX12_notes 14 = .ok (.iastore, 1) := by decide +kernel
theorem dX12_notes_15 : decode cX12_notes 15 = .ok (.aload_n 0, 1) := by decide +kernel
theorem dX12_notes_16 : decode cX12_notes 16 = .ok (.aload_n 0, 1) := by decide +kernel
theorem dX12_notes_17 : decode cX12_notes 17 = .ok (.getfield 247, 3) := by decide +kernel
theorem dX12_notes_20 : decode cX12_notes 20 = .ok (.iconst 1, 1) := by decide +kernel
theorem dX12_notes_21 : decode cX12_notes 21 = .ok (.iadd, 1) := by decide +kernel
theorem dX12_notes_22 : decode cX12_notes 22 = .ok (.putfield 247, 3) := by decide +kernel
theorem dX12_notes_25 : decode cX12_notes 25 = .ok (.return_, 1) := by decide +kernel
theorem dX12_opens_0 : decode cX12_opens 0 = .ok (.aload_n 0, 1) := by decide +kernel
theorem dX12_opens_1 : decode cX12_opens 1 = .ok (.getfield 251, 3) := by decide +kernel
theorem dX12_opens_4 : decode cX12_opens 4 = .ok (.bipush 6, 2) := by decide +kernel
theorem dX12_opens_6 : decode cX12_opens 6 = .ok (.if_icmp .ne 13, 3) := by decide +kernel
theorem dX12_opens_9 : decode cX12_opens 9 = .ok (.aload_n 0, 1) := by decide +kernel
theorem dX12_opens_10 : decode cX12_opens 10 = .ok (.iconst 5, 1) := by decide +kernel
theorem dX12_opens_11 : decode cX12_opens 11 = .ok (.aload_n 0, 1) := by decide +kernel
theorem dX12_opens_12 : decode cX12_opens 12 = .ok (.getfield 224, 3) := by decide +kernel
theorem dX12_opens_15 : decode cX12_opens 15 = .ok (.invokevirtual 237, 3) := by decide +kernel
theorem dX12_opens_18 : decode cX12_opens 18 = .ok (.ireturn, 1) := by decide +kernel
theorem dX12_opens_19 : decode cX12_opens 19 = .ok (.aload_n 0, 1) := by decide +kernel
theorem dX12_opens_20 : decode cX12_opens 20 = .ok (.aload_n 0, 1) := by decide +kernel
theorem dX12_opens_21 : decode cX12_opens 21 = .ok (.getfield 251, 3) := by decide +kernel
theorem dX12_opens_24 : decode cX12_opens 24 = .ok (.iconst 1, 1) := by decide +kernel
theorem dX12_opens_25 : decode cX12_opens 25 = .ok (.iadd, 1) := by decide +kernel
theorem dX12_opens_26 : decode cX12_opens 26 = .ok (.putfield 251, 3) := by decide +kernel
theorem dX12_opens_29 : decode cX12_opens 29 = .ok (.aload_n 0, 1) := by decide +kernel
theorem dX12_opens_30 : decode cX12_opens 30 = .ok (.getfield 45, 3) := by decide +kernel
theorem dX12_opens_33 : decode cX12_opens 33 = .ok (.aload_n 0, 1) := by decide +kernel
theorem dX12_opens_34 : decode cX12_opens 34 = .ok (.getfield 254, 3) := by decide +kernel
theorem dX12_opens_37 : decode cX12_opens 37 = .ok (.ldc 250, 2) := by decide +kernel
theorem dX12_opens_39 : decode cX12_opens 39 = .ok (.iload_n 1, 1) := by decide +kernel
theorem dX12_opens_40 : decode cX12_opens 40 = .ok (.imul, 1) := by decide +kernel
theorem dX12_opens_41 : decode cX12_opens 41 = .ok (.iastore, 1) := by decide +kernel
theorem dX12_opens_42 : decode cX12_opens 42 = .ok (.aload_n 0, 1) := by decide +kernel
theorem dX12_opens_43 : decode cX12_opens 43 = .ok (.aload_n 0, 1) := by decide +kernel
theorem dX12_opens_44 : decode cX12_opens 44 = .ok (.getfield 254, 3) := by decide +kernel
theorem dX12_opens_47 : decode cX12_opens 47 = .ok (.iconst 1, 1) := by decide +kernel
theorem dX12_opens_48 : decode cX12_opens 48 = .ok (.iadd, 1) := by decide +kernel
theorem dX12_opens_49 : decode cX12_opens 49 = .ok (.putfield 254, 3) := by decide +kernel
theorem dX12_opens_52 : decode cX12_opens 52 = .ok (.aload_n 0, 1) := by decide +kernel
theorem dX12_opens_53 : decode cX12_opens 53 = .ok (.aload_n 0, 1) := by decide +kernel
theorem dX12_opens_54 : decode cX12_opens 54 = .ok (.getfield 224, 3) := by decide +kernel
theorem dX12_opens_57 : decode cX12_opens 57 = .ok (.iconst 1, 1) := by decide +kernel
theorem dX12_opens_58 : decode cX12_opens 58 = .ok (.iadd, 1) := by decide +kernel
theorem dX12_opens_59 : decode cX12_opens 59 = .ok (.putfield 224, 3) := by decide +kernel
theorem dX12_opens_62 : decode cX12_opens 62 = .ok (.iconst 1, 1) := by decide +kernel
theorem dX12_opens_63 : decode cX12_opens 63 = .ok (.ireturn, 1) := by decide +kernel
theorem dX12_top_0 : decode cX12_top 0 = .ok (.aload_n 0, 1) := by decide +kernel
theorem dX12_top_1 : decode cX12_top 1 = .ok (.getfield 254, 3) := by decide +kernel
theorem dX12_top_4 : decode cX12_top 4 = .ok (.ifCond .ne 7, 3) := by decide +kernel
theorem dX12_top_7 : decode cX12_top 7 = .ok (.iconst (-1), 1) := by decide +kernel
theorem dX12_top_8 : decode cX12_top 8 = .ok (.goto 17, 3) := by decide +kernel
theorem dX12_top_11 : decode cX12_top 11 = .ok (.aload_n 0, 1) := by decide +kernel
theorem dX12_top_12 : decode cX12_top 12 = .ok (.getfield 45, 3) := by decide +kernel
theorem dX12_top_15 : decode cX12_top 15 = .ok (.aload_n 0, 1) := by decide +kernel
theorem dX12_top_16 : decode cX12_top 16 = .ok (.getfield 254, 3) := by decide +kernel
theorem dX12_top_19 : decode cX12_top 19 = .ok (.iconst 1, 1) := by decide +kernel
theorem dX12_top_20 : decode cX12_top 20 = .ok (.isub, 1) := by decide +kernel
theorem dX12_top_21 : decode cX12_top 21 = .ok (.iaload, 1) := by decide +kernel
theorem dX12_top_22 : decode cX12_top 22 = .ok (.ldc 250, 2) := by decide +kernel
theorem dX12_top_24 : decode cX12_top 24 = .ok (.idiv, 1) := by decide +kernel
theorem dX12_top_25 : decode cX12_top 25 = .ok (.ireturn, 1) := by decide +kernel
theorem dX12_factOf_0 : decode cX12_factOf 0 = .ok (.iload_n 0, 1) := by decide +kernel
theorem dX12_factOf_1 : decode cX12_factOf 1 = .ok (.tableswitch 116 98 117 #[95, 116, 105, 116, 116, 116, 101, 116, 116, 97, 116, 116, 113, 116, 116, 103, 110, 99, 116, 107], 95) := by decide +kernel
theorem dX12_factOf_96 : decode cX12_factOf 96 = .ok (.iconst 0, 1) := by decide +kernel
theorem dX12_factOf_97 : decode cX12_factOf 97 = .ok (.ireturn, 1) := by decide +kernel
theorem dX12_factOf_98 : decode cX12_factOf 98 = .ok (.iconst 1, 1) := by decide +kernel
theorem dX12_factOf_99 : decode cX12_factOf 99 = .ok (.ireturn, 1) := by decide +kernel
theorem dX12_factOf_100 : decode cX12_factOf 100 = .ok (.iconst 2, 1) := by decide +kernel
theorem dX12_factOf_101 : decode cX12_factOf 101 = .ok (.ireturn, 1) := by decide +kernel
theorem dX12_factOf_102 : decode cX12_factOf 102 = .ok (.iconst 3, 1) := by decide +kernel
theorem dX12_factOf_103 : decode cX12_factOf 103 = .ok (.ireturn, 1) := by decide +kernel
theorem dX12_factOf_104 : decode cX12_factOf 104 = .ok (.iconst 4, 1) := by decide +kernel
theorem dX12_factOf_105 : decode cX12_factOf 105 = .ok (.ireturn, 1) := by decide +kernel
theorem dX12_factOf_106 : decode cX12_factOf 106 = .ok (.iconst 5, 1) := by decide +kernel
theorem dX12_factOf_107 : decode cX12_factOf 107 = .ok (.ireturn, 1) := by decide +kernel
theorem dX12_factOf_108 : decode cX12_factOf 108 = .ok (.bipush 6, 2) := by decide +kernel
theorem dX12_factOf_110 : decode cX12_factOf 110 = .ok (.ireturn, 1) := by decide +kernel
theorem dX12_factOf_111 : decode cX12_factOf 111 = .ok (.bipush 7, 2) := by decide +kernel
theorem dX12_factOf_113 : decode cX12_factOf 113 = .ok (.ireturn, 1) := by decide +kernel
theorem dX12_factOf_114 : decode cX12_factOf 114 = .ok (.bipush 8, 2) := by decide +kernel
theorem dX12_factOf_116 : decode cX12_factOf 116 = .ok (.ireturn, 1) := by decide +kernel
theorem dX12_factOf_117 : decode cX12_factOf 117 = .ok (.iconst (-1), 1) := by decide +kernel
theorem dX12_factOf_118 : decode cX12_factOf 118 = .ok (.ireturn, 1) := by decide +kernel
theorem dX12_sumSign_0 : decode cX12_sumSign 0 = .ok (.iload_n 0, 1) := by decide +kernel
theorem dX12_sumSign_1 : decode cX12_sumSign 1 = .ok (.bipush 43, 2) := by decide +kernel
theorem dX12_sumSign_3 : decode cX12_sumSign 3 = .ok (.if_icmp .ne 7, 3) := by decide +kernel
theorem dX12_sumSign_6 : decode cX12_sumSign 6 = .ok (.iconst 2, 1) := by decide +kernel
theorem dX12_sumSign_7 : decode cX12_sumSign 7 = .ok (.goto 45, 3) := by decide +kernel
theorem dX12_sumSign_10 : decode cX12_sumSign 10 = .ok (.iload_n 0, 1) := by decide +kernel
theorem dX12_sumSign_11 : decode cX12_sumSign 11 = .ok (.bipush 45, 2) := by decide +kernel
theorem dX12_sumSign_13 : decode cX12_sumSign 13 = .ok (.if_icmp .ne 7, 3) := by decide +kernel
theorem dX12_sumSign_16 : decode cX12_sumSign 16 = .ok (.iconst 3, 1) := by decide +kernel
theorem dX12_sumSign_17 : decode cX12_sumSign 17 = .ok (.goto 35, 3) := by decide +kernel
theorem dX12_sumSign_20 : decode cX12_sumSign 20 = .ok (.iload_n 0, 1) := by decide +kernel
theorem dX12_sumSign_21 : decode cX12_sumSign 21 = .ok (.bipush 42, 2) := by decide +kernel
theorem dX12_sumSign_23 : decode cX12_sumSign 23 = .ok (.if_icmp .ne 7, 3) := by decide +kernel
theorem dX12_sumSign_26 : decode cX12_sumSign 26 = .ok (.iconst 4, 1) := by decide +kernel
theorem dX12_sumSign_27 : decode cX12_sumSign 27 = .ok (.goto 25, 3) := by decide +kernel
theorem dX12_sumSign_30 : decode cX12_sumSign 30 = .ok (.iload_n 0, 1) := by decide +kernel
theorem dX12_sumSign_31 : decode cX12_sumSign 31 = .ok (.bipush 47, 2) := by decide +kernel
theorem dX12_sumSign_33 : decode cX12_sumSign 33 = .ok (.if_icmp .ne 7, 3) := by decide +kernel
theorem dX12_sumSign_36 : decode cX12_sumSign 36 = .ok (.iconst 5, 1) := by decide +kernel
theorem dX12_sumSign_37 : decode cX12_sumSign 37 = .ok (.goto 15, 3) := by decide +kernel
theorem dX12_sumSign_40 : decode cX12_sumSign 40 = .ok (.iload_n 0, 1) := by decide +kernel
theorem dX12_sumSign_41 : decode cX12_sumSign 41 = .ok (.bipush 37, 2) := by decide +kernel
theorem dX12_sumSign_43 : decode cX12_sumSign 43 = .ok (.if_icmp .ne 8, 3) := by decide +kernel
theorem dX12_sumSign_46 : decode cX12_sumSign 46 = .ok (.bipush 6, 2) := by decide +kernel
theorem dX12_sumSign_48 : decode cX12_sumSign 48 = .ok (.goto 4, 3) := by decide +kernel
theorem dX12_sumSign_51 : decode cX12_sumSign 51 = .ok (.iconst (-1), 1) := by decide +kernel
theorem dX12_sumSign_52 : decode cX12_sumSign 52 = .ok (.ireturn, 1) := by decide +kernel
theorem dX12_closesSums_0 : decode cX12_closesSums 0 = .ok (.aload_n 0, 1) := by decide +kernel
theorem dX12_closesSums_1 : decode cX12_closesSums 1 = .ok (.invokevirtual 257, 3) := by decide +kernel
theorem dX12_closesSums_4 : decode cX12_closesSums 4 = .ok (.iconst 4, 1) := by decide +kernel
theorem dX12_closesSums_5 : decode cX12_closesSums 5 = .ok (.if_icmp .lt 12, 3) := by decide +kernel
theorem dX12_closesSums_8 : decode cX12_closesSums 8 = .ok (.aload_n 0, 1) := by decide +kernel
theorem dX12_closesSums_9 : decode cX12_closesSums 9 = .ok (.invokevirtual 257, 3) := by decide +kernel
theorem dX12_closesSums_12 : decode cX12_closesSums 12 = .ok (.bipush 6, 2) := by decide +kernel
theorem dX12_closesSums_14 : decode cX12_closesSums 14 = .ok (.if_icmp .le 23, 3) := by decide +kernel
theorem dX12_closesSums_17 : decode cX12_closesSums 17 = .ok (.iload_n 1, 1) := by decide +kernel
theorem dX12_closesSums_18 : decode cX12_closesSums 18 = .ok (.ifCond .eq 41, 3) := by decide +kernel
theorem dX12_closesSums_21 : decode cX12_closesSums 21 = .ok (.aload_n 0, 1) := by decide +kernel
theorem dX12_closesSums_22 : decode cX12_closesSums 22 = .ok (.invokevirtual 257, 3) := by decide +kernel
theorem dX12_closesSums_25 : decode cX12_closesSums 25 = .ok (.iconst 2, 1) := by decide +kernel
theorem dX12_closesSums_26 : decode cX12_closesSums 26 = .ok (.if_icmp .eq 11, 3) := by decide +kernel
theorem dX12_closesSums_29 : decode cX12_closesSums 29 = .ok (.aload_n 0, 1) := by decide +kernel
theorem dX12_closesSums_30 : decode cX12_closesSums 30 = .ok (.invokevirtual 257, 3) := by decide +kernel
theorem dX12_closesSums_33 : decode cX12_closesSums 33 = .ok (.iconst 3, 1) := by decide +kernel
theorem dX12_closesSums_34 : decode cX12_closesSums 34 = .ok (.if_icmp .ne 25, 3) := by decide +kernel
theorem dX12_closesSums_37 : decode cX12_closesSums 37 = .ok (.aload_n 0, 1) := by decide +kernel
theorem dX12_closesSums_38 : decode cX12_closesSums 38 = .ok (.aload_n 0, 1) := by decide +kernel
theorem dX12_closesSums_39 : decode cX12_closesSums 39 = .ok (.invokevirtual 257, 3) := by decide +kernel
theorem dX12_closesSums_42 : decode cX12_closesSums 42 = .ok (.iconst 0, 1) := by decide +kernel
theorem dX12_closesSums_43 : decode cX12_closesSums 43 = .ok (.invokevirtual 260, 3) := by decide +kernel
theorem dX12_closesSums_46 : decode cX12_closesSums 46 = .ok (.aload_n 0, 1) := by decide +kernel
theorem dX12_closesSums_47 : decode cX12_closesSums 47 = .ok (.aload_n 0, 1) := by decide +kernel
theorem dX12_closesSums_48 : decode cX12_closesSums 48 = .ok (.getfield 254, 3) := by decide +kernel
theorem dX12_closesSums_51 : decode cX12_closesSums 51 = .ok (.iconst 1, 1) := by decide +kernel
theorem dX12_closesSums_52 : decode cX12_closesSums 52 = .ok (.isub, 1) := by decide +kernel
theorem dX12_closesSums_53 : decode cX12_closesSums 53 = .ok (.putfield 254, 3) := by decide +kernel
theorem dX12_closesSums_56 : decode cX12_closesSums 56 = .ok (.goto (-56), 3) := by decide +kernel
theorem dX12_closesSums_59 : decode cX12_closesSums 59 = .ok (.return_, 1) := by decide +kernel
theorem dX12_readsFactor_0 : decode cX12_readsFactor 0 = .ok (.aload_n 0, 1) := by decide +kernel
theorem dX12_readsFactor_1 : decode cX12_readsFactor 1 = .ok (.invokevirtual 230, 3) := by decide +kernel
theorem dX12_readsFactor_4 : decode cX12_readsFactor 4 = .ok (.bipush 91, 2) := by decide +kernel
theorem dX12_readsFactor_6 : decode cX12_readsFactor 6 = .ok (.if_icmp .ne 14, 3) := by decide +kernel
theorem dX12_readsFactor_9 : decode cX12_readsFactor 9 = .ok (.aload_n 0, 1) := by decide +kernel
theorem dX12_readsFactor_10 : decode cX12_readsFactor 10 = .ok (.bipush 14, 2) := by decide +kernel
theorem dX12_readsFactor_12 : decode cX12_readsFactor 12 = .ok (.invokevirtual 264, 3) := by decide +kernel
theorem dX12_readsFactor_15 : decode cX12_readsFactor 15 = .ok (.ifCond .ne (-15), 3) := by decide +kernel
theorem dX12_readsFactor_18 : decode cX12_readsFactor 18 = .ok (.iconst 0, 1) := by decide +kernel
theorem dX12_readsFactor_19 : decode cX12_readsFactor 19 = .ok (.ireturn, 1) := by decide +kernel
theorem dX12_readsFactor_20 : decode cX12_readsFactor 20 = .ok (.aload_n 0, 1) := by decide +kernel
theorem dX12_readsFactor_21 : decode cX12_readsFactor 21 = .ok (.invokevirtual 243, 3) := by decide +kernel
theorem dX12_readsFactor_24 : decode cX12_readsFactor 24 = .ok (.ifCond .eq 23, 3) := by decide +kernel
theorem dX12_readsFactor_27 : decode cX12_readsFactor 27 = .ok (.aload_n 0, 1) := by decide +kernel
theorem dX12_readsFactor_28 : decode cX12_readsFactor 28 = .ok (.invokevirtual 267, 3) := by decide +kernel
theorem dX12_readsFactor_31 : decode cX12_readsFactor 31 = .ok (.ifCond .ne 5, 3) := by decide +kernel
theorem dX12_readsFactor_34 : decode cX12_readsFactor 34 = .ok (.iconst 0, 1) := by decide +kernel
theorem dX12_readsFactor_35 : decode cX12_readsFactor 35 = .ok (.ireturn, 1) := by decide +kernel
theorem dX12_readsFactor_36 : decode cX12_readsFactor 36 = .ok (.aload_n 0, 1) := by decide +kernel
theorem dX12_readsFactor_37 : decode cX12_readsFactor 37 = .ok (.iconst 0, 1) := by decide +kernel
theorem dX12_readsFactor_38 : decode cX12_readsFactor 38 = .ok (.aload_n 0, 1) := by decide +kernel
theorem dX12_readsFactor_39 : decode cX12_readsFactor 39 = .ok (.getfield 240, 3) := by decide +kernel
theorem dX12_readsFactor_42 : decode cX12_readsFactor 42 = .ok (.invokevirtual 260, 3) := by decide +kernel
theorem dX12_readsFactor_45 : decode cX12_readsFactor 45 = .ok (.iconst 1, 1) := by decide +kernel
theorem dX12_readsFactor_46 : decode cX12_readsFactor 46 = .ok (.ireturn, 1) := by decide +kernel
theorem dX12_readsFactor_47 : decode cX12_readsFactor 47 = .ok (.aload_n 0, 1) := by decide +kernel
theorem dX12_readsFactor_48 : decode cX12_readsFactor 48 = .ok (.invokevirtual 230, 3) := by decide +kernel
theorem dX12_readsFactor_51 : decode cX12_readsFactor 51 = .ok (.invokestatic 270, 3) := by decide +kernel
theorem dX12_readsFactor_54 : decode cX12_readsFactor 54 = .ok (.istore_n 1, 1) := by decide +kernel
theorem dX12_readsFactor_55 : decode cX12_readsFactor 55 = .ok (.iload_n 1, 1) := by decide +kernel
theorem dX12_readsFactor_56 : decode cX12_readsFactor 56 = .ok (.iconst (-1), 1) := by decide +kernel
theorem dX12_readsFactor_57 : decode cX12_readsFactor 57 = .ok (.if_icmp .ne 13, 3) := by decide +kernel
theorem dX12_readsFactor_60 : decode cX12_readsFactor 60 = .ok (.aload_n 0, 1) := by decide +kernel
theorem dX12_readsFactor_61 : decode cX12_readsFactor 61 = .ok (.iconst 1, 1) := by decide +kernel
theorem dX12_readsFactor_62 : decode cX12_readsFactor 62 = .ok (.aload_n 0, 1) := by decide +kernel
theorem dX12_readsFactor_63 : decode cX12_readsFactor 63 = .ok (.getfield 224, 3) := by decide +kernel
theorem dX12_readsFactor_66 : decode cX12_readsFactor 66 = .ok (.invokevirtual 237, 3) := by decide +kernel
theorem dX12_readsFactor_69 : decode cX12_readsFactor 69 = .ok (.ireturn, 1) := by decide +kernel
theorem dX12_readsFactor_70 : decode cX12_readsFactor 70 = .ok (.aload_n 0, 1) := by decide +kernel
theorem dX12_readsFactor_71 : decode cX12_readsFactor 71 = .ok (.iconst 1, 1) := by decide +kernel
theorem dX12_readsFactor_72 : decode cX12_readsFactor 72 = .ok (.iload_n 1, 1) := by decide +kernel
theorem dX12_readsFactor_73 : decode cX12_readsFactor 73 = .ok (.invokevirtual 260, 3) := by decide +kernel
theorem dX12_readsFactor_76 : decode cX12_readsFactor 76 = .ok (.aload_n 0, 1) := by decide +kernel
theorem dX12_readsFactor_77 : decode cX12_readsFactor 77 = .ok (.aload_n 0, 1) := by decide +kernel
theorem dX12_readsFactor_78 : decode cX12_readsFactor 78 = .ok (.getfield 224, 3) := by decide +kernel
theorem dX12_readsFactor_81 : decode cX12_readsFactor 81 = .ok (.iconst 1, 1) := by decide +kernel
theorem dX12_readsFactor_82 : decode cX12_readsFactor 82 = .ok (.iadd, 1) := by decide +kernel
theorem dX12_readsFactor_83 : decode cX12_readsFactor 83 = .ok (.putfield 224, 3) := by decide +kernel
theorem dX12_readsFactor_86 : decode cX12_readsFactor 86 = .ok (.iconst 1, 1) := by decide +kernel
theorem dX12_readsFactor_87 : decode cX12_readsFactor 87 = .ok (.ireturn, 1) := by decide +kernel
theorem dX12_hasOpenSum_0 : decode cX12_hasOpenSum 0 = .ok (.iload_n 1, 1) := by decide +kernel
theorem dX12_hasOpenSum_1 : decode cX12_hasOpenSum 1 = .ok (.istore_n 2, 1) := by decide +kernel
theorem dX12_hasOpenSum_2 : decode cX12_hasOpenSum 2 = .ok (.iload_n 2, 1) := by decide +kernel
theorem dX12_hasOpenSum_3 : decode cX12_hasOpenSum 3 = .ok (.aload_n 0, 1) := by decide +kernel
theorem dX12_hasOpenSum_4 : decode cX12_hasOpenSum 4 = .ok (.getfield 254, 3) := by decide +kernel
theorem dX12_hasOpenSum_7 : decode cX12_hasOpenSum 7 = .ok (.if_icmp .ge 25, 3) := by decide +kernel
theorem dX12_hasOpenSum_10 : decode cX12_hasOpenSum 10 = .ok (.aload_n 0, 1) := by decide +kernel
theorem dX12_hasOpenSum_11 : decode cX12_hasOpenSum 11 = .ok (.getfield 45, 3) := by decide +kernel
theorem dX12_hasOpenSum_14 : decode cX12_hasOpenSum 14 = .ok (.iload_n 2, 1) := by decide +kernel
theorem dX12_hasOpenSum_15 : decode cX12_hasOpenSum 15 = .ok (.iaload, 1) := by decide +kernel
theorem dX12_hasOpenSum_16 : decode cX12_hasOpenSum 16 = .ok (.ldc 250, 2) := by decide +kernel
theorem dX12_hasOpenSum_18 : decode cX12_hasOpenSum 18 = .ok (.idiv, 1) := by decide +kernel
theorem dX12_hasOpenSum_19 : decode cX12_hasOpenSum 19 = .ok (.bipush 14, 2) := by decide +kernel
theorem dX12_hasOpenSum_21 : decode cX12_hasOpenSum 21 = .ok (.if_icmp .ne 5, 3) := by decide +kernel
theorem dX12_hasOpenSum_24 : decode cX12_hasOpenSum 24 = .ok (.iconst 1, 1) := by decide +kernel
theorem dX12_hasOpenSum_25 : decode cX12_hasOpenSum 25 = .ok (.ireturn, 1) := by decide +kernel
theorem dX12_hasOpenSum_26 : decode cX12_hasOpenSum 26 = .ok (.iinc 2 1, 3) := by decide +kernel
theorem dX12_hasOpenSum_29 : decode cX12_hasOpenSum 29 = .ok (.goto (-27), 3) := by decide +kernel
theorem dX12_hasOpenSum_32 : decode cX12_hasOpenSum 32 = .ok (.iconst 0, 1) := by decide +kernel
theorem dX12_hasOpenSum_33 : decode cX12_hasOpenSum 33 = .ok (.ireturn, 1) := by decide +kernel
theorem dX12_readsSum_0 : decode cX12_readsSum 0 = .ok (.aload_n 0, 1) := by decide +kernel
theorem dX12_readsSum_1 : decode cX12_readsSum 1 = .ok (.getfield 254, 3) := by decide +kernel
theorem dX12_readsSum_4 : decode cX12_readsSum 4 = .ok (.istore_n 1, 1) := by decide +kernel
theorem dX12_readsSum_5 : decode cX12_readsSum 5 = .ok (.aload_n 0, 1) := by decide +kernel
theorem dX12_readsSum_6 : decode cX12_readsSum 6 = .ok (.invokevirtual 273, 3) := by decide +kernel
theorem dX12_readsSum_9 : decode cX12_readsSum 9 = .ok (.ifCond .ne 5, 3) := by decide +kernel
theorem dX12_readsSum_12 : decode cX12_readsSum 12 = .ok (.iconst 0, 1) := by decide +kernel
theorem dX12_readsSum_13 : decode cX12_readsSum 13 = .ok (.ireturn, 1) := by decide +kernel
theorem dX12_readsSum_14 : decode cX12_readsSum 14 = .ok (.aload_n 0, 1) := by decide +kernel
theorem dX12_readsSum_15 : decode cX12_readsSum 15 = .ok (.invokevirtual 230, 3) := by decide +kernel
theorem dX12_readsSum_18 : decode cX12_readsSum 18 = .ok (.invokestatic 276, 3) := by decide +kernel
theorem dX12_readsSum_21 : decode cX12_readsSum 21 = .ok (.istore_n 2, 1) := by decide +kernel
theorem dX12_readsSum_22 : decode cX12_readsSum 22 = .ok (.iload_n 2, 1) := by decide +kernel
theorem dX12_readsSum_23 : decode cX12_readsSum 23 = .ok (.iconst (-1), 1) := by decide +kernel
theorem dX12_readsSum_24 : decode cX12_readsSum 24 = .ok (.if_icmp .eq 59, 3) := by decide +kernel
theorem dX12_readsSum_27 : decode cX12_readsSum 27 = .ok (.aload_n 0, 1) := by decide +kernel
theorem dX12_readsSum_28 : decode cX12_readsSum 28 = .ok (.iload_n 2, 1) := by decide +kernel
theorem dX12_readsSum_29 : decode cX12_readsSum 29 = .ok (.iconst 4, 1) := by decide +kernel
theorem dX12_readsSum_30 : decode cX12_readsSum 30 = .ok (.if_icmp .ge 7, 3) := by decide +kernel
theorem dX12_readsSum_33 : decode cX12_readsSum 33 = .ok (.iconst 1, 1) := by decide +kernel
theorem dX12_readsSum_34 : decode cX12_readsSum 34 = .ok (.goto 4, 3) := by decide +kernel
theorem dX12_readsSum_37 : decode cX12_readsSum 37 = .ok (.iconst 0, 1) := by decide +kernel
theorem dX12_readsSum_38 : decode cX12_readsSum 38 = .ok (.invokevirtual 279, 3) := by decide +kernel
theorem dX12_readsSum_41 : decode cX12_readsSum 41 = .ok (.aload_n 0, 1) := by decide +kernel
theorem dX12_readsSum_42 : decode cX12_readsSum 42 = .ok (.getfield 45, 3) := by decide +kernel
theorem dX12_readsSum_45 : decode cX12_readsSum 45 = .ok (.aload_n 0, 1) := by decide +kernel
theorem dX12_readsSum_46 : decode cX12_readsSum 46 = .ok (.getfield 254, 3) := by decide +kernel
theorem dX12_readsSum_49 : decode cX12_readsSum 49 = .ok (.ldc 250, 2) := by decide +kernel
theorem dX12_readsSum_51 : decode cX12_readsSum 51 = .ok (.iload_n 2, 1) := by decide +kernel
theorem dX12_readsSum_52 : decode cX12_readsSum 52 = .ok (.imul, 1) := by decide +kernel
theorem dX12_readsSum_53 : decode cX12_readsSum 53 = .ok (.iastore, 1) := by decide +kernel
theorem dX12_readsSum_54 : decode cX12_readsSum 54 = .ok (.aload_n 0, 1) := by decide +kernel
theorem dX12_readsSum_55 : decode cX12_readsSum 55 = .ok (.aload_n 0, 1) := by decide +kernel
theorem dX12_readsSum_56 : decode cX12_readsSum 56 = .ok (.getfield 254, 3) := by decide +kernel
theorem dX12_readsSum_59 : decode cX12_readsSum 59 = .ok (.iconst 1, 1) := by decide +kernel
theorem dX12_readsSum_60 : decode cX12_readsSum 60 = .ok (.iadd, 1) := by decide +kernel
theorem dX12_readsSum_61 : decode cX12_readsSum 61 = .ok (.putfield 254, 3) := by decide +kernel
theorem dX12_readsSum_64 : decode cX12_readsSum 64 = .ok (.aload_n 0, 1) := by decide +kernel
theorem dX12_readsSum_65 : decode cX12_readsSum 65 = .ok (.aload_n 0, 1) := by decide +kernel
theorem dX12_readsSum_66 : decode cX12_readsSum 66 = .ok (.getfield 224, 3) := by decide +kernel
theorem dX12_readsSum_69 : decode cX12_readsSum 69 = .ok (.iconst 1, 1) := by decide +kernel
theorem dX12_readsSum_70 : decode cX12_readsSum 70 = .ok (.iadd, 1) := by decide +kernel
theorem dX12_readsSum_71 : decode cX12_readsSum 71 = .ok (.putfield 224, 3) := by decide +kernel
theorem dX12_readsSum_74 : decode cX12_readsSum 74 = .ok (.aload_n 0, 1) := by decide +kernel
theorem dX12_readsSum_75 : decode cX12_readsSum 75 = .ok (.invokevirtual 273, 3) := by decide +kernel
theorem dX12_readsSum_78 : decode cX12_readsSum 78 = .ok (.ifCond .ne 85, 3) := by decide +kernel
theorem dX12_readsSum_81 : decode cX12_readsSum 81 = .ok (.iconst 0, 1) := by decide +kernel
theorem dX12_readsSum_82 : decode cX12_readsSum 82 = .ok (.ireturn, 1) := by decide +kernel
theorem dX12_readsSum_83 : decode cX12_readsSum 83 = .ok (.aload_n 0, 1) := by decide +kernel
theorem dX12_readsSum_84 : decode cX12_readsSum 84 = .ok (.invokevirtual 230, 3) := by decide +kernel
theorem dX12_readsSum_87 : decode cX12_readsSum 87 = .ok (.bipush 93, 2) := by decide +kernel
theorem dX12_readsSum_89 : decode cX12_readsSum 89 = .ok (.if_icmp .ne 49, 3) := by decide +kernel
theorem dX12_readsSum_92 : decode cX12_readsSum 92 = .ok (.aload_n 0, 1) := by decide +kernel
theorem dX12_readsSum_93 : decode cX12_readsSum 93 = .ok (.iload_n 1, 1) := by decide +kernel
theorem dX12_readsSum_94 : decode cX12_readsSum 94 = .ok (.invokevirtual 283, 3) := by decide +kernel
theorem dX12_readsSum_97 : decode cX12_readsSum 97 = .ok (.ifCond .eq 41, 3) := by decide +kernel
theorem dX12_readsSum_100 : decode cX12_readsSum 100 = .ok (.aload_n 0, 1) := by decide +kernel
theorem dX12_readsSum_101 : decode cX12_readsSum 101 = .ok (.iconst 1, 1) := by decide +kernel
theorem dX12_readsSum_102 : decode cX12_readsSum 102 = .ok (.invokevirtual 279, 3) := by decide +kernel
theorem dX12_readsSum_105 : decode cX12_readsSum 105 = .ok (.aload_n 0, 1) := by decide +kernel
theorem dX12_readsSum_106 : decode cX12_readsSum 106 = .ok (.aload_n 0, 1) := by decide +kernel
theorem dX12_readsSum_107 : decode cX12_readsSum 107 = .ok (.getfield 254, 3) := by decide +kernel
theorem dX12_readsSum_110 : decode cX12_readsSum 110 = .ok (.iconst 1, 1) := by decide +kernel
theorem dX12_readsSum_111 : decode cX12_readsSum 111 = .ok (.isub, 1) := by decide +kernel
theorem dX12_readsSum_112 : decode cX12_readsSum 112 = .ok (.putfield 254, 3) := by decide +kernel
theorem dX12_readsSum_115 : decode cX12_readsSum 115 = .ok (.aload_n 0, 1) := by decide +kernel
theorem dX12_readsSum_116 : decode cX12_readsSum 116 = .ok (.aload_n 0, 1) := by decide +kernel
theorem dX12_readsSum_117 : decode cX12_readsSum 117 = .ok (.getfield 251, 3) := by decide +kernel
theorem dX12_readsSum_120 : decode cX12_readsSum 120 = .ok (.iconst 1, 1) := by decide +kernel
theorem dX12_readsSum_121 : decode cX12_readsSum 121 = .ok (.isub, 1) := by decide +kernel
theorem dX12_readsSum_122 : decode cX12_readsSum 122 = .ok (.putfield 251, 3) := by decide +kernel
theorem dX12_readsSum_125 : decode cX12_readsSum 125 = .ok (.aload_n 0, 1) := by decide +kernel
theorem dX12_readsSum_126 : decode cX12_readsSum 126 = .ok (.aload_n 0, 1) := by decide +kernel
theorem dX12_readsSum_127 : decode cX12_readsSum 127 = .ok (.getfield 224, 3) := by decide +kernel
theorem dX12_readsSum_130 : decode cX12_readsSum 130 = .ok (.iconst 1, 1) := by decide +kernel
theorem dX12_readsSum_131 : decode cX12_readsSum 131 = .ok (.iadd, 1) := by decide +kernel
theorem dX12_readsSum_132 : decode cX12_readsSum 132 = .ok (.putfield 224, 3) := by decide +kernel
theorem dX12_readsSum_135 : decode cX12_readsSum 135 = .ok (.goto 28, 3) := by decide +kernel
theorem dX12_readsSum_138 : decode cX12_readsSum 138 = .ok (.aload_n 0, 1) := by decide +kernel
theorem dX12_readsSum_139 : decode cX12_readsSum 139 = .ok (.iload_n 1, 1) := by decide +kernel
theorem dX12_readsSum_140 : decode cX12_readsSum 140 = .ok (.invokevirtual 283, 3) := by decide +kernel
theorem dX12_readsSum_143 : decode cX12_readsSum 143 = .ok (.ifCond .eq 13, 3) := by decide +kernel
theorem dX12_readsSum_146 : decode cX12_readsSum 146 = .ok (.aload_n 0, 1) := by decide +kernel
theorem dX12_readsSum_147 : decode cX12_readsSum 147 = .ok (.iconst 1, 1) := by decide +kernel
theorem dX12_readsSum_148 : decode cX12_readsSum 148 = .ok (.aload_n 0, 1) := by decide +kernel
theorem dX12_readsSum_149 : decode cX12_readsSum 149 = .ok (.getfield 224, 3) := by decide +kernel
theorem dX12_readsSum_152 : decode cX12_readsSum 152 = .ok (.invokevirtual 237, 3) := by decide +kernel
theorem dX12_readsSum_155 : decode cX12_readsSum 155 = .ok (.ireturn, 1) := by decide +kernel
theorem dX12_readsSum_156 : decode cX12_readsSum 156 = .ok (.aload_n 0, 1) := by decide +kernel
theorem dX12_readsSum_157 : decode cX12_readsSum 157 = .ok (.iconst 1, 1) := by decide +kernel
theorem dX12_readsSum_158 : decode cX12_readsSum 158 = .ok (.invokevirtual 279, 3) := by decide +kernel
theorem dX12_readsSum_161 : decode cX12_readsSum 161 = .ok (.iconst 1, 1) := by decide +kernel
theorem dX12_readsSum_162 : decode cX12_readsSum 162 = .ok (.ireturn, 1) := by decide +kernel
theorem dX12_readsSum_163 : decode cX12_readsSum 163 = .ok (.goto (-149), 3) := by decide +kernel
theorem dX12_endsPiece_0 : decode cX12_endsPiece 0 = .ok (.aload_n 0, 1) := by decide +kernel
theorem dX12_endsPiece_1 : decode cX12_endsPiece 1 = .ok (.invokevirtual 257, 3) := by decide +kernel
theorem dX12_endsPiece_4 : decode cX12_endsPiece 4 = .ok (.bipush 10, 2) := by decide +kernel
theorem dX12_endsPiece_6 : decode cX12_endsPiece 6 = .ok (.if_icmp .ne 33, 3) := by decide +kernel
theorem dX12_endsPiece_9 : decode cX12_endsPiece 9 = .ok (.aload_n 0, 1) := by decide +kernel
theorem dX12_endsPiece_10 : decode cX12_endsPiece 10 = .ok (.bipush 10, 2) := by decide +kernel
theorem dX12_endsPiece_12 : decode cX12_endsPiece 12 = .ok (.iconst 0, 1) := by decide +kernel
theorem dX12_endsPiece_13 : decode cX12_endsPiece 13 = .ok (.invokevirtual 260, 3) := by decide +kernel
theorem dX12_endsPiece_16 : decode cX12_endsPiece 16 = .ok (.aload_n 0, 1) := by decide +kernel
theorem dX12_endsPiece_17 : decode cX12_endsPiece 17 = .ok (.aload_n 0, 1) := by decide +kernel
theorem dX12_endsPiece_18 : decode cX12_endsPiece 18 = .ok (.getfield 254, 3) := by decide +kernel
theorem dX12_endsPiece_21 : decode cX12_endsPiece 21 = .ok (.iconst 1, 1) := by decide +kernel
theorem dX12_endsPiece_22 : decode cX12_endsPiece 22 = .ok (.isub, 1) := by decide +kernel
theorem dX12_endsPiece_23 : decode cX12_endsPiece 23 = .ok (.putfield 254, 3) := by decide +kernel
theorem dX12_endsPiece_26 : decode cX12_endsPiece 26 = .ok (.aload_n 0, 1) := by decide +kernel
theorem dX12_endsPiece_27 : decode cX12_endsPiece 27 = .ok (.aload_n 0, 1) := by decide +kernel
theorem dX12_endsPiece_28 : decode cX12_endsPiece 28 = .ok (.getfield 251, 3) := by decide +kernel
theorem dX12_endsPiece_31 : decode cX12_endsPiece 31 = .ok (.iconst 1, 1) := by decide +kernel
theorem dX12_endsPiece_32 : decode cX12_endsPiece 32 = .ok (.isub, 1) := by decide +kernel
theorem dX12_endsPiece_33 : decode cX12_endsPiece 33 = .ok (.putfield 251, 3) := by decide +kernel
theorem dX12_endsPiece_36 : decode cX12_endsPiece 36 = .ok (.goto (-36), 3) := by decide +kernel
theorem dX12_endsPiece_39 : decode cX12_endsPiece 39 = .ok (.return_, 1) := by decide +kernel
theorem dX12_lands_0 : decode cX12_lands 0 = .ok (.aload_n 0, 1) := by decide +kernel
theorem dX12_lands_1 : decode cX12_lands 1 = .ok (.invokevirtual 257, 3) := by decide +kernel
theorem dX12_lands_4 : decode cX12_lands 4 = .ok (.bipush 11, 2) := by decide +kernel
theorem dX12_lands_6 : decode cX12_lands 6 = .ok (.if_icmp .eq 16, 3) := by decide +kernel
theorem dX12_lands_9 : decode cX12_lands 9 = .ok (.iload_n 1, 1) := by decide +kernel
theorem dX12_lands_10 : decode cX12_lands 10 = .ok (.ifCond .eq 63, 3) := by decide +kernel
theorem dX12_lands_13 : decode cX12_lands 13 = .ok (.aload_n 0, 1) := by decide +kernel
theorem dX12_lands_14 : decode cX12_lands 14 = .ok (.invokevirtual 257, 3) := by decide +kernel
theorem dX12_lands_17 : decode cX12_lands 17 = .ok (.bipush 12, 2) := by decide +kernel
theorem dX12_lands_19 : decode cX12_lands 19 = .ok (.if_icmp .ne 54, 3) := by decide +kernel
theorem dX12_lands_22 : decode cX12_lands 22 = .ok (.aload_n 0, 1) := by decide +kernel
theorem dX12_lands_23 : decode cX12_lands 23 = .ok (.getfield 45, 3) := by decide +kernel
theorem dX12_lands_26 : decode cX12_lands 26 = .ok (.aload_n 0, 1) := by decide +kernel
theorem dX12_lands_27 : decode cX12_lands 27 = .ok (.getfield 254, 3) := by decide +kernel
theorem dX12_lands_30 : decode cX12_lands 30 = .ok (.iconst 1, 1) := by decide +kernel
theorem dX12_lands_31 : decode cX12_lands 31 = .ok (.isub, 1) := by decide +kernel
theorem dX12_lands_32 : decode cX12_lands 32 = .ok (.iaload, 1) := by decide +kernel
theorem dX12_lands_33 : decode cX12_lands 33 = .ok (.ldc 250, 2) := by decide +kernel
theorem dX12_lands_35 : decode cX12_lands 35 = .ok (.irem, 1) := by decide +kernel
theorem dX12_lands_36 : decode cX12_lands 36 = .ok (.istore_n 2, 1) := by decide +kernel
theorem dX12_lands_37 : decode cX12_lands 37 = .ok (.aload_n 0, 1) := by decide +kernel
theorem dX12_lands_38 : decode cX12_lands 38 = .ok (.getfield 42, 3) := by decide +kernel
theorem dX12_lands_41 : decode cX12_lands 41 = .ok (.iload_n 2, 1) := by decide +kernel
theorem dX12_lands_42 : decode cX12_lands 42 = .ok (.ldc 250, 2) := by decide +kernel
theorem dX12_lands_44 : decode cX12_lands 44 = .ok (.aload_n 0, 1) := by decide +kernel
theorem dX12_lands_45 : decode cX12_lands 45 = .ok (.getfield 42, 3) := by decide +kernel
theorem dX12_lands_48 : decode cX12_lands 48 = .ok (.iload_n 2, 1) := by decide +kernel
theorem dX12_lands_49 : decode cX12_lands 49 = .ok (.iaload, 1) := by decide +kernel
theorem dX12_lands_50 : decode cX12_lands 50 = .ok (.ldc 250, 2) := by decide +kernel
theorem dX12_lands_52 : decode cX12_lands 52 = .ok (.idiv, 1) := by decide +kernel
theorem dX12_lands_53 : decode cX12_lands 53 = .ok (.imul, 1) := by decide +kernel
theorem dX12_lands_54 : decode cX12_lands 54 = .ok (.aload_n 0, 1) := by decide +kernel
theorem dX12_lands_55 : decode cX12_lands 55 = .ok (.getfield 247, 3) := by decide +kernel
theorem dX12_lands_58 : decode cX12_lands 58 = .ok (.iadd, 1) := by decide +kernel
theorem dX12_lands_59 : decode cX12_lands 59 = .ok (.iastore, 1) := by decide +kernel
theorem dX12_lands_60 : decode cX12_lands 60 = .ok (.aload_n 0, 1) := by decide +kernel
theorem dX12_lands_61 : decode cX12_lands 61 = .ok (.aload_n 0, 1) := by decide +kernel
theorem dX12_lands_62 : decode cX12_lands 62 = .ok (.getfield 254, 3) := by decide +kernel
theorem dX12_lands_65 : decode cX12_lands 65 = .ok (.iconst 1, 1) := by decide +kernel
theorem dX12_lands_66 : decode cX12_lands 66 = .ok (.isub, 1) := by decide +kernel
theorem dX12_lands_67 : decode cX12_lands 67 = .ok (.putfield 254, 3) := by decide +kernel
theorem dX12_lands_70 : decode cX12_lands 70 = .ok (.goto (-70), 3) := by decide +kernel
theorem dX12_lands_73 : decode cX12_lands 73 = .ok (.return_, 1) := by decide +kernel
theorem dX12_jumps_0 : decode cX12_jumps 0 = .ok (.aload_n 0, 1) := by decide +kernel
theorem dX12_jumps_1 : decode cX12_jumps 1 = .ok (.getfield 45, 3) := by decide +kernel
theorem dX12_jumps_4 : decode cX12_jumps 4 = .ok (.aload_n 0, 1) := by decide +kernel
theorem dX12_jumps_5 : decode cX12_jumps 5 = .ok (.getfield 254, 3) := by decide +kernel
theorem dX12_jumps_8 : decode cX12_jumps 8 = .ok (.ldc 250, 2) := by decide +kernel
theorem dX12_jumps_10 : decode cX12_jumps 10 = .ok (.iload_n 1, 1) := by decide +kernel
theorem dX12_jumps_11 : decode cX12_jumps 11 = .ok (.imul, 1) := by decide +kernel
theorem dX12_jumps_12 : decode cX12_jumps 12 = .ok (.aload_n 0, 1) := by decide +kernel
theorem dX12_jumps_13 : decode cX12_jumps 13 = .ok (.getfield 247, 3) := by decide +kernel
theorem dX12_jumps_16 : decode cX12_jumps 16 = .ok (.iadd, 1) := by decide +kernel
theorem dX12_jumps_17 : decode cX12_jumps 17 = .ok (.iastore, 1) := by decide +kernel
theorem dX12_jumps_18 : decode cX12_jumps 18 = .ok (.aload_n 0, 1) := by decide +kernel
theorem dX12_jumps_19 : decode cX12_jumps 19 = .ok (.aload_n 0, 1) := by decide +kernel
theorem dX12_jumps_20 : decode cX12_jumps 20 = .ok (.getfield 254, 3) := by decide +kernel
theorem dX12_jumps_23 : decode cX12_jumps 23 = .ok (.iconst 1, 1) := by decide +kernel
theorem dX12_jumps_24 : decode cX12_jumps 24 = .ok (.iadd, 1) := by decide +kernel
theorem dX12_jumps_25 : decode cX12_jumps 25 = .ok (.putfield 254, 3) := by decide +kernel
theorem dX12_jumps_28 : decode cX12_jumps 28 = .ok (.aload_n 0, 1) := by decide +kernel
theorem dX12_jumps_29 : decode cX12_jumps 29 = .ok (.iload_n 1, 1) := by decide +kernel
theorem dX12_jumps_30 : decode cX12_jumps 30 = .ok (.iconst 0, 1) := by decide +kernel
theorem dX12_jumps_31 : decode cX12_jumps 31 = .ok (.invokevirtual 260, 3) := by decide +kernel
theorem dX12_jumps_34 : decode cX12_jumps 34 = .ok (.aload_n 0, 1) := by decide +kernel
theorem dX12_jumps_35 : decode cX12_jumps 35 = .ok (.aload_n 0, 1) := by decide +kernel
theorem dX12_jumps_36 : decode cX12_jumps 36 = .ok (.getfield 224, 3) := by decide +kernel
theorem dX12_jumps_39 : decode cX12_jumps 39 = .ok (.iconst 1, 1) := by decide +kernel
theorem dX12_jumps_40 : decode cX12_jumps 40 = .ok (.iadd, 1) := by decide +kernel
theorem dX12_jumps_41 : decode cX12_jumps 41 = .ok (.putfield 224, 3) := by decide +kernel
theorem dX12_jumps_44 : decode cX12_jumps 44 = .ok (.return_, 1) := by decide +kernel
theorem dX12_readsCompared_0 : decode cX12_readsCompared 0 = .ok (.aload_n 0, 1) := by decide +kernel
theorem dX12_readsCompared_1 : decode cX12_readsCompared 1 = .ok (.invokevirtual 286, 3) := by decide +kernel
theorem dX12_readsCompared_4 : decode cX12_readsCompared 4 = .ok (.ifCond .ne 5, 3) := by decide +kernel
theorem dX12_readsCompared_7 : decode cX12_readsCompared 7 = .ok (.iconst 0, 1) := by decide +kernel
theorem dX12_readsCompared_8 : decode cX12_readsCompared 8 = .ok (.ireturn, 1) := by decide +kernel
theorem dX12_readsCompared_9 : decode cX12_readsCompared 9 = .ok (.aload_n 0, 1) := by decide +kernel
theorem dX12_readsCompared_10 : decode cX12_readsCompared 10 = .ok (.invokevirtual 230, 3) := by decide +kernel
theorem dX12_readsCompared_13 : decode cX12_readsCompared 13 = .ok (.bipush 60, 2) := by decide +kernel
theorem dX12_readsCompared_15 : decode cX12_readsCompared 15 = .ok (.if_icmp .ne 8, 3) := by decide +kernel
theorem dX12_readsCompared_18 : decode cX12_readsCompared 18 = .ok (.bipush 7, 2) := by decide +kernel
theorem dX12_readsCompared_20 : decode cX12_readsCompared 20 = .ok (.goto 32, 3) := by decide +kernel
theorem dX12_readsCompared_23 : decode cX12_readsCompared 23 = .ok (.aload_n 0, 1) := by decide +kernel
theorem dX12_readsCompared_24 : decode cX12_readsCompared 24 = .ok (.invokevirtual 230, 3) := by decide +kernel
theorem dX12_readsCompared_27 : decode cX12_readsCompared 27 = .ok (.bipush 62, 2) := by decide +kernel
theorem dX12_readsCompared_29 : decode cX12_readsCompared 29 = .ok (.if_icmp .ne 8, 3) := by decide +kernel
theorem dX12_readsCompared_32 : decode cX12_readsCompared 32 = .ok (.bipush 8, 2) := by decide +kernel
theorem dX12_readsCompared_34 : decode cX12_readsCompared 34 = .ok (.goto 18, 3) := by decide +kernel
theorem dX12_readsCompared_37 : decode cX12_readsCompared 37 = .ok (.aload_n 0, 1) := by decide +kernel
theorem dX12_readsCompared_38 : decode cX12_readsCompared 38 = .ok (.invokevirtual 230, 3) := by decide +kernel
theorem dX12_readsCompared_41 : decode cX12_readsCompared 41 = .ok (.bipush 61, 2) := by decide +kernel
theorem dX12_readsCompared_43 : decode cX12_readsCompared 43 = .ok (.if_icmp .ne 8, 3) := by decide +kernel
theorem dX12_readsCompared_46 : decode cX12_readsCompared 46 = .ok (.bipush 9, 2) := by decide +kernel
theorem dX12_readsCompared_48 : decode cX12_readsCompared 48 = .ok (.goto 4, 3) := by decide +kernel
theorem dX12_readsCompared_51 : decode cX12_readsCompared 51 = .ok (.iconst (-1), 1) := by decide +kernel
theorem dX12_readsCompared_52 : decode cX12_readsCompared 52 = .ok (.istore_n 1, 1) := by decide +kernel
theorem dX12_readsCompared_53 : decode cX12_readsCompared 53 = .ok (.iload_n 1, 1) := by decide +kernel
theorem dX12_readsCompared_54 : decode cX12_readsCompared 54 = .ok (.iconst (-1), 1) := by decide +kernel
theorem dX12_readsCompared_55 : decode cX12_readsCompared 55 = .ok (.if_icmp .ne 13, 3) := by decide +kernel
theorem dX12_readsCompared_58 : decode cX12_readsCompared 58 = .ok (.aload_n 0, 1) := by decide +kernel
theorem dX12_readsCompared_59 : decode cX12_readsCompared 59 = .ok (.iconst 1, 1) := by decide +kernel
theorem dX12_readsCompared_60 : decode cX12_readsCompared 60 = .ok (.aload_n 0, 1) := by decide +kernel
theorem dX12_readsCompared_61 : decode cX12_readsCompared 61 = .ok (.getfield 224, 3) := by decide +kernel
theorem dX12_readsCompared_64 : decode cX12_readsCompared 64 = .ok (.invokevirtual 237, 3) := by decide +kernel
theorem dX12_readsCompared_67 : decode cX12_readsCompared 67 = .ok (.ireturn, 1) := by decide +kernel
theorem dX12_readsCompared_68 : decode cX12_readsCompared 68 = .ok (.aload_n 0, 1) := by decide +kernel
theorem dX12_readsCompared_69 : decode cX12_readsCompared 69 = .ok (.aload_n 0, 1) := by decide +kernel
theorem dX12_readsCompared_70 : decode cX12_readsCompared 70 = .ok (.getfield 224, 3) := by decide +kernel
theorem dX12_readsCompared_73 : decode cX12_readsCompared 73 = .ok (.iconst 1, 1) := by decide +kernel
theorem dX12_readsCompared_74 : decode cX12_readsCompared 74 = .ok (.iadd, 1) := by decide +kernel
theorem dX12_readsCompared_75 : decode cX12_readsCompared 75 = .ok (.putfield 224, 3) := by decide +kernel
theorem dX12_readsCompared_78 : decode cX12_readsCompared 78 = .ok (.aload_n 0, 1) := by decide +kernel
theorem dX12_readsCompared_79 : decode cX12_readsCompared 79 = .ok (.invokevirtual 286, 3) := by decide +kernel
theorem dX12_readsCompared_82 : decode cX12_readsCompared 82 = .ok (.ifCond .ne 5, 3) := by decide +kernel
theorem dX12_readsCompared_85 : decode cX12_readsCompared 85 = .ok (.iconst 0, 1) := by decide +kernel
theorem dX12_readsCompared_86 : decode cX12_readsCompared 86 = .ok (.ireturn, 1) := by decide +kernel
theorem dX12_readsCompared_87 : decode cX12_readsCompared 87 = .ok (.aload_n 0, 1) := by decide +kernel
theorem dX12_readsCompared_88 : decode cX12_readsCompared 88 = .ok (.iload_n 1, 1) := by decide +kernel
theorem dX12_readsCompared_89 : decode cX12_readsCompared 89 = .ok (.iconst 0, 1) := by decide +kernel
theorem dX12_readsCompared_90 : decode cX12_readsCompared 90 = .ok (.invokevirtual 260, 3) := by decide +kernel
theorem dX12_readsCompared_93 : decode cX12_readsCompared 93 = .ok (.aload_n 0, 1) := by decide +kernel
theorem dX12_readsCompared_94 : decode cX12_readsCompared 94 = .ok (.invokevirtual 289, 3) := by decide +kernel
theorem dX12_readsCompared_97 : decode cX12_readsCompared 97 = .ok (.iconst 1, 1) := by decide +kernel
theorem dX12_readsCompared_98 : decode cX12_readsCompared 98 = .ok (.ireturn, 1) := by decide +kernel
theorem dX12_readsCondition_0 : decode cX12_readsCondition 0 = .ok (.aload_n 0, 1) := by decide +kernel
theorem dX12_readsCondition_1 : decode cX12_readsCondition 1 = .ok (.invokevirtual 230, 3) := by decide +kernel
theorem dX12_readsCondition_4 : decode cX12_readsCondition 4 = .ok (.bipush 40, 2) := by decide +kernel
theorem dX12_readsCondition_6 : decode cX12_readsCondition 6 = .ok (.if_icmp .eq 13, 3) := by decide +kernel
theorem dX12_readsCondition_9 : decode cX12_readsCondition 9 = .ok (.aload_n 0, 1) := by decide +kernel
theorem dX12_readsCondition_10 : decode cX12_readsCondition 10 = .ok (.iconst 1, 1) := by decide +kernel
theorem dX12_readsCondition_11 : decode cX12_readsCondition 11 = .ok (.aload_n 0, 1) := by decide +kernel
theorem dX12_readsCondition_12 : decode cX12_readsCondition 12 = .ok (.getfield 224, 3) := by decide +kernel
theorem dX12_readsCondition_15 : decode cX12_readsCondition 15 = .ok (.invokevirtual 237, 3) := by decide +kernel
theorem dX12_readsCondition_18 : decode cX12_readsCondition 18 = .ok (.ireturn, 1) := by decide +kernel
theorem dX12_readsCondition_19 : decode cX12_readsCondition 19 = .ok (.aload_n 0, 1) := by decide +kernel
theorem dX12_readsCondition_20 : decode cX12_readsCondition 20 = .ok (.iconst 0, 1) := by decide +kernel
theorem dX12_readsCondition_21 : decode cX12_readsCondition 21 = .ok (.putfield 251, 3) := by decide +kernel
theorem dX12_readsCondition_24 : decode cX12_readsCondition 24 = .ok (.aload_n 0, 1) := by decide +kernel
theorem dX12_readsCondition_25 : decode cX12_readsCondition 25 = .ok (.iconst 0, 1) := by decide +kernel
theorem dX12_readsCondition_26 : decode cX12_readsCondition 26 = .ok (.putfield 254, 3) := by decide +kernel
theorem dX12_readsCondition_29 : decode cX12_readsCondition 29 = .ok (.aload_n 0, 1) := by decide +kernel
theorem dX12_readsCondition_30 : decode cX12_readsCondition 30 = .ok (.bipush 13, 2) := by decide +kernel
theorem dX12_readsCondition_32 : decode cX12_readsCondition 32 = .ok (.invokevirtual 264, 3) := by decide +kernel
theorem dX12_readsCondition_35 : decode cX12_readsCondition 35 = .ok (.ifCond .ne 5, 3) := by decide +kernel
theorem dX12_readsCondition_38 : decode cX12_readsCondition 38 = .ok (.iconst 0, 1) := by decide +kernel
theorem dX12_readsCondition_39 : decode cX12_readsCondition 39 = .ok (.ireturn, 1) := by decide +kernel
theorem dX12_readsCondition_40 : decode cX12_readsCondition 40 = .ok (.aload_n 0, 1) := by decide +kernel
theorem dX12_readsCondition_41 : decode cX12_readsCondition 41 = .ok (.invokevirtual 230, 3) := by decide +kernel
theorem dX12_readsCondition_44 : decode cX12_readsCondition 44 = .ok (.bipush 33, 2) := by decide +kernel
theorem dX12_readsCondition_46 : decode cX12_readsCondition 46 = .ok (.if_icmp .eq 12, 3) := by decide +kernel
theorem dX12_readsCondition_49 : decode cX12_readsCondition 49 = .ok (.aload_n 0, 1) := by decide +kernel
theorem dX12_readsCondition_50 : decode cX12_readsCondition 50 = .ok (.invokevirtual 230, 3) := by decide +kernel
theorem dX12_readsCondition_53 : decode cX12_readsCondition 53 = .ok (.bipush 40, 2) := by decide +kernel
theorem dX12_readsCondition_55 : decode cX12_readsCondition 55 = .ok (.if_icmp .ne 28, 3) := by decide +kernel
theorem dX12_readsCondition_58 : decode cX12_readsCondition 58 = .ok (.aload_n 0, 1) := by decide +kernel
theorem dX12_readsCondition_59 : decode cX12_readsCondition 59 = .ok (.aload_n 0, 1) := by decide +kernel
theorem dX12_readsCondition_60 : decode cX12_readsCondition 60 = .ok (.invokevirtual 230, 3) := by decide +kernel
theorem dX12_readsCondition_63 : decode cX12_readsCondition 63 = .ok (.bipush 33, 2) := by decide +kernel
theorem dX12_readsCondition_65 : decode cX12_readsCondition 65 = .ok (.if_icmp .ne 8, 3) := by decide +kernel
theorem dX12_readsCondition_68 : decode cX12_readsCondition 68 = .ok (.bipush 10, 2) := by decide +kernel
theorem dX12_readsCondition_70 : decode cX12_readsCondition 70 = .ok (.goto 5, 3) := by decide +kernel
theorem dX12_readsCondition_73 : decode cX12_readsCondition 73 = .ok (.bipush 13, 2) := by decide +kernel
theorem dX12_readsCondition_75 : decode cX12_readsCondition 75 = .ok (.invokevirtual 264, 3) := by decide +kernel
theorem dX12_readsCondition_78 : decode cX12_readsCondition 78 = .ok (.ifCond .ne (-38), 3) := by decide +kernel
theorem dX12_readsCondition_81 : decode cX12_readsCondition 81 = .ok (.iconst 0, 1) := by decide +kernel
theorem dX12_readsCondition_82 : decode cX12_readsCondition 82 = .ok (.ireturn, 1) := by decide +kernel
theorem dX12_readsCondition_83 : decode cX12_readsCondition 83 = .ok (.aload_n 0, 1) := by decide +kernel
theorem dX12_readsCondition_84 : decode cX12_readsCondition 84 = .ok (.invokevirtual 292, 3) := by decide +kernel
theorem dX12_readsCondition_87 : decode cX12_readsCondition 87 = .ok (.ifCond .ne 5, 3) := by decide +kernel
theorem dX12_readsCondition_90 : decode cX12_readsCondition 90 = .ok (.iconst 0, 1) := by decide +kernel
theorem dX12_readsCondition_91 : decode cX12_readsCondition 91 = .ok (.ireturn, 1) := by decide +kernel
theorem dX12_readsCondition_92 : decode cX12_readsCondition 92 = .ok (.aload_n 0, 1) := by decide +kernel
theorem dX12_readsCondition_93 : decode cX12_readsCondition 93 = .ok (.invokevirtual 230, 3) := by decide +kernel
theorem dX12_readsCondition_96 : decode cX12_readsCondition 96 = .ok (.bipush 41, 2) := by decide +kernel
theorem dX12_readsCondition_98 : decode cX12_readsCondition 98 = .ok (.if_icmp .ne 54, 3) := by decide +kernel
theorem dX12_readsCondition_101 : decode cX12_readsCondition 101 = .ok (.aload_n 0, 1) := by decide +kernel
theorem dX12_readsCondition_102 : decode cX12_readsCondition 102 = .ok (.iconst 1, 1) := by decide +kernel
theorem dX12_readsCondition_103 : decode cX12_readsCondition 103 = .ok (.invokevirtual 295, 3) := by decide +kernel
theorem dX12_readsCondition_106 : decode cX12_readsCondition 106 = .ok (.aload_n 0, 1) := by decide +kernel
theorem dX12_readsCondition_107 : decode cX12_readsCondition 107 = .ok (.aload_n 0, 1) := by decide +kernel
theorem dX12_readsCondition_108 : decode cX12_readsCondition 108 = .ok (.getfield 254, 3) := by decide +kernel
theorem dX12_readsCondition_111 : decode cX12_readsCondition 111 = .ok (.iconst 1, 1) := by decide +kernel
theorem dX12_readsCondition_112 : decode cX12_readsCondition 112 = .ok (.isub, 1) := by decide +kernel
theorem dX12_readsCondition_113 : decode cX12_readsCondition 113 = .ok (.putfield 254, 3) := by decide +kernel
theorem dX12_readsCondition_116 : decode cX12_readsCondition 116 = .ok (.aload_n 0, 1) := by decide +kernel
theorem dX12_readsCondition_117 : decode cX12_readsCondition 117 = .ok (.aload_n 0, 1) := by decide +kernel
theorem dX12_readsCondition_118 : decode cX12_readsCondition 118 = .ok (.getfield 251, 3) := by decide +kernel
theorem dX12_readsCondition_121 : decode cX12_readsCondition 121 = .ok (.iconst 1, 1) := by decide +kernel
theorem dX12_readsCondition_122 : decode cX12_readsCondition 122 = .ok (.isub, 1) := by decide +kernel
theorem dX12_readsCondition_123 : decode cX12_readsCondition 123 = .ok (.putfield 251, 3) := by decide +kernel
theorem dX12_readsCondition_126 : decode cX12_readsCondition 126 = .ok (.aload_n 0, 1) := by decide +kernel
theorem dX12_readsCondition_127 : decode cX12_readsCondition 127 = .ok (.aload_n 0, 1) := by decide +kernel
theorem dX12_readsCondition_128 : decode cX12_readsCondition 128 = .ok (.getfield 224, 3) := by decide +kernel
theorem dX12_readsCondition_131 : decode cX12_readsCondition 131 = .ok (.iconst 1, 1) := by decide +kernel
theorem dX12_readsCondition_132 : decode cX12_readsCondition 132 = .ok (.iadd, 1) := by decide +kernel
theorem dX12_readsCondition_133 : decode cX12_readsCondition 133 = .ok (.putfield 224, 3) := by decide +kernel
theorem dX12_readsCondition_136 : decode cX12_readsCondition 136 = .ok (.aload_n 0, 1) := by decide +kernel
theorem dX12_readsCondition_137 : decode cX12_readsCondition 137 = .ok (.getfield 254, 3) := by decide +kernel
theorem dX12_readsCondition_140 : decode cX12_readsCondition 140 = .ok (.ifCond .ne 5, 3) := by decide +kernel
theorem dX12_readsCondition_143 : decode cX12_readsCondition 143 = .ok (.iconst 1, 1) := by decide +kernel
theorem dX12_readsCondition_144 : decode cX12_readsCondition 144 = .ok (.ireturn, 1) := by decide +kernel
theorem dX12_readsCondition_145 : decode cX12_readsCondition 145 = .ok (.aload_n 0, 1) := by decide +kernel
theorem dX12_readsCondition_146 : decode cX12_readsCondition 146 = .ok (.invokevirtual 289, 3) := by decide +kernel
theorem dX12_readsCondition_149 : decode cX12_readsCondition 149 = .ok (.goto (-57), 3) := by decide +kernel
theorem dX12_readsCondition_152 : decode cX12_readsCondition 152 = .ok (.aload_n 0, 1) := by decide +kernel
theorem dX12_readsCondition_153 : decode cX12_readsCondition 153 = .ok (.invokevirtual 230, 3) := by decide +kernel
theorem dX12_readsCondition_156 : decode cX12_readsCondition 156 = .ok (.bipush 38, 2) := by decide +kernel
theorem dX12_readsCondition_158 : decode cX12_readsCondition 158 = .ok (.if_icmp .eq 22, 3) := by decide +kernel
theorem dX12_readsCondition_161 : decode cX12_readsCondition 161 = .ok (.aload_n 0, 1) := by decide +kernel
theorem dX12_readsCondition_162 : decode cX12_readsCondition 162 = .ok (.invokevirtual 230, 3) := by decide +kernel
theorem dX12_readsCondition_165 : decode cX12_readsCondition 165 = .ok (.bipush 124, 2) := by decide +kernel
theorem dX12_readsCondition_167 : decode cX12_readsCondition 167 = .ok (.if_icmp .eq 13, 3) := by decide +kernel
theorem dX12_readsCondition_170 : decode cX12_readsCondition 170 = .ok (.aload_n 0, 1) := by decide +kernel
theorem dX12_readsCondition_171 : decode cX12_readsCondition 171 = .ok (.iconst 1, 1) := by decide +kernel
theorem dX12_readsCondition_172 : decode cX12_readsCondition 172 = .ok (.aload_n 0, 1) := by decide +kernel
theorem dX12_readsCondition_173 : decode cX12_readsCondition 173 = .ok (.getfield 224, 3) := by decide +kernel
theorem dX12_readsCondition_176 : decode cX12_readsCondition 176 = .ok (.invokevirtual 237, 3) := by decide +kernel
theorem dX12_readsCondition_179 : decode cX12_readsCondition 179 = .ok (.ireturn, 1) := by decide +kernel
theorem dX12_readsCondition_180 : decode cX12_readsCondition 180 = .ok (.aload_n 0, 1) := by decide +kernel
theorem dX12_readsCondition_181 : decode cX12_readsCondition 181 = .ok (.aload_n 0, 1) := by decide +kernel
theorem dX12_readsCondition_182 : decode cX12_readsCondition 182 = .ok (.invokevirtual 230, 3) := by decide +kernel
theorem dX12_readsCondition_185 : decode cX12_readsCondition 185 = .ok (.bipush 124, 2) := by decide +kernel
theorem dX12_readsCondition_187 : decode cX12_readsCondition 187 = .ok (.if_icmp .ne 7, 3) := by decide +kernel
theorem dX12_readsCondition_190 : decode cX12_readsCondition 190 = .ok (.iconst 1, 1) := by decide +kernel
theorem dX12_readsCondition_191 : decode cX12_readsCondition 191 = .ok (.goto 4, 3) := by decide +kernel
theorem dX12_readsCondition_194 : decode cX12_readsCondition 194 = .ok (.iconst 0, 1) := by decide +kernel
theorem dX12_readsCondition_195 : decode cX12_readsCondition 195 = .ok (.invokevirtual 295, 3) := by decide +kernel
theorem dX12_readsCondition_198 : decode cX12_readsCondition 198 = .ok (.aload_n 0, 1) := by decide +kernel
theorem dX12_readsCondition_199 : decode cX12_readsCondition 199 = .ok (.aload_n 0, 1) := by decide +kernel
theorem dX12_readsCondition_200 : decode cX12_readsCondition 200 = .ok (.invokevirtual 230, 3) := by decide +kernel
theorem dX12_readsCondition_203 : decode cX12_readsCondition 203 = .ok (.bipush 38, 2) := by decide +kernel
theorem dX12_readsCondition_205 : decode cX12_readsCondition 205 = .ok (.if_icmp .ne 8, 3) := by decide +kernel
theorem dX12_readsCondition_208 : decode cX12_readsCondition 208 = .ok (.bipush 11, 2) := by decide +kernel
theorem dX12_readsCondition_210 : decode cX12_readsCondition 210 = .ok (.goto 5, 3) := by decide +kernel
theorem dX12_readsCondition_213 : decode cX12_readsCondition 213 = .ok (.bipush 12, 2) := by decide +kernel
theorem dX12_readsCondition_215 : decode cX12_readsCondition 215 = .ok (.invokevirtual 298, 3) := by decide +kernel
theorem dX12_readsCondition_218 : decode cX12_readsCondition 218 = .ok (.goto (-178), 3) := by decide +kernel
theorem dX12_readsClause_0 : decode cX12_readsClause 0 = .ok (.aload_n 0, 1) := by decide +kernel
theorem dX12_readsClause_1 : decode cX12_readsClause 1 = .ok (.invokevirtual 230, 3) := by decide +kernel
theorem dX12_readsClause_4 : decode cX12_readsClause 4 = .ok (.bipush 118, 2) := by decide +kernel
theorem dX12_readsClause_6 : decode cX12_readsClause 6 = .ok (.if_icmp .eq 13, 3) := by decide +kernel
theorem dX12_readsClause_9 : decode cX12_readsClause 9 = .ok (.aload_n 0, 1) := by decide +kernel
theorem dX12_readsClause_10 : decode cX12_readsClause 10 = .ok (.iconst 1, 1) := by decide +kernel
theorem dX12_readsClause_11 : decode cX12_readsClause 11 = .ok (.aload_n 0, 1) := by decide +kernel
theorem dX12_readsClause_12 : decode cX12_readsClause 12 = .ok (.getfield 224, 3) := by decide +kernel
theorem dX12_readsClause_15 : decode cX12_readsClause 15 = .ok (.invokevirtual 237, 3) := by decide +kernel
theorem dX12_readsClause_18 : decode cX12_readsClause 18 = .ok (.ireturn, 1) := by decide +kernel
theorem dX12_readsClause_19 : decode cX12_readsClause 19 = .ok (.aload_n 0, 1) := by decide +kernel
theorem dX12_readsClause_20 : decode cX12_readsClause 20 = .ok (.getfield 301, 3) := by decide +kernel
theorem dX12_readsClause_23 : decode cX12_readsClause 23 = .ok (.bipush 12, 2) := by decide +kernel
theorem dX12_readsClause_25 : decode cX12_readsClause 25 = .ok (.if_icmp .ne 13, 3) := by decide +kernel
theorem dX12_readsClause_28 : decode cX12_readsClause 28 = .ok (.aload_n 0, 1) := by decide +kernel
theorem dX12_readsClause_29 : decode cX12_readsClause 29 = .ok (.iconst 4, 1) := by decide +kernel
theorem dX12_readsClause_30 : decode cX12_readsClause 30 = .ok (.aload_n 0, 1) := by decide +kernel
theorem dX12_readsClause_31 : decode cX12_readsClause 31 = .ok (.getfield 224, 3) := by decide +kernel
theorem dX12_readsClause_34 : decode cX12_readsClause 34 = .ok (.invokevirtual 237, 3) := by decide +kernel
theorem dX12_readsClause_37 : decode cX12_readsClause 37 = .ok (.ireturn, 1) := by decide +kernel
theorem dX12_readsClause_38 : decode cX12_readsClause 38 = .ok (.aload_n 0, 1) := by decide +kernel
theorem dX12_readsClause_39 : decode cX12_readsClause 39 = .ok (.aload_n 0, 1) := by decide +kernel
theorem dX12_readsClause_40 : decode cX12_readsClause 40 = .ok (.getfield 224, 3) := by decide +kernel
theorem dX12_readsClause_43 : decode cX12_readsClause 43 = .ok (.iconst 1, 1) := by decide +kernel
theorem dX12_readsClause_44 : decode cX12_readsClause 44 = .ok (.iadd, 1) := by decide +kernel
theorem dX12_readsClause_45 : decode cX12_readsClause 45 = .ok (.putfield 224, 3) := by decide +kernel
theorem dX12_readsClause_48 : decode cX12_readsClause 48 = .ok (.aload_n 0, 1) := by decide +kernel
theorem dX12_readsClause_49 : decode cX12_readsClause 49 = .ok (.getfield 48, 3) := by decide +kernel
theorem dX12_readsClause_52 : decode cX12_readsClause 52 = .ok (.aload_n 0, 1) := by decide +kernel
theorem dX12_readsClause_53 : decode cX12_readsClause 53 = .ok (.getfield 301, 3) := by decide +kernel
theorem dX12_readsClause_56 : decode cX12_readsClause 56 = .ok (.aload_n 0, 1) := by decide +kernel
theorem dX12_readsClause_57 : decode cX12_readsClause 57 = .ok (.getfield 247, 3) := by decide +kernel
theorem dX12_readsClause_60 : decode cX12_readsClause 60 = .ok (.iastore, 1) := by decide +kernel
theorem dX12_readsClause_61 : decode cX12_readsClause 61 = .ok (.aload_n 0, 1) := by decide +kernel
theorem dX12_readsClause_62 : decode cX12_readsClause 62 = .ok (.iconst 0, 1) := by decide +kernel
theorem dX12_readsClause_63 : decode cX12_readsClause 63 = .ok (.putfield 251, 3) := by decide +kernel
theorem dX12_readsClause_66 : decode cX12_readsClause 66 = .ok (.aload_n 0, 1) := by decide +kernel
theorem dX12_readsClause_67 : decode cX12_readsClause 67 = .ok (.iconst 0, 1) := by decide +kernel
theorem dX12_readsClause_68 : decode cX12_readsClause 68 = .ok (.putfield 254, 3) := by decide +kernel
theorem dX12_readsClause_71 : decode cX12_readsClause 71 = .ok (.aload_n 0, 1) := by decide +kernel
theorem dX12_readsClause_72 : decode cX12_readsClause 72 = .ok (.invokevirtual 286, 3) := by decide +kernel
theorem dX12_readsClause_75 : decode cX12_readsClause 75 = .ok (.ifCond .ne 5, 3) := by decide +kernel
theorem dX12_readsClause_78 : decode cX12_readsClause 78 = .ok (.iconst 0, 1) := by decide +kernel
theorem dX12_readsClause_79 : decode cX12_readsClause 79 = .ok (.ireturn, 1) := by decide +kernel
theorem dX12_readsClause_80 : decode cX12_readsClause 80 = .ok (.aload_n 0, 1) := by decide +kernel
theorem dX12_readsClause_81 : decode cX12_readsClause 81 = .ok (.getfield 51, 3) := by decide +kernel
theorem dX12_readsClause_84 : decode cX12_readsClause 84 = .ok (.aload_n 0, 1) := by decide +kernel
theorem dX12_readsClause_85 : decode cX12_readsClause 85 = .ok (.getfield 301, 3) := by decide +kernel
theorem dX12_readsClause_88 : decode cX12_readsClause 88 = .ok (.aload_n 0, 1) := by decide +kernel
theorem dX12_readsClause_89 : decode cX12_readsClause 89 = .ok (.getfield 247, 3) := by decide +kernel
theorem dX12_readsClause_92 : decode cX12_readsClause 92 = .ok (.iastore, 1) := by decide +kernel
theorem dX12_readsClause_93 : decode cX12_readsClause 93 = .ok (.aload_n 0, 1) := by decide +kernel
theorem dX12_readsClause_94 : decode cX12_readsClause 94 = .ok (.invokevirtual 304, 3) := by decide +kernel
theorem dX12_readsClause_97 : decode cX12_readsClause 97 = .ok (.ifCond .ne 5, 3) := by decide +kernel
theorem dX12_readsClause_100 : decode cX12_readsClause 100 = .ok (.iconst 0, 1) := by decide +kernel
theorem dX12_readsClause_101 : decode cX12_readsClause 101 = .ok (.ireturn, 1) := by decide +kernel
theorem dX12_readsClause_102 : decode cX12_readsClause 102 = .ok (.aload_n 0, 1) := by decide +kernel
theorem dX12_readsClause_103 : decode cX12_readsClause 103 = .ok (.getfield 54, 3) := by decide +kernel
theorem dX12_readsClause_106 : decode cX12_readsClause 106 = .ok (.aload_n 0, 1) := by decide +kernel
theorem dX12_readsClause_107 : decode cX12_readsClause 107 = .ok (.getfield 301, 3) := by decide +kernel
theorem dX12_readsClause_110 : decode cX12_readsClause 110 = .ok (.aload_n 0, 1) := by decide +kernel
theorem dX12_readsClause_111 : decode cX12_readsClause 111 = .ok (.getfield 247, 3) := by decide +kernel
theorem dX12_readsClause_114 : decode cX12_readsClause 114 = .ok (.iastore, 1) := by decide +kernel
theorem dX12_readsClause_115 : decode cX12_readsClause 115 = .ok (.aload_n 0, 1) := by decide +kernel
theorem dX12_readsClause_116 : decode cX12_readsClause 116 = .ok (.aload_n 0, 1) := by decide +kernel
theorem dX12_readsClause_117 : decode cX12_readsClause 117 = .ok (.getfield 301, 3) := by decide +kernel
theorem dX12_readsClause_120 : decode cX12_readsClause 120 = .ok (.iconst 1, 1) := by decide +kernel
theorem dX12_readsClause_121 : decode cX12_readsClause 121 = .ok (.iadd, 1) := by decide +kernel
theorem dX12_readsClause_122 : decode cX12_readsClause 122 = .ok (.putfield 301, 3) := by decide +kernel
theorem dX12_readsClause_125 : decode cX12_readsClause 125 = .ok (.iconst 1, 1) := by decide +kernel
theorem dX12_readsClause_126 : decode cX12_readsClause 126 = .ok (.ireturn, 1) := by decide +kernel
theorem dX12_law_0 : decode cX12_law 0 = .ok (.iload_n 1, 1) := by decide +kernel
theorem dX12_law_1 : decode cX12_law 1 = .ok (.iconst 1, 1) := by decide +kernel
theorem dX12_law_2 : decode cX12_law 2 = .ok (.sipush 160, 3) := by decide +kernel
theorem dX12_law_5 : decode cX12_law 5 = .ok (.invokestatic 173, 3) := by decide +kernel
theorem dX12_law_8 : decode cX12_law 8 = .ok (.ifCond .eq 11, 3) := by decide +kernel
theorem dX12_law_11 : decode cX12_law 11 = .ok (.iload_n 1, 1) := by decide +kernel
theorem dX12_law_12 : decode cX12_law 12 = .ok (.aload_n 0, 1) := by decide +kernel
theorem dX12_law_13 : decode cX12_law 13 = .ok (.getfield 176, 3) := by decide +kernel
theorem dX12_law_16 : decode cX12_law 16 = .ok (.if_icmp .le 5, 3) := by decide +kernel
theorem dX12_law_19 : decode cX12_law 19 = .ok (.iconst (-1), 1) := by decide +kernel
theorem dX12_law_20 : decode cX12_law 20 = .ok (.ireturn, 1) := by decide +kernel
theorem dX12_law_21 : decode cX12_law 21 = .ok (.aload_n 0, 1) := by decide +kernel
theorem dX12_law_22 : decode cX12_law 22 = .ok (.iconst 0, 1) := by decide +kernel
theorem dX12_law_23 : decode cX12_law 23 = .ok (.putfield 224, 3) := by decide +kernel
theorem dX12_law_26 : decode cX12_law 26 = .ok (.aload_n 0, 1) := by decide +kernel
theorem dX12_law_27 : decode cX12_law 27 = .ok (.iload_n 1, 1) := by decide +kernel
theorem dX12_law_28 : decode cX12_law 28 = .ok (.putfield 227, 3) := by decide +kernel
theorem dX12_law_31 : decode cX12_law 31 = .ok (.aload_n 0, 1) := by decide +kernel
theorem dX12_law_32 : decode cX12_law 32 = .ok (.iconst 0, 1) := by decide +kernel
theorem dX12_law_33 : decode cX12_law 33 = .ok (.putfield 247, 3) := by decide +kernel
theorem dX12_law_36 : decode cX12_law 36 = .ok (.aload_n 0, 1) := by decide +kernel
theorem dX12_law_37 : decode cX12_law 37 = .ok (.iconst 0, 1) := by decide +kernel
theorem dX12_law_38 : decode cX12_law 38 = .ok (.putfield 301, 3) := by decide +kernel
theorem dX12_law_41 : decode cX12_law 41 = .ok (.aload_n 0, 1) := by decide +kernel
theorem dX12_law_42 : decode cX12_law 42 = .ok (.invokevirtual 307, 3) := by decide +kernel
theorem dX12_law_45 : decode cX12_law 45 = .ok (.istore_n 2, 1) := by decide +kernel
theorem dX12_law_46 : decode cX12_law 46 = .ok (.iload_n 2, 1) := by decide +kernel
theorem dX12_law_47 : decode cX12_law 47 = .ok (.ifCond .eq 39, 3) := by decide +kernel
theorem dX12_law_50 : decode cX12_law 50 = .ok (.aload_n 0, 1) := by decide +kernel
theorem dX12_law_51 : decode cX12_law 51 = .ok (.getfield 224, 3) := by decide +kernel
theorem dX12_law_54 : decode cX12_law 54 = .ok (.aload_n 0, 1) := by decide +kernel
theorem dX12_law_55 : decode cX12_law 55 = .ok (.getfield 227, 3) := by decide +kernel
theorem dX12_law_58 : decode cX12_law 58 = .ok (.if_icmp .ge 28, 3) := by decide +kernel
theorem dX12_law_61 : decode cX12_law 61 = .ok (.aload_n 0, 1) := by decide +kernel
theorem dX12_law_62 : decode cX12_law 62 = .ok (.bipush 59, 2) := by decide +kernel
theorem dX12_law_64 : decode cX12_law 64 = .ok (.invokevirtual 310, 3) := by decide +kernel
theorem dX12_law_67 : decode cX12_law 67 = .ok (.ifCond .eq 14, 3) := by decide +kernel
theorem dX12_law_70 : decode cX12_law 70 = .ok (.aload_n 0, 1) := by decide +kernel
theorem dX12_law_71 : decode cX12_law 71 = .ok (.invokevirtual 307, 3) := by decide +kernel
theorem dX12_law_74 : decode cX12_law 74 = .ok (.ifCond .eq 7, 3) := by decide +kernel
theorem dX12_law_77 : decode cX12_law 77 = .ok (.iconst 1, 1) := by decide +kernel
theorem dX12_law_78 : decode cX12_law 78 = .ok (.goto 4, 3) := by decide +kernel
theorem dX12_law_81 : decode cX12_law 81 = .ok (.iconst 0, 1) := by decide +kernel
theorem dX12_law_82 : decode cX12_law 82 = .ok (.istore_n 2, 1) := by decide +kernel
theorem dX12_law_83 : decode cX12_law 83 = .ok (.goto (-37), 3) := by decide +kernel
theorem dX12_law_86 : decode cX12_law 86 = .ok (.aload_n 0, 1) := by decide +kernel
theorem dX12_law_87 : decode cX12_law 87 = .ok (.iconst 0, 1) := by decide +kernel
theorem dX12_law_88 : decode cX12_law 88 = .ok (.putfield 176, 3) := by decide +kernel
theorem dX12_law_91 : decode cX12_law 91 = .ok (.iload_n 2, 1) := by decide +kernel
theorem dX12_law_92 : decode cX12_law 92 = .ok (.ifCond .ne 8, 3) := by decide +kernel
theorem dX12_law_95 : decode cX12_law 95 = .ok (.aload_n 0, 1) := by decide +kernel
theorem dX12_law_96 : decode cX12_law 96 = .ok (.getfield 234, 3) := by decide +kernel
theorem dX12_law_99 : decode cX12_law 99 = .ok (.ireturn, 1) := by decide +kernel
theorem dX12_law_100 : decode cX12_law 100 = .ok (.aload_n 0, 1) := by decide +kernel
theorem dX12_law_101 : decode cX12_law 101 = .ok (.aload_n 0, 1) := by decide +kernel
theorem dX12_law_102 : decode cX12_law 102 = .ok (.getfield 301, 3) := by decide +kernel
theorem dX12_law_105 : decode cX12_law 105 = .ok (.putfield 313, 3) := by decide +kernel
theorem dX12_law_108 : decode cX12_law 108 = .ok (.iconst 0, 1) := by decide +kernel
theorem dX12_law_109 : decode cX12_law 109 = .ok (.istore_n 3, 1) := by decide +kernel
theorem dX12_law_110 : decode cX12_law 110 = .ok (.iload_n 3, 1) := by decide +kernel
theorem dX12_law_111 : decode cX12_law 111 = .ok (.aload_n 0, 1) := by decide +kernel
theorem dX12_law_112 : decode cX12_law 112 = .ok (.getfield 247, 3) := by decide +kernel
theorem dX12_law_115 : decode cX12_law 115 = .ok (.if_icmp .ge 21, 3) := by decide +kernel
theorem dX12_law_118 : decode cX12_law 118 = .ok (.aload_n 0, 1) := by decide +kernel
theorem dX12_law_119 : decode cX12_law 119 = .ok (.getfield 57, 3) := by decide +kernel
theorem dX12_law_122 : decode cX12_law 122 = .ok (.iload_n 3, 1) := by decide +kernel
theorem dX12_law_123 : decode cX12_law 123 = .ok (.aload_n 0, 1) := by decide +kernel
theorem dX12_law_124 : decode cX12_law 124 = .ok (.getfield 42, 3) := by decide +kernel
theorem dX12_law_127 : decode cX12_law 127 = .ok (.iload_n 3, 1) := by decide +kernel
theorem dX12_law_128 : decode cX12_law 128 = .ok (.iaload, 1) := by decide +kernel
theorem dX12_law_129 : decode cX12_law 129 = .ok (.iastore, 1) := by decide +kernel
theorem dX12_law_130 : decode cX12_law 130 = .ok (.iinc 3 1, 3) := by decide +kernel
theorem dX12_law_133 : decode cX12_law 133 = .ok (.goto (-23), 3) := by decide +kernel
theorem dX12_law_136 : decode cX12_law 136 = .ok (.iconst 0, 1) := by decide +kernel
theorem dX12_law_137 : decode cX12_law 137 = .ok (.istore_n 3, 1) := by decide +kernel
theorem dX12_law_138 : decode cX12_law 138 = .ok (.iload_n 3, 1) := by decide +kernel
theorem dX12_law_139 : decode cX12_law 139 = .ok (.aload_n 0, 1) := by decide +kernel
theorem dX12_law_140 : decode cX12_law 140 = .ok (.getfield 301, 3) := by decide +kernel
theorem dX12_law_143 : decode cX12_law 143 = .ok (.if_icmp .ge 45, 3) := by decide +kernel
theorem dX12_law_146 : decode cX12_law 146 = .ok (.aload_n 0, 1) := by decide +kernel
theorem dX12_law_147 : decode cX12_law 147 = .ok (.getfield 60, 3) := by decide +kernel
theorem dX12_law_150 : decode cX12_law 150 = .ok (.iload_n 3, 1) := by decide +kernel
theorem dX12_law_151 : decode cX12_law 151 = .ok (.aload_n 0, 1) := by decide +kernel
theorem dX12_law_152 : decode cX12_law 152 = .ok (.getfield 48, 3) := by decide +kernel
theorem dX12_law_155 : decode cX12_law 155 = .ok (.iload_n 3, 1) := by decide +kernel
theorem dX12_law_156 : decode cX12_law 156 = .ok (.iaload, 1) := by decide +kernel
theorem dX12_law_157 : decode cX12_law 157 = .ok (.iastore, 1) := by decide +kernel
theorem dX12_law_158 : decode cX12_law 158 = .ok (.aload_n 0, 1) := by decide +kernel
theorem dX12_law_159 : decode cX12_law 159 = .ok (.getfield 63, 3) := by decide +kernel
theorem dX12_law_162 : decode cX12_law 162 = .ok (.iload_n 3, 1) := by decide +kernel
theorem dX12_law_163 : decode cX12_law 163 = .ok (.aload_n 0, 1) := by decide +kernel
theorem dX12_law_164 : decode cX12_law 164 = .ok (.getfield 51, 3) := by decide +kernel
theorem dX12_law_167 : decode cX12_law 167 = .ok (.iload_n 3, 1) := by decide +kernel
theorem dX12_law_168 : decode cX12_law 168 = .ok (.iaload, 1) := by decide +kernel
theorem dX12_law_169 : decode cX12_law 169 = .ok (.iastore, 1) := by decide +kernel
theorem dX12_law_170 : decode cX12_law 170 = .ok (.aload_n 0, 1) := by decide +kernel
theorem dX12_law_171 : decode cX12_law 171 = .ok (.getfield 66, 3) := by decide +kernel
theorem dX12_law_174 : decode cX12_law 174 = .ok (.iload_n 3, 1) := by decide +kernel
theorem dX12_law_175 : decode cX12_law 175 = .ok (.aload_n 0, 1) := by decide +kernel
theorem dX12_law_176 : decode cX12_law 176 = .ok (.getfield 54, 3) := by decide +kernel
theorem dX12_law_179 : decode cX12_law 179 = .ok (.iload_n 3, 1) := by decide +kernel
theorem dX12_law_180 : decode cX12_law 180 = .ok (.iaload, 1) := by decide +kernel
theorem dX12_law_181 : decode cX12_law 181 = .ok (.iastore, 1) := by decide +kernel
theorem dX12_law_182 : decode cX12_law 182 = .ok (.iinc 3 1, 3) := by decide +kernel
theorem dX12_law_185 : decode cX12_law 185 = .ok (.goto (-47), 3) := by decide +kernel
theorem dX12_law_188 : decode cX12_law 188 = .ok (.aload_n 0, 1) := by decide +kernel
theorem dX12_law_189 : decode cX12_law 189 = .ok (.getfield 301, 3) := by decide +kernel
theorem dX12_law_192 : decode cX12_law 192 = .ok (.ireturn, 1) := by decide +kernel
theorem dX12_reckon_0 : decode cX12_reckon 0 = .ok (.iload_n 0, 1) := by decide +kernel
theorem dX12_reckon_1 : decode cX12_reckon 1 = .ok (.tableswitch 85 2 8 #[43, 47, 51, 55, 59, 63, 74], 43) := by decide +kernel
theorem dX12_reckon_44 : decode cX12_reckon 44 = .ok (.iload_n 1, 1) := by decide +kernel
theorem dX12_reckon_45 : decode cX12_reckon 45 = .ok (.iload_n 2, 1) := by decide +kernel
theorem dX12_reckon_46 : decode cX12_reckon 46 = .ok (.iadd, 1) := by decide +kernel
theorem dX12_reckon_47 : decode cX12_reckon 47 = .ok (.ireturn, 1) := by decide +kernel
theorem dX12_reckon_48 : decode cX12_reckon 48 = .ok (.iload_n 1, 1) := by decide +kernel
theorem dX12_reckon_49 : decode cX12_reckon 49 = .ok (.iload_n 2, 1) := by decide +kernel
theorem dX12_reckon_50 : decode cX12_reckon 50 = .ok (.isub, 1) := by decide +kernel
theorem dX12_reckon_51 : decode cX12_reckon 51 = .ok (.ireturn, 1) := by decide +kernel
theorem dX12_reckon_52 : decode cX12_reckon 52 = .ok (.iload_n 1, 1) := by decide +kernel
theorem dX12_reckon_53 : decode cX12_reckon 53 = .ok (.iload_n 2, 1) := by decide +kernel
theorem dX12_reckon_54 : decode cX12_reckon 54 = .ok (.imul, 1) := by decide +kernel
theorem dX12_reckon_55 : decode cX12_reckon 55 = .ok (.ireturn, 1) := by decide +kernel
theorem dX12_reckon_56 : decode cX12_reckon 56 = .ok (.iload_n 1, 1) := by decide +kernel
theorem dX12_reckon_57 : decode cX12_reckon 57 = .ok (.iload_n 2, 1) := by decide +kernel
theorem dX12_reckon_58 : decode cX12_reckon 58 = .ok (.idiv, 1) := by decide +kernel
theorem dX12_reckon_59 : decode cX12_reckon 59 = .ok (.ireturn, 1) := by decide +kernel
theorem dX12_reckon_60 : decode cX12_reckon 60 = .ok (.iload_n 1, 1) := by decide +kernel
theorem dX12_reckon_61 : decode cX12_reckon 61 = .ok (.iload_n 2, 1) := by decide +kernel
theorem dX12_reckon_62 : decode cX12_reckon 62 = .ok (.irem, 1) := by decide +kernel
theorem dX12_reckon_63 : decode cX12_reckon 63 = .ok (.ireturn, 1) := by decide +kernel
theorem dX12_reckon_64 : decode cX12_reckon 64 = .ok (.iload_n 1, 1) := by decide +kernel
theorem dX12_reckon_65 : decode cX12_reckon 65 = .ok (.iload_n 2, 1) := by decide +kernel
theorem dX12_reckon_66 : decode cX12_reckon 66 = .ok (.if_icmp .ge 7, 3) := by decide +kernel
theorem dX12_reckon_69 : decode cX12_reckon 69 = .ok (.iconst 1, 1) := by decide +kernel
theorem dX12_reckon_70 : decode cX12_reckon 70 = .ok (.goto 4, 3) := by decide +kernel
theorem dX12_reckon_73 : decode cX12_reckon 73 = .ok (.iconst 0, 1) := by decide +kernel
theorem dX12_reckon_74 : decode cX12_reckon 74 = .ok (.ireturn, 1) := by decide +kernel
theorem dX12_reckon_75 : decode cX12_reckon 75 = .ok (.iload_n 1, 1) := by decide +kernel
theorem dX12_reckon_76 : decode cX12_reckon 76 = .ok (.iload_n 2, 1) := by decide +kernel
theorem dX12_reckon_77 : decode cX12_reckon 77 = .ok (.if_icmp .le 7, 3) := by decide +kernel
theorem dX12_reckon_80 : decode cX12_reckon 80 = .ok (.iconst 1, 1) := by decide +kernel
theorem dX12_reckon_81 : decode cX12_reckon 81 = .ok (.goto 4, 3) := by decide +kernel
theorem dX12_reckon_84 : decode cX12_reckon 84 = .ok (.iconst 0, 1) := by decide +kernel
theorem dX12_reckon_85 : decode cX12_reckon 85 = .ok (.ireturn, 1) := by decide +kernel
theorem dX12_reckon_86 : decode cX12_reckon 86 = .ok (.iload_n 1, 1) := by decide +kernel
theorem dX12_reckon_87 : decode cX12_reckon 87 = .ok (.iload_n 2, 1) := by decide +kernel
theorem dX12_reckon_88 : decode cX12_reckon 88 = .ok (.if_icmp .ne 7, 3) := by decide +kernel
theorem dX12_reckon_91 : decode cX12_reckon 91 = .ok (.iconst 1, 1) := by decide +kernel
theorem dX12_reckon_92 : decode cX12_reckon 92 = .ok (.goto 4, 3) := by decide +kernel
theorem dX12_reckon_95 : decode cX12_reckon 95 = .ok (.iconst 0, 1) := by decide +kernel
theorem dX12_reckon_96 : decode cX12_reckon 96 = .ok (.ireturn, 1) := by decide +kernel
theorem dX12_comesTo_0 : decode cX12_comesTo 0 = .ok (.iconst 0, 1) := by decide +kernel
theorem dX12_comesTo_1 : decode cX12_comesTo 1 = .ok (.istore_n 3, 1) := by decide +kernel
theorem dX12_comesTo_2 : decode cX12_comesTo 2 = .ok (.sipush 180, 3) := by decide +kernel
theorem dX12_comesTo_5 : decode cX12_comesTo 5 = .ok (.iload_n 1, 1) := by decide +kernel
theorem dX12_comesTo_6 : decode cX12_comesTo 6 = .ok (.sipush 180, 3) := by decide +kernel
theorem dX12_comesTo_9 : decode cX12_comesTo 9 = .ok (.idiv, 1) := by decide +kernel
theorem dX12_comesTo_10 : decode cX12_comesTo 10 = .ok (.imul, 1) := by decide +kernel
theorem dX12_comesTo_11 : decode cX12_comesTo 11 = .ok (.istore 4, 2) := by decide +kernel
theorem dX12_comesTo_13 : decode cX12_comesTo 13 = .ok (.iload_n 1, 1) := by decide +kernel
theorem dX12_comesTo_14 : decode cX12_comesTo 14 = .ok (.istore 5, 2) := by decide +kernel
theorem dX12_comesTo_16 : decode cX12_comesTo 16 = .ok (.iload 5, 2) := by decide +kernel
theorem dX12_comesTo_18 : decode cX12_comesTo 18 = .ok (.iload_n 2, 1) := by decide +kernel
theorem dX12_comesTo_19 : decode cX12_comesTo 19 = .ok (.if_icmp .ge 214, 3) := by decide +kernel
theorem dX12_comesTo_22 : decode cX12_comesTo 22 = .ok (.aload_n 0, 1) := by decide +kernel
theorem dX12_comesTo_23 : decode cX12_comesTo 23 = .ok (.getfield 57, 3) := by decide +kernel
theorem dX12_comesTo_26 : decode cX12_comesTo 26 = .ok (.iload 5, 2) := by decide +kernel
theorem dX12_comesTo_28 : decode cX12_comesTo 28 = .ok (.iaload, 1) := by decide +kernel
theorem dX12_comesTo_29 : decode cX12_comesTo 29 = .ok (.ldc 250, 2) := by decide +kernel
theorem dX12_comesTo_31 : decode cX12_comesTo 31 = .ok (.idiv, 1) := by decide +kernel
theorem dX12_comesTo_32 : decode cX12_comesTo 32 = .ok (.istore 6, 2) := by decide +kernel
theorem dX12_comesTo_34 : decode cX12_comesTo 34 = .ok (.aload_n 0, 1) := by decide +kernel
theorem dX12_comesTo_35 : decode cX12_comesTo 35 = .ok (.getfield 57, 3) := by decide +kernel
theorem dX12_comesTo_38 : decode cX12_comesTo 38 = .ok (.iload 5, 2) := by decide +kernel
theorem dX12_comesTo_40 : decode cX12_comesTo 40 = .ok (.iaload, 1) := by decide +kernel
theorem dX12_comesTo_41 : decode cX12_comesTo 41 = .ok (.ldc 250, 2) := by decide +kernel
theorem dX12_comesTo_43 : decode cX12_comesTo 43 = .ok (.irem, 1) := by decide +kernel
theorem dX12_comesTo_44 : decode cX12_comesTo 44 = .ok (.istore 7, 2) := by decide +kernel
theorem dX12_comesTo_46 : decode cX12_comesTo 46 = .ok (.iload 5, 2) := by decide +kernel
theorem dX12_comesTo_48 : decode cX12_comesTo 48 = .ok (.iconst 1, 1) := by decide +kernel
theorem dX12_comesTo_49 : decode cX12_comesTo 49 = .ok (.iadd, 1) := by decide +kernel
theorem dX12_comesTo_50 : decode cX12_comesTo 50 = .ok (.istore 5, 2) := by decide +kernel
theorem dX12_comesTo_52 : decode cX12_comesTo 52 = .ok (.iload 6, 2) := by decide +kernel
theorem dX12_comesTo_54 : decode cX12_comesTo 54 = .ok (.ifCond .eq 9, 3) := by decide +kernel
theorem dX12_comesTo_57 : decode cX12_comesTo 57 = .ok (.iload 6, 2) := by decide +kernel
theorem dX12_comesTo_59 : decode cX12_comesTo 59 = .ok (.iconst 1, 1) := by decide +kernel
theorem dX12_comesTo_60 : decode cX12_comesTo 60 = .ok (.if_icmp .ne 33, 3) := by decide +kernel
theorem dX12_comesTo_63 : decode cX12_comesTo 63 = .ok (.aload_n 0, 1) := by decide +kernel
theorem dX12_comesTo_64 : decode cX12_comesTo 64 = .ok (.getfield 69, 3) := by decide +kernel
theorem dX12_comesTo_67 : decode cX12_comesTo 67 = .ok (.iload_n 3, 1) := by decide +kernel
theorem dX12_comesTo_68 : decode cX12_comesTo 68 = .ok (.iload 6, 2) := by decide +kernel
theorem dX12_comesTo_70 : decode cX12_comesTo 70 = .ok (.ifCond .ne 8, 3) := by decide +kernel
theorem dX12_comesTo_73 : decode cX12_comesTo 73 = .ok (.iload 7, 2) := by decide +kernel
theorem dX12_comesTo_75 : decode cX12_comesTo 75 = .ok (.goto 10, 3) := by decide +kernel
theorem dX12_comesTo_78 : decode cX12_comesTo 78 = .ok (.aload_n 0, 1) := by decide +kernel
theorem dX12_comesTo_79 : decode cX12_comesTo 79 = .ok (.getfield 72, 3) := by decide +kernel
theorem dX12_comesTo_82 : decode cX12_comesTo 82 = .ok (.iload 7, 2) := by decide +kernel
theorem dX12_comesTo_84 : decode cX12_comesTo 84 = .ok (.iaload, 1) := by decide +kernel
theorem dX12_comesTo_85 : decode cX12_comesTo 85 = .ok (.iastore, 1) := by decide +kernel
theorem dX12_comesTo_86 : decode cX12_comesTo 86 = .ok (.iload_n 3, 1) := by decide +kernel
theorem dX12_comesTo_87 : decode cX12_comesTo 87 = .ok (.iconst 1, 1) := by decide +kernel
theorem dX12_comesTo_88 : decode cX12_comesTo 88 = .ok (.iadd, 1) := by decide +kernel
theorem dX12_comesTo_89 : decode cX12_comesTo 89 = .ok (.istore_n 3, 1) := by decide +kernel
theorem dX12_comesTo_90 : decode cX12_comesTo 90 = .ok (.goto 140, 3) := by decide +kernel
theorem dX12_comesTo_93 : decode cX12_comesTo 93 = .ok (.iload 6, 2) := by decide +kernel
theorem dX12_comesTo_95 : decode cX12_comesTo 95 = .ok (.bipush 10, 2) := by decide +kernel
theorem dX12_comesTo_97 : decode cX12_comesTo 97 = .ok (.if_icmp .ne 24, 3) := by decide +kernel
theorem dX12_comesTo_100 : decode cX12_comesTo 100 = .ok (.aload_n 0, 1) := by decide +kernel
theorem dX12_comesTo_101 : decode cX12_comesTo 101 = .ok (.getfield 69, 3) := by decide +kernel
theorem dX12_comesTo_104 : decode cX12_comesTo 104 = .ok (.iload_n 3, 1) := by decide +kernel
theorem dX12_comesTo_105 : decode cX12_comesTo 105 = .ok (.iconst 1, 1) := by decide +kernel
theorem dX12_comesTo_106 : decode cX12_comesTo 106 = .ok (.isub, 1) := by decide +kernel
theorem dX12_comesTo_107 : decode cX12_comesTo 107 = .ok (.iconst 1, 1) := by decide +kernel
theorem dX12_comesTo_108 : decode cX12_comesTo 108 = .ok (.aload_n 0, 1) := by decide +kernel
theorem dX12_comesTo_109 : decode cX12_comesTo 109 = .ok (.getfield 69, 3) := by decide +kernel
theorem dX12_comesTo_112 : decode cX12_comesTo 112 = .ok (.iload_n 3, 1) := by decide +kernel
theorem dX12_comesTo_113 : decode cX12_comesTo 113 = .ok (.iconst 1, 1) := by decide +kernel
theorem dX12_comesTo_114 : decode cX12_comesTo 114 = .ok (.isub, 1) := by decide +kernel
theorem dX12_comesTo_115 : decode cX12_comesTo 115 = .ok (.iaload, 1) := by decide +kernel
theorem dX12_comesTo_116 : decode cX12_comesTo 116 = .ok (.isub, 1) := by decide +kernel
theorem dX12_comesTo_117 : decode cX12_comesTo 117 = .ok (.iastore, 1) := by decide +kernel
theorem dX12_comesTo_118 : decode cX12_comesTo 118 = .ok (.goto 112, 3) := by decide +kernel
theorem dX12_comesTo_121 : decode cX12_comesTo 121 = .ok (.iload 6, 2) := by decide +kernel
theorem dX12_comesTo_123 : decode cX12_comesTo 123 = .ok (.bipush 11, 2) := by decide +kernel
theorem dX12_comesTo_125 : decode cX12_comesTo 125 = .ok (.if_icmp .eq 10, 3) := by decide +kernel
theorem dX12_comesTo_128 : decode cX12_comesTo 128 = .ok (.iload 6, 2) := by decide +kernel
theorem dX12_comesTo_130 : decode cX12_comesTo 130 = .ok (.bipush 12, 2) := by decide +kernel
theorem dX12_comesTo_132 : decode cX12_comesTo 132 = .ok (.if_icmp .ne 43, 3) := by decide +kernel
theorem dX12_comesTo_135 : decode cX12_comesTo 135 = .ok (.aload_n 0, 1) := by decide +kernel
theorem dX12_comesTo_136 : decode cX12_comesTo 136 = .ok (.getfield 69, 3) := by decide +kernel
theorem dX12_comesTo_139 : decode cX12_comesTo 139 = .ok (.iload_n 3, 1) := by decide +kernel
theorem dX12_comesTo_140 : decode cX12_comesTo 140 = .ok (.iconst 1, 1) := by decide +kernel
theorem dX12_comesTo_141 : decode cX12_comesTo 141 = .ok (.isub, 1) := by decide +kernel
theorem dX12_comesTo_142 : decode cX12_comesTo 142 = .ok (.iaload, 1) := by decide +kernel
theorem dX12_comesTo_143 : decode cX12_comesTo 143 = .ok (.iload 6, 2) := by decide +kernel
theorem dX12_comesTo_145 : decode cX12_comesTo 145 = .ok (.bipush 12, 2) := by decide +kernel
theorem dX12_comesTo_147 : decode cX12_comesTo 147 = .ok (.if_icmp .ne 7, 3) := by decide +kernel
theorem dX12_comesTo_150 : decode cX12_comesTo 150 = .ok (.iconst 1, 1) := by decide +kernel
theorem dX12_comesTo_151 : decode cX12_comesTo 151 = .ok (.goto 4, 3) := by decide +kernel
theorem dX12_comesTo_154 : decode cX12_comesTo 154 = .ok (.iconst 0, 1) := by decide +kernel
theorem dX12_comesTo_155 : decode cX12_comesTo 155 = .ok (.if_icmp .ne 13, 3) := by decide +kernel
theorem dX12_comesTo_158 : decode cX12_comesTo 158 = .ok (.iload 4, 2) := by decide +kernel
theorem dX12_comesTo_160 : decode cX12_comesTo 160 = .ok (.iload 7, 2) := by decide +kernel
theorem dX12_comesTo_162 : decode cX12_comesTo 162 = .ok (.iadd, 1) := by decide +kernel
theorem dX12_comesTo_163 : decode cX12_comesTo 163 = .ok (.istore 5, 2) := by decide +kernel
theorem dX12_comesTo_165 : decode cX12_comesTo 165 = .ok (.goto 65, 3) := by decide +kernel
theorem dX12_comesTo_168 : decode cX12_comesTo 168 = .ok (.iload_n 3, 1) := by decide +kernel
theorem dX12_comesTo_169 : decode cX12_comesTo 169 = .ok (.iconst 1, 1) := by decide +kernel
theorem dX12_comesTo_170 : decode cX12_comesTo 170 = .ok (.isub, 1) := by decide +kernel
theorem dX12_comesTo_171 : decode cX12_comesTo 171 = .ok (.istore_n 3, 1) := by decide +kernel
theorem dX12_comesTo_172 : decode cX12_comesTo 172 = .ok (.goto 58, 3) := by decide +kernel
theorem dX12_comesTo_175 : decode cX12_comesTo 175 = .ok (.iload_n 3, 1) := by decide +kernel
theorem dX12_comesTo_176 : decode cX12_comesTo 176 = .ok (.iconst 1, 1) := by decide +kernel
theorem dX12_comesTo_177 : decode cX12_comesTo 177 = .ok (.isub, 1) := by decide +kernel
theorem dX12_comesTo_178 : decode cX12_comesTo 178 = .ok (.istore_n 3, 1) := by decide +kernel
theorem dX12_comesTo_179 : decode cX12_comesTo 179 = .ok (.iload 6, 2) := by decide +kernel
theorem dX12_comesTo_181 : decode cX12_comesTo 181 = .ok (.iconst 5, 1) := by decide +kernel
theorem dX12_comesTo_182 : decode cX12_comesTo 182 = .ok (.if_icmp .eq 10, 3) := by decide +kernel
theorem dX12_comesTo_185 : decode cX12_comesTo 185 = .ok (.iload 6, 2) := by decide +kernel
theorem dX12_comesTo_187 : decode cX12_comesTo 187 = .ok (.bipush 6, 2) := by decide +kernel
theorem dX12_comesTo_189 : decode cX12_comesTo 189 = .ok (.if_icmp .ne 14, 3) := by decide +kernel
theorem dX12_comesTo_192 : decode cX12_comesTo 192 = .ok (.aload_n 0, 1) := by decide +kernel
theorem dX12_comesTo_193 : decode cX12_comesTo 193 = .ok (.getfield 69, 3) := by decide +kernel
theorem dX12_comesTo_196 : decode cX12_comesTo 196 = .ok (.iload_n 3, 1) := by decide +kernel
theorem dX12_comesTo_197 : decode cX12_comesTo 197 = .ok (.iaload, 1) := by decide +kernel
theorem dX12_comesTo_198 : decode cX12_comesTo 198 = .ok (.ifCond .ne 5, 3) := by decide +kernel
theorem dX12_comesTo_201 : decode cX12_comesTo 201 = .ok (.iconst 0, 1) := by decide +kernel
theorem dX12_comesTo_202 : decode cX12_comesTo 202 = .ok (.ireturn, 1) := by decide +kernel
theorem dX12_comesTo_203 : decode cX12_comesTo 203 = .ok (.aload_n 0, 1) := by decide +kernel
theorem dX12_comesTo_204 : decode cX12_comesTo 204 = .ok (.getfield 69, 3) := by decide +kernel
theorem dX12_comesTo_207 : decode cX12_comesTo 207 = .ok (.iload_n 3, 1) := by decide +kernel
theorem dX12_comesTo_208 : decode cX12_comesTo 208 = .ok (.iconst 1, 1) := by decide +kernel
theorem dX12_comesTo_209 : decode cX12_comesTo 209 = .ok (.isub, 1) := by decide +kernel
theorem dX12_comesTo_210 : decode cX12_comesTo 210 = .ok (.iload 6, 2) := by decide +kernel
theorem dX12_comesTo_212 : decode cX12_comesTo 212 = .ok (.aload_n 0, 1) := by decide +kernel
theorem dX12_comesTo_213 : decode cX12_comesTo 213 = .ok (.getfield 69, 3) := by decide +kernel
theorem dX12_comesTo_216 : decode cX12_comesTo 216 = .ok (.iload_n 3, 1) := by decide +kernel
theorem dX12_comesTo_217 : decode cX12_comesTo 217 = .ok (.iconst 1, 1) := by decide +kernel
theorem dX12_comesTo_218 : decode cX12_comesTo 218 = .ok (.isub, 1) := by decide +kernel
theorem dX12_comesTo_219 : decode cX12_comesTo 219 = .ok (.iaload, 1) := by decide +kernel
theorem dX12_comesTo_220 : decode cX12_comesTo 220 = .ok (.aload_n 0, 1) := by decide +kernel
theorem dX12_comesTo_221 : decode cX12_comesTo 221 = .ok (.getfield 69, 3) := by decide +kernel
theorem dX12_comesTo_224 : decode cX12_comesTo 224 = .ok (.iload_n 3, 1) := by decide +kernel
theorem dX12_comesTo_225 : decode cX12_comesTo 225 = .ok (.iaload, 1) := by decide +kernel
theorem dX12_comesTo_226 : decode cX12_comesTo 226 = .ok (.invokestatic 316, 3) := by decide +kernel
theorem dX12_comesTo_229 : decode cX12_comesTo 229 = .ok (.iastore, 1) := by decide +kernel
theorem dX12_comesTo_230 : decode cX12_comesTo 230 = .ok (.goto (-214), 3) := by decide +kernel
theorem dX12_comesTo_233 : decode cX12_comesTo 233 = .ok (.aload_n 0, 1) := by decide +kernel
theorem dX12_comesTo_234 : decode cX12_comesTo 234 = .ok (.getfield 69, 3) := by decide +kernel
theorem dX12_comesTo_237 : decode cX12_comesTo 237 = .ok (.iconst 0, 1) := by decide +kernel
theorem dX12_comesTo_238 : decode cX12_comesTo 238 = .ok (.iaload, 1) := by decide +kernel
theorem dX12_comesTo_239 : decode cX12_comesTo 239 = .ok (.ireturn, 1) := by decide +kernel
theorem dX12_landOnWay_0 : decode cX12_landOnWay 0 = .ok (.iconst 0, 1) := by decide +kernel
theorem dX12_landOnWay_1 : decode cX12_landOnWay 1 = .ok (.istore 6, 2) := by decide +kernel
theorem dX12_landOnWay_3 : decode cX12_landOnWay 3 = .ok (.iload_n 2, 1) := by decide +kernel
theorem dX12_landOnWay_4 : decode cX12_landOnWay 4 = .ok (.istore 7, 2) := by decide +kernel
theorem dX12_landOnWay_6 : decode cX12_landOnWay 6 = .ok (.iload_n 3, 1) := by decide +kernel
theorem dX12_landOnWay_7 : decode cX12_landOnWay 7 = .ok (.istore 8, 2) := by decide +kernel
theorem dX12_landOnWay_9 : decode cX12_landOnWay 9 = .ok (.iload 7, 2) := by decide +kernel
theorem dX12_landOnWay_11 : decode cX12_landOnWay 11 = .ok (.iload 4, 2) := by decide +kernel
theorem dX12_landOnWay_13 : decode cX12_landOnWay 13 = .ok (.if_icmp .ne 10, 3) := by decide +kernel
theorem dX12_landOnWay_16 : decode cX12_landOnWay 16 = .ok (.iload 8, 2) := by decide +kernel
theorem dX12_landOnWay_18 : decode cX12_landOnWay 18 = .ok (.iload 5, 2) := by decide +kernel
theorem dX12_landOnWay_20 : decode cX12_landOnWay 20 = .ok (.if_icmp .eq 86, 3) := by decide +kernel
theorem dX12_landOnWay_23 : decode cX12_landOnWay 23 = .ok (.iload 7, 2) := by decide +kernel
theorem dX12_landOnWay_25 : decode cX12_landOnWay 25 = .ok (.iload_n 2, 1) := by decide +kernel
theorem dX12_landOnWay_26 : decode cX12_landOnWay 26 = .ok (.if_icmp .ne 9, 3) := by decide +kernel
theorem dX12_landOnWay_29 : decode cX12_landOnWay 29 = .ok (.iload 8, 2) := by decide +kernel
theorem dX12_landOnWay_31 : decode cX12_landOnWay 31 = .ok (.iload_n 3, 1) := by decide +kernel
theorem dX12_landOnWay_32 : decode cX12_landOnWay 32 = .ok (.if_icmp .eq 21, 3) := by decide +kernel
theorem dX12_landOnWay_35 : decode cX12_landOnWay 35 = .ok (.aload_n 0, 1) := by decide +kernel
theorem dX12_landOnWay_36 : decode cX12_landOnWay 36 = .ok (.iload_n 1, 1) := by decide +kernel
theorem dX12_landOnWay_37 : decode cX12_landOnWay 37 = .ok (.iload 7, 2) := by decide +kernel
theorem dX12_landOnWay_39 : decode cX12_landOnWay 39 = .ok (.iload 8, 2) := by decide +kernel
theorem dX12_landOnWay_41 : decode cX12_landOnWay 41 = .ok (.invokevirtual 193, 3) := by decide +kernel
theorem dX12_landOnWay_44 : decode cX12_landOnWay 44 = .ok (.ifCond .eq 9, 3) := by decide +kernel
theorem dX12_landOnWay_47 : decode cX12_landOnWay 47 = .ok (.iload 6, 2) := by decide +kernel
theorem dX12_landOnWay_49 : decode cX12_landOnWay 49 = .ok (.iconst 1, 1) := by decide +kernel
theorem dX12_landOnWay_50 : decode cX12_landOnWay 50 = .ok (.iadd, 1) := by decide +kernel
theorem dX12_landOnWay_51 : decode cX12_landOnWay 51 = .ok (.istore 6, 2) := by decide +kernel
theorem dX12_landOnWay_53 : decode cX12_landOnWay 53 = .ok (.iload 7, 2) := by decide +kernel
theorem dX12_landOnWay_55 : decode cX12_landOnWay 55 = .ok (.iload 4, 2) := by decide +kernel
theorem dX12_landOnWay_57 : decode cX12_landOnWay 57 = .ok (.if_icmp .eq 26, 3) := by decide +kernel
theorem dX12_landOnWay_60 : decode cX12_landOnWay 60 = .ok (.iload 7, 2) := by decide +kernel
theorem dX12_landOnWay_62 : decode cX12_landOnWay 62 = .ok (.iload 4, 2) := by decide +kernel
theorem dX12_landOnWay_64 : decode cX12_landOnWay 64 = .ok (.if_icmp .ge 10, 3) := by decide +kernel
theorem dX12_landOnWay_67 : decode cX12_landOnWay 67 = .ok (.iload 7, 2) := by decide +kernel
theorem dX12_landOnWay_69 : decode cX12_landOnWay 69 = .ok (.iconst 1, 1) := by decide +kernel
theorem dX12_landOnWay_70 : decode cX12_landOnWay 70 = .ok (.iadd, 1) := by decide +kernel
theorem dX12_landOnWay_71 : decode cX12_landOnWay 71 = .ok (.goto 7, 3) := by decide +kernel
theorem dX12_landOnWay_74 : decode cX12_landOnWay 74 = .ok (.iload 7, 2) := by decide +kernel
theorem dX12_landOnWay_76 : decode cX12_landOnWay 76 = .ok (.iconst 1, 1) := by decide +kernel
theorem dX12_landOnWay_77 : decode cX12_landOnWay 77 = .ok (.isub, 1) := by decide +kernel
theorem dX12_landOnWay_78 : decode cX12_landOnWay 78 = .ok (.istore 7, 2) := by decide +kernel
theorem dX12_landOnWay_80 : decode cX12_landOnWay 80 = .ok (.goto (-71), 3) := by decide +kernel
theorem dX12_landOnWay_83 : decode cX12_landOnWay 83 = .ok (.iload 8, 2) := by decide +kernel
theorem dX12_landOnWay_85 : decode cX12_landOnWay 85 = .ok (.iload 5, 2) := by decide +kernel
theorem dX12_landOnWay_87 : decode cX12_landOnWay 87 = .ok (.if_icmp .ge 10, 3) := by decide +kernel
theorem dX12_landOnWay_90 : decode cX12_landOnWay 90 = .ok (.iload 8, 2) := by decide +kernel
theorem dX12_landOnWay_92 : decode cX12_landOnWay 92 = .ok (.iconst 1, 1) := by decide +kernel
theorem dX12_landOnWay_93 : decode cX12_landOnWay 93 = .ok (.iadd, 1) := by decide +kernel
theorem dX12_landOnWay_94 : decode cX12_landOnWay 94 = .ok (.goto 7, 3) := by decide +kernel
theorem dX12_landOnWay_97 : decode cX12_landOnWay 97 = .ok (.iload 8, 2) := by decide +kernel
theorem dX12_landOnWay_99 : decode cX12_landOnWay 99 = .ok (.iconst 1, 1) := by decide +kernel
theorem dX12_landOnWay_100 : decode cX12_landOnWay 100 = .ok (.isub, 1) := by decide +kernel
theorem dX12_landOnWay_101 : decode cX12_landOnWay 101 = .ok (.istore 8, 2) := by decide +kernel
theorem dX12_landOnWay_103 : decode cX12_landOnWay 103 = .ok (.goto (-94), 3) := by decide +kernel
theorem dX12_landOnWay_106 : decode cX12_landOnWay 106 = .ok (.iload 6, 2) := by decide +kernel
theorem dX12_landOnWay_108 : decode cX12_landOnWay 108 = .ok (.ireturn, 1) := by decide +kernel
theorem dX12_levelOf_0 : decode cX12_levelOf 0 = .ok (.aload_n 0, 1) := by decide +kernel
theorem dX12_levelOf_1 : decode cX12_levelOf 1 = .ok (.getfield 72, 3) := by decide +kernel
theorem dX12_levelOf_4 : decode cX12_levelOf 4 = .ok (.iconst 0, 1) := by decide +kernel
theorem dX12_levelOf_5 : decode cX12_levelOf 5 = .ok (.aload_n 0, 1) := by decide +kernel
theorem dX12_levelOf_6 : decode cX12_levelOf 6 = .ok (.getfield 35, 3) := by decide +kernel
theorem dX12_levelOf_9 : decode cX12_levelOf 9 = .ok (.iload_n 2, 1) := by decide +kernel
theorem dX12_levelOf_10 : decode cX12_levelOf 10 = .ok (.iaload, 1) := by decide +kernel
theorem dX12_levelOf_11 : decode cX12_levelOf 11 = .ok (.iastore, 1) := by decide +kernel
theorem dX12_levelOf_12 : decode cX12_levelOf 12 = .ok (.aload_n 0, 1) := by decide +kernel
theorem dX12_levelOf_13 : decode cX12_levelOf 13 = .ok (.getfield 72, 3) := by decide +kernel
theorem dX12_levelOf_16 : decode cX12_levelOf 16 = .ok (.iconst 1, 1) := by decide +kernel
theorem dX12_levelOf_17 : decode cX12_levelOf 17 = .ok (.aload_n 0, 1) := by decide +kernel
theorem dX12_levelOf_18 : decode cX12_levelOf 18 = .ok (.getfield 32, 3) := by decide +kernel
theorem dX12_levelOf_21 : decode cX12_levelOf 21 = .ok (.iload_n 2, 1) := by decide +kernel
theorem dX12_levelOf_22 : decode cX12_levelOf 22 = .ok (.iaload, 1) := by decide +kernel
theorem dX12_levelOf_23 : decode cX12_levelOf 23 = .ok (.iastore, 1) := by decide +kernel
theorem dX12_levelOf_24 : decode cX12_levelOf 24 = .ok (.aload_n 0, 1) := by decide +kernel
theorem dX12_levelOf_25 : decode cX12_levelOf 25 = .ok (.getfield 72, 3) := by decide +kernel
theorem dX12_levelOf_28 : decode cX12_levelOf 28 = .ok (.iconst 2, 1) := by decide +kernel
theorem dX12_levelOf_29 : decode cX12_levelOf 29 = .ok (.iload_n 2, 1) := by decide +kernel
theorem dX12_levelOf_30 : decode cX12_levelOf 30 = .ok (.iastore, 1) := by decide +kernel
theorem dX12_levelOf_31 : decode cX12_levelOf 31 = .ok (.aload_n 0, 1) := by decide +kernel
theorem dX12_levelOf_32 : decode cX12_levelOf 32 = .ok (.getfield 72, 3) := by decide +kernel
theorem dX12_levelOf_35 : decode cX12_levelOf 35 = .ok (.iconst 3, 1) := by decide +kernel
theorem dX12_levelOf_36 : decode cX12_levelOf 36 = .ok (.iload 5, 2) := by decide +kernel
theorem dX12_levelOf_38 : decode cX12_levelOf 38 = .ok (.iastore, 1) := by decide +kernel
theorem dX12_levelOf_39 : decode cX12_levelOf 39 = .ok (.aload_n 0, 1) := by decide +kernel
theorem dX12_levelOf_40 : decode cX12_levelOf 40 = .ok (.getfield 72, 3) := by decide +kernel
theorem dX12_levelOf_43 : decode cX12_levelOf 43 = .ok (.iconst 4, 1) := by decide +kernel
theorem dX12_levelOf_44 : decode cX12_levelOf 44 = .ok (.iload 6, 2) := by decide +kernel
theorem dX12_levelOf_46 : decode cX12_levelOf 46 = .ok (.iastore, 1) := by decide +kernel
theorem dX12_levelOf_47 : decode cX12_levelOf 47 = .ok (.aload_n 0, 1) := by decide +kernel
theorem dX12_levelOf_48 : decode cX12_levelOf 48 = .ok (.getfield 72, 3) := by decide +kernel
theorem dX12_levelOf_51 : decode cX12_levelOf 51 = .ok (.iconst 5, 1) := by decide +kernel
theorem dX12_levelOf_52 : decode cX12_levelOf 52 = .ok (.aload_n 0, 1) := by decide +kernel
theorem dX12_levelOf_53 : decode cX12_levelOf 53 = .ok (.getfield 26, 3) := by decide +kernel
theorem dX12_levelOf_56 : decode cX12_levelOf 56 = .ok (.iload_n 2, 1) := by decide +kernel
theorem dX12_levelOf_57 : decode cX12_levelOf 57 = .ok (.iaload, 1) := by decide +kernel
theorem dX12_levelOf_58 : decode cX12_levelOf 58 = .ok (.iload_n 3, 1) := by decide +kernel
theorem dX12_levelOf_59 : decode cX12_levelOf 59 = .ok (.isub, 1) := by decide +kernel
theorem dX12_levelOf_60 : decode cX12_levelOf 60 = .ok (.invokestatic 320, 3) := by decide +kernel
theorem dX12_levelOf_63 : decode cX12_levelOf 63 = .ok (.aload_n 0, 1) := by decide +kernel
theorem dX12_levelOf_64 : decode cX12_levelOf 64 = .ok (.getfield 29, 3) := by decide +kernel
theorem dX12_levelOf_67 : decode cX12_levelOf 67 = .ok (.iload_n 2, 1) := by decide +kernel
theorem dX12_levelOf_68 : decode cX12_levelOf 68 = .ok (.iaload, 1) := by decide +kernel
theorem dX12_levelOf_69 : decode cX12_levelOf 69 = .ok (.iload 4, 2) := by decide +kernel
theorem dX12_levelOf_71 : decode cX12_levelOf 71 = .ok (.isub, 1) := by decide +kernel
theorem dX12_levelOf_72 : decode cX12_levelOf 72 = .ok (.invokestatic 320, 3) := by decide +kernel
theorem dX12_levelOf_75 : decode cX12_levelOf 75 = .ok (.iadd, 1) := by decide +kernel
theorem dX12_levelOf_76 : decode cX12_levelOf 76 = .ok (.iastore, 1) := by decide +kernel
theorem dX12_levelOf_77 : decode cX12_levelOf 77 = .ok (.aload_n 0, 1) := by decide +kernel
theorem dX12_levelOf_78 : decode cX12_levelOf 78 = .ok (.getfield 72, 3) := by decide +kernel
theorem dX12_levelOf_81 : decode cX12_levelOf 81 = .ok (.bipush 6, 2) := by decide +kernel
theorem dX12_levelOf_83 : decode cX12_levelOf 83 = .ok (.aload_n 0, 1) := by decide +kernel
theorem dX12_levelOf_84 : decode cX12_levelOf 84 = .ok (.getfield 29, 3) := by decide +kernel
theorem dX12_levelOf_87 : decode cX12_levelOf 87 = .ok (.iload_n 2, 1) := by decide +kernel
theorem dX12_levelOf_88 : decode cX12_levelOf 88 = .ok (.iaload, 1) := by decide +kernel
theorem dX12_levelOf_89 : decode cX12_levelOf 89 = .ok (.iload 4, 2) := by decide +kernel
theorem dX12_levelOf_91 : decode cX12_levelOf 91 = .ok (.isub, 1) := by decide +kernel
theorem dX12_levelOf_92 : decode cX12_levelOf 92 = .ok (.iastore, 1) := by decide +kernel
theorem dX12_levelOf_93 : decode cX12_levelOf 93 = .ok (.aload_n 0, 1) := by decide +kernel
theorem dX12_levelOf_94 : decode cX12_levelOf 94 = .ok (.getfield 72, 3) := by decide +kernel
theorem dX12_levelOf_97 : decode cX12_levelOf 97 = .ok (.bipush 7, 2) := by decide +kernel
theorem dX12_levelOf_99 : decode cX12_levelOf 99 = .ok (.aload_n 0, 1) := by decide +kernel
theorem dX12_levelOf_100 : decode cX12_levelOf 100 = .ok (.getfield 26, 3) := by decide +kernel
theorem dX12_levelOf_103 : decode cX12_levelOf 103 = .ok (.iload_n 2, 1) := by decide +kernel
theorem dX12_levelOf_104 : decode cX12_levelOf 104 = .ok (.iaload, 1) := by decide +kernel
theorem dX12_levelOf_105 : decode cX12_levelOf 105 = .ok (.iload_n 3, 1) := by decide +kernel
theorem dX12_levelOf_106 : decode cX12_levelOf 106 = .ok (.isub, 1) := by decide +kernel
theorem dX12_levelOf_107 : decode cX12_levelOf 107 = .ok (.iastore, 1) := by decide +kernel
theorem dX12_levelOf_108 : decode cX12_levelOf 108 = .ok (.aload_n 0, 1) := by decide +kernel
