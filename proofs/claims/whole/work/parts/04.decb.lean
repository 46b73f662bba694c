theorem dX11_init_0 : decode cX11_init 0 = .ok (.aload_n 0, 1) := by decide +kernel
theorem dX11_init_1 : decode cX11_init 1 = .ok (.invokespecial 1, 3) := by decide +kernel
theorem dX11_init_4 : decode cX11_init 4 = .ok (.aload_n 0, 1) := by decide +kernel
theorem dX11_init_5 : decode cX11_init 5 = .ok (.sipush 220, 3) := by decide +kernel
theorem dX11_init_8 : decode cX11_init 8 = .ok (.newarray .byte, 2) := by decide +kernel
theorem dX11_init_10 : decode cX11_init 10 = .ok (.putfield 7, 3) := by decide +kernel
theorem dX11_init_13 : decode cX11_init 13 = .ok (.aload_n 0, 1) := by decide +kernel
theorem dX11_init_14 : decode cX11_init 14 = .ok (.iconst 1, 1) := by decide +kernel
theorem dX11_init_15 : decode cX11_init 15 = .ok (.putfield 13, 3) := by decide +kernel
theorem dX11_init_18 : decode cX11_init 18 = .ok (.aload_n 0, 1) := by decide +kernel
theorem dX11_init_19 : decode cX11_init 19 = .ok (.sipush 256, 3) := by decide +kernel
theorem dX11_init_22 : decode cX11_init 22 = .ok (.newarray .int, 2) := by decide +kernel
theorem dX11_init_24 : decode cX11_init 24 = .ok (.putfield 17, 3) := by decide +kernel
theorem dX11_init_27 : decode cX11_init 27 = .ok (.aload_n 0, 1) := by decide +kernel
theorem dX11_init_28 : decode cX11_init 28 = .ok (.sipush 256, 3) := by decide +kernel
theorem dX11_init_31 : decode cX11_init 31 = .ok (.newarray .boolean, 2) := by decide +kernel
theorem dX11_init_33 : decode cX11_init 33 = .ok (.putfield 21, 3) := by decide +kernel
theorem dX11_init_36 : decode cX11_init 36 = .ok (.aload_n 0, 1) := by decide +kernel
theorem dX11_init_37 : decode cX11_init 37 = .ok (.sipush 256, 3) := by decide +kernel
theorem dX11_init_40 : decode cX11_init 40 = .ok (.newarray .int, 2) := by decide +kernel
theorem dX11_init_42 : decode cX11_init 42 = .ok (.putfield 25, 3) := by decide +kernel
theorem dX11_init_45 : decode cX11_init 45 = .ok (.aload_n 0, 1) := by decide +kernel
theorem dX11_init_46 : decode cX11_init 46 = .ok (.bipush 12, 2) := by decide +kernel
theorem dX11_init_48 : decode cX11_init 48 = .ok (.newarray .int, 2) := by decide +kernel
theorem dX11_init_50 : decode cX11_init 50 = .ok (.putfield 28, 3) := by decide +kernel
theorem dX11_init_53 : decode cX11_init 53 = .ok (.aload_n 0, 1) := by decide +kernel
theorem dX11_init_54 : decode cX11_init 54 = .ok (.bipush 12, 2) := by decide +kernel
theorem dX11_init_56 : decode cX11_init 56 = .ok (.newarray .int, 2) := by decide +kernel
theorem dX11_init_58 : decode cX11_init 58 = .ok (.putfield 31, 3) := by decide +kernel
theorem dX11_init_61 : decode cX11_init 61 = .ok (.aload_n 0, 1) := by decide +kernel
theorem dX11_init_62 : decode cX11_init 62 = .ok (.bipush 12, 2) := by decide +kernel
theorem dX11_init_64 : decode cX11_init 64 = .ok (.newarray .int, 2) := by decide +kernel
theorem dX11_init_66 : decode cX11_init 66 = .ok (.putfield 34, 3) := by decide +kernel
theorem dX11_init_69 : decode cX11_init 69 = .ok (.aload_n 0, 1) := by decide +kernel
theorem dX11_init_70 : decode cX11_init 70 = .ok (.bipush 12, 2) := by decide +kernel
theorem dX11_init_72 : decode cX11_init 72 = .ok (.newarray .int, 2) := by decide +kernel
theorem dX11_init_74 : decode cX11_init 74 = .ok (.putfield 37, 3) := by decide +kernel
theorem dX11_init_77 : decode cX11_init 77 = .ok (.aload_n 0, 1) := by decide +kernel
theorem dX11_init_78 : decode cX11_init 78 = .ok (.bipush 12, 2) := by decide +kernel
theorem dX11_init_80 : decode cX11_init 80 = .ok (.newarray .int, 2) := by decide +kernel
theorem dX11_init_82 : decode cX11_init 82 = .ok (.putfield 40, 3) := by decide +kernel
theorem dX11_init_85 : decode cX11_init 85 = .ok (.aload_n 0, 1) := by decide +kernel
theorem dX11_init_86 : decode cX11_init 86 = .ok (.bipush 8, 2) := by decide +kernel
theorem dX11_init_88 : decode cX11_init 88 = .ok (.newarray .int, 2) := by decide +kernel
theorem dX11_init_90 : decode cX11_init 90 = .ok (.putfield 43, 3) := by decide +kernel
theorem dX11_init_93 : decode cX11_init 93 = .ok (.aload_n 0, 1) := by decide +kernel
theorem dX11_init_94 : decode cX11_init 94 = .ok (.bipush 8, 2) := by decide +kernel
theorem dX11_init_96 : decode cX11_init 96 = .ok (.newarray .int, 2) := by decide +kernel
theorem dX11_init_98 : decode cX11_init 98 = .ok (.putfield 46, 3) := by decide +kernel
theorem dX11_init_101 : decode cX11_init 101 = .ok (.aload_n 0, 1) := by decide +kernel
theorem dX11_init_102 : decode cX11_init 102 = .ok (.bipush 14, 2) := by decide +kernel
theorem dX11_init_104 : decode cX11_init 104 = .ok (.newarray .int, 2) := by decide +kernel
theorem dX11_init_106 : decode cX11_init 106 = .ok (.putfield 49, 3) := by decide +kernel
theorem dX11_init_109 : decode cX11_init 109 = .ok (.aload_n 0, 1) := by decide +kernel
theorem dX11_init_110 : decode cX11_init 110 = .ok (.bipush 14, 2) := by decide +kernel
theorem dX11_init_112 : decode cX11_init 112 = .ok (.newarray .int, 2) := by decide +kernel
theorem dX11_init_114 : decode cX11_init 114 = .ok (.putfield 52, 3) := by decide +kernel
theorem dX11_init_117 : decode cX11_init 117 = .ok (.aload_n 0, 1) := by decide +kernel
theorem dX11_init_118 : decode cX11_init 118 = .ok (.bipush 14, 2) := by decide +kernel
theorem dX11_init_120 : decode cX11_init 120 = .ok (.newarray .int, 2) := by decide +kernel
theorem dX11_init_122 : decode cX11_init 122 = .ok (.putfield 55, 3) := by decide +kernel
theorem dX11_init_125 : decode cX11_init 125 = .ok (.aload_n 0, 1) := by decide +kernel
theorem dX11_init_126 : decode cX11_init 126 = .ok (.bipush 14, 2) := by decide +kernel
theorem dX11_init_128 : decode cX11_init 128 = .ok (.newarray .int, 2) := by decide +kernel
theorem dX11_init_130 : decode cX11_init 130 = .ok (.putfield 58, 3) := by decide +kernel
theorem dX11_init_133 : decode cX11_init 133 = .ok (.aload_n 0, 1) := by decide +kernel
theorem dX11_init_134 : decode cX11_init 134 = .ok (.sipush 200, 3) := by decide +kernel
theorem dX11_init_137 : decode cX11_init 137 = .ok (.newarray .int, 2) := by decide +kernel
theorem dX11_init_139 : decode cX11_init 139 = .ok (.putfield 61, 3) := by decide +kernel
theorem dX11_init_142 : decode cX11_init 142 = .ok (.aload_n 0, 1) := by decide +kernel
theorem dX11_init_143 : decode cX11_init 143 = .ok (.sipush 200, 3) := by decide +kernel
theorem dX11_init_146 : decode cX11_init 146 = .ok (.newarray .int, 2) := by decide +kernel
theorem dX11_init_148 : decode cX11_init 148 = .ok (.putfield 64, 3) := by decide +kernel
theorem dX11_init_151 : decode cX11_init 151 = .ok (.aload_n 0, 1) := by decide +kernel
theorem dX11_init_152 : decode cX11_init 152 = .ok (.bipush 14, 2) := by decide +kernel
theorem dX11_init_154 : decode cX11_init 154 = .ok (.newarray .int, 2) := by decide +kernel
theorem dX11_init_156 : decode cX11_init 156 = .ok (.putfield 67, 3) := by decide +kernel
theorem dX11_init_159 : decode cX11_init 159 = .ok (.aload_n 0, 1) := by decide +kernel
theorem dX11_init_160 : decode cX11_init 160 = .ok (.bipush 14, 2) := by decide +kernel
theorem dX11_init_162 : decode cX11_init 162 = .ok (.newarray .int, 2) := by decide +kernel
theorem dX11_init_164 : decode cX11_init 164 = .ok (.putfield 70, 3) := by decide +kernel
theorem dX11_init_167 : decode cX11_init 167 = .ok (.aload_n 0, 1) := by decide +kernel
theorem dX11_init_168 : decode cX11_init 168 = .ok (.bipush 14, 2) := by decide +kernel
theorem dX11_init_170 : decode cX11_init 170 = .ok (.newarray .int, 2) := by decide +kernel
theorem dX11_init_172 : decode cX11_init 172 = .ok (.putfield 73, 3) := by decide +kernel
theorem dX11_init_175 : decode cX11_init 175 = .ok (.aload_n 0, 1) := by decide +kernel
theorem dX11_init_176 : decode cX11_init 176 = .ok (.bipush 14, 2) := by decide +kernel
theorem dX11_init_178 : decode cX11_init 178 = .ok (.newarray .int, 2) := by decide +kernel
theorem dX11_init_180 : decode cX11_init 180 = .ok (.putfield 76, 3) := by decide +kernel
theorem dX11_init_183 : decode cX11_init 183 = .ok (.aload_n 0, 1) := by decide +kernel
theorem dX11_init_184 : decode cX11_init 184 = .ok (.sipush 200, 3) := by decide +kernel
theorem dX11_init_187 : decode cX11_init 187 = .ok (.newarray .int, 2) := by decide +kernel
theorem dX11_init_189 : decode cX11_init 189 = .ok (.putfield 79, 3) := by decide +kernel
theorem dX11_init_192 : decode cX11_init 192 = .ok (.aload_n 0, 1) := by decide +kernel
theorem dX11_init_193 : decode cX11_init 193 = .ok (.sipush 200, 3) := by decide +kernel
theorem dX11_init_196 : decode cX11_init 196 = .ok (.newarray .int, 2) := by decide +kernel
theorem dX11_init_198 : decode cX11_init 198 = .ok (.putfield 82, 3) := by decide +kernel
theorem dX11_init_201 : decode cX11_init 201 = .ok (.aload_n 0, 1) := by decide +kernel
theorem dX11_init_202 : decode cX11_init 202 = .ok (.sipush 240, 3) := by decide +kernel
theorem dX11_init_205 : decode cX11_init 205 = .ok (.newarray .int, 2) := by decide +kernel
theorem dX11_init_207 : decode cX11_init 207 = .ok (.putfield 85, 3) := by decide +kernel
theorem dX11_init_210 : decode cX11_init 210 = .ok (.aload_n 0, 1) := by decide +kernel
theorem dX11_init_211 : decode cX11_init 211 = .ok (.sipush 240, 3) := by decide +kernel
theorem dX11_init_214 : decode cX11_init 214 = .ok (.newarray .int, 2) := by decide +kernel
theorem dX11_init_216 : decode cX11_init 216 = .ok (.putfield 88, 3) := by decide +kernel
theorem dX11_init_219 : decode cX11_init 219 = .ok (.aload_n 0, 1) := by decide +kernel
theorem dX11_init_220 : decode cX11_init 220 = .ok (.sipush 240, 3) := by decide +kernel
theorem dX11_init_223 : decode cX11_init 223 = .ok (.newarray .boolean, 2) := by decide +kernel
theorem dX11_init_225 : decode cX11_init 225 = .ok (.putfield 91, 3) := by decide +kernel
theorem dX11_init_228 : decode cX11_init 228 = .ok (.aload_n 0, 1) := by decide +kernel
theorem dX11_init_229 : decode cX11_init 229 = .ok (.bipush 8, 2) := by decide +kernel
theorem dX11_init_231 : decode cX11_init 231 = .ok (.newarray .int, 2) := by decide +kernel
theorem dX11_init_233 : decode cX11_init 233 = .ok (.putfield 94, 3) := by decide +kernel
theorem dX11_init_236 : decode cX11_init 236 = .ok (.aload_n 0, 1) := by decide +kernel
theorem dX11_init_237 : decode cX11_init 237 = .ok (.sipush 256, 3) := by decide +kernel
theorem dX11_init_240 : decode cX11_init 240 = .ok (.newarray .int, 2) := by decide +kernel
theorem dX11_init_242 : decode cX11_init 242 = .ok (.putfield 97, 3) := by decide +kernel
theorem dX11_init_245 : decode cX11_init 245 = .ok (.aload_n 0, 1) := by decide +kernel
theorem dX11_init_246 : decode cX11_init 246 = .ok (.sipush 512, 3) := by decide +kernel
theorem dX11_init_249 : decode cX11_init 249 = .ok (.newarray .int, 2) := by decide +kernel
theorem dX11_init_251 : decode cX11_init 251 = .ok (.putfield 100, 3) := by decide +kernel
theorem dX11_init_254 : decode cX11_init 254 = .ok (.aload_n 0, 1) := by decide +kernel
theorem dX11_init_255 : decode cX11_init 255 = .ok (.sipush 512, 3) := by decide +kernel
theorem dX11_init_258 : decode cX11_init 258 = .ok (.newarray .boolean, 2) := by decide +kernel
theorem dX11_init_260 : decode cX11_init 260 = .ok (.putfield 103, 3) := by decide +kernel
theorem dX11_init_263 : decode cX11_init 263 = .ok (.aload_n 0, 1) := by decide +kernel
theorem dX11_init_264 : decode cX11_init 264 = .ok (.sipush 512, 3) := by decide +kernel
theorem dX11_init_267 : decode cX11_init 267 = .ok (.newarray .int, 2) := by decide +kernel
theorem dX11_init_269 : decode cX11_init 269 = .ok (.putfield 106, 3) := by decide +kernel
theorem dX11_init_272 : decode cX11_init 272 = .ok (.aload_n 0, 1) := by decide +kernel
theorem dX11_init_273 : decode cX11_init 273 = .ok (.bipush 16, 2) := by decide +kernel
theorem dX11_init_275 : decode cX11_init 275 = .ok (.newarray .int, 2) := by decide +kernel
theorem dX11_init_277 : decode cX11_init 277 = .ok (.putfield 109, 3) := by decide +kernel
theorem dX11_init_280 : decode cX11_init 280 = .ok (.aload_n 0, 1) := by decide +kernel
theorem dX11_init_281 : decode cX11_init 281 = .ok (.iconst 2, 1) := by decide +kernel
theorem dX11_init_282 : decode cX11_init 282 = .ok (.newarray .int, 2) := by decide +kernel
theorem dX11_init_284 : decode cX11_init 284 = .ok (.putfield 112, 3) := by decide +kernel
theorem dX11_init_287 : decode cX11_init 287 = .ok (.aload_n 0, 1) := by decide +kernel
theorem dX11_init_288 : decode cX11_init 288 = .ok (.bipush 40, 2) := by decide +kernel
theorem dX11_init_290 : decode cX11_init 290 = .ok (.newarray .int, 2) := by decide +kernel
theorem dX11_init_292 : decode cX11_init 292 = .ok (.putfield 115, 3) := by decide +kernel
theorem dX11_init_295 : decode cX11_init 295 = .ok (.aload_n 0, 1) := by decide +kernel
theorem dX11_init_296 : decode cX11_init 296 = .ok (.bipush 10, 2) := by decide +kernel
theorem dX11_init_298 : decode cX11_init 298 = .ok (.newarray .int, 2) := by decide +kernel
theorem dX11_init_300 : decode cX11_init 300 = .ok (.putfield 118, 3) := by decide +kernel
theorem dX11_init_303 : decode cX11_init 303 = .ok (.aload_n 0, 1) := by decide +kernel
theorem dX11_init_304 : decode cX11_init 304 = .ok (.sipush 256, 3) := by decide +kernel
theorem dX11_init_307 : decode cX11_init 307 = .ok (.newarray .boolean, 2) := by decide +kernel
theorem dX11_init_309 : decode cX11_init 309 = .ok (.putfield 121, 3) := by decide +kernel
theorem dX11_init_312 : decode cX11_init 312 = .ok (.aload_n 0, 1) := by decide +kernel
theorem dX11_init_313 : decode cX11_init 313 = .ok (.bipush 12, 2) := by decide +kernel
theorem dX11_init_315 : decode cX11_init 315 = .ok (.newarray .int, 2) := by decide +kernel
theorem dX11_init_317 : decode cX11_init 317 = .ok (.putfield 124, 3) := by decide +kernel
theorem dX11_init_320 : decode cX11_init 320 = .ok (.aload_n 0, 1) := by decide +kernel
theorem dX11_init_321 : decode cX11_init 321 = .ok (.sipush 4096, 3) := by decide +kernel
theorem dX11_init_324 : decode cX11_init 324 = .ok (.newarray .int, 2) := by decide +kernel
theorem dX11_init_326 : decode cX11_init 326 = .ok (.putfield 127, 3) := by decide +kernel
theorem dX11_init_329 : decode cX11_init 329 = .ok (.aload_n 0, 1) := by decide +kernel
theorem dX11_init_330 : decode cX11_init 330 = .ok (.sipush 256, 3) := by decide +kernel
theorem dX11_init_333 : decode cX11_init 333 = .ok (.newarray .int, 2) := by decide +kernel
theorem dX11_init_335 : decode cX11_init 335 = .ok (.putfield 130, 3) := by decide +kernel
theorem dX11_init_338 : decode cX11_init 338 = .ok (.aload_n 0, 1) := by decide +kernel
theorem dX11_init_339 : decode cX11_init 339 = .ok (.sipush 256, 3) := by decide +kernel
theorem dX11_init_342 : decode cX11_init 342 = .ok (.newarray .int, 2) := by decide +kernel
theorem dX11_init_344 : decode cX11_init 344 = .ok (.putfield 133, 3) := by decide +kernel
theorem dX11_init_347 : decode cX11_init 347 = .ok (.aload_n 0, 1) := by decide +kernel
theorem dX11_init_348 : decode cX11_init 348 = .ok (.bipush 12, 2) := by decide +kernel
theorem dX11_init_350 : decode cX11_init 350 = .ok (.newarray .int, 2) := by decide +kernel
theorem dX11_init_352 : decode cX11_init 352 = .ok (.putfield 136, 3) := by decide +kernel
theorem dX11_init_355 : decode cX11_init 355 = .ok (.aload_n 0, 1) := by decide +kernel
theorem dX11_init_356 : decode cX11_init 356 = .ok (.bipush 12, 2) := by decide +kernel
theorem dX11_init_358 : decode cX11_init 358 = .ok (.newarray .int, 2) := by decide +kernel
theorem dX11_init_360 : decode cX11_init 360 = .ok (.putfield 139, 3) := by decide +kernel
theorem dX11_init_363 : decode cX11_init 363 = .ok (.aload_n 0, 1) := by decide +kernel
theorem dX11_init_364 : decode cX11_init 364 = .ok (.bipush 12, 2) := by decide +kernel
theorem dX11_init_366 : decode cX11_init 366 = .ok (.newarray .int, 2) := by decide +kernel
theorem dX11_init_368 : decode cX11_init 368 = .ok (.putfield 142, 3) := by decide +kernel
theorem dX11_init_371 : decode cX11_init 371 = .ok (.aload_n 0, 1) := by decide +kernel
theorem dX11_init_372 : decode cX11_init 372 = .ok (.bipush 12, 2) := by decide +kernel
theorem dX11_init_374 : decode cX11_init 374 = .ok (.newarray .int, 2) := by decide +kernel
theorem dX11_init_376 : decode cX11_init 376 = .ok (.putfield 145, 3) := by decide +kernel
theorem dX11_init_379 : decode cX11_init 379 = .ok (.aload_n 0, 1) := by decide +kernel
theorem dX11_init_380 : decode cX11_init 380 = .ok (.bipush 12, 2) := by decide +kernel
theorem dX11_init_382 : decode cX11_init 382 = .ok (.newarray .int, 2) := by decide +kernel
theorem dX11_init_384 : decode cX11_init 384 = .ok (.putfield 148, 3) := by decide +kernel
theorem dX11_init_387 : decode cX11_init 387 = .ok (.aload_n 0, 1) := by decide +kernel
theorem dX11_init_388 : decode cX11_init 388 = .ok (.bipush 8, 2) := by decide +kernel
theorem dX11_init_390 : decode cX11_init 390 = .ok (.newarray .int, 2) := by decide +kernel
theorem dX11_init_392 : decode cX11_init 392 = .ok (.putfield 151, 3) := by decide +kernel
theorem dX11_init_395 : decode cX11_init 395 = .ok (.iconst 0, 1) := by decide +kernel
theorem dX11_init_396 : decode cX11_init 396 = .ok (.istore_n 1, 1) := by decide +kernel
theorem dX11_init_397 : decode cX11_init 397 = .ok (.iload_n 1, 1) := by decide +kernel
theorem dX11_init_398 : decode cX11_init 398 = .ok (.sipush 256, 3) := by decide +kernel
theorem dX11_init_401 : decode cX11_init 401 = .ok (.if_icmp .ge 24, 3) := by decide +kernel
theorem dX11_init_404 : decode cX11_init 404 = .ok (.aload_n 0, 1) := by decide +kernel
theorem dX11_init_405 : decode cX11_init 405 = .ok (.getfield 17, 3) := by decide +kernel
theorem dX11_init_408 : decode cX11_init 408 = .ok (.iload_n 1, 1) := by decide +kernel
theorem dX11_init_409 : decode cX11_init 409 = .ok (.bipush 50, 2) := by decide +kernel
theorem dX11_init_411 : decode cX11_init 411 = .ok (.iastore, 1) := by decide +kernel
theorem dX11_init_412 : decode cX11_init 412 = .ok (.aload_n 0, 1) := by decide +kernel
theorem dX11_init_413 : decode cX11_init 413 = .ok (.getfield 25, 3) := by decide +kernel
theorem dX11_init_416 : decode cX11_init 416 = .ok (.iload_n 1, 1) := by decide +kernel
theorem dX11_init_417 : decode cX11_init 417 = .ok (.iconst (-1), 1) := by decide +kernel
theorem dX11_init_418 : decode cX11_init 418 = .ok (.iastore, 1) := by decide +kernel
theorem dX11_init_419 : decode cX11_init 419 = .ok (.iinc 1 1, 3) := by decide +kernel
theorem dX11_init_422 : decode cX11_init 422 = .ok (.goto (-25), 3) := by decide +kernel
theorem dX11_init_425 : decode cX11_init 425 = .ok (.return_, 1) := by decide +kernel
theorem dX11_lies_0 : decode cX11_lies 0 = .ok (.lload_n 0, 1) := by decide +kernel
theorem dX11_lies_1 : decode cX11_lies 1 = .ok (.lload_n 2, 1) := by decide +kernel
theorem dX11_lies_2 : decode cX11_lies 2 = .ok (.lcmp, 1) := by decide +kernel
theorem dX11_lies_3 : decode cX11_lies 3 = .ok (.ifCond .lt 14, 3) := by decide +kernel
theorem dX11_lies_6 : decode cX11_lies 6 = .ok (.lload_n 0, 1) := by decide +kernel
theorem dX11_lies_7 : decode cX11_lies 7 = .ok (.lload 4, 2) := by decide +kernel
theorem dX11_lies_9 : decode cX11_lies 9 = .ok (.lcmp, 1) := by decide +kernel
theorem dX11_lies_10 : decode cX11_lies 10 = .ok (.ifCond .gt 7, 3) := by decide +kernel
theorem dX11_lies_13 : decode cX11_lies 13 = .ok (.iconst 1, 1) := by decide +kernel
theorem dX11_lies_14 : decode cX11_lies 14 = .ok (.goto 4, 3) := by decide +kernel
theorem dX11_lies_17 : decode cX11_lies 17 = .ok (.iconst 0, 1) := by decide +kernel
theorem dX11_lies_18 : decode cX11_lies 18 = .ok (.ireturn, 1) := by decide +kernel
theorem dX11_has_0 : decode cX11_has 0 = .ok (.iload_n 0, 1) := by decide +kernel
theorem dX11_has_1 : decode cX11_has 1 = .ok (.iload_n 1, 1) := by decide +kernel
theorem dX11_has_2 : decode cX11_has 2 = .ok (.ishr, 1) := by decide +kernel
theorem dX11_has_3 : decode cX11_has 3 = .ok (.iconst 1, 1) := by decide +kernel
theorem dX11_has_4 : decode cX11_has 4 = .ok (.iand, 1) := by decide +kernel
theorem dX11_has_5 : decode cX11_has 5 = .ok (.iconst 1, 1) := by decide +kernel
theorem dX11_has_6 : decode cX11_has 6 = .ok (.if_icmp .ne 7, 3) := by decide +kernel
theorem dX11_has_9 : decode cX11_has 9 = .ok (.iconst 1, 1) := by decide +kernel
theorem dX11_has_10 : decode cX11_has 10 = .ok (.goto 4, 3) := by decide +kernel
theorem dX11_has_13 : decode cX11_has 13 = .ok (.iconst 0, 1) := by decide +kernel
theorem dX11_has_14 : decode cX11_has 14 = .ok (.ireturn, 1) := by decide +kernel
theorem dX11_sizeOf_0 : decode cX11_sizeOf 0 = .ok (.iconst 0, 1) := by decide +kernel
theorem dX11_sizeOf_1 : decode cX11_sizeOf 1 = .ok (.istore_n 1, 1) := by decide +kernel
theorem dX11_sizeOf_2 : decode cX11_sizeOf 2 = .ok (.iload_n 0, 1) := by decide +kernel
theorem dX11_sizeOf_3 : decode cX11_sizeOf 3 = .ok (.istore_n 2, 1) := by decide +kernel
theorem dX11_sizeOf_4 : decode cX11_sizeOf 4 = .ok (.iload_n 2, 1) := by decide +kernel
theorem dX11_sizeOf_5 : decode cX11_sizeOf 5 = .ok (.ifCond .eq 15, 3) := by decide +kernel
theorem dX11_sizeOf_8 : decode cX11_sizeOf 8 = .ok (.iinc 1 1, 3) := by decide +kernel
theorem dX11_sizeOf_11 : decode cX11_sizeOf 11 = .ok (.iload_n 2, 1) := by decide +kernel
theorem dX11_sizeOf_12 : decode cX11_sizeOf 12 = .ok (.iload_n 2, 1) := by decide +kernel
theorem dX11_sizeOf_13 : decode cX11_sizeOf 13 = .ok (.iconst 1, 1) := by decide +kernel
theorem dX11_sizeOf_14 : decode cX11_sizeOf 14 = .ok (.isub, 1) := by decide +kernel
theorem dX11_sizeOf_15 : decode cX11_sizeOf 15 = .ok (.iand, 1) := by decide +kernel
theorem dX11_sizeOf_16 : decode cX11_sizeOf 16 = .ok (.istore_n 2, 1) := by decide +kernel
theorem dX11_sizeOf_17 : decode cX11_sizeOf 17 = .ok (.goto (-13), 3) := by decide +kernel
theorem dX11_sizeOf_20 : decode cX11_sizeOf 20 = .ok (.iload_n 1, 1) := by decide +kernel
theorem dX11_sizeOf_21 : decode cX11_sizeOf 21 = .ok (.ireturn, 1) := by decide +kernel
theorem dX11_isSide_0 : decode cX11_isSide 0 = .ok (.iload_n 0, 1) := by decide +kernel
theorem dX11_isSide_1 : decode cX11_isSide 1 = .ok (.i2l, 1) := by decide +kernel
theorem dX11_isSide_2 : decode cX11_isSide 2 = .ok (.lconst 0, 1) := by decide +kernel
theorem dX11_isSide_3 : decode cX11_isSide 3 = .ok (.ldc2_w 154, 3) := by decide +kernel
theorem dX11_isSide_6 : decode cX11_isSide 6 = .ok (.invokestatic 156, 3) := by decide +kernel
theorem dX11_isSide_9 : decode cX11_isSide 9 = .ok (.ireturn, 1) := by decide +kernel
theorem dX11_isSquare_0 : decode cX11_isSquare 0 = .ok (.iload_n 0, 1) := by decide +kernel
theorem dX11_isSquare_1 : decode cX11_isSquare 1 = .ok (.invokestatic 160, 3) := by decide +kernel
theorem dX11_isSquare_4 : decode cX11_isSquare 4 = .ok (.ifCond .eq 14, 3) := by decide +kernel
theorem dX11_isSquare_7 : decode cX11_isSquare 7 = .ok (.iload_n 1, 1) := by decide +kernel
theorem dX11_isSquare_8 : decode cX11_isSquare 8 = .ok (.invokestatic 160, 3) := by decide +kernel
theorem dX11_isSquare_11 : decode cX11_isSquare 11 = .ok (.ifCond .eq 7, 3) := by decide +kernel
theorem dX11_isSquare_14 : decode cX11_isSquare 14 = .ok (.iconst 1, 1) := by decide +kernel
theorem dX11_isSquare_15 : decode cX11_isSquare 15 = .ok (.goto 4, 3) := by decide +kernel
theorem dX11_isSquare_18 : decode cX11_isSquare 18 = .ok (.iconst 0, 1) := by decide +kernel
theorem dX11_isSquare_19 : decode cX11_isSquare 19 = .ok (.ireturn, 1) := by decide +kernel
theorem dX11_isHole_0 : decode cX11_isHole 0 = .ok (.iload_n 1, 1) := by decide +kernel
theorem dX11_isHole_1 : decode cX11_isHole 1 = .ok (.i2l, 1) := by decide +kernel
theorem dX11_isHole_2 : decode cX11_isHole 2 = .ok (.lconst 0, 1) := by decide +kernel
theorem dX11_isHole_3 : decode cX11_isHole 3 = .ok (.aload_n 0, 1) := by decide +kernel
theorem dX11_isHole_4 : decode cX11_isHole 4 = .ok (.getfield 164, 3) := by decide +kernel
theorem dX11_isHole_7 : decode cX11_isHole 7 = .ok (.iconst 1, 1) := by decide +kernel
theorem dX11_isHole_8 : decode cX11_isHole 8 = .ok (.isub, 1) := by decide +kernel
theorem dX11_isHole_9 : decode cX11_isHole 9 = .ok (.i2l, 1) := by decide +kernel
theorem dX11_isHole_10 : decode cX11_isHole 10 = .ok (.invokestatic 156, 3) := by decide +kernel
theorem dX11_isHole_13 : decode cX11_isHole 13 = .ok (.ireturn, 1) := by decide +kernel
theorem dX11_isOpen_0 : decode cX11_isOpen 0 = .ok (.aload_n 0, 1) := by decide +kernel
theorem dX11_isOpen_1 : decode cX11_isOpen 1 = .ok (.iload_n 1, 1) := by decide +kernel
theorem dX11_isOpen_2 : decode cX11_isOpen 2 = .ok (.invokevirtual 167, 3) := by decide +kernel
theorem dX11_isOpen_5 : decode cX11_isOpen 5 = .ok (.ifCond .eq 22, 3) := by decide +kernel
theorem dX11_isOpen_8 : decode cX11_isOpen 8 = .ok (.aload_n 0, 1) := by decide +kernel
theorem dX11_isOpen_9 : decode cX11_isOpen 9 = .ok (.getfield 25, 3) := by decide +kernel
theorem dX11_isOpen_12 : decode cX11_isOpen 12 = .ok (.aload_n 0, 1) := by decide +kernel
theorem dX11_isOpen_13 : decode cX11_isOpen 13 = .ok (.getfield 28, 3) := by decide +kernel
theorem dX11_isOpen_16 : decode cX11_isOpen 16 = .ok (.iload_n 1, 1) := by decide +kernel
theorem dX11_isOpen_17 : decode cX11_isOpen 17 = .ok (.iaload, 1) := by decide +kernel
theorem dX11_isOpen_18 : decode cX11_isOpen 18 = .ok (.iaload, 1) := by decide +kernel
theorem dX11_isOpen_19 : decode cX11_isOpen 19 = .ok (.iload_n 1, 1) := by decide +kernel
theorem dX11_isOpen_20 : decode cX11_isOpen 20 = .ok (.if_icmp .ne 7, 3) := by decide +kernel
theorem dX11_isOpen_23 : decode cX11_isOpen 23 = .ok (.iconst 1, 1) := by decide +kernel
theorem dX11_isOpen_24 : decode cX11_isOpen 24 = .ok (.goto 4, 3) := by decide +kernel
theorem dX11_isOpen_27 : decode cX11_isOpen 27 = .ok (.iconst 0, 1) := by decide +kernel
theorem dX11_isOpen_28 : decode cX11_isOpen 28 = .ok (.ireturn, 1) := by decide +kernel
theorem dX11_isGroup_0 : decode cX11_isGroup 0 = .ok (.iload_n 1, 1) := by decide +kernel
theorem dX11_isGroup_1 : decode cX11_isGroup 1 = .ok (.i2l, 1) := by decide +kernel
theorem dX11_isGroup_2 : decode cX11_isGroup 2 = .ok (.lconst 0, 1) := by decide +kernel
theorem dX11_isGroup_3 : decode cX11_isGroup 3 = .ok (.aload_n 0, 1) := by decide +kernel
theorem dX11_isGroup_4 : decode cX11_isGroup 4 = .ok (.getfield 170, 3) := by decide +kernel
theorem dX11_isGroup_7 : decode cX11_isGroup 7 = .ok (.iconst 1, 1) := by decide +kernel
theorem dX11_isGroup_8 : decode cX11_isGroup 8 = .ok (.isub, 1) := by decide +kernel
theorem dX11_isGroup_9 : decode cX11_isGroup 9 = .ok (.i2l, 1) := by decide +kernel
theorem dX11_isGroup_10 : decode cX11_isGroup 10 = .ok (.invokestatic 156, 3) := by decide +kernel
theorem dX11_isGroup_13 : decode cX11_isGroup 13 = .ok (.ireturn, 1) := by decide +kernel
theorem dX11_isIce_0 : decode cX11_isIce 0 = .ok (.aload_n 0, 1) := by decide +kernel
theorem dX11_isIce_1 : decode cX11_isIce 1 = .ok (.getfield 21, 3) := by decide +kernel
theorem dX11_isIce_4 : decode cX11_isIce 4 = .ok (.iload_n 1, 1) := by decide +kernel
theorem dX11_isIce_5 : decode cX11_isIce 5 = .ok (.baload, 1) := by decide +kernel
theorem dX11_isIce_6 : decode cX11_isIce 6 = .ok (.ifCond .ne 17, 3) := by decide +kernel
theorem dX11_isIce_9 : decode cX11_isIce 9 = .ok (.aload_n 0, 1) := by decide +kernel
theorem dX11_isIce_10 : decode cX11_isIce 10 = .ok (.getfield 25, 3) := by decide +kernel
theorem dX11_isIce_13 : decode cX11_isIce 13 = .ok (.iload_n 1, 1) := by decide +kernel
theorem dX11_isIce_14 : decode cX11_isIce 14 = .ok (.iaload, 1) := by decide +kernel
theorem dX11_isIce_15 : decode cX11_isIce 15 = .ok (.iconst (-1), 1) := by decide +kernel
theorem dX11_isIce_16 : decode cX11_isIce 16 = .ok (.if_icmp .ne 7, 3) := by decide +kernel
theorem dX11_isIce_19 : decode cX11_isIce 19 = .ok (.iconst 1, 1) := by decide +kernel
theorem dX11_isIce_20 : decode cX11_isIce 20 = .ok (.goto 4, 3) := by decide +kernel
theorem dX11_isIce_23 : decode cX11_isIce 23 = .ok (.iconst 0, 1) := by decide +kernel
theorem dX11_isIce_24 : decode cX11_isIce 24 = .ok (.ireturn, 1) := by decide +kernel
theorem dX11_size_0 : decode cX11_size 0 = .ok (.iload_n 0, 1) := by decide +kernel
theorem dX11_size_1 : decode cX11_size 1 = .ok (.ifCond .ge 8, 3) := by decide +kernel
theorem dX11_size_4 : decode cX11_size 4 = .ok (.iload_n 0, 1) := by decide +kernel
theorem dX11_size_5 : decode cX11_size 5 = .ok (.ineg, 1) := by decide +kernel
theorem dX11_size_6 : decode cX11_size 6 = .ok (.goto 4, 3) := by decide +kernel
theorem dX11_size_9 : decode cX11_size 9 = .ok (.iload_n 0, 1) := by decide +kernel
theorem dX11_size_10 : decode cX11_size 10 = .ok (.ireturn, 1) := by decide +kernel
theorem dX11_wayOf_0 : decode cX11_wayOf 0 = .ok (.iload_n 0, 1) := by decide +kernel
theorem dX11_wayOf_1 : decode cX11_wayOf 1 = .ok (.bipush 16, 2) := by decide +kernel
theorem dX11_wayOf_3 : decode cX11_wayOf 3 = .ok (.irem, 1) := by decide +kernel
theorem dX11_wayOf_4 : decode cX11_wayOf 4 = .ok (.iload_n 1, 1) := by decide +kernel
theorem dX11_wayOf_5 : decode cX11_wayOf 5 = .ok (.bipush 16, 2) := by decide +kernel
theorem dX11_wayOf_7 : decode cX11_wayOf 7 = .ok (.irem, 1) := by decide +kernel
theorem dX11_wayOf_8 : decode cX11_wayOf 8 = .ok (.isub, 1) := by decide +kernel
theorem dX11_wayOf_9 : decode cX11_wayOf 9 = .ok (.invokestatic 173, 3) := by decide +kernel
theorem dX11_wayOf_12 : decode cX11_wayOf 12 = .ok (.iload_n 0, 1) := by decide +kernel
theorem dX11_wayOf_13 : decode cX11_wayOf 13 = .ok (.bipush 16, 2) := by decide +kernel
theorem dX11_wayOf_15 : decode cX11_wayOf 15 = .ok (.idiv, 1) := by decide +kernel
theorem dX11_wayOf_16 : decode cX11_wayOf 16 = .ok (.iload_n 1, 1) := by decide +kernel
theorem dX11_wayOf_17 : decode cX11_wayOf 17 = .ok (.bipush 16, 2) := by decide +kernel
theorem dX11_wayOf_19 : decode cX11_wayOf 19 = .ok (.idiv, 1) := by decide +kernel
theorem dX11_wayOf_20 : decode cX11_wayOf 20 = .ok (.isub, 1) := by decide +kernel
theorem dX11_wayOf_21 : decode cX11_wayOf 21 = .ok (.invokestatic 173, 3) := by decide +kernel
theorem dX11_wayOf_24 : decode cX11_wayOf 24 = .ok (.iadd, 1) := by decide +kernel
theorem dX11_wayOf_25 : decode cX11_wayOf 25 = .ok (.ireturn, 1) := by decide +kernel
theorem dX11_aside_0 : decode cX11_aside 0 = .ok (.iload_n 0, 1) := by decide +kernel
theorem dX11_aside_1 : decode cX11_aside 1 = .ok (.bipush 16, 2) := by decide +kernel
theorem dX11_aside_3 : decode cX11_aside 3 = .ok (.irem, 1) := by decide +kernel
theorem dX11_aside_4 : decode cX11_aside 4 = .ok (.iload_n 1, 1) := by decide +kernel
theorem dX11_aside_5 : decode cX11_aside 5 = .ok (.iadd, 1) := by decide +kernel
theorem dX11_aside_6 : decode cX11_aside 6 = .ok (.iload_n 0, 1) := by decide +kernel
theorem dX11_aside_7 : decode cX11_aside 7 = .ok (.bipush 16, 2) := by decide +kernel
theorem dX11_aside_9 : decode cX11_aside 9 = .ok (.idiv, 1) := by decide +kernel
theorem dX11_aside_10 : decode cX11_aside 10 = .ok (.iload_n 2, 1) := by decide +kernel
theorem dX11_aside_11 : decode cX11_aside 11 = .ok (.iadd, 1) := by decide +kernel
theorem dX11_aside_12 : decode cX11_aside 12 = .ok (.invokestatic 177, 3) := by decide +kernel
theorem dX11_aside_15 : decode cX11_aside 15 = .ok (.ifCond .eq 14, 3) := by decide +kernel
theorem dX11_aside_18 : decode cX11_aside 18 = .ok (.iload_n 0, 1) := by decide +kernel
theorem dX11_aside_19 : decode cX11_aside 19 = .ok (.bipush 16, 2) := by decide +kernel
theorem dX11_aside_21 : decode cX11_aside 21 = .ok (.iload_n 2, 1) := by decide +kernel
theorem dX11_aside_22 : decode cX11_aside 22 = .ok (.imul, 1) := by decide +kernel
theorem dX11_aside_23 : decode cX11_aside 23 = .ok (.iadd, 1) := by decide +kernel
theorem dX11_aside_24 : decode cX11_aside 24 = .ok (.iload_n 1, 1) := by decide +kernel
theorem dX11_aside_25 : decode cX11_aside 25 = .ok (.iadd, 1) := by decide +kernel
theorem dX11_aside_26 : decode cX11_aside 26 = .ok (.goto 4, 3) := by decide +kernel
theorem dX11_aside_29 : decode cX11_aside 29 = .ok (.iconst (-1), 1) := by decide +kernel
theorem dX11_aside_30 : decode cX11_aside 30 = .ok (.ireturn, 1) := by decide +kernel
theorem dX11_areNear_0 : decode cX11_areNear 0 = .ok (.iload_n 0, 1) := by decide +kernel
theorem dX11_areNear_1 : decode cX11_areNear 1 = .ok (.iload_n 1, 1) := by decide +kernel
theorem dX11_areNear_2 : decode cX11_areNear 2 = .ok (.if_icmp .eq 39, 3) := by decide +kernel
theorem dX11_areNear_5 : decode cX11_areNear 5 = .ok (.iload_n 0, 1) := by decide +kernel
theorem dX11_areNear_6 : decode cX11_areNear 6 = .ok (.bipush 16, 2) := by decide +kernel
theorem dX11_areNear_8 : decode cX11_areNear 8 = .ok (.irem, 1) := by decide +kernel
theorem dX11_areNear_9 : decode cX11_areNear 9 = .ok (.iload_n 1, 1) := by decide +kernel
theorem dX11_areNear_10 : decode cX11_areNear 10 = .ok (.bipush 16, 2) := by decide +kernel
theorem dX11_areNear_12 : decode cX11_areNear 12 = .ok (.irem, 1) := by decide +kernel
theorem dX11_areNear_13 : decode cX11_areNear 13 = .ok (.isub, 1) := by decide +kernel
theorem dX11_areNear_14 : decode cX11_areNear 14 = .ok (.invokestatic 173, 3) := by decide +kernel
theorem dX11_areNear_17 : decode cX11_areNear 17 = .ok (.iconst 2, 1) := by decide +kernel
theorem dX11_areNear_18 : decode cX11_areNear 18 = .ok (.if_icmp .ge 23, 3) := by decide +kernel
theorem dX11_areNear_21 : decode cX11_areNear 21 = .ok (.iload_n 0, 1) := by decide +kernel
theorem dX11_areNear_22 : decode cX11_areNear 22 = .ok (.bipush 16, 2) := by decide +kernel
theorem dX11_areNear_24 : decode cX11_areNear 24 = .ok (.idiv, 1) := by decide +kernel
theorem dX11_areNear_25 : decode cX11_areNear 25 = .ok (.iload_n 1, 1) := by decide +kernel
theorem dX11_areNear_26 : decode cX11_areNear 26 = .ok (.bipush 16, 2) := by decide +kernel
theorem dX11_areNear_28 : decode cX11_areNear 28 = .ok (.idiv, 1) := by decide +kernel
theorem dX11_areNear_29 : decode cX11_areNear 29 = .ok (.isub, 1) := by decide +kernel
theorem dX11_areNear_30 : decode cX11_areNear 30 = .ok (.invokestatic 173, 3) := by decide +kernel
theorem dX11_areNear_33 : decode cX11_areNear 33 = .ok (.iconst 2, 1) := by decide +kernel
theorem dX11_areNear_34 : decode cX11_areNear 34 = .ok (.if_icmp .ge 7, 3) := by decide +kernel
theorem dX11_areNear_37 : decode cX11_areNear 37 = .ok (.iconst 1, 1) := by decide +kernel
theorem dX11_areNear_38 : decode cX11_areNear 38 = .ok (.goto 4, 3) := by decide +kernel
theorem dX11_areNear_41 : decode cX11_areNear 41 = .ok (.iconst 0, 1) := by decide +kernel
theorem dX11_areNear_42 : decode cX11_areNear 42 = .ok (.ireturn, 1) := by decide +kernel
theorem dX11_gapsOf_0 : decode cX11_gapsOf 0 = .ok (.iconst 0, 1) := by decide +kernel
theorem dX11_gapsOf_1 : decode cX11_gapsOf 1 = .ok (.istore_n 2, 1) := by decide +kernel
theorem dX11_gapsOf_2 : decode cX11_gapsOf 2 = .ok (.iconst (-1), 1) := by decide +kernel
theorem dX11_gapsOf_3 : decode cX11_gapsOf 3 = .ok (.istore_n 3, 1) := by decide +kernel
theorem dX11_gapsOf_4 : decode cX11_gapsOf 4 = .ok (.iload_n 3, 1) := by decide +kernel
theorem dX11_gapsOf_5 : decode cX11_gapsOf 5 = .ok (.iconst 2, 1) := by decide +kernel
theorem dX11_gapsOf_6 : decode cX11_gapsOf 6 = .ok (.if_icmp .ge 62, 3) := by decide +kernel
theorem dX11_gapsOf_9 : decode cX11_gapsOf 9 = .ok (.iconst (-1), 1) := by decide +kernel
theorem dX11_gapsOf_10 : decode cX11_gapsOf 10 = .ok (.istore 4, 2) := by decide +kernel
theorem dX11_gapsOf_12 : decode cX11_gapsOf 12 = .ok (.iload 4, 2) := by decide +kernel
theorem dX11_gapsOf_14 : decode cX11_gapsOf 14 = .ok (.iconst 2, 1) := by decide +kernel
theorem dX11_gapsOf_15 : decode cX11_gapsOf 15 = .ok (.if_icmp .ge 47, 3) := by decide +kernel
theorem dX11_gapsOf_18 : decode cX11_gapsOf 18 = .ok (.iload_n 1, 1) := by decide +kernel
theorem dX11_gapsOf_19 : decode cX11_gapsOf 19 = .ok (.iload 4, 2) := by decide +kernel
theorem dX11_gapsOf_21 : decode cX11_gapsOf 21 = .ok (.iload_n 3, 1) := by decide +kernel
theorem dX11_gapsOf_22 : decode cX11_gapsOf 22 = .ok (.invokestatic 181, 3) := by decide +kernel
theorem dX11_gapsOf_25 : decode cX11_gapsOf 25 = .ok (.istore 5, 2) := by decide +kernel
theorem dX11_gapsOf_27 : decode cX11_gapsOf 27 = .ok (.iload_n 2, 1) := by decide +kernel
theorem dX11_gapsOf_28 : decode cX11_gapsOf 28 = .ok (.iload 5, 2) := by decide +kernel
theorem dX11_gapsOf_30 : decode cX11_gapsOf 30 = .ok (.iconst (-1), 1) := by decide +kernel
theorem dX11_gapsOf_31 : decode cX11_gapsOf 31 = .ok (.if_icmp .eq 22, 3) := by decide +kernel
theorem dX11_gapsOf_34 : decode cX11_gapsOf 34 = .ok (.iload 5, 2) := by decide +kernel
theorem dX11_gapsOf_36 : decode cX11_gapsOf 36 = .ok (.iload_n 1, 1) := by decide +kernel
theorem dX11_gapsOf_37 : decode cX11_gapsOf 37 = .ok (.if_icmp .eq 16, 3) := by decide +kernel
theorem dX11_gapsOf_40 : decode cX11_gapsOf 40 = .ok (.aload_n 0, 1) := by decide +kernel
theorem dX11_gapsOf_41 : decode cX11_gapsOf 41 = .ok (.iload 5, 2) := by decide +kernel
theorem dX11_gapsOf_43 : decode cX11_gapsOf 43 = .ok (.invokevirtual 185, 3) := by decide +kernel
theorem dX11_gapsOf_46 : decode cX11_gapsOf 46 = .ok (.ifCond .ne 7, 3) := by decide +kernel
theorem dX11_gapsOf_49 : decode cX11_gapsOf 49 = .ok (.iconst 1, 1) := by decide +kernel
theorem dX11_gapsOf_50 : decode cX11_gapsOf 50 = .ok (.goto 4, 3) := by decide +kernel
theorem dX11_gapsOf_53 : decode cX11_gapsOf 53 = .ok (.iconst 0, 1) := by decide +kernel
theorem dX11_gapsOf_54 : decode cX11_gapsOf 54 = .ok (.iadd, 1) := by decide +kernel
theorem dX11_gapsOf_55 : decode cX11_gapsOf 55 = .ok (.istore_n 2, 1) := by decide +kernel
theorem dX11_gapsOf_56 : decode cX11_gapsOf 56 = .ok (.iinc 4 1, 3) := by decide +kernel
theorem dX11_gapsOf_59 : decode cX11_gapsOf 59 = .ok (.goto (-47), 3) := by decide +kernel
theorem dX11_gapsOf_62 : decode cX11_gapsOf 62 = .ok (.iinc 3 1, 3) := by decide +kernel
theorem dX11_gapsOf_65 : decode cX11_gapsOf 65 = .ok (.goto (-61), 3) := by decide +kernel
theorem dX11_gapsOf_68 : decode cX11_gapsOf 68 = .ok (.iload_n 2, 1) := by decide +kernel
theorem dX11_gapsOf_69 : decode cX11_gapsOf 69 = .ok (.ireturn, 1) := by decide +kernel
theorem dX11_warmthOf_0 : decode cX11_warmthOf 0 = .ok (.iconst 0, 1) := by decide +kernel
theorem dX11_warmthOf_1 : decode cX11_warmthOf 1 = .ok (.istore_n 2, 1) := by decide +kernel
theorem dX11_warmthOf_2 : decode cX11_warmthOf 2 = .ok (.iconst (-1), 1) := by decide +kernel
theorem dX11_warmthOf_3 : decode cX11_warmthOf 3 = .ok (.istore_n 3, 1) := by decide +kernel
theorem dX11_warmthOf_4 : decode cX11_warmthOf 4 = .ok (.iload_n 3, 1) := by decide +kernel
theorem dX11_warmthOf_5 : decode cX11_warmthOf 5 = .ok (.iconst 2, 1) := by decide +kernel
theorem dX11_warmthOf_6 : decode cX11_warmthOf 6 = .ok (.if_icmp .ge 69, 3) := by decide +kernel
theorem dX11_warmthOf_9 : decode cX11_warmthOf 9 = .ok (.iconst (-1), 1) := by decide +kernel
theorem dX11_warmthOf_10 : decode cX11_warmthOf 10 = .ok (.istore 4, 2) := by decide +kernel
theorem dX11_warmthOf_12 : decode cX11_warmthOf 12 = .ok (.iload 4, 2) := by decide +kernel
theorem dX11_warmthOf_14 : decode cX11_warmthOf 14 = .ok (.iconst 2, 1) := by decide +kernel
theorem dX11_warmthOf_15 : decode cX11_warmthOf 15 = .ok (.if_icmp .ge 54, 3) := by decide +kernel
theorem dX11_warmthOf_18 : decode cX11_warmthOf 18 = .ok (.iload_n 1, 1) := by decide +kernel
theorem dX11_warmthOf_19 : decode cX11_warmthOf 19 = .ok (.iload 4, 2) := by decide +kernel
theorem dX11_warmthOf_21 : decode cX11_warmthOf 21 = .ok (.iload_n 3, 1) := by decide +kernel
theorem dX11_warmthOf_22 : decode cX11_warmthOf 22 = .ok (.invokestatic 181, 3) := by decide +kernel
theorem dX11_warmthOf_25 : decode cX11_warmthOf 25 = .ok (.istore 5, 2) := by decide +kernel
theorem dX11_warmthOf_27 : decode cX11_warmthOf 27 = .ok (.iload_n 2, 1) := by decide +kernel
theorem dX11_warmthOf_28 : decode cX11_warmthOf 28 = .ok (.iload 5, 2) := by decide +kernel
theorem dX11_warmthOf_30 : decode cX11_warmthOf 30 = .ok (.iconst (-1), 1) := by decide +kernel
theorem dX11_warmthOf_31 : decode cX11_warmthOf 31 = .ok (.if_icmp .eq 29, 3) := by decide +kernel
theorem dX11_warmthOf_34 : decode cX11_warmthOf 34 = .ok (.aload_n 0, 1) := by decide +kernel
theorem dX11_warmthOf_35 : decode cX11_warmthOf 35 = .ok (.getfield 25, 3) := by decide +kernel
theorem dX11_warmthOf_38 : decode cX11_warmthOf 38 = .ok (.iload 5, 2) := by decide +kernel
theorem dX11_warmthOf_40 : decode cX11_warmthOf 40 = .ok (.iaload, 1) := by decide +kernel
theorem dX11_warmthOf_41 : decode cX11_warmthOf 41 = .ok (.iconst (-1), 1) := by decide +kernel
theorem dX11_warmthOf_42 : decode cX11_warmthOf 42 = .ok (.if_icmp .eq 18, 3) := by decide +kernel
theorem dX11_warmthOf_45 : decode cX11_warmthOf 45 = .ok (.aload_n 0, 1) := by decide +kernel
theorem dX11_warmthOf_46 : decode cX11_warmthOf 46 = .ok (.getfield 34, 3) := by decide +kernel
theorem dX11_warmthOf_49 : decode cX11_warmthOf 49 = .ok (.aload_n 0, 1) := by decide +kernel
theorem dX11_warmthOf_50 : decode cX11_warmthOf 50 = .ok (.getfield 25, 3) := by decide +kernel
theorem dX11_warmthOf_53 : decode cX11_warmthOf 53 = .ok (.iload 5, 2) := by decide +kernel
theorem dX11_warmthOf_55 : decode cX11_warmthOf 55 = .ok (.iaload, 1) := by decide +kernel
theorem dX11_warmthOf_56 : decode cX11_warmthOf 56 = .ok (.iaload, 1) := by decide +kernel
theorem dX11_warmthOf_57 : decode cX11_warmthOf 57 = .ok (.goto 4, 3) := by decide +kernel
theorem dX11_warmthOf_60 : decode cX11_warmthOf 60 = .ok (.iconst 0, 1) := by decide +kernel
theorem dX11_warmthOf_61 : decode cX11_warmthOf 61 = .ok (.iadd, 1) := by decide +kernel
theorem dX11_warmthOf_62 : decode cX11_warmthOf 62 = .ok (.istore_n 2, 1) := by decide +kernel
theorem dX11_warmthOf_63 : decode cX11_warmthOf 63 = .ok (.iinc 4 1, 3) := by decide +kernel
theorem dX11_warmthOf_66 : decode cX11_warmthOf 66 = .ok (.goto (-54), 3) := by decide +kernel
theorem dX11_warmthOf_69 : decode cX11_warmthOf 69 = .ok (.iinc 3 1, 3) := by decide +kernel
theorem dX11_warmthOf_72 : decode cX11_warmthOf 72 = .ok (.goto (-68), 3) := by decide +kernel
theorem dX11_warmthOf_75 : decode cX11_warmthOf 75 = .ok (.iload_n 2, 1) := by decide +kernel
theorem dX11_warmthOf_76 : decode cX11_warmthOf 76 = .ok (.ireturn, 1) := by decide +kernel
theorem dX11_carriedOn_0 : decode cX11_carriedOn 0 = .ok (.iconst 0, 1) := by decide +kernel
theorem dX11_carriedOn_1 : decode cX11_carriedOn 1 = .ok (.istore_n 2, 1) := by decide +kernel
theorem dX11_carriedOn_2 : decode cX11_carriedOn 2 = .ok (.iconst 0, 1) := by decide +kernel
theorem dX11_carriedOn_3 : decode cX11_carriedOn 3 = .ok (.istore_n 3, 1) := by decide +kernel
theorem dX11_carriedOn_4 : decode cX11_carriedOn 4 = .ok (.iload_n 3, 1) := by decide +kernel
theorem dX11_carriedOn_5 : decode cX11_carriedOn 5 = .ok (.aload_n 0, 1) := by decide +kernel
theorem dX11_carriedOn_6 : decode cX11_carriedOn 6 = .ok (.getfield 170, 3) := by decide +kernel
theorem dX11_carriedOn_9 : decode cX11_carriedOn 9 = .ok (.if_icmp .ge 32, 3) := by decide +kernel
theorem dX11_carriedOn_12 : decode cX11_carriedOn 12 = .ok (.iload_n 2, 1) := by decide +kernel
theorem dX11_carriedOn_13 : decode cX11_carriedOn 13 = .ok (.aload_n 0, 1) := by decide +kernel
theorem dX11_carriedOn_14 : decode cX11_carriedOn 14 = .ok (.getfield 43, 3) := by decide +kernel
theorem dX11_carriedOn_17 : decode cX11_carriedOn 17 = .ok (.iload_n 3, 1) := by decide +kernel
theorem dX11_carriedOn_18 : decode cX11_carriedOn 18 = .ok (.iaload, 1) := by decide +kernel
theorem dX11_carriedOn_19 : decode cX11_carriedOn 19 = .ok (.iload_n 1, 1) := by decide +kernel
theorem dX11_carriedOn_20 : decode cX11_carriedOn 20 = .ok (.if_icmp .ne 12, 3) := by decide +kernel
theorem dX11_carriedOn_23 : decode cX11_carriedOn 23 = .ok (.aload_n 0, 1) := by decide +kernel
theorem dX11_carriedOn_24 : decode cX11_carriedOn 24 = .ok (.getfield 46, 3) := by decide +kernel
theorem dX11_carriedOn_27 : decode cX11_carriedOn 27 = .ok (.iload_n 3, 1) := by decide +kernel
theorem dX11_carriedOn_28 : decode cX11_carriedOn 28 = .ok (.iaload, 1) := by decide +kernel
theorem dX11_carriedOn_29 : decode cX11_carriedOn 29 = .ok (.goto 4, 3) := by decide +kernel
theorem dX11_carriedOn_32 : decode cX11_carriedOn 32 = .ok (.iconst 0, 1) := by decide +kernel
theorem dX11_carriedOn_33 : decode cX11_carriedOn 33 = .ok (.iadd, 1) := by decide +kernel
theorem dX11_carriedOn_34 : decode cX11_carriedOn 34 = .ok (.istore_n 2, 1) := by decide +kernel
theorem dX11_carriedOn_35 : decode cX11_carriedOn 35 = .ok (.iinc 3 1, 3) := by decide +kernel
theorem dX11_carriedOn_38 : decode cX11_carriedOn 38 = .ok (.goto (-34), 3) := by decide +kernel
theorem dX11_carriedOn_41 : decode cX11_carriedOn 41 = .ok (.iload_n 2, 1) := by decide +kernel
theorem dX11_carriedOn_42 : decode cX11_carriedOn 42 = .ok (.ireturn, 1) := by decide +kernel
theorem dX11_standsOn_0 : decode cX11_standsOn 0 = .ok (.iconst 0, 1) := by decide +kernel
theorem dX11_standsOn_1 : decode cX11_standsOn 1 = .ok (.istore_n 2, 1) := by decide +kernel
theorem dX11_standsOn_2 : decode cX11_standsOn 2 = .ok (.iload_n 2, 1) := by decide +kernel
theorem dX11_standsOn_3 : decode cX11_standsOn 3 = .ok (.aload_n 0, 1) := by decide +kernel
theorem dX11_standsOn_4 : decode cX11_standsOn 4 = .ok (.getfield 170, 3) := by decide +kernel
theorem dX11_standsOn_7 : decode cX11_standsOn 7 = .ok (.if_icmp .ge 21, 3) := by decide +kernel
theorem dX11_standsOn_10 : decode cX11_standsOn 10 = .ok (.aload_n 0, 1) := by decide +kernel
theorem dX11_standsOn_11 : decode cX11_standsOn 11 = .ok (.getfield 43, 3) := by decide +kernel
theorem dX11_standsOn_14 : decode cX11_standsOn 14 = .ok (.iload_n 2, 1) := by decide +kernel
theorem dX11_standsOn_15 : decode cX11_standsOn 15 = .ok (.iaload, 1) := by decide +kernel
theorem dX11_standsOn_16 : decode cX11_standsOn 16 = .ok (.iload_n 1, 1) := by decide +kernel
theorem dX11_standsOn_17 : decode cX11_standsOn 17 = .ok (.if_icmp .ne 5, 3) := by decide +kernel
theorem dX11_standsOn_20 : decode cX11_standsOn 20 = .ok (.iconst 1, 1) := by decide +kernel
theorem dX11_standsOn_21 : decode cX11_standsOn 21 = .ok (.ireturn, 1) := by decide +kernel
theorem dX11_standsOn_22 : decode cX11_standsOn 22 = .ok (.iinc 2 1, 3) := by decide +kernel
theorem dX11_standsOn_25 : decode cX11_standsOn 25 = .ok (.goto (-23), 3) := by decide +kernel
theorem dX11_standsOn_28 : decode cX11_standsOn 28 = .ok (.iconst 0, 1) := by decide +kernel
theorem dX11_standsOn_29 : decode cX11_standsOn 29 = .ok (.ireturn, 1) := by decide +kernel
theorem dX11_ice_0 : decode cX11_ice 0 = .ok (.iload_n 1, 1) := by decide +kernel
theorem dX11_ice_1 : decode cX11_ice 1 = .ok (.iload_n 2, 1) := by decide +kernel
theorem dX11_ice_2 : decode cX11_ice 2 = .ok (.invokestatic 177, 3) := by decide +kernel
theorem dX11_ice_5 : decode cX11_ice 5 = .ok (.ifCond .eq 15, 3) := by decide +kernel
theorem dX11_ice_8 : decode cX11_ice 8 = .ok (.iload_n 3, 1) := by decide +kernel
theorem dX11_ice_9 : decode cX11_ice 9 = .ok (.i2l, 1) := by decide +kernel
theorem dX11_ice_10 : decode cX11_ice 10 = .ok (.lconst 0, 1) := by decide +kernel
theorem dX11_ice_11 : decode cX11_ice 11 = .ok (.ldc2_w 188, 3) := by decide +kernel
theorem dX11_ice_14 : decode cX11_ice 14 = .ok (.invokestatic 156, 3) := by decide +kernel
theorem dX11_ice_17 : decode cX11_ice 17 = .ok (.ifCond .ne 5, 3) := by decide +kernel
theorem dX11_ice_20 : decode cX11_ice 20 = .ok (.iconst 0, 1) := by decide +kernel
theorem dX11_ice_21 : decode cX11_ice 21 = .ok (.ireturn, 1) := by decide +kernel
theorem dX11_ice_22 : decode cX11_ice 22 = .ok (.aload_n 0, 1) := by decide +kernel
theorem dX11_ice_23 : decode cX11_ice 23 = .ok (.getfield 17, 3) := by decide +kernel
theorem dX11_ice_26 : decode cX11_ice 26 = .ok (.bipush 16, 2) := by decide +kernel
theorem dX11_ice_28 : decode cX11_ice 28 = .ok (.iload_n 2, 1) := by decide +kernel
theorem dX11_ice_29 : decode cX11_ice 29 = .ok (.imul, 1) := by decide +kernel
theorem dX11_ice_30 : decode cX11_ice 30 = .ok (.iload_n 1, 1) := by decide +kernel
theorem dX11_ice_31 : decode cX11_ice 31 = .ok (.iadd, 1) := by decide +kernel
theorem dX11_ice_32 : decode cX11_ice 32 = .ok (.iload_n 3, 1) := by decide +kernel
theorem dX11_ice_33 : decode cX11_ice 33 = .ok (.iastore, 1) := by decide +kernel
theorem dX11_ice_34 : decode cX11_ice 34 = .ok (.aload_n 0, 1) := by decide +kernel
theorem dX11_ice_35 : decode cX11_ice 35 = .ok (.getfield 21, 3) := by decide +kernel
theorem dX11_ice_38 : decode cX11_ice 38 = .ok (.bipush 16, 2) := by decide +kernel
theorem dX11_ice_40 : decode cX11_ice 40 = .ok (.iload_n 2, 1) := by decide +kernel
theorem dX11_ice_41 : decode cX11_ice 41 = .ok (.imul, 1) := by decide +kernel
theorem dX11_ice_42 : decode cX11_ice 42 = .ok (.iload_n 1, 1) := by decide +kernel
theorem dX11_ice_43 : decode cX11_ice 43 = .ok (.iadd, 1) := by decide +kernel
theorem dX11_ice_44 : decode cX11_ice 44 = .ok (.iconst 0, 1) := by decide +kernel
theorem dX11_ice_45 : decode cX11_ice 45 = .ok (.bastore, 1) := by decide +kernel
theorem dX11_ice_46 : decode cX11_ice 46 = .ok (.iconst 1, 1) := by decide +kernel
theorem dX11_ice_47 : decode cX11_ice 47 = .ok (.ireturn, 1) := by decide +kernel
theorem dX11_push_0 : decode cX11_push 0 = .ok (.bipush 24, 2) := by decide +kernel
theorem dX11_push_2 : decode cX11_push 2 = .ok (.istore_n 2, 1) := by decide +kernel
theorem dX11_push_3 : decode cX11_push 3 = .ok (.iload_n 2, 1) := by decide +kernel
theorem dX11_push_4 : decode cX11_push 4 = .ok (.ifCond .lt 32, 3) := by decide +kernel
theorem dX11_push_7 : decode cX11_push 7 = .ok (.aload_n 0, 1) := by decide +kernel
theorem dX11_push_8 : decode cX11_push 8 = .ok (.getfield 7, 3) := by decide +kernel
theorem dX11_push_11 : decode cX11_push 11 = .ok (.aload_n 0, 1) := by decide +kernel
theorem dX11_push_12 : decode cX11_push 12 = .ok (.getfield 190, 3) := by decide +kernel
theorem dX11_push_15 : decode cX11_push 15 = .ok (.iload_n 1, 1) := by decide +kernel
theorem dX11_push_16 : decode cX11_push 16 = .ok (.iload_n 2, 1) := by decide +kernel
theorem dX11_push_17 : decode cX11_push 17 = .ok (.ishr, 1) := by decide +kernel
theorem dX11_push_18 : decode cX11_push 18 = .ok (.i2b, 1) := by decide +kernel
theorem dX11_push_19 : decode cX11_push 19 = .ok (.bastore, 1) := by decide +kernel
theorem dX11_push_20 : decode cX11_push 20 = .ok (.aload_n 0, 1) := by decide +kernel
theorem dX11_push_21 : decode cX11_push 21 = .ok (.dup, 1) := by decide +kernel
theorem dX11_push_22 : decode cX11_push 22 = .ok (.getfield 190, 3) := by decide +kernel
theorem dX11_push_25 : decode cX11_push 25 = .ok (.iconst 1, 1) := by decide +kernel
theorem dX11_push_26 : decode cX11_push 26 = .ok (.iadd, 1) := by decide +kernel
theorem dX11_push_27 : decode cX11_push 27 = .ok (.putfield 190, 3) := by decide +kernel
theorem dX11_push_30 : decode cX11_push 30 = .ok (.iinc 2 (-8), 3) := by decide +kernel
theorem dX11_push_33 : decode cX11_push 33 = .ok (.goto (-30), 3) := by decide +kernel
theorem dX11_push_36 : decode cX11_push 36 = .ok (.return_, 1) := by decide +kernel
theorem dX11_feed_0 : decode cX11_feed 0 = .ok (.aload_n 0, 1) := by decide +kernel
theorem dX11_feed_1 : decode cX11_feed 1 = .ok (.getfield 190, 3) := by decide +kernel
theorem dX11_feed_4 : decode cX11_feed 4 = .ok (.bipush 20, 2) := by decide +kernel
theorem dX11_feed_6 : decode cX11_feed 6 = .ok (.iadd, 1) := by decide +kernel
theorem dX11_feed_7 : decode cX11_feed 7 = .ok (.sipush 220, 3) := by decide +kernel
theorem dX11_feed_10 : decode cX11_feed 10 = .ok (.if_icmp .le 5, 3) := by decide +kernel
theorem dX11_feed_13 : decode cX11_feed 13 = .ok (.iconst (-1), 1) := by decide +kernel
theorem dX11_feed_14 : decode cX11_feed 14 = .ok (.ireturn, 1) := by decide +kernel
theorem dX11_feed_15 : decode cX11_feed 15 = .ok (.aload_n 0, 1) := by decide +kernel
theorem dX11_feed_16 : decode cX11_feed 16 = .ok (.iload_n 1, 1) := by decide +kernel
theorem dX11_feed_17 : decode cX11_feed 17 = .ok (.invokevirtual 193, 3) := by decide +kernel
theorem dX11_feed_20 : decode cX11_feed 20 = .ok (.aload_n 0, 1) := by decide +kernel
theorem dX11_feed_21 : decode cX11_feed 21 = .ok (.iload_n 2, 1) := by decide +kernel
theorem dX11_feed_22 : decode cX11_feed 22 = .ok (.invokevirtual 193, 3) := by decide +kernel
theorem dX11_feed_25 : decode cX11_feed 25 = .ok (.aload_n 0, 1) := by decide +kernel
theorem dX11_feed_26 : decode cX11_feed 26 = .ok (.iload_n 3, 1) := by decide +kernel
theorem dX11_feed_27 : decode cX11_feed 27 = .ok (.invokevirtual 193, 3) := by decide +kernel
theorem dX11_feed_30 : decode cX11_feed 30 = .ok (.aload_n 0, 1) := by decide +kernel
theorem dX11_feed_31 : decode cX11_feed 31 = .ok (.iload 4, 2) := by decide +kernel
theorem dX11_feed_33 : decode cX11_feed 33 = .ok (.invokevirtual 193, 3) := by decide +kernel
theorem dX11_feed_36 : decode cX11_feed 36 = .ok (.aload_n 0, 1) := by decide +kernel
theorem dX11_feed_37 : decode cX11_feed 37 = .ok (.iload 5, 2) := by decide +kernel
theorem dX11_feed_39 : decode cX11_feed 39 = .ok (.invokevirtual 193, 3) := by decide +kernel
theorem dX11_feed_42 : decode cX11_feed 42 = .ok (.aload_n 0, 1) := by decide +kernel
theorem dX11_feed_43 : decode cX11_feed 43 = .ok (.getfield 190, 3) := by decide +kernel
theorem dX11_feed_46 : decode cX11_feed 46 = .ok (.ireturn, 1) := by decide +kernel
theorem dX11_byteAt_0 : decode cX11_byteAt 0 = .ok (.aload_n 0, 1) := by decide +kernel
theorem dX11_byteAt_1 : decode cX11_byteAt 1 = .ok (.getfield 7, 3) := by decide +kernel
theorem dX11_byteAt_4 : decode cX11_byteAt 4 = .ok (.iload_n 1, 1) := by decide +kernel
theorem dX11_byteAt_5 : decode cX11_byteAt 5 = .ok (.baload, 1) := by decide +kernel
theorem dX11_byteAt_6 : decode cX11_byteAt 6 = .ok (.sipush 255, 3) := by decide +kernel
theorem dX11_byteAt_9 : decode cX11_byteAt 9 = .ok (.iand, 1) := by decide +kernel
theorem dX11_byteAt_10 : decode cX11_byteAt 10 = .ok (.ireturn, 1) := by decide +kernel
theorem dX11_here_0 : decode cX11_here 0 = .ok (.aload_n 0, 1) := by decide +kernel
theorem dX11_here_1 : decode cX11_here 1 = .ok (.getfield 197, 3) := by decide +kernel
theorem dX11_here_4 : decode cX11_here 4 = .ok (.aload_n 0, 1) := by decide +kernel
theorem dX11_here_5 : decode cX11_here 5 = .ok (.getfield 200, 3) := by decide +kernel
theorem dX11_here_8 : decode cX11_here 8 = .ok (.if_icmp .ge 19, 3) := by decide +kernel
theorem dX11_here_11 : decode cX11_here 11 = .ok (.aload_n 0, 1) := by decide +kernel
theorem dX11_here_12 : decode cX11_here 12 = .ok (.getfield 7, 3) := by decide +kernel
theorem dX11_here_15 : decode cX11_here 15 = .ok (.aload_n 0, 1) := by decide +kernel
theorem dX11_here_16 : decode cX11_here 16 = .ok (.getfield 197, 3) := by decide +kernel
theorem dX11_here_19 : decode cX11_here 19 = .ok (.baload, 1) := by decide +kernel
theorem dX11_here_20 : decode cX11_here 20 = .ok (.sipush 255, 3) := by decide +kernel
theorem dX11_here_23 : decode cX11_here 23 = .ok (.iand, 1) := by decide +kernel
theorem dX11_here_24 : decode cX11_here 24 = .ok (.goto 4, 3) := by decide +kernel
theorem dX11_here_27 : decode cX11_here 27 = .ok (.iconst 0, 1) := by decide +kernel
theorem dX11_here_28 : decode cX11_here 28 = .ok (.ireturn, 1) := by decide +kernel
theorem dX11_wrongs_0 : decode cX11_wrongs 0 = .ok (.aload_n 0, 1) := by decide +kernel
theorem dX11_wrongs_1 : decode cX11_wrongs 1 = .ok (.aload_n 0, 1) := by decide +kernel
theorem dX11_wrongs_2 : decode cX11_wrongs 2 = .ok (.getfield 203, 3) := by decide +kernel
theorem dX11_wrongs_5 : decode cX11_wrongs 5 = .ok (.ifCond .ge 10, 3) := by decide +kernel
theorem dX11_wrongs_8 : decode cX11_wrongs 8 = .ok (.aload_n 0, 1) := by decide +kernel
theorem dX11_wrongs_9 : decode cX11_wrongs 9 = .ok (.getfield 203, 3) := by decide +kernel
theorem dX11_wrongs_12 : decode cX11_wrongs 12 = .ok (.goto 10, 3) := by decide +kernel
theorem dX11_wrongs_15 : decode cX11_wrongs 15 = .ok (.sipush (-1000), 3) := by decide +kernel
theorem dX11_wrongs_18 : decode cX11_wrongs 18 = .ok (.iload_n 1, 1) := by decide +kernel
theorem dX11_wrongs_19 : decode cX11_wrongs 19 = .ok (.imul, 1) := by decide +kernel
theorem dX11_wrongs_20 : decode cX11_wrongs 20 = .ok (.iload_n 2, 1) := by decide +kernel
theorem dX11_wrongs_21 : decode cX11_wrongs 21 = .ok (.isub, 1) := by decide +kernel
theorem dX11_wrongs_22 : decode cX11_wrongs 22 = .ok (.putfield 203, 3) := by decide +kernel
theorem dX11_wrongs_25 : decode cX11_wrongs 25 = .ok (.return_, 1) := by decide +kernel
theorem dX11_isGood_0 : decode cX11_isGood 0 = .ok (.aload_n 0, 1) := by decide +kernel
theorem dX11_isGood_1 : decode cX11_isGood 1 = .ok (.getfield 203, 3) := by decide +kernel
theorem dX11_isGood_4 : decode cX11_isGood 4 = .ok (.ifCond .ne 7, 3) := by decide +kernel
theorem dX11_isGood_7 : decode cX11_isGood 7 = .ok (.iconst 1, 1) := by decide +kernel
theorem dX11_isGood_8 : decode cX11_isGood 8 = .ok (.goto 4, 3) := by decide +kernel
theorem dX11_isGood_11 : decode cX11_isGood 11 = .ok (.iconst 0, 1) := by decide +kernel
theorem dX11_isGood_12 : decode cX11_isGood 12 = .ok (.ireturn, 1) := by decide +kernel
theorem dX11_emit_0 : decode cX11_emit 0 = .ok (.aload_n 0, 1) := by decide +kernel
theorem dX11_emit_1 : decode cX11_emit 1 = .ok (.invokevirtual 206, 3) := by decide +kernel
theorem dX11_emit_4 : decode cX11_emit 4 = .ok (.ifCond .ne 4, 3) := by decide +kernel
theorem dX11_emit_7 : decode cX11_emit 7 = .ok (.return_, 1) := by decide +kernel
theorem dX11_emit_8 : decode cX11_emit 8 = .ok (.aload_n 0, 1) := by decide +kernel
theorem dX11_emit_9 : decode cX11_emit 9 = .ok (.getfield 79, 3) := by decide +kernel
theorem dX11_emit_12 : decode cX11_emit 12 = .ok (.aload_n 0, 1) := by decide +kernel
theorem dX11_emit_13 : decode cX11_emit 13 = .ok (.getfield 210, 3) := by decide +kernel
theorem dX11_emit_16 : decode cX11_emit 16 = .ok (.iload_n 1, 1) := by decide +kernel
theorem dX11_emit_17 : decode cX11_emit 17 = .ok (.iastore, 1) := by decide +kernel
theorem dX11_emit_18 : decode cX11_emit 18 = .ok (.aload_n 0, 1) := by decide +kernel
theorem dX11_emit_19 : decode cX11_emit 19 = .ok (.getfield 82, 3) := by decide +kernel
theorem dX11_emit_22 : decode cX11_emit 22 = .ok (.aload_n 0, 1) := by decide +kernel
theorem dX11_emit_23 : decode cX11_emit 23 = .ok (.getfield 210, 3) := by decide +kernel
theorem dX11_emit_26 : decode cX11_emit 26 = .ok (.iload_n 2, 1) := by decide +kernel
theorem dX11_emit_27 : decode cX11_emit 27 = .ok (.iastore, 1) := by decide +kernel
theorem dX11_emit_28 : decode cX11_emit 28 = .ok (.aload_n 0, 1) := by decide +kernel
theorem dX11_emit_29 : decode cX11_emit 29 = .ok (.dup, 1) := by decide +kernel
theorem dX11_emit_30 : decode cX11_emit 30 = .ok (.getfield 210, 3) := by decide +kernel
theorem dX11_emit_33 : decode cX11_emit 33 = .ok (.iconst 1, 1) := by decide +kernel
theorem dX11_emit_34 : decode cX11_emit 34 = .ok (.iadd, 1) := by decide +kernel
theorem dX11_emit_35 : decode cX11_emit 35 = .ok (.putfield 210, 3) := by decide +kernel
theorem dX11_emit_38 : decode cX11_emit 38 = .ok (.return_, 1) := by decide +kernel
theorem dX11_top_0 : decode cX11_top 0 = .ok (.aload_n 0, 1) := by decide +kernel
theorem dX11_top_1 : decode cX11_top 1 = .ok (.getfield 213, 3) := by decide +kernel
theorem dX11_top_4 : decode cX11_top 4 = .ok (.ifCond .le 17, 3) := by decide +kernel
theorem dX11_top_7 : decode cX11_top 7 = .ok (.aload_n 0, 1) := by decide +kernel
theorem dX11_top_8 : decode cX11_top 8 = .ok (.getfield 85, 3) := by decide +kernel
theorem dX11_top_11 : decode cX11_top 11 = .ok (.aload_n 0, 1) := by decide +kernel
theorem dX11_top_12 : decode cX11_top 12 = .ok (.getfield 213, 3) := by decide +kernel
theorem dX11_top_15 : decode cX11_top 15 = .ok (.iconst 1, 1) := by decide +kernel
theorem dX11_top_16 : decode cX11_top 16 = .ok (.isub, 1) := by decide +kernel
theorem dX11_top_17 : decode cX11_top 17 = .ok (.iaload, 1) := by decide +kernel
theorem dX11_top_18 : decode cX11_top 18 = .ok (.goto 4, 3) := by decide +kernel
theorem dX11_top_21 : decode cX11_top 21 = .ok (.iconst 0, 1) := by decide +kernel
theorem dX11_top_22 : decode cX11_top 22 = .ok (.ireturn, 1) := by decide +kernel
theorem dX11_puts_0 : decode cX11_puts 0 = .ok (.aload_n 0, 1) := by decide +kernel
theorem dX11_puts_1 : decode cX11_puts 1 = .ok (.getfield 85, 3) := by decide +kernel
theorem dX11_puts_4 : decode cX11_puts 4 = .ok (.aload_n 0, 1) := by decide +kernel
theorem dX11_puts_5 : decode cX11_puts 5 = .ok (.getfield 213, 3) := by decide +kernel
theorem dX11_puts_8 : decode cX11_puts 8 = .ok (.iload_n 1, 1) := by decide +kernel
theorem dX11_puts_9 : decode cX11_puts 9 = .ok (.iastore, 1) := by decide +kernel
theorem dX11_puts_10 : decode cX11_puts 10 = .ok (.aload_n 0, 1) := by decide +kernel
theorem dX11_puts_11 : decode cX11_puts 11 = .ok (.dup, 1) := by decide +kernel
theorem dX11_puts_12 : decode cX11_puts 12 = .ok (.getfield 213, 3) := by decide +kernel
theorem dX11_puts_15 : decode cX11_puts 15 = .ok (.iconst 1, 1) := by decide +kernel
theorem dX11_puts_16 : decode cX11_puts 16 = .ok (.iadd, 1) := by decide +kernel
theorem dX11_puts_17 : decode cX11_puts 17 = .ok (.putfield 213, 3) := by decide +kernel
theorem dX11_puts_20 : decode cX11_puts 20 = .ok (.aload_n 0, 1) := by decide +kernel
theorem dX11_puts_21 : decode cX11_puts 21 = .ok (.dup, 1) := by decide +kernel
theorem dX11_puts_22 : decode cX11_puts 22 = .ok (.getfield 197, 3) := by decide +kernel
theorem dX11_puts_25 : decode cX11_puts 25 = .ok (.iconst 1, 1) := by decide +kernel
theorem dX11_puts_26 : decode cX11_puts 26 = .ok (.iadd, 1) := by decide +kernel
theorem dX11_puts_27 : decode cX11_puts 27 = .ok (.putfield 197, 3) := by decide +kernel
theorem dX11_puts_30 : decode cX11_puts 30 = .ok (.return_, 1) := by decide +kernel
theorem dX11_opens_0 : decode cX11_opens 0 = .ok (.aload_n 0, 1) := by decide +kernel
theorem dX11_opens_1 : decode cX11_opens 1 = .ok (.getfield 216, 3) := by decide +kernel
theorem dX11_opens_4 : decode cX11_opens 4 = .ok (.bipush 6, 2) := by decide +kernel
theorem dX11_opens_6 : decode cX11_opens 6 = .ok (.if_icmp .ne 12, 3) := by decide +kernel
theorem dX11_opens_9 : decode cX11_opens 9 = .ok (.aload_n 0, 1) := by decide +kernel
theorem dX11_opens_10 : decode cX11_opens 10 = .ok (.iconst 5, 1) := by decide +kernel
theorem dX11_opens_11 : decode cX11_opens 11 = .ok (.aload_n 0, 1) := by decide +kernel
theorem dX11_opens_12 : decode cX11_opens 12 = .ok (.getfield 197, 3) := by decide +kernel
theorem dX11_opens_15 : decode cX11_opens 15 = .ok (.invokevirtual 219, 3) := by decide +kernel
theorem dX11_opens_18 : decode cX11_opens 18 = .ok (.aload_n 0, 1) := by decide +kernel
theorem dX11_opens_19 : decode cX11_opens 19 = .ok (.dup, 1) := by decide +kernel
theorem dX11_opens_20 : decode cX11_opens 20 = .ok (.getfield 216, 3) := by decide +kernel
theorem dX11_opens_23 : decode cX11_opens 23 = .ok (.iconst 1, 1) := by decide +kernel
theorem dX11_opens_24 : decode cX11_opens 24 = .ok (.iadd, 1) := by decide +kernel
theorem dX11_opens_25 : decode cX11_opens 25 = .ok (.putfield 216, 3) := by decide +kernel
theorem dX11_opens_28 : decode cX11_opens 28 = .ok (.aload_n 0, 1) := by decide +kernel
theorem dX11_opens_29 : decode cX11_opens 29 = .ok (.aload_n 0, 1) := by decide +kernel
theorem dX11_opens_30 : decode cX11_opens 30 = .ok (.invokevirtual 223, 3) := by decide +kernel
theorem dX11_opens_33 : decode cX11_opens 33 = .ok (.invokevirtual 227, 3) := by decide +kernel
theorem dX11_opens_36 : decode cX11_opens 36 = .ok (.return_, 1) := by decide +kernel
theorem dX11_seesDigit_0 : decode cX11_seesDigit 0 = .ok (.aload_n 0, 1) := by decide +kernel
theorem dX11_seesDigit_1 : decode cX11_seesDigit 1 = .ok (.invokevirtual 223, 3) := by decide +kernel
theorem dX11_seesDigit_4 : decode cX11_seesDigit 4 = .ok (.i2l, 1) := by decide +kernel
theorem dX11_seesDigit_5 : decode cX11_seesDigit 5 = .ok (.ldc2_w 230, 3) := by decide +kernel
theorem dX11_seesDigit_8 : decode cX11_seesDigit 8 = .ok (.ldc2_w 232, 3) := by decide +kernel
theorem dX11_seesDigit_11 : decode cX11_seesDigit 11 = .ok (.invokestatic 156, 3) := by decide +kernel
theorem dX11_seesDigit_14 : decode cX11_seesDigit 14 = .ok (.ireturn, 1) := by decide +kernel
theorem dX11_reads_0 : decode cX11_reads 0 = .ok (.aload_n 0, 1) := by decide +kernel
theorem dX11_reads_1 : decode cX11_reads 1 = .ok (.getfield 197, 3) := by decide +kernel
theorem dX11_reads_4 : decode cX11_reads 4 = .ok (.istore_n 1, 1) := by decide +kernel
theorem dX11_reads_5 : decode cX11_reads 5 = .ok (.iconst 0, 1) := by decide +kernel
theorem dX11_reads_6 : decode cX11_reads 6 = .ok (.istore_n 2, 1) := by decide +kernel
theorem dX11_reads_7 : decode cX11_reads 7 = .ok (.aload_n 0, 1) := by decide +kernel
theorem dX11_reads_8 : decode cX11_reads 8 = .ok (.invokevirtual 206, 3) := by decide +kernel
theorem dX11_reads_11 : decode cX11_reads 11 = .ok (.ifCond .eq 55, 3) := by decide +kernel
theorem dX11_reads_14 : decode cX11_reads 14 = .ok (.aload_n 0, 1) := by decide +kernel
theorem dX11_reads_15 : decode cX11_reads 15 = .ok (.invokevirtual 234, 3) := by decide +kernel
theorem dX11_reads_18 : decode cX11_reads 18 = .ok (.ifCond .eq 48, 3) := by decide +kernel
theorem dX11_reads_21 : decode cX11_reads 21 = .ok (.aload_n 0, 1) := by decide +kernel
theorem dX11_reads_22 : decode cX11_reads 22 = .ok (.getfield 197, 3) := by decide +kernel
theorem dX11_reads_25 : decode cX11_reads 25 = .ok (.iload_n 1, 1) := by decide +kernel
theorem dX11_reads_26 : decode cX11_reads 26 = .ok (.iconst 5, 1) := by decide +kernel
theorem dX11_reads_27 : decode cX11_reads 27 = .ok (.iadd, 1) := by decide +kernel
theorem dX11_reads_28 : decode cX11_reads 28 = .ok (.if_icmp .ne 12, 3) := by decide +kernel
theorem dX11_reads_31 : decode cX11_reads 31 = .ok (.aload_n 0, 1) := by decide +kernel
theorem dX11_reads_32 : decode cX11_reads 32 = .ok (.iconst 2, 1) := by decide +kernel
theorem dX11_reads_33 : decode cX11_reads 33 = .ok (.aload_n 0, 1) := by decide +kernel
theorem dX11_reads_34 : decode cX11_reads 34 = .ok (.getfield 197, 3) := by decide +kernel
theorem dX11_reads_37 : decode cX11_reads 37 = .ok (.invokevirtual 219, 3) := by decide +kernel
theorem dX11_reads_40 : decode cX11_reads 40 = .ok (.bipush 10, 2) := by decide +kernel
theorem dX11_reads_42 : decode cX11_reads 42 = .ok (.iload_n 2, 1) := by decide +kernel
theorem dX11_reads_43 : decode cX11_reads 43 = .ok (.imul, 1) := by decide +kernel
theorem dX11_reads_44 : decode cX11_reads 44 = .ok (.aload_n 0, 1) := by decide +kernel
theorem dX11_reads_45 : decode cX11_reads 45 = .ok (.invokevirtual 223, 3) := by decide +kernel
theorem dX11_reads_48 : decode cX11_reads 48 = .ok (.iadd, 1) := by decide +kernel
theorem dX11_reads_49 : decode cX11_reads 49 = .ok (.bipush 48, 2) := by decide +kernel
theorem dX11_reads_51 : decode cX11_reads 51 = .ok (.isub, 1) := by decide +kernel
theorem dX11_reads_52 : decode cX11_reads 52 = .ok (.istore_n 2, 1) := by decide +kernel
theorem dX11_reads_53 : decode cX11_reads 53 = .ok (.aload_n 0, 1) := by decide +kernel
theorem dX11_reads_54 : decode cX11_reads 54 = .ok (.dup, 1) := by decide +kernel
theorem dX11_reads_55 : decode cX11_reads 55 = .ok (.getfield 197, 3) := by decide +kernel
theorem dX11_reads_58 : decode cX11_reads 58 = .ok (.iconst 1, 1) := by decide +kernel
theorem dX11_reads_59 : decode cX11_reads 59 = .ok (.iadd, 1) := by decide +kernel
theorem dX11_reads_60 : decode cX11_reads 60 = .ok (.putfield 197, 3) := by decide +kernel
theorem dX11_reads_63 : decode cX11_reads 63 = .ok (.goto (-56), 3) := by decide +kernel
theorem dX11_reads_66 : decode cX11_reads 66 = .ok (.iload_n 2, 1) := by decide +kernel
theorem dX11_reads_67 : decode cX11_reads 67 = .ok (.ireturn, 1) := by decide +kernel
theorem dX11_isTimes_0 : decode cX11_isTimes 0 = .ok (.iload_n 0, 1) := by decide +kernel
theorem dX11_isTimes_1 : decode cX11_isTimes 1 = .ok (.bipush 42, 2) := by decide +kernel
theorem dX11_isTimes_3 : decode cX11_isTimes 3 = .ok (.if_icmp .eq 15, 3) := by decide +kernel
theorem dX11_isTimes_6 : decode cX11_isTimes 6 = .ok (.iload_n 0, 1) := by decide +kernel
theorem dX11_isTimes_7 : decode cX11_isTimes 7 = .ok (.bipush 47, 2) := by decide +kernel
theorem dX11_isTimes_9 : decode cX11_isTimes 9 = .ok (.if_icmp .eq 9, 3) := by decide +kernel
theorem dX11_isTimes_12 : decode cX11_isTimes 12 = .ok (.iload_n 0, 1) := by decide +kernel
theorem dX11_isTimes_13 : decode cX11_isTimes 13 = .ok (.bipush 37, 2) := by decide +kernel
theorem dX11_isTimes_15 : decode cX11_isTimes 15 = .ok (.if_icmp .ne 7, 3) := by decide +kernel
theorem dX11_isTimes_18 : decode cX11_isTimes 18 = .ok (.iconst 1, 1) := by decide +kernel
theorem dX11_isTimes_19 : decode cX11_isTimes 19 = .ok (.goto 4, 3) := by decide +kernel
theorem dX11_isTimes_22 : decode cX11_isTimes 22 = .ok (.iconst 0, 1) := by decide +kernel
theorem dX11_isTimes_23 : decode cX11_isTimes 23 = .ok (.ireturn, 1) := by decide +kernel
theorem dX11_isPlus_0 : decode cX11_isPlus 0 = .ok (.iload_n 0, 1) := by decide +kernel
theorem dX11_isPlus_1 : decode cX11_isPlus 1 = .ok (.bipush 43, 2) := by decide +kernel
theorem dX11_isPlus_3 : decode cX11_isPlus 3 = .ok (.if_icmp .eq 9, 3) := by decide +kernel
theorem dX11_isPlus_6 : decode cX11_isPlus 6 = .ok (.iload_n 0, 1) := by decide +kernel
theorem dX11_isPlus_7 : decode cX11_isPlus 7 = .ok (.bipush 45, 2) := by decide +kernel
theorem dX11_isPlus_9 : decode cX11_isPlus 9 = .ok (.if_icmp .ne 7, 3) := by decide +kernel
theorem dX11_isPlus_12 : decode cX11_isPlus 12 = .ok (.iconst 1, 1) := by decide +kernel
theorem dX11_isPlus_13 : decode cX11_isPlus 13 = .ok (.goto 4, 3) := by decide +kernel
theorem dX11_isPlus_16 : decode cX11_isPlus 16 = .ok (.iconst 0, 1) := by decide +kernel
theorem dX11_isPlus_17 : decode cX11_isPlus 17 = .ok (.ireturn, 1) := by decide +kernel
theorem dX11_isSign_0 : decode cX11_isSign 0 = .ok (.iload_n 0, 1) := by decide +kernel
theorem dX11_isSign_1 : decode cX11_isSign 1 = .ok (.bipush 60, 2) := by decide +kernel
theorem dX11_isSign_3 : decode cX11_isSign 3 = .ok (.if_icmp .eq 15, 3) := by decide +kernel
theorem dX11_isSign_6 : decode cX11_isSign 6 = .ok (.iload_n 0, 1) := by decide +kernel
theorem dX11_isSign_7 : decode cX11_isSign 7 = .ok (.bipush 62, 2) := by decide +kernel
theorem dX11_isSign_9 : decode cX11_isSign 9 = .ok (.if_icmp .eq 9, 3) := by decide +kernel
theorem dX11_isSign_12 : decode cX11_isSign 12 = .ok (.iload_n 0, 1) := by decide +kernel
theorem dX11_isSign_13 : decode cX11_isSign 13 = .ok (.bipush 61, 2) := by decide +kernel
theorem dX11_isSign_15 : decode cX11_isSign 15 = .ok (.if_icmp .ne 7, 3) := by decide +kernel
theorem dX11_isSign_18 : decode cX11_isSign 18 = .ok (.iconst 1, 1) := by decide +kernel
theorem dX11_isSign_19 : decode cX11_isSign 19 = .ok (.goto 4, 3) := by decide +kernel
theorem dX11_isSign_22 : decode cX11_isSign 22 = .ok (.iconst 0, 1) := by decide +kernel
theorem dX11_isSign_23 : decode cX11_isSign 23 = .ok (.ireturn, 1) := by decide +kernel
theorem dX11_isValue_0 : decode cX11_isValue 0 = .ok (.iload_n 0, 1) := by decide +kernel
theorem dX11_isValue_1 : decode cX11_isValue 1 = .ok (.bipush 105, 2) := by decide +kernel
theorem dX11_isValue_3 : decode cX11_isValue 3 = .ok (.if_icmp .eq 69, 3) := by decide +kernel
theorem dX11_isValue_6 : decode cX11_isValue 6 = .ok (.iload_n 0, 1) := by decide +kernel
theorem dX11_isValue_7 : decode cX11_isValue 7 = .ok (.bipush 110, 2) := by decide +kernel
theorem dX11_isValue_9 : decode cX11_isValue 9 = .ok (.if_icmp .eq 63, 3) := by decide +kernel
theorem dX11_isValue_12 : decode cX11_isValue 12 = .ok (.iload_n 0, 1) := by decide +kernel
theorem dX11_isValue_13 : decode cX11_isValue 13 = .ok (.bipush 104, 2) := by decide +kernel
theorem dX11_isValue_15 : decode cX11_isValue 15 = .ok (.if_icmp .eq 57, 3) := by decide +kernel
theorem dX11_isValue_18 : decode cX11_isValue 18 = .ok (.iload_n 0, 1) := by decide +kernel
theorem dX11_isValue_19 : decode cX11_isValue 19 = .ok (.bipush 120, 2) := by decide +kernel
theorem dX11_isValue_21 : decode cX11_isValue 21 = .ok (.if_icmp .eq 51, 3) := by decide +kernel
theorem dX11_isValue_24 : decode cX11_isValue 24 = .ok (.iload_n 0, 1) := by decide +kernel
theorem dX11_isValue_25 : decode cX11_isValue 25 = .ok (.bipush 121, 2) := by decide +kernel
theorem dX11_isValue_27 : decode cX11_isValue 27 = .ok (.if_icmp .eq 45, 3) := by decide +kernel
theorem dX11_isValue_30 : decode cX11_isValue 30 = .ok (.iload_n 0, 1) := by decide +kernel
theorem dX11_isValue_31 : decode cX11_isValue 31 = .ok (.bipush 109, 2) := by decide +kernel
theorem dX11_isValue_33 : decode cX11_isValue 33 = .ok (.if_icmp .eq 39, 3) := by decide +kernel
theorem dX11_isValue_36 : decode cX11_isValue 36 = .ok (.iload_n 0, 1) := by decide +kernel
theorem dX11_isValue_37 : decode cX11_isValue 37 = .ok (.bipush 107, 2) := by decide +kernel
theorem dX11_isValue_39 : decode cX11_isValue 39 = .ok (.if_icmp .eq 33, 3) := by decide +kernel
theorem dX11_isValue_42 : decode cX11_isValue 42 = .ok (.iload_n 0, 1) := by decide +kernel
theorem dX11_isValue_43 : decode cX11_isValue 43 = .ok (.bipush 115, 2) := by decide +kernel
theorem dX11_isValue_45 : decode cX11_isValue 45 = .ok (.if_icmp .eq 27, 3) := by decide +kernel
theorem dX11_isValue_48 : decode cX11_isValue 48 = .ok (.iload_n 0, 1) := by decide +kernel
theorem dX11_isValue_49 : decode cX11_isValue 49 = .ok (.bipush 112, 2) := by decide +kernel
theorem dX11_isValue_51 : decode cX11_isValue 51 = .ok (.if_icmp .eq 21, 3) := by decide +kernel
theorem dX11_isValue_54 : decode cX11_isValue 54 = .ok (.iload_n 0, 1) := by decide +kernel
theorem dX11_isValue_55 : decode cX11_isValue 55 = .ok (.bipush 100, 2) := by decide +kernel
theorem dX11_isValue_57 : decode cX11_isValue 57 = .ok (.if_icmp .eq 15, 3) := by decide +kernel
theorem dX11_isValue_60 : decode cX11_isValue 60 = .ok (.iload_n 0, 1) := by decide +kernel
theorem dX11_isValue_61 : decode cX11_isValue 61 = .ok (.bipush 119, 2) := by decide +kernel
theorem dX11_isValue_63 : decode cX11_isValue 63 = .ok (.if_icmp .eq 9, 3) := by decide +kernel
theorem dX11_isValue_66 : decode cX11_isValue 66 = .ok (.iload_n 0, 1) := by decide +kernel
theorem dX11_isValue_67 : decode cX11_isValue 67 = .ok (.bipush 113, 2) := by decide +kernel
theorem dX11_isValue_69 : decode cX11_isValue 69 = .ok (.if_icmp .ne 7, 3) := by decide +kernel
theorem dX11_isValue_72 : decode cX11_isValue 72 = .ok (.iconst 1, 1) := by decide +kernel
theorem dX11_isValue_73 : decode cX11_isValue 73 = .ok (.goto 4, 3) := by decide +kernel
theorem dX11_isValue_76 : decode cX11_isValue 76 = .ok (.iconst 0, 1) := by decide +kernel
theorem dX11_isValue_77 : decode cX11_isValue 77 = .ok (.ireturn, 1) := by decide +kernel
theorem dX11_sums_0 : decode cX11_sums 0 = .ok (.aload_n 0, 1) := by decide +kernel
theorem dX11_sums_1 : decode cX11_sums 1 = .ok (.invokevirtual 237, 3) := by decide +kernel
theorem dX11_sums_4 : decode cX11_sums 4 = .ok (.invokestatic 240, 3) := by decide +kernel
theorem dX11_sums_7 : decode cX11_sums 7 = .ok (.ifCond .ne 17, 3) := by decide +kernel
theorem dX11_sums_10 : decode cX11_sums 10 = .ok (.iload_n 1, 1) := by decide +kernel
theorem dX11_sums_11 : decode cX11_sums 11 = .ok (.ifCond .eq 35, 3) := by decide +kernel
theorem dX11_sums_14 : decode cX11_sums 14 = .ok (.aload_n 0, 1) := by decide +kernel
theorem dX11_sums_15 : decode cX11_sums 15 = .ok (.invokevirtual 237, 3) := by decide +kernel
theorem dX11_sums_18 : decode cX11_sums 18 = .ok (.invokestatic 243, 3) := by decide +kernel
theorem dX11_sums_21 : decode cX11_sums 21 = .ok (.ifCond .eq 25, 3) := by decide +kernel
theorem dX11_sums_24 : decode cX11_sums 24 = .ok (.aload_n 0, 1) := by decide +kernel
theorem dX11_sums_25 : decode cX11_sums 25 = .ok (.aload_n 0, 1) := by decide +kernel
theorem dX11_sums_26 : decode cX11_sums 26 = .ok (.invokevirtual 237, 3) := by decide +kernel
theorem dX11_sums_29 : decode cX11_sums 29 = .ok (.iconst 0, 1) := by decide +kernel
theorem dX11_sums_30 : decode cX11_sums 30 = .ok (.invokevirtual 246, 3) := by decide +kernel
theorem dX11_sums_33 : decode cX11_sums 33 = .ok (.aload_n 0, 1) := by decide +kernel
theorem dX11_sums_34 : decode cX11_sums 34 = .ok (.dup, 1) := by decide +kernel
theorem dX11_sums_35 : decode cX11_sums 35 = .ok (.getfield 213, 3) := by decide +kernel
theorem dX11_sums_38 : decode cX11_sums 38 = .ok (.iconst 1, 1) := by decide +kernel
theorem dX11_sums_39 : decode cX11_sums 39 = .ok (.isub, 1) := by decide +kernel
theorem dX11_sums_40 : decode cX11_sums 40 = .ok (.putfield 213, 3) := by decide +kernel
theorem dX11_sums_43 : decode cX11_sums 43 = .ok (.goto (-43), 3) := by decide +kernel
theorem dX11_sums_46 : decode cX11_sums 46 = .ok (.return_, 1) := by decide +kernel
theorem dX11_joins_0 : decode cX11_joins 0 = .ok (.aload_n 0, 1) := by decide +kernel
theorem dX11_joins_1 : decode cX11_joins 1 = .ok (.invokevirtual 237, 3) := by decide +kernel
theorem dX11_joins_4 : decode cX11_joins 4 = .ok (.bipush 38, 2) := by decide +kernel
theorem dX11_joins_6 : decode cX11_joins 6 = .ok (.if_icmp .eq 16, 3) := by decide +kernel
theorem dX11_joins_9 : decode cX11_joins 9 = .ok (.iload_n 1, 1) := by decide +kernel
theorem dX11_joins_10 : decode cX11_joins 10 = .ok (.ifCond .eq 34, 3) := by decide +kernel
theorem dX11_joins_13 : decode cX11_joins 13 = .ok (.aload_n 0, 1) := by decide +kernel
theorem dX11_joins_14 : decode cX11_joins 14 = .ok (.invokevirtual 237, 3) := by decide +kernel
theorem dX11_joins_17 : decode cX11_joins 17 = .ok (.bipush 124, 2) := by decide +kernel
theorem dX11_joins_19 : decode cX11_joins 19 = .ok (.if_icmp .ne 25, 3) := by decide +kernel
theorem dX11_joins_22 : decode cX11_joins 22 = .ok (.aload_n 0, 1) := by decide +kernel
theorem dX11_joins_23 : decode cX11_joins 23 = .ok (.aload_n 0, 1) := by decide +kernel
theorem dX11_joins_24 : decode cX11_joins 24 = .ok (.invokevirtual 237, 3) := by decide +kernel
theorem dX11_joins_27 : decode cX11_joins 27 = .ok (.iconst 0, 1) := by decide +kernel
theorem dX11_joins_28 : decode cX11_joins 28 = .ok (.invokevirtual 246, 3) := by decide +kernel
theorem dX11_joins_31 : decode cX11_joins 31 = .ok (.aload_n 0, 1) := by decide +kernel
theorem dX11_joins_32 : decode cX11_joins 32 = .ok (.dup, 1) := by decide +kernel
theorem dX11_joins_33 : decode cX11_joins 33 = .ok (.getfield 213, 3) := by decide +kernel
theorem dX11_joins_36 : decode cX11_joins 36 = .ok (.iconst 1, 1) := by decide +kernel
theorem dX11_joins_37 : decode cX11_joins 37 = .ok (.isub, 1) := by decide +kernel
theorem dX11_joins_38 : decode cX11_joins 38 = .ok (.putfield 213, 3) := by decide +kernel
theorem dX11_joins_41 : decode cX11_joins 41 = .ok (.goto (-41), 3) := by decide +kernel
theorem dX11_joins_44 : decode cX11_joins 44 = .ok (.return_, 1) := by decide +kernel
theorem dX11_ends_0 : decode cX11_ends 0 = .ok (.aload_n 0, 1) := by decide +kernel
theorem dX11_ends_1 : decode cX11_ends 1 = .ok (.invokevirtual 237, 3) := by decide +kernel
theorem dX11_ends_4 : decode cX11_ends 4 = .ok (.bipush 33, 2) := by decide +kernel
theorem dX11_ends_6 : decode cX11_ends 6 = .ok (.if_icmp .ne 32, 3) := by decide +kernel
theorem dX11_ends_9 : decode cX11_ends 9 = .ok (.aload_n 0, 1) := by decide +kernel
theorem dX11_ends_10 : decode cX11_ends 10 = .ok (.iconst 2, 1) := by decide +kernel
theorem dX11_ends_11 : decode cX11_ends 11 = .ok (.iconst 0, 1) := by decide +kernel
theorem dX11_ends_12 : decode cX11_ends 12 = .ok (.invokevirtual 246, 3) := by decide +kernel
theorem dX11_ends_15 : decode cX11_ends 15 = .ok (.aload_n 0, 1) := by decide +kernel
theorem dX11_ends_16 : decode cX11_ends 16 = .ok (.dup, 1) := by decide +kernel
theorem dX11_ends_17 : decode cX11_ends 17 = .ok (.getfield 213, 3) := by decide +kernel
theorem dX11_ends_20 : decode cX11_ends 20 = .ok (.iconst 1, 1) := by decide +kernel
theorem dX11_ends_21 : decode cX11_ends 21 = .ok (.isub, 1) := by decide +kernel
theorem dX11_ends_22 : decode cX11_ends 22 = .ok (.putfield 213, 3) := by decide +kernel
theorem dX11_ends_25 : decode cX11_ends 25 = .ok (.aload_n 0, 1) := by decide +kernel
theorem dX11_ends_26 : decode cX11_ends 26 = .ok (.dup, 1) := by decide +kernel
theorem dX11_ends_27 : decode cX11_ends 27 = .ok (.getfield 216, 3) := by decide +kernel
theorem dX11_ends_30 : decode cX11_ends 30 = .ok (.iconst 1, 1) := by decide +kernel
theorem dX11_ends_31 : decode cX11_ends 31 = .ok (.isub, 1) := by decide +kernel
theorem dX11_ends_32 : decode cX11_ends 32 = .ok (.putfield 216, 3) := by decide +kernel
theorem dX11_ends_35 : decode cX11_ends 35 = .ok (.goto (-35), 3) := by decide +kernel
theorem dX11_ends_38 : decode cX11_ends 38 = .ok (.return_, 1) := by decide +kernel
theorem dX11_factor_0 : decode cX11_factor 0 = .ok (.aload_n 0, 1) := by decide +kernel
theorem dX11_factor_1 : decode cX11_factor 1 = .ok (.invokevirtual 206, 3) := by decide +kernel
theorem dX11_factor_4 : decode cX11_factor 4 = .ok (.ifCond .eq 19, 3) := by decide +kernel
theorem dX11_factor_7 : decode cX11_factor 7 = .ok (.aload_n 0, 1) := by decide +kernel
theorem dX11_factor_8 : decode cX11_factor 8 = .ok (.invokevirtual 223, 3) := by decide +kernel
theorem dX11_factor_11 : decode cX11_factor 11 = .ok (.bipush 91, 2) := by decide +kernel
theorem dX11_factor_13 : decode cX11_factor 13 = .ok (.if_icmp .ne 10, 3) := by decide +kernel
theorem dX11_factor_16 : decode cX11_factor 16 = .ok (.aload_n 0, 1) := by decide +kernel
theorem dX11_factor_17 : decode cX11_factor 17 = .ok (.invokevirtual 249, 3) := by decide +kernel
theorem dX11_factor_20 : decode cX11_factor 20 = .ok (.goto (-20), 3) := by decide +kernel
theorem dX11_factor_23 : decode cX11_factor 23 = .ok (.aload_n 0, 1) := by decide +kernel
theorem dX11_factor_24 : decode cX11_factor 24 = .ok (.invokevirtual 206, 3) := by decide +kernel
theorem dX11_factor_27 : decode cX11_factor 27 = .ok (.ifCond .ne 4, 3) := by decide +kernel
theorem dX11_factor_30 : decode cX11_factor 30 = .ok (.return_, 1) := by decide +kernel
theorem dX11_factor_31 : decode cX11_factor 31 = .ok (.aload_n 0, 1) := by decide +kernel
theorem dX11_factor_32 : decode cX11_factor 32 = .ok (.invokevirtual 234, 3) := by decide +kernel
theorem dX11_factor_35 : decode cX11_factor 35 = .ok (.ifCond .eq 15, 3) := by decide +kernel
theorem dX11_factor_38 : decode cX11_factor 38 = .ok (.aload_n 0, 1) := by decide +kernel
theorem dX11_factor_39 : decode cX11_factor 39 = .ok (.iconst 0, 1) := by decide +kernel
theorem dX11_factor_40 : decode cX11_factor 40 = .ok (.aload_n 0, 1) := by decide +kernel
theorem dX11_factor_41 : decode cX11_factor 41 = .ok (.invokevirtual 252, 3) := by decide +kernel
theorem dX11_factor_44 : decode cX11_factor 44 = .ok (.invokevirtual 246, 3) := by decide +kernel
theorem dX11_factor_47 : decode cX11_factor 47 = .ok (.goto 44, 3) := by decide +kernel
theorem dX11_factor_50 : decode cX11_factor 50 = .ok (.aload_n 0, 1) := by decide +kernel
theorem dX11_factor_51 : decode cX11_factor 51 = .ok (.invokevirtual 223, 3) := by decide +kernel
theorem dX11_factor_54 : decode cX11_factor 54 = .ok (.invokestatic 255, 3) := by decide +kernel
theorem dX11_factor_57 : decode cX11_factor 57 = .ok (.ifCond .eq 25, 3) := by decide +kernel
theorem dX11_factor_60 : decode cX11_factor 60 = .ok (.aload_n 0, 1) := by decide +kernel
theorem dX11_factor_61 : decode cX11_factor 61 = .ok (.iconst 1, 1) := by decide +kernel
theorem dX11_factor_62 : decode cX11_factor 62 = .ok (.aload_n 0, 1) := by decide +kernel
theorem dX11_factor_63 : decode cX11_factor 63 = .ok (.invokevirtual 223, 3) := by decide +kernel
theorem dX11_factor_66 : decode cX11_factor 66 = .ok (.invokevirtual 246, 3) := by decide +kernel
theorem dX11_factor_69 : decode cX11_factor 69 = .ok (.aload_n 0, 1) := by decide +kernel
theorem dX11_factor_70 : decode cX11_factor 70 = .ok (.dup, 1) := by decide +kernel
theorem dX11_factor_71 : decode cX11_factor 71 = .ok (.getfield 197, 3) := by decide +kernel
theorem dX11_factor_74 : decode cX11_factor 74 = .ok (.iconst 1, 1) := by decide +kernel
theorem dX11_factor_75 : decode cX11_factor 75 = .ok (.iadd, 1) := by decide +kernel
theorem dX11_factor_76 : decode cX11_factor 76 = .ok (.putfield 197, 3) := by decide +kernel
theorem dX11_factor_79 : decode cX11_factor 79 = .ok (.goto 12, 3) := by decide +kernel
theorem dX11_factor_82 : decode cX11_factor 82 = .ok (.aload_n 0, 1) := by decide +kernel
theorem dX11_factor_83 : decode cX11_factor 83 = .ok (.iconst 1, 1) := by decide +kernel
theorem dX11_factor_84 : decode cX11_factor 84 = .ok (.aload_n 0, 1) := by decide +kernel
theorem dX11_factor_85 : decode cX11_factor 85 = .ok (.getfield 197, 3) := by decide +kernel
theorem dX11_factor_88 : decode cX11_factor 88 = .ok (.invokevirtual 219, 3) := by decide +kernel
theorem dX11_factor_91 : decode cX11_factor 91 = .ok (.return_, 1) := by decide +kernel
theorem dX11_stays_0 : decode cX11_stays 0 = .ok (.aload_n 0, 1) := by decide +kernel
theorem dX11_stays_1 : decode cX11_stays 1 = .ok (.invokevirtual 223, 3) := by decide +kernel
theorem dX11_stays_4 : decode cX11_stays 4 = .ok (.istore_n 1, 1) := by decide +kernel
theorem dX11_stays_5 : decode cX11_stays 5 = .ok (.iload_n 1, 1) := by decide +kernel
theorem dX11_stays_6 : decode cX11_stays 6 = .ok (.invokestatic 240, 3) := by decide +kernel
theorem dX11_stays_9 : decode cX11_stays 9 = .ok (.ifCond .ne 10, 3) := by decide +kernel
theorem dX11_stays_12 : decode cX11_stays 12 = .ok (.iload_n 1, 1) := by decide +kernel
theorem dX11_stays_13 : decode cX11_stays 13 = .ok (.invokestatic 243, 3) := by decide +kernel
theorem dX11_stays_16 : decode cX11_stays 16 = .ok (.ifCond .eq 18, 3) := by decide +kernel
theorem dX11_stays_19 : decode cX11_stays 19 = .ok (.aload_n 0, 1) := by decide +kernel
theorem dX11_stays_20 : decode cX11_stays 20 = .ok (.iload_n 1, 1) := by decide +kernel
theorem dX11_stays_21 : decode cX11_stays 21 = .ok (.invokestatic 243, 3) := by decide +kernel
theorem dX11_stays_24 : decode cX11_stays 24 = .ok (.invokevirtual 258, 3) := by decide +kernel
theorem dX11_stays_27 : decode cX11_stays 27 = .ok (.aload_n 0, 1) := by decide +kernel
theorem dX11_stays_28 : decode cX11_stays 28 = .ok (.iload_n 1, 1) := by decide +kernel
theorem dX11_stays_29 : decode cX11_stays 29 = .ok (.invokevirtual 227, 3) := by decide +kernel
theorem dX11_stays_32 : decode cX11_stays 32 = .ok (.iconst 1, 1) := by decide +kernel
theorem dX11_stays_33 : decode cX11_stays 33 = .ok (.ireturn, 1) := by decide +kernel
theorem dX11_stays_34 : decode cX11_stays 34 = .ok (.aload_n 0, 1) := by decide +kernel
theorem dX11_stays_35 : decode cX11_stays 35 = .ok (.iconst 1, 1) := by decide +kernel
theorem dX11_stays_36 : decode cX11_stays 36 = .ok (.invokevirtual 258, 3) := by decide +kernel
theorem dX11_stays_39 : decode cX11_stays 39 = .ok (.iload_n 1, 1) := by decide +kernel
theorem dX11_stays_40 : decode cX11_stays 40 = .ok (.bipush 93, 2) := by decide +kernel
theorem dX11_stays_42 : decode cX11_stays 42 = .ok (.if_icmp .eq 5, 3) := by decide +kernel
theorem dX11_stays_45 : decode cX11_stays 45 = .ok (.iconst 0, 1) := by decide +kernel
theorem dX11_stays_46 : decode cX11_stays 46 = .ok (.ireturn, 1) := by decide +kernel
theorem dX11_stays_47 : decode cX11_stays 47 = .ok (.aload_n 0, 1) := by decide +kernel
theorem dX11_stays_48 : decode cX11_stays 48 = .ok (.invokevirtual 237, 3) := by decide +kernel
theorem dX11_stays_51 : decode cX11_stays 51 = .ok (.bipush 91, 2) := by decide +kernel
theorem dX11_stays_53 : decode cX11_stays 53 = .ok (.if_icmp .eq 14, 3) := by decide +kernel
theorem dX11_stays_56 : decode cX11_stays 56 = .ok (.aload_n 0, 1) := by decide +kernel
theorem dX11_stays_57 : decode cX11_stays 57 = .ok (.iconst 1, 1) := by decide +kernel
theorem dX11_stays_58 : decode cX11_stays 58 = .ok (.aload_n 0, 1) := by decide +kernel
theorem dX11_stays_59 : decode cX11_stays 59 = .ok (.getfield 197, 3) := by decide +kernel
theorem dX11_stays_62 : decode cX11_stays 62 = .ok (.invokevirtual 219, 3) := by decide +kernel
theorem dX11_stays_65 : decode cX11_stays 65 = .ok (.iconst 0, 1) := by decide +kernel
theorem dX11_stays_66 : decode cX11_stays 66 = .ok (.ireturn, 1) := by decide +kernel
theorem dX11_stays_67 : decode cX11_stays 67 = .ok (.aload_n 0, 1) := by decide +kernel
theorem dX11_stays_68 : decode cX11_stays 68 = .ok (.dup, 1) := by decide +kernel
theorem dX11_stays_69 : decode cX11_stays 69 = .ok (.getfield 213, 3) := by decide +kernel
theorem dX11_stays_72 : decode cX11_stays 72 = .ok (.iconst 1, 1) := by decide +kernel
theorem dX11_stays_73 : decode cX11_stays 73 = .ok (.isub, 1) := by decide +kernel
theorem dX11_stays_74 : decode cX11_stays 74 = .ok (.putfield 213, 3) := by decide +kernel
theorem dX11_stays_77 : decode cX11_stays 77 = .ok (.aload_n 0, 1) := by decide +kernel
theorem dX11_stays_78 : decode cX11_stays 78 = .ok (.dup, 1) := by decide +kernel
theorem dX11_stays_79 : decode cX11_stays 79 = .ok (.getfield 216, 3) := by decide +kernel
theorem dX11_stays_82 : decode cX11_stays 82 = .ok (.iconst 1, 1) := by decide +kernel
theorem dX11_stays_83 : decode cX11_stays 83 = .ok (.isub, 1) := by decide +kernel
theorem dX11_stays_84 : decode cX11_stays 84 = .ok (.putfield 216, 3) := by decide +kernel
theorem dX11_stays_87 : decode cX11_stays 87 = .ok (.aload_n 0, 1) := by decide +kernel
theorem dX11_stays_88 : decode cX11_stays 88 = .ok (.dup, 1) := by decide +kernel
theorem dX11_stays_89 : decode cX11_stays 89 = .ok (.getfield 197, 3) := by decide +kernel
theorem dX11_stays_92 : decode cX11_stays 92 = .ok (.iconst 1, 1) := by decide +kernel
theorem dX11_stays_93 : decode cX11_stays 93 = .ok (.iadd, 1) := by decide +kernel
theorem dX11_stays_94 : decode cX11_stays 94 = .ok (.putfield 197, 3) := by decide +kernel
theorem dX11_stays_97 : decode cX11_stays 97 = .ok (.aload_n 0, 1) := by decide +kernel
theorem dX11_stays_98 : decode cX11_stays 98 = .ok (.iconst 1, 1) := by decide +kernel
theorem dX11_stays_99 : decode cX11_stays 99 = .ok (.putfield 262, 3) := by decide +kernel
theorem dX11_stays_102 : decode cX11_stays 102 = .ok (.iconst 1, 1) := by decide +kernel
theorem dX11_stays_103 : decode cX11_stays 103 = .ok (.ireturn, 1) := by decide +kernel
theorem dX11_value_0 : decode cX11_value 0 = .ok (.iconst 1, 1) := by decide +kernel
theorem dX11_value_1 : decode cX11_value 1 = .ok (.istore_n 1, 1) := by decide +kernel
theorem dX11_value_2 : decode cX11_value 2 = .ok (.aload_n 0, 1) := by decide +kernel
theorem dX11_value_3 : decode cX11_value 3 = .ok (.iconst 0, 1) := by decide +kernel
theorem dX11_value_4 : decode cX11_value 4 = .ok (.putfield 262, 3) := by decide +kernel
theorem dX11_value_7 : decode cX11_value 7 = .ok (.iload_n 1, 1) := by decide +kernel
theorem dX11_value_8 : decode cX11_value 8 = .ok (.ifCond .eq 49, 3) := by decide +kernel
theorem dX11_value_11 : decode cX11_value 11 = .ok (.aload_n 0, 1) := by decide +kernel
theorem dX11_value_12 : decode cX11_value 12 = .ok (.invokevirtual 206, 3) := by decide +kernel
theorem dX11_value_15 : decode cX11_value 15 = .ok (.ifCond .eq 42, 3) := by decide +kernel
theorem dX11_value_18 : decode cX11_value 18 = .ok (.aload_n 0, 1) := by decide +kernel
theorem dX11_value_19 : decode cX11_value 19 = .ok (.getfield 262, 3) := by decide +kernel
theorem dX11_value_22 : decode cX11_value 22 = .ok (.ifCond .ne 7, 3) := by decide +kernel
theorem dX11_value_25 : decode cX11_value 25 = .ok (.aload_n 0, 1) := by decide +kernel
theorem dX11_value_26 : decode cX11_value 26 = .ok (.invokevirtual 266, 3) := by decide +kernel
theorem dX11_value_29 : decode cX11_value 29 = .ok (.aload_n 0, 1) := by decide +kernel
theorem dX11_value_30 : decode cX11_value 30 = .ok (.iconst 0, 1) := by decide +kernel
theorem dX11_value_31 : decode cX11_value 31 = .ok (.putfield 262, 3) := by decide +kernel
theorem dX11_value_34 : decode cX11_value 34 = .ok (.aload_n 0, 1) := by decide +kernel
theorem dX11_value_35 : decode cX11_value 35 = .ok (.invokevirtual 206, 3) := by decide +kernel
theorem dX11_value_38 : decode cX11_value 38 = .ok (.ifCond .eq 14, 3) := by decide +kernel
theorem dX11_value_41 : decode cX11_value 41 = .ok (.aload_n 0, 1) := by decide +kernel
theorem dX11_value_42 : decode cX11_value 42 = .ok (.invokevirtual 269, 3) := by decide +kernel
theorem dX11_value_45 : decode cX11_value 45 = .ok (.ifCond .eq 7, 3) := by decide +kernel
theorem dX11_value_48 : decode cX11_value 48 = .ok (.iconst 1, 1) := by decide +kernel
theorem dX11_value_49 : decode cX11_value 49 = .ok (.goto 4, 3) := by decide +kernel
theorem dX11_value_52 : decode cX11_value 52 = .ok (.iconst 0, 1) := by decide +kernel
theorem dX11_value_53 : decode cX11_value 53 = .ok (.istore_n 1, 1) := by decide +kernel
theorem dX11_value_54 : decode cX11_value 54 = .ok (.goto (-47), 3) := by decide +kernel
theorem dX11_value_57 : decode cX11_value 57 = .ok (.aload_n 0, 1) := by decide +kernel
theorem dX11_value_58 : decode cX11_value 58 = .ok (.invokevirtual 206, 3) := by decide +kernel
theorem dX11_value_61 : decode cX11_value 61 = .ok (.ifCond .eq 21, 3) := by decide +kernel
theorem dX11_value_64 : decode cX11_value 64 = .ok (.aload_n 0, 1) := by decide +kernel
theorem dX11_value_65 : decode cX11_value 65 = .ok (.invokevirtual 237, 3) := by decide +kernel
theorem dX11_value_68 : decode cX11_value 68 = .ok (.bipush 91, 2) := by decide +kernel
theorem dX11_value_70 : decode cX11_value 70 = .ok (.if_icmp .ne 12, 3) := by decide +kernel
theorem dX11_value_73 : decode cX11_value 73 = .ok (.aload_n 0, 1) := by decide +kernel
theorem dX11_value_74 : decode cX11_value 74 = .ok (.iconst 1, 1) := by decide +kernel
theorem dX11_value_75 : decode cX11_value 75 = .ok (.aload_n 0, 1) := by decide +kernel
theorem dX11_value_76 : decode cX11_value 76 = .ok (.getfield 197, 3) := by decide +kernel
theorem dX11_value_79 : decode cX11_value 79 = .ok (.invokevirtual 219, 3) := by decide +kernel
theorem dX11_value_82 : decode cX11_value 82 = .ok (.return_, 1) := by decide +kernel
theorem dX11_pieceOfC_0 : decode cX11_pieceOfC 0 = .ok (.aload_n 0, 1) := by decide +kernel
theorem dX11_pieceOfC_1 : decode cX11_pieceOfC 1 = .ok (.invokevirtual 206, 3) := by decide +kernel
theorem dX11_pieceOfC_4 : decode cX11_pieceOfC 4 = .ok (.ifCond .eq 28, 3) := by decide +kernel
theorem dX11_pieceOfC_7 : decode cX11_pieceOfC 7 = .ok (.aload_n 0, 1) := by decide +kernel
theorem dX11_pieceOfC_8 : decode cX11_pieceOfC 8 = .ok (.invokevirtual 223, 3) := by decide +kernel
theorem dX11_pieceOfC_11 : decode cX11_pieceOfC 11 = .ok (.bipush 33, 2) := by decide +kernel
theorem dX11_pieceOfC_13 : decode cX11_pieceOfC 13 = .ok (.if_icmp .eq 12, 3) := by decide +kernel
theorem dX11_pieceOfC_16 : decode cX11_pieceOfC 16 = .ok (.aload_n 0, 1) := by decide +kernel
theorem dX11_pieceOfC_17 : decode cX11_pieceOfC 17 = .ok (.invokevirtual 223, 3) := by decide +kernel
theorem dX11_pieceOfC_20 : decode cX11_pieceOfC 20 = .ok (.bipush 40, 2) := by decide +kernel
theorem dX11_pieceOfC_22 : decode cX11_pieceOfC 22 = .ok (.if_icmp .ne 10, 3) := by decide +kernel
theorem dX11_pieceOfC_25 : decode cX11_pieceOfC 25 = .ok (.aload_n 0, 1) := by decide +kernel
theorem dX11_pieceOfC_26 : decode cX11_pieceOfC 26 = .ok (.invokevirtual 249, 3) := by decide +kernel
theorem dX11_pieceOfC_29 : decode cX11_pieceOfC 29 = .ok (.goto (-29), 3) := by decide +kernel
theorem dX11_pieceOfC_32 : decode cX11_pieceOfC 32 = .ok (.aload_n 0, 1) := by decide +kernel
theorem dX11_pieceOfC_33 : decode cX11_pieceOfC 33 = .ok (.invokevirtual 206, 3) := by decide +kernel
theorem dX11_pieceOfC_36 : decode cX11_pieceOfC 36 = .ok (.ifCond .eq 7, 3) := by decide +kernel
theorem dX11_pieceOfC_39 : decode cX11_pieceOfC 39 = .ok (.aload_n 0, 1) := by decide +kernel
theorem dX11_pieceOfC_40 : decode cX11_pieceOfC 40 = .ok (.invokevirtual 272, 3) := by decide +kernel
theorem dX11_pieceOfC_43 : decode cX11_pieceOfC 43 = .ok (.aload_n 0, 1) := by decide +kernel
theorem dX11_pieceOfC_44 : decode cX11_pieceOfC 44 = .ok (.invokevirtual 206, 3) := by decide +kernel
theorem dX11_pieceOfC_47 : decode cX11_pieceOfC 47 = .ok (.ifCond .ne 4, 3) := by decide +kernel
theorem dX11_pieceOfC_50 : decode cX11_pieceOfC 50 = .ok (.return_, 1) := by decide +kernel
theorem dX11_pieceOfC_51 : decode cX11_pieceOfC 51 = .ok (.aload_n 0, 1) := by decide +kernel
theorem dX11_pieceOfC_52 : decode cX11_pieceOfC 52 = .ok (.invokevirtual 223, 3) := by decide +kernel
theorem dX11_pieceOfC_55 : decode cX11_pieceOfC 55 = .ok (.istore_n 1, 1) := by decide +kernel
theorem dX11_pieceOfC_56 : decode cX11_pieceOfC 56 = .ok (.iload_n 1, 1) := by decide +kernel
theorem dX11_pieceOfC_57 : decode cX11_pieceOfC 57 = .ok (.invokestatic 275, 3) := by decide +kernel
theorem dX11_pieceOfC_60 : decode cX11_pieceOfC 60 = .ok (.ifCond .ne 13, 3) := by decide +kernel
theorem dX11_pieceOfC_63 : decode cX11_pieceOfC 63 = .ok (.aload_n 0, 1) := by decide +kernel
theorem dX11_pieceOfC_64 : decode cX11_pieceOfC 64 = .ok (.iconst 1, 1) := by decide +kernel
theorem dX11_pieceOfC_65 : decode cX11_pieceOfC 65 = .ok (.aload_n 0, 1) := by decide +kernel
theorem dX11_pieceOfC_66 : decode cX11_pieceOfC 66 = .ok (.getfield 197, 3) := by decide +kernel
theorem dX11_pieceOfC_69 : decode cX11_pieceOfC 69 = .ok (.invokevirtual 219, 3) := by decide +kernel
theorem dX11_pieceOfC_72 : decode cX11_pieceOfC 72 = .ok (.return_, 1) := by decide +kernel
theorem dX11_pieceOfC_73 : decode cX11_pieceOfC 73 = .ok (.aload_n 0, 1) := by decide +kernel
theorem dX11_pieceOfC_74 : decode cX11_pieceOfC 74 = .ok (.iload_n 1, 1) := by decide +kernel
theorem dX11_pieceOfC_75 : decode cX11_pieceOfC 75 = .ok (.invokevirtual 227, 3) := by decide +kernel
theorem dX11_pieceOfC_78 : decode cX11_pieceOfC 78 = .ok (.aload_n 0, 1) := by decide +kernel
theorem dX11_pieceOfC_79 : decode cX11_pieceOfC 79 = .ok (.invokevirtual 272, 3) := by decide +kernel
theorem dX11_pieceOfC_82 : decode cX11_pieceOfC 82 = .ok (.aload_n 0, 1) := by decide +kernel
theorem dX11_pieceOfC_83 : decode cX11_pieceOfC 83 = .ok (.invokevirtual 206, 3) := by decide +kernel
theorem dX11_pieceOfC_86 : decode cX11_pieceOfC 86 = .ok (.ifCond .ne 4, 3) := by decide +kernel
theorem dX11_pieceOfC_89 : decode cX11_pieceOfC 89 = .ok (.return_, 1) := by decide +kernel
theorem dX11_pieceOfC_90 : decode cX11_pieceOfC 90 = .ok (.aload_n 0, 1) := by decide +kernel
theorem dX11_pieceOfC_91 : decode cX11_pieceOfC 91 = .ok (.aload_n 0, 1) := by decide +kernel
theorem dX11_pieceOfC_92 : decode cX11_pieceOfC 92 = .ok (.invokevirtual 237, 3) := by decide +kernel
theorem dX11_pieceOfC_95 : decode cX11_pieceOfC 95 = .ok (.iconst 0, 1) := by decide +kernel
theorem dX11_pieceOfC_96 : decode cX11_pieceOfC 96 = .ok (.invokevirtual 246, 3) := by decide +kernel
theorem dX11_pieceOfC_99 : decode cX11_pieceOfC 99 = .ok (.aload_n 0, 1) := by decide +kernel
theorem dX11_pieceOfC_100 : decode cX11_pieceOfC 100 = .ok (.dup, 1) := by decide +kernel
theorem dX11_pieceOfC_101 : decode cX11_pieceOfC 101 = .ok (.getfield 213, 3) := by decide +kernel
theorem dX11_pieceOfC_104 : decode cX11_pieceOfC 104 = .ok (.iconst 1, 1) := by decide +kernel
theorem dX11_pieceOfC_105 : decode cX11_pieceOfC 105 = .ok (.isub, 1) := by decide +kernel
theorem dX11_pieceOfC_106 : decode cX11_pieceOfC 106 = .ok (.putfield 213, 3) := by decide +kernel
theorem dX11_pieceOfC_109 : decode cX11_pieceOfC 109 = .ok (.aload_n 0, 1) := by decide +kernel
theorem dX11_pieceOfC_110 : decode cX11_pieceOfC 110 = .ok (.invokevirtual 278, 3) := by decide +kernel
theorem dX11_pieceOfC_113 : decode cX11_pieceOfC 113 = .ok (.return_, 1) := by decide +kernel
theorem dX11_goesBehind_0 : decode cX11_goesBehind 0 = .ok (.aload_n 0, 1) := by decide +kernel
theorem dX11_goesBehind_1 : decode cX11_goesBehind 1 = .ok (.invokevirtual 223, 3) := by decide +kernel
theorem dX11_goesBehind_4 : decode cX11_goesBehind 4 = .ok (.istore_n 1, 1) := by decide +kernel
theorem dX11_goesBehind_5 : decode cX11_goesBehind 5 = .ok (.iload_n 1, 1) := by decide +kernel
theorem dX11_goesBehind_6 : decode cX11_goesBehind 6 = .ok (.bipush 38, 2) := by decide +kernel
theorem dX11_goesBehind_8 : decode cX11_goesBehind 8 = .ok (.if_icmp .eq 9, 3) := by decide +kernel
theorem dX11_goesBehind_11 : decode cX11_goesBehind 11 = .ok (.iload_n 1, 1) := by decide +kernel
theorem dX11_goesBehind_12 : decode cX11_goesBehind 12 = .ok (.bipush 124, 2) := by decide +kernel
theorem dX11_goesBehind_14 : decode cX11_goesBehind 14 = .ok (.if_icmp .ne 25, 3) := by decide +kernel
theorem dX11_goesBehind_17 : decode cX11_goesBehind 17 = .ok (.aload_n 0, 1) := by decide +kernel
theorem dX11_goesBehind_18 : decode cX11_goesBehind 18 = .ok (.iload_n 1, 1) := by decide +kernel
theorem dX11_goesBehind_19 : decode cX11_goesBehind 19 = .ok (.bipush 124, 2) := by decide +kernel
theorem dX11_goesBehind_21 : decode cX11_goesBehind 21 = .ok (.if_icmp .ne 7, 3) := by decide +kernel
theorem dX11_goesBehind_24 : decode cX11_goesBehind 24 = .ok (.iconst 1, 1) := by decide +kernel
theorem dX11_goesBehind_25 : decode cX11_goesBehind 25 = .ok (.goto 4, 3) := by decide +kernel
theorem dX11_goesBehind_28 : decode cX11_goesBehind 28 = .ok (.iconst 0, 1) := by decide +kernel
theorem dX11_goesBehind_29 : decode cX11_goesBehind 29 = .ok (.invokevirtual 281, 3) := by decide +kernel
theorem dX11_goesBehind_32 : decode cX11_goesBehind 32 = .ok (.aload_n 0, 1) := by decide +kernel
theorem dX11_goesBehind_33 : decode cX11_goesBehind 33 = .ok (.iload_n 1, 1) := by decide +kernel
theorem dX11_goesBehind_34 : decode cX11_goesBehind 34 = .ok (.invokevirtual 227, 3) := by decide +kernel
theorem dX11_goesBehind_37 : decode cX11_goesBehind 37 = .ok (.iconst 1, 1) := by decide +kernel
theorem dX11_goesBehind_38 : decode cX11_goesBehind 38 = .ok (.ireturn, 1) := by decide +kernel
theorem dX11_goesBehind_39 : decode cX11_goesBehind 39 = .ok (.iload_n 1, 1) := by decide +kernel
theorem dX11_goesBehind_40 : decode cX11_goesBehind 40 = .ok (.bipush 41, 2) := by decide +kernel
theorem dX11_goesBehind_42 : decode cX11_goesBehind 42 = .ok (.if_icmp .eq 14, 3) := by decide +kernel
theorem dX11_goesBehind_45 : decode cX11_goesBehind 45 = .ok (.aload_n 0, 1) := by decide +kernel
theorem dX11_goesBehind_46 : decode cX11_goesBehind 46 = .ok (.iconst 1, 1) := by decide +kernel
theorem dX11_goesBehind_47 : decode cX11_goesBehind 47 = .ok (.aload_n 0, 1) := by decide +kernel
theorem dX11_goesBehind_48 : decode cX11_goesBehind 48 = .ok (.getfield 197, 3) := by decide +kernel
theorem dX11_goesBehind_51 : decode cX11_goesBehind 51 = .ok (.invokevirtual 219, 3) := by decide +kernel
theorem dX11_goesBehind_54 : decode cX11_goesBehind 54 = .ok (.iconst 0, 1) := by decide +kernel
theorem dX11_goesBehind_55 : decode cX11_goesBehind 55 = .ok (.ireturn, 1) := by decide +kernel
theorem dX11_goesBehind_56 : decode cX11_goesBehind 56 = .ok (.aload_n 0, 1) := by decide +kernel
theorem dX11_goesBehind_57 : decode cX11_goesBehind 57 = .ok (.iconst 1, 1) := by decide +kernel
theorem dX11_goesBehind_58 : decode cX11_goesBehind 58 = .ok (.invokevirtual 281, 3) := by decide +kernel
theorem dX11_goesBehind_61 : decode cX11_goesBehind 61 = .ok (.aload_n 0, 1) := by decide +kernel
theorem dX11_goesBehind_62 : decode cX11_goesBehind 62 = .ok (.dup, 1) := by decide +kernel
theorem dX11_goesBehind_63 : decode cX11_goesBehind 63 = .ok (.getfield 213, 3) := by decide +kernel
theorem dX11_goesBehind_66 : decode cX11_goesBehind 66 = .ok (.iconst 1, 1) := by decide +kernel
theorem dX11_goesBehind_67 : decode cX11_goesBehind 67 = .ok (.isub, 1) := by decide +kernel
theorem dX11_goesBehind_68 : decode cX11_goesBehind 68 = .ok (.putfield 213, 3) := by decide +kernel
theorem dX11_goesBehind_71 : decode cX11_goesBehind 71 = .ok (.aload_n 0, 1) := by decide +kernel
theorem dX11_goesBehind_72 : decode cX11_goesBehind 72 = .ok (.dup, 1) := by decide +kernel
theorem dX11_goesBehind_73 : decode cX11_goesBehind 73 = .ok (.getfield 216, 3) := by decide +kernel
theorem dX11_goesBehind_76 : decode cX11_goesBehind 76 = .ok (.iconst 1, 1) := by decide +kernel
theorem dX11_goesBehind_77 : decode cX11_goesBehind 77 = .ok (.isub, 1) := by decide +kernel
theorem dX11_goesBehind_78 : decode cX11_goesBehind 78 = .ok (.putfield 216, 3) := by decide +kernel
theorem dX11_goesBehind_81 : decode cX11_goesBehind 81 = .ok (.aload_n 0, 1) := by decide +kernel
theorem dX11_goesBehind_82 : decode cX11_goesBehind 82 = .ok (.dup, 1) := by decide +kernel
theorem dX11_goesBehind_83 : decode cX11_goesBehind 83 = .ok (.getfield 197, 3) := by decide +kernel
theorem dX11_goesBehind_86 : decode cX11_goesBehind 86 = .ok (.iconst 1, 1) := by decide +kernel
theorem dX11_goesBehind_87 : decode cX11_goesBehind 87 = .ok (.iadd, 1) := by decide +kernel
theorem dX11_goesBehind_88 : decode cX11_goesBehind 88 = .ok (.putfield 197, 3) := by decide +kernel
theorem dX11_goesBehind_91 : decode cX11_goesBehind 91 = .ok (.aload_n 0, 1) := by decide +kernel
theorem dX11_goesBehind_92 : decode cX11_goesBehind 92 = .ok (.aload_n 0, 1) := by decide +kernel
theorem dX11_goesBehind_93 : decode cX11_goesBehind 93 = .ok (.getfield 213, 3) := by decide +kernel
theorem dX11_goesBehind_96 : decode cX11_goesBehind 96 = .ok (.ifCond .ne 7, 3) := by decide +kernel
theorem dX11_goesBehind_99 : decode cX11_goesBehind 99 = .ok (.iconst 1, 1) := by decide +kernel
theorem dX11_goesBehind_100 : decode cX11_goesBehind 100 = .ok (.goto 4, 3) := by decide +kernel
theorem dX11_goesBehind_103 : decode cX11_goesBehind 103 = .ok (.iconst 0, 1) := by decide +kernel
theorem dX11_goesBehind_104 : decode cX11_goesBehind 104 = .ok (.putfield 284, 3) := by decide +kernel
theorem dX11_goesBehind_107 : decode cX11_goesBehind 107 = .ok (.aload_n 0, 1) := by decide +kernel
theorem dX11_goesBehind_108 : decode cX11_goesBehind 108 = .ok (.getfield 284, 3) := by decide +kernel
theorem dX11_goesBehind_111 : decode cX11_goesBehind 111 = .ok (.ifCond .ne 7, 3) := by decide +kernel
theorem dX11_goesBehind_114 : decode cX11_goesBehind 114 = .ok (.aload_n 0, 1) := by decide +kernel
theorem dX11_goesBehind_115 : decode cX11_goesBehind 115 = .ok (.invokevirtual 278, 3) := by decide +kernel
theorem dX11_goesBehind_118 : decode cX11_goesBehind 118 = .ok (.iconst 0, 1) := by decide +kernel
theorem dX11_goesBehind_119 : decode cX11_goesBehind 119 = .ok (.ireturn, 1) := by decide +kernel
theorem dX11_condition_0 : decode cX11_condition 0 = .ok (.aload_n 0, 1) := by decide +kernel
theorem dX11_condition_1 : decode cX11_condition 1 = .ok (.iconst 0, 1) := by decide +kernel
theorem dX11_condition_2 : decode cX11_condition 2 = .ok (.putfield 284, 3) := by decide +kernel
theorem dX11_condition_5 : decode cX11_condition 5 = .ok (.aload_n 0, 1) := by decide +kernel
theorem dX11_condition_6 : decode cX11_condition 6 = .ok (.invokevirtual 223, 3) := by decide +kernel
theorem dX11_condition_9 : decode cX11_condition 9 = .ok (.bipush 40, 2) := by decide +kernel
theorem dX11_condition_11 : decode cX11_condition 11 = .ok (.if_icmp .eq 12, 3) := by decide +kernel
theorem dX11_condition_14 : decode cX11_condition 14 = .ok (.aload_n 0, 1) := by decide +kernel
theorem dX11_condition_15 : decode cX11_condition 15 = .ok (.iconst 1, 1) := by decide +kernel
theorem dX11_condition_16 : decode cX11_condition 16 = .ok (.aload_n 0, 1) := by decide +kernel
theorem dX11_condition_17 : decode cX11_condition 17 = .ok (.getfield 197, 3) := by decide +kernel
theorem dX11_condition_20 : decode cX11_condition 20 = .ok (.invokevirtual 219, 3) := by decide +kernel
theorem dX11_condition_23 : decode cX11_condition 23 = .ok (.aload_n 0, 1) := by decide +kernel
theorem dX11_condition_24 : decode cX11_condition 24 = .ok (.invokevirtual 206, 3) := by decide +kernel
theorem dX11_condition_27 : decode cX11_condition 27 = .ok (.ifCond .ne 4, 3) := by decide +kernel
theorem dX11_condition_30 : decode cX11_condition 30 = .ok (.return_, 1) := by decide +kernel
theorem dX11_condition_31 : decode cX11_condition 31 = .ok (.aload_n 0, 1) := by decide +kernel
theorem dX11_condition_32 : decode cX11_condition 32 = .ok (.invokevirtual 249, 3) := by decide +kernel
theorem dX11_condition_35 : decode cX11_condition 35 = .ok (.iconst 1, 1) := by decide +kernel
theorem dX11_condition_36 : decode cX11_condition 36 = .ok (.istore_n 1, 1) := by decide +kernel
theorem dX11_condition_37 : decode cX11_condition 37 = .ok (.aload_n 0, 1) := by decide +kernel
theorem dX11_condition_38 : decode cX11_condition 38 = .ok (.invokevirtual 206, 3) := by decide +kernel
theorem dX11_condition_41 : decode cX11_condition 41 = .ok (.ifCond .eq 33, 3) := by decide +kernel
theorem dX11_condition_44 : decode cX11_condition 44 = .ok (.aload_n 0, 1) := by decide +kernel
theorem dX11_condition_45 : decode cX11_condition 45 = .ok (.getfield 284, 3) := by decide +kernel
theorem dX11_condition_48 : decode cX11_condition 48 = .ok (.ifCond .ne 26, 3) := by decide +kernel
theorem dX11_condition_51 : decode cX11_condition 51 = .ok (.iload_n 1, 1) := by decide +kernel
theorem dX11_condition_52 : decode cX11_condition 52 = .ok (.ifCond .eq 7, 3) := by decide +kernel
theorem dX11_condition_55 : decode cX11_condition 55 = .ok (.aload_n 0, 1) := by decide +kernel
theorem dX11_condition_56 : decode cX11_condition 56 = .ok (.invokevirtual 287, 3) := by decide +kernel
theorem dX11_condition_59 : decode cX11_condition 59 = .ok (.aload_n 0, 1) := by decide +kernel
theorem dX11_condition_60 : decode cX11_condition 60 = .ok (.invokevirtual 206, 3) := by decide +kernel
theorem dX11_condition_63 : decode cX11_condition 63 = .ok (.ifCond .eq (-26), 3) := by decide +kernel
theorem dX11_condition_66 : decode cX11_condition 66 = .ok (.aload_n 0, 1) := by decide +kernel
theorem dX11_condition_67 : decode cX11_condition 67 = .ok (.invokevirtual 290, 3) := by decide +kernel
theorem dX11_condition_70 : decode cX11_condition 70 = .ok (.istore_n 1, 1) := by decide +kernel
theorem dX11_condition_71 : decode cX11_condition 71 = .ok (.goto (-34), 3) := by decide +kernel
theorem dX11_condition_74 : decode cX11_condition 74 = .ok (.return_, 1) := by decide +kernel
theorem dX11_clause_0 : decode cX11_clause 0 = .ok (.aload_n 0, 1) := by decide +kernel
theorem dX11_clause_1 : decode cX11_clause 1 = .ok (.invokevirtual 223, 3) := by decide +kernel
theorem dX11_clause_4 : decode cX11_clause 4 = .ok (.istore_n 1, 1) := by decide +kernel
theorem dX11_clause_5 : decode cX11_clause 5 = .ok (.iload_n 1, 1) := by decide +kernel
theorem dX11_clause_6 : decode cX11_clause 6 = .ok (.bipush 98, 2) := by decide +kernel
theorem dX11_clause_8 : decode cX11_clause 8 = .ok (.if_icmp .eq 33, 3) := by decide +kernel
theorem dX11_clause_11 : decode cX11_clause 11 = .ok (.iload_n 1, 1) := by decide +kernel
theorem dX11_clause_12 : decode cX11_clause 12 = .ok (.bipush 116, 2) := by decide +kernel
theorem dX11_clause_14 : decode cX11_clause 14 = .ok (.if_icmp .eq 27, 3) := by decide +kernel
theorem dX11_clause_17 : decode cX11_clause 17 = .ok (.iload_n 1, 1) := by decide +kernel
theorem dX11_clause_18 : decode cX11_clause 18 = .ok (.bipush 99, 2) := by decide +kernel
theorem dX11_clause_20 : decode cX11_clause 20 = .ok (.if_icmp .eq 21, 3) := by decide +kernel
theorem dX11_clause_23 : decode cX11_clause 23 = .ok (.iload_n 1, 1) := by decide +kernel
theorem dX11_clause_24 : decode cX11_clause 24 = .ok (.bipush 103, 2) := by decide +kernel
theorem dX11_clause_26 : decode cX11_clause 26 = .ok (.if_icmp .eq 15, 3) := by decide +kernel
theorem dX11_clause_29 : decode cX11_clause 29 = .ok (.aload_n 0, 1) := by decide +kernel
theorem dX11_clause_30 : decode cX11_clause 30 = .ok (.iconst 1, 1) := by decide +kernel
theorem dX11_clause_31 : decode cX11_clause 31 = .ok (.aload_n 0, 1) := by decide +kernel
theorem dX11_clause_32 : decode cX11_clause 32 = .ok (.getfield 197, 3) := by decide +kernel
theorem dX11_clause_35 : decode cX11_clause 35 = .ok (.invokevirtual 219, 3) := by decide +kernel
theorem dX11_clause_38 : decode cX11_clause 38 = .ok (.goto 21, 3) := by decide +kernel
theorem dX11_clause_41 : decode cX11_clause 41 = .ok (.aload_n 0, 1) := by decide +kernel
theorem dX11_clause_42 : decode cX11_clause 42 = .ok (.getfield 293, 3) := by decide +kernel
theorem dX11_clause_45 : decode cX11_clause 45 = .ok (.bipush 14, 2) := by decide +kernel
theorem dX11_clause_47 : decode cX11_clause 47 = .ok (.if_icmp .ne 12, 3) := by decide +kernel
theorem dX11_clause_50 : decode cX11_clause 50 = .ok (.aload_n 0, 1) := by decide +kernel
theorem dX11_clause_51 : decode cX11_clause 51 = .ok (.iconst 4, 1) := by decide +kernel
theorem dX11_clause_52 : decode cX11_clause 52 = .ok (.aload_n 0, 1) := by decide +kernel
theorem dX11_clause_53 : decode cX11_clause 53 = .ok (.getfield 197, 3) := by decide +kernel
theorem dX11_clause_56 : decode cX11_clause 56 = .ok (.invokevirtual 219, 3) := by decide +kernel
theorem dX11_clause_59 : decode cX11_clause 59 = .ok (.aload_n 0, 1) := by decide +kernel
theorem dX11_clause_60 : decode cX11_clause 60 = .ok (.invokevirtual 206, 3) := by decide +kernel
theorem dX11_clause_63 : decode cX11_clause 63 = .ok (.ifCond .ne 4, 3) := by decide +kernel
theorem dX11_clause_66 : decode cX11_clause 66 = .ok (.return_, 1) := by decide +kernel
theorem dX11_clause_67 : decode cX11_clause 67 = .ok (.aload_n 0, 1) := by decide +kernel
theorem dX11_clause_68 : decode cX11_clause 68 = .ok (.getfield 67, 3) := by decide +kernel
theorem dX11_clause_71 : decode cX11_clause 71 = .ok (.aload_n 0, 1) := by decide +kernel
theorem dX11_clause_72 : decode cX11_clause 72 = .ok (.getfield 293, 3) := by decide +kernel
theorem dX11_clause_75 : decode cX11_clause 75 = .ok (.iload_n 1, 1) := by decide +kernel
theorem dX11_clause_76 : decode cX11_clause 76 = .ok (.iastore, 1) := by decide +kernel
theorem dX11_clause_77 : decode cX11_clause 77 = .ok (.aload_n 0, 1) := by decide +kernel
theorem dX11_clause_78 : decode cX11_clause 78 = .ok (.getfield 70, 3) := by decide +kernel
theorem dX11_clause_81 : decode cX11_clause 81 = .ok (.aload_n 0, 1) := by decide +kernel
theorem dX11_clause_82 : decode cX11_clause 82 = .ok (.getfield 293, 3) := by decide +kernel
theorem dX11_clause_85 : decode cX11_clause 85 = .ok (.aload_n 0, 1) := by decide +kernel
theorem dX11_clause_86 : decode cX11_clause 86 = .ok (.getfield 210, 3) := by decide +kernel
theorem dX11_clause_89 : decode cX11_clause 89 = .ok (.iastore, 1) := by decide +kernel
theorem dX11_clause_90 : decode cX11_clause 90 = .ok (.aload_n 0, 1) := by decide +kernel
theorem dX11_clause_91 : decode cX11_clause 91 = .ok (.dup, 1) := by decide +kernel
theorem dX11_clause_92 : decode cX11_clause 92 = .ok (.getfield 197, 3) := by decide +kernel
theorem dX11_clause_95 : decode cX11_clause 95 = .ok (.iconst 1, 1) := by decide +kernel
theorem dX11_clause_96 : decode cX11_clause 96 = .ok (.iadd, 1) := by decide +kernel
theorem dX11_clause_97 : decode cX11_clause 97 = .ok (.putfield 197, 3) := by decide +kernel
theorem dX11_clause_100 : decode cX11_clause 100 = .ok (.aload_n 0, 1) := by decide +kernel
theorem dX11_clause_101 : decode cX11_clause 101 = .ok (.iconst 0, 1) := by decide +kernel
theorem dX11_clause_102 : decode cX11_clause 102 = .ok (.putfield 213, 3) := by decide +kernel
theorem dX11_clause_105 : decode cX11_clause 105 = .ok (.aload_n 0, 1) := by decide +kernel
theorem dX11_clause_106 : decode cX11_clause 106 = .ok (.iconst 0, 1) := by decide +kernel
theorem dX11_clause_107 : decode cX11_clause 107 = .ok (.putfield 216, 3) := by decide +kernel
theorem dX11_clause_110 : decode cX11_clause 110 = .ok (.aload_n 0, 1) := by decide +kernel
theorem dX11_clause_111 : decode cX11_clause 111 = .ok (.invokevirtual 272, 3) := by decide +kernel
theorem dX11_clause_114 : decode cX11_clause 114 = .ok (.aload_n 0, 1) := by decide +kernel
theorem dX11_clause_115 : decode cX11_clause 115 = .ok (.getfield 73, 3) := by decide +kernel
theorem dX11_clause_118 : decode cX11_clause 118 = .ok (.aload_n 0, 1) := by decide +kernel
theorem dX11_clause_119 : decode cX11_clause 119 = .ok (.getfield 293, 3) := by decide +kernel
theorem dX11_clause_122 : decode cX11_clause 122 = .ok (.aload_n 0, 1) := by decide +kernel
theorem dX11_clause_123 : decode cX11_clause 123 = .ok (.getfield 210, 3) := by decide +kernel
theorem dX11_clause_126 : decode cX11_clause 126 = .ok (.iastore, 1) := by decide +kernel
theorem dX11_clause_127 : decode cX11_clause 127 = .ok (.aload_n 0, 1) := by decide +kernel
theorem dX11_clause_128 : decode cX11_clause 128 = .ok (.invokevirtual 206, 3) := by decide +kernel
theorem dX11_clause_131 : decode cX11_clause 131 = .ok (.ifCond .eq 7, 3) := by decide +kernel
theorem dX11_clause_134 : decode cX11_clause 134 = .ok (.aload_n 0, 1) := by decide +kernel
theorem dX11_clause_135 : decode cX11_clause 135 = .ok (.invokevirtual 296, 3) := by decide +kernel
theorem dX11_clause_138 : decode cX11_clause 138 = .ok (.aload_n 0, 1) := by decide +kernel
theorem dX11_clause_139 : decode cX11_clause 139 = .ok (.getfield 76, 3) := by decide +kernel
theorem dX11_clause_142 : decode cX11_clause 142 = .ok (.aload_n 0, 1) := by decide +kernel
theorem dX11_clause_143 : decode cX11_clause 143 = .ok (.getfield 293, 3) := by decide +kernel
theorem dX11_clause_146 : decode cX11_clause 146 = .ok (.aload_n 0, 1) := by decide +kernel
theorem dX11_clause_147 : decode cX11_clause 147 = .ok (.getfield 210, 3) := by decide +kernel
theorem dX11_clause_150 : decode cX11_clause 150 = .ok (.iastore, 1) := by decide +kernel
theorem dX11_clause_151 : decode cX11_clause 151 = .ok (.aload_n 0, 1) := by decide +kernel
theorem dX11_clause_152 : decode cX11_clause 152 = .ok (.dup, 1) := by decide +kernel
theorem dX11_clause_153 : decode cX11_clause 153 = .ok (.getfield 293, 3) := by decide +kernel
theorem dX11_clause_156 : decode cX11_clause 156 = .ok (.iconst 1, 1) := by decide +kernel
theorem dX11_clause_157 : decode cX11_clause 157 = .ok (.iadd, 1) := by decide +kernel
theorem dX11_clause_158 : decode cX11_clause 158 = .ok (.putfield 293, 3) := by decide +kernel
theorem dX11_clause_161 : decode cX11_clause 161 = .ok (.return_, 1) := by decide +kernel
theorem dX11_law_0 : decode cX11_law 0 = .ok (.iload_n 1, 1) := by decide +kernel
theorem dX11_law_1 : decode cX11_law 1 = .ok (.i2l, 1) := by decide +kernel
theorem dX11_law_2 : decode cX11_law 2 = .ok (.lconst 1, 1) := by decide +kernel
theorem dX11_law_3 : decode cX11_law 3 = .ok (.ldc2_w 299, 3) := by decide +kernel
theorem dX11_law_6 : decode cX11_law 6 = .ok (.invokestatic 156, 3) := by decide +kernel
theorem dX11_law_9 : decode cX11_law 9 = .ok (.ifCond .eq 11, 3) := by decide +kernel
theorem dX11_law_12 : decode cX11_law 12 = .ok (.iload_n 1, 1) := by decide +kernel
theorem dX11_law_13 : decode cX11_law 13 = .ok (.aload_n 0, 1) := by decide +kernel
theorem dX11_law_14 : decode cX11_law 14 = .ok (.getfield 190, 3) := by decide +kernel
theorem dX11_law_17 : decode cX11_law 17 = .ok (.if_icmp .le 5, 3) := by decide +kernel
theorem dX11_law_20 : decode cX11_law 20 = .ok (.iconst (-1), 1) := by decide +kernel
theorem dX11_law_21 : decode cX11_law 21 = .ok (.ireturn, 1) := by decide +kernel
theorem dX11_law_22 : decode cX11_law 22 = .ok (.aload_n 0, 1) := by decide +kernel
theorem dX11_law_23 : decode cX11_law 23 = .ok (.iconst 0, 1) := by decide +kernel
theorem dX11_law_24 : decode cX11_law 24 = .ok (.putfield 190, 3) := by decide +kernel
theorem dX11_law_27 : decode cX11_law 27 = .ok (.aload_n 0, 1) := by decide +kernel
theorem dX11_law_28 : decode cX11_law 28 = .ok (.iconst 0, 1) := by decide +kernel
theorem dX11_law_29 : decode cX11_law 29 = .ok (.putfield 197, 3) := by decide +kernel
theorem dX11_law_32 : decode cX11_law 32 = .ok (.aload_n 0, 1) := by decide +kernel
theorem dX11_law_33 : decode cX11_law 33 = .ok (.iload_n 1, 1) := by decide +kernel
theorem dX11_law_34 : decode cX11_law 34 = .ok (.putfield 200, 3) := by decide +kernel
theorem dX11_law_37 : decode cX11_law 37 = .ok (.aload_n 0, 1) := by decide +kernel
theorem dX11_law_38 : decode cX11_law 38 = .ok (.iconst 0, 1) := by decide +kernel
theorem dX11_law_39 : decode cX11_law 39 = .ok (.putfield 203, 3) := by decide +kernel
theorem dX11_law_42 : decode cX11_law 42 = .ok (.aload_n 0, 1) := by decide +kernel
theorem dX11_law_43 : decode cX11_law 43 = .ok (.iconst 0, 1) := by decide +kernel
theorem dX11_law_44 : decode cX11_law 44 = .ok (.putfield 293, 3) := by decide +kernel
theorem dX11_law_47 : decode cX11_law 47 = .ok (.aload_n 0, 1) := by decide +kernel
theorem dX11_law_48 : decode cX11_law 48 = .ok (.iconst 0, 1) := by decide +kernel
theorem dX11_law_49 : decode cX11_law 49 = .ok (.putfield 210, 3) := by decide +kernel
theorem dX11_law_52 : decode cX11_law 52 = .ok (.iconst 1, 1) := by decide +kernel
theorem dX11_law_53 : decode cX11_law 53 = .ok (.istore_n 2, 1) := by decide +kernel
theorem dX11_law_54 : decode cX11_law 54 = .ok (.iload_n 2, 1) := by decide +kernel
theorem dX11_law_55 : decode cX11_law 55 = .ok (.ifCond .eq 73, 3) := by decide +kernel
theorem dX11_law_58 : decode cX11_law 58 = .ok (.aload_n 0, 1) := by decide +kernel
theorem dX11_law_59 : decode cX11_law 59 = .ok (.invokevirtual 206, 3) := by decide +kernel
theorem dX11_law_62 : decode cX11_law 62 = .ok (.ifCond .eq 66, 3) := by decide +kernel
theorem dX11_law_65 : decode cX11_law 65 = .ok (.aload_n 0, 1) := by decide +kernel
theorem dX11_law_66 : decode cX11_law 66 = .ok (.invokevirtual 301, 3) := by decide +kernel
theorem dX11_law_69 : decode cX11_law 69 = .ok (.aload_n 0, 1) := by decide +kernel
theorem dX11_law_70 : decode cX11_law 70 = .ok (.invokevirtual 206, 3) := by decide +kernel
theorem dX11_law_73 : decode cX11_law 73 = .ok (.ifCond .eq 18, 3) := by decide +kernel
theorem dX11_law_76 : decode cX11_law 76 = .ok (.aload_n 0, 1) := by decide +kernel
theorem dX11_law_77 : decode cX11_law 77 = .ok (.getfield 197, 3) := by decide +kernel
theorem dX11_law_80 : decode cX11_law 80 = .ok (.aload_n 0, 1) := by decide +kernel
theorem dX11_law_81 : decode cX11_law 81 = .ok (.getfield 200, 3) := by decide +kernel
theorem dX11_law_84 : decode cX11_law 84 = .ok (.if_icmp .ge 7, 3) := by decide +kernel
theorem dX11_law_87 : decode cX11_law 87 = .ok (.iconst 1, 1) := by decide +kernel
theorem dX11_law_88 : decode cX11_law 88 = .ok (.goto 4, 3) := by decide +kernel
theorem dX11_law_91 : decode cX11_law 91 = .ok (.iconst 0, 1) := by decide +kernel
theorem dX11_law_92 : decode cX11_law 92 = .ok (.istore_n 2, 1) := by decide +kernel
theorem dX11_law_93 : decode cX11_law 93 = .ok (.iload_n 2, 1) := by decide +kernel
theorem dX11_law_94 : decode cX11_law 94 = .ok (.ifCond .eq (-40), 3) := by decide +kernel
theorem dX11_law_97 : decode cX11_law 97 = .ok (.aload_n 0, 1) := by decide +kernel
theorem dX11_law_98 : decode cX11_law 98 = .ok (.invokevirtual 223, 3) := by decide +kernel
theorem dX11_law_101 : decode cX11_law 101 = .ok (.bipush 59, 2) := by decide +kernel
theorem dX11_law_103 : decode cX11_law 103 = .ok (.if_icmp .eq 12, 3) := by decide +kernel
theorem dX11_law_106 : decode cX11_law 106 = .ok (.aload_n 0, 1) := by decide +kernel
theorem dX11_law_107 : decode cX11_law 107 = .ok (.iconst 1, 1) := by decide +kernel
theorem dX11_law_108 : decode cX11_law 108 = .ok (.aload_n 0, 1) := by decide +kernel
theorem dX11_law_109 : decode cX11_law 109 = .ok (.getfield 197, 3) := by decide +kernel
theorem dX11_law_112 : decode cX11_law 112 = .ok (.invokevirtual 219, 3) := by decide +kernel
theorem dX11_law_115 : decode cX11_law 115 = .ok (.aload_n 0, 1) := by decide +kernel
theorem dX11_law_116 : decode cX11_law 116 = .ok (.dup, 1) := by decide +kernel
theorem dX11_law_117 : decode cX11_law 117 = .ok (.getfield 197, 3) := by decide +kernel
theorem dX11_law_120 : decode cX11_law 120 = .ok (.iconst 1, 1) := by decide +kernel
theorem dX11_law_121 : decode cX11_law 121 = .ok (.iadd, 1) := by decide +kernel
theorem dX11_law_122 : decode cX11_law 122 = .ok (.putfield 197, 3) := by decide +kernel
theorem dX11_law_125 : decode cX11_law 125 = .ok (.goto (-71), 3) := by decide +kernel
theorem dX11_law_128 : decode cX11_law 128 = .ok (.aload_n 0, 1) := by decide +kernel
theorem dX11_law_129 : decode cX11_law 129 = .ok (.getfield 203, 3) := by decide +kernel
theorem dX11_law_132 : decode cX11_law 132 = .ok (.ifCond .ge 8, 3) := by decide +kernel
theorem dX11_law_135 : decode cX11_law 135 = .ok (.aload_n 0, 1) := by decide +kernel
theorem dX11_law_136 : decode cX11_law 136 = .ok (.getfield 203, 3) := by decide +kernel
theorem dX11_law_139 : decode cX11_law 139 = .ok (.ireturn, 1) := by decide +kernel
theorem dX11_law_140 : decode cX11_law 140 = .ok (.iconst 0, 1) := by decide +kernel
theorem dX11_law_141 : decode cX11_law 141 = .ok (.istore_n 3, 1) := by decide +kernel
theorem dX11_law_142 : decode cX11_law 142 = .ok (.iload_n 3, 1) := by decide +kernel
theorem dX11_law_143 : decode cX11_law 143 = .ok (.aload_n 0, 1) := by decide +kernel
theorem dX11_law_144 : decode cX11_law 144 = .ok (.getfield 293, 3) := by decide +kernel
theorem dX11_law_147 : decode cX11_law 147 = .ok (.if_icmp .ge 57, 3) := by decide +kernel
theorem dX11_law_150 : decode cX11_law 150 = .ok (.aload_n 0, 1) := by decide +kernel
theorem dX11_law_151 : decode cX11_law 151 = .ok (.getfield 49, 3) := by decide +kernel
theorem dX11_law_154 : decode cX11_law 154 = .ok (.iload_n 3, 1) := by decide +kernel
theorem dX11_law_155 : decode cX11_law 155 = .ok (.aload_n 0, 1) := by decide +kernel
theorem dX11_law_156 : decode cX11_law 156 = .ok (.getfield 67, 3) := by decide +kernel
theorem dX11_law_159 : decode cX11_law 159 = .ok (.iload_n 3, 1) := by decide +kernel
theorem dX11_law_160 : decode cX11_law 160 = .ok (.iaload, 1) := by decide +kernel
theorem dX11_law_161 : decode cX11_law 161 = .ok (.iastore, 1) := by decide +kernel
theorem dX11_law_162 : decode cX11_law 162 = .ok (.aload_n 0, 1) := by decide +kernel
theorem dX11_law_163 : decode cX11_law 163 = .ok (.getfield 52, 3) := by decide +kernel
theorem dX11_law_166 : decode cX11_law 166 = .ok (.iload_n 3, 1) := by decide +kernel
theorem dX11_law_167 : decode cX11_law 167 = .ok (.aload_n 0, 1) := by decide +kernel
theorem dX11_law_168 : decode cX11_law 168 = .ok (.getfield 70, 3) := by decide +kernel
theorem dX11_law_171 : decode cX11_law 171 = .ok (.iload_n 3, 1) := by decide +kernel
theorem dX11_law_172 : decode cX11_law 172 = .ok (.iaload, 1) := by decide +kernel
theorem dX11_law_173 : decode cX11_law 173 = .ok (.iastore, 1) := by decide +kernel
theorem dX11_law_174 : decode cX11_law 174 = .ok (.aload_n 0, 1) := by decide +kernel
theorem dX11_law_175 : decode cX11_law 175 = .ok (.getfield 55, 3) := by decide +kernel
theorem dX11_law_178 : decode cX11_law 178 = .ok (.iload_n 3, 1) := by decide +kernel
theorem dX11_law_179 : decode cX11_law 179 = .ok (.aload_n 0, 1) := by decide +kernel
theorem dX11_law_180 : decode cX11_law 180 = .ok (.getfield 73, 3) := by decide +kernel
theorem dX11_law_183 : decode cX11_law 183 = .ok (.iload_n 3, 1) := by decide +kernel
theorem dX11_law_184 : decode cX11_law 184 = .ok (.iaload, 1) := by decide +kernel
theorem dX11_law_185 : decode cX11_law 185 = .ok (.iastore, 1) := by decide +kernel
theorem dX11_law_186 : decode cX11_law 186 = .ok (.aload_n 0, 1) := by decide +kernel
theorem dX11_law_187 : decode cX11_law 187 = .ok (.getfield 58, 3) := by decide +kernel
theorem dX11_law_190 : decode cX11_law 190 = .ok (.iload_n 3, 1) := by decide +kernel
theorem dX11_law_191 : decode cX11_law 191 = .ok (.aload_n 0, 1) := by decide +kernel
theorem dX11_law_192 : decode cX11_law 192 = .ok (.getfield 76, 3) := by decide +kernel
theorem dX11_law_195 : decode cX11_law 195 = .ok (.iload_n 3, 1) := by decide +kernel
theorem dX11_law_196 : decode cX11_law 196 = .ok (.iaload, 1) := by decide +kernel
theorem dX11_law_197 : decode cX11_law 197 = .ok (.iastore, 1) := by decide +kernel
theorem dX11_law_198 : decode cX11_law 198 = .ok (.iinc 3 1, 3) := by decide +kernel
theorem dX11_law_201 : decode cX11_law 201 = .ok (.goto (-59), 3) := by decide +kernel
theorem dX11_law_204 : decode cX11_law 204 = .ok (.iconst 0, 1) := by decide +kernel
theorem dX11_law_205 : decode cX11_law 205 = .ok (.istore_n 3, 1) := by decide +kernel
theorem dX11_law_206 : decode cX11_law 206 = .ok (.iload_n 3, 1) := by decide +kernel
theorem dX11_law_207 : decode cX11_law 207 = .ok (.aload_n 0, 1) := by decide +kernel
theorem dX11_law_208 : decode cX11_law 208 = .ok (.getfield 210, 3) := by decide +kernel
theorem dX11_law_211 : decode cX11_law 211 = .ok (.if_icmp .ge 33, 3) := by decide +kernel
theorem dX11_law_214 : decode cX11_law 214 = .ok (.aload_n 0, 1) := by decide +kernel
theorem dX11_law_215 : decode cX11_law 215 = .ok (.getfield 61, 3) := by decide +kernel
theorem dX11_law_218 : decode cX11_law 218 = .ok (.iload_n 3, 1) := by decide +kernel
theorem dX11_law_219 : decode cX11_law 219 = .ok (.aload_n 0, 1) := by decide +kernel
theorem dX11_law_220 : decode cX11_law 220 = .ok (.getfield 79, 3) := by decide +kernel
theorem dX11_law_223 : decode cX11_law 223 = .ok (.iload_n 3, 1) := by decide +kernel
theorem dX11_law_224 : decode cX11_law 224 = .ok (.iaload, 1) := by decide +kernel
theorem dX11_law_225 : decode cX11_law 225 = .ok (.iastore, 1) := by decide +kernel
theorem dX11_law_226 : decode cX11_law 226 = .ok (.aload_n 0, 1) := by decide +kernel
theorem dX11_law_227 : decode cX11_law 227 = .ok (.getfield 64, 3) := by decide +kernel
theorem dX11_law_230 : decode cX11_law 230 = .ok (.iload_n 3, 1) := by decide +kernel
theorem dX11_law_231 : decode cX11_law 231 = .ok (.aload_n 0, 1) := by decide +kernel
theorem dX11_law_232 : decode cX11_law 232 = .ok (.getfield 82, 3) := by decide +kernel
theorem dX11_law_235 : decode cX11_law 235 = .ok (.iload_n 3, 1) := by decide +kernel
theorem dX11_law_236 : decode cX11_law 236 = .ok (.iaload, 1) := by decide +kernel
theorem dX11_law_237 : decode cX11_law 237 = .ok (.iastore, 1) := by decide +kernel
theorem dX11_law_238 : decode cX11_law 238 = .ok (.iinc 3 1, 3) := by decide +kernel
theorem dX11_law_241 : decode cX11_law 241 = .ok (.goto (-35), 3) := by decide +kernel
theorem dX11_law_244 : decode cX11_law 244 = .ok (.aload_n 0, 1) := by decide +kernel
theorem dX11_law_245 : decode cX11_law 245 = .ok (.aload_n 0, 1) := by decide +kernel
theorem dX11_law_246 : decode cX11_law 246 = .ok (.getfield 293, 3) := by decide +kernel
theorem dX11_law_249 : decode cX11_law 249 = .ok (.putfield 304, 3) := by decide +kernel
theorem dX11_law_252 : decode cX11_law 252 = .ok (.aload_n 0, 1) := by decide +kernel
theorem dX11_law_253 : decode cX11_law 253 = .ok (.getfield 304, 3) := by decide +kernel
theorem dX11_law_256 : decode cX11_law 256 = .ok (.ireturn, 1) := by decide +kernel
theorem dX11_nearGroups_0 : decode cX11_nearGroups 0 = .ok (.iconst 0, 1) := by decide +kernel
theorem dX11_nearGroups_1 : decode cX11_nearGroups 1 = .ok (.istore_n 2, 1) := by decide +kernel
theorem dX11_nearGroups_2 : decode cX11_nearGroups 2 = .ok (.iconst 0, 1) := by decide +kernel
theorem dX11_nearGroups_3 : decode cX11_nearGroups 3 = .ok (.istore_n 3, 1) := by decide +kernel
theorem dX11_nearGroups_4 : decode cX11_nearGroups 4 = .ok (.iload_n 3, 1) := by decide +kernel
theorem dX11_nearGroups_5 : decode cX11_nearGroups 5 = .ok (.aload_n 0, 1) := by decide +kernel
theorem dX11_nearGroups_6 : decode cX11_nearGroups 6 = .ok (.getfield 170, 3) := by decide +kernel
theorem dX11_nearGroups_9 : decode cX11_nearGroups 9 = .ok (.if_icmp .ge 42, 3) := by decide +kernel
theorem dX11_nearGroups_12 : decode cX11_nearGroups 12 = .ok (.iload_n 2, 1) := by decide +kernel
theorem dX11_nearGroups_13 : decode cX11_nearGroups 13 = .ok (.aload_n 0, 1) := by decide +kernel
theorem dX11_nearGroups_14 : decode cX11_nearGroups 14 = .ok (.getfield 43, 3) := by decide +kernel
theorem dX11_nearGroups_17 : decode cX11_nearGroups 17 = .ok (.iload_n 3, 1) := by decide +kernel
theorem dX11_nearGroups_18 : decode cX11_nearGroups 18 = .ok (.iaload, 1) := by decide +kernel
theorem dX11_nearGroups_19 : decode cX11_nearGroups 19 = .ok (.bipush (-2), 2) := by decide +kernel
theorem dX11_nearGroups_21 : decode cX11_nearGroups 21 = .ok (.if_icmp .eq 21, 3) := by decide +kernel
theorem dX11_nearGroups_24 : decode cX11_nearGroups 24 = .ok (.aload_n 0, 1) := by decide +kernel
theorem dX11_nearGroups_25 : decode cX11_nearGroups 25 = .ok (.getfield 43, 3) := by decide +kernel
theorem dX11_nearGroups_28 : decode cX11_nearGroups 28 = .ok (.iload_n 3, 1) := by decide +kernel
theorem dX11_nearGroups_29 : decode cX11_nearGroups 29 = .ok (.iaload, 1) := by decide +kernel
theorem dX11_nearGroups_30 : decode cX11_nearGroups 30 = .ok (.iload_n 1, 1) := by decide +kernel
theorem dX11_nearGroups_31 : decode cX11_nearGroups 31 = .ok (.invokestatic 307, 3) := by decide +kernel
theorem dX11_nearGroups_34 : decode cX11_nearGroups 34 = .ok (.iconst 2, 1) := by decide +kernel
theorem dX11_nearGroups_35 : decode cX11_nearGroups 35 = .ok (.if_icmp .ge 7, 3) := by decide +kernel
theorem dX11_nearGroups_38 : decode cX11_nearGroups 38 = .ok (.iconst 1, 1) := by decide +kernel
theorem dX11_nearGroups_39 : decode cX11_nearGroups 39 = .ok (.goto 4, 3) := by decide +kernel
theorem dX11_nearGroups_42 : decode cX11_nearGroups 42 = .ok (.iconst 0, 1) := by decide +kernel
theorem dX11_nearGroups_43 : decode cX11_nearGroups 43 = .ok (.iadd, 1) := by decide +kernel
theorem dX11_nearGroups_44 : decode cX11_nearGroups 44 = .ok (.istore_n 2, 1) := by decide +kernel
theorem dX11_nearGroups_45 : decode cX11_nearGroups 45 = .ok (.iinc 3 1, 3) := by decide +kernel
theorem dX11_nearGroups_48 : decode cX11_nearGroups 48 = .ok (.goto (-44), 3) := by decide +kernel
theorem dX11_nearGroups_51 : decode cX11_nearGroups 51 = .ok (.iload_n 2, 1) := by decide +kernel
theorem dX11_nearGroups_52 : decode cX11_nearGroups 52 = .ok (.ireturn, 1) := by decide +kernel
theorem dX11_drawnBy_0 : decode cX11_drawnBy 0 = .ok (.iload_n 1, 1) := by decide +kernel
theorem dX11_drawnBy_1 : decode cX11_drawnBy 1 = .ok (.lookupswitch 90 #[(100, 63), (112, 53), (115, 43), (119, 80)], 43) := by decide +kernel
theorem dX11_drawnBy_44 : decode cX11_drawnBy 44 = .ok (.aload_n 0, 1) := by decide +kernel
theorem dX11_drawnBy_45 : decode cX11_drawnBy 45 = .ok (.getfield 37, 3) := by decide +kernel
theorem dX11_drawnBy_48 : decode cX11_drawnBy 48 = .ok (.aload_n 0, 1) := by decide +kernel
theorem dX11_drawnBy_49 : decode cX11_drawnBy 49 = .ok (.getfield 311, 3) := by decide +kernel
theorem dX11_drawnBy_52 : decode cX11_drawnBy 52 = .ok (.iaload, 1) := by decide +kernel
theorem dX11_drawnBy_53 : decode cX11_drawnBy 53 = .ok (.ireturn, 1) := by decide +kernel
theorem dX11_drawnBy_54 : decode cX11_drawnBy 54 = .ok (.aload_n 0, 1) := by decide +kernel
theorem dX11_drawnBy_55 : decode cX11_drawnBy 55 = .ok (.getfield 40, 3) := by decide +kernel
theorem dX11_drawnBy_58 : decode cX11_drawnBy 58 = .ok (.aload_n 0, 1) := by decide +kernel
theorem dX11_drawnBy_59 : decode cX11_drawnBy 59 = .ok (.getfield 311, 3) := by decide +kernel
theorem dX11_drawnBy_62 : decode cX11_drawnBy 62 = .ok (.iaload, 1) := by decide +kernel
theorem dX11_drawnBy_63 : decode cX11_drawnBy 63 = .ok (.ireturn, 1) := by decide +kernel
theorem dX11_drawnBy_64 : decode cX11_drawnBy 64 = .ok (.aload_n 0, 1) := by decide +kernel
theorem dX11_drawnBy_65 : decode cX11_drawnBy 65 = .ok (.getfield 314, 3) := by decide +kernel
theorem dX11_drawnBy_68 : decode cX11_drawnBy 68 = .ok (.aload_n 0, 1) := by decide +kernel
theorem dX11_drawnBy_69 : decode cX11_drawnBy 69 = .ok (.getfield 43, 3) := by decide +kernel
theorem dX11_drawnBy_72 : decode cX11_drawnBy 72 = .ok (.aload_n 0, 1) := by decide +kernel
theorem dX11_drawnBy_73 : decode cX11_drawnBy 73 = .ok (.getfield 317, 3) := by decide +kernel
theorem dX11_drawnBy_76 : decode cX11_drawnBy 76 = .ok (.iaload, 1) := by decide +kernel
theorem dX11_drawnBy_77 : decode cX11_drawnBy 77 = .ok (.invokestatic 307, 3) := by decide +kernel
theorem dX11_drawnBy_80 : decode cX11_drawnBy 80 = .ok (.ireturn, 1) := by decide +kernel
theorem dX11_drawnBy_81 : decode cX11_drawnBy 81 = .ok (.aload_n 0, 1) := by decide +kernel
theorem dX11_drawnBy_82 : decode cX11_drawnBy 82 = .ok (.getfield 46, 3) := by decide +kernel
theorem dX11_drawnBy_85 : decode cX11_drawnBy 85 = .ok (.aload_n 0, 1) := by decide +kernel
theorem dX11_drawnBy_86 : decode cX11_drawnBy 86 = .ok (.getfield 317, 3) := by decide +kernel
theorem dX11_drawnBy_89 : decode cX11_drawnBy 89 = .ok (.iaload, 1) := by decide +kernel
theorem dX11_drawnBy_90 : decode cX11_drawnBy 90 = .ok (.ireturn, 1) := by decide +kernel
theorem dX11_drawnBy_91 : decode cX11_drawnBy 91 = .ok (.aload_n 0, 1) := by decide +kernel
theorem dX11_drawnBy_92 : decode cX11_drawnBy 92 = .ok (.aload_n 0, 1) := by decide +kernel
theorem dX11_drawnBy_93 : decode cX11_drawnBy 93 = .ok (.getfield 314, 3) := by decide +kernel
theorem dX11_drawnBy_96 : decode cX11_drawnBy 96 = .ok (.invokevirtual 320, 3) := by decide +kernel
theorem dX11_drawnBy_99 : decode cX11_drawnBy 99 = .ok (.ireturn, 1) := by decide +kernel
theorem dX11_valueOf_0 : decode cX11_valueOf 0 = .ok (.iload_n 1, 1) := by decide +kernel
theorem dX11_valueOf_1 : decode cX11_valueOf 1 = .ok (.tableswitch 141 104 121 #[106, 87, 141, 136, 141, 131, 97, 141, 141, 141, 141, 141, 141, 141, 141, 141, 115, 123], 87) := by decide +kernel
theorem dX11_valueOf_88 : decode cX11_valueOf 88 = .ok (.aload_n 0, 1) := by decide +kernel
theorem dX11_valueOf_89 : decode cX11_valueOf 89 = .ok (.getfield 17, 3) := by decide +kernel
theorem dX11_valueOf_92 : decode cX11_valueOf 92 = .ok (.aload_n 0, 1) := by decide +kernel
theorem dX11_valueOf_93 : decode cX11_valueOf 93 = .ok (.getfield 314, 3) := by decide +kernel
theorem dX11_valueOf_96 : decode cX11_valueOf 96 = .ok (.iaload, 1) := by decide +kernel
theorem dX11_valueOf_97 : decode cX11_valueOf 97 = .ok (.ireturn, 1) := by decide +kernel
theorem dX11_valueOf_98 : decode cX11_valueOf 98 = .ok (.aload_n 0, 1) := by decide +kernel
theorem dX11_valueOf_99 : decode cX11_valueOf 99 = .ok (.aload_n 0, 1) := by decide +kernel
theorem dX11_valueOf_100 : decode cX11_valueOf 100 = .ok (.getfield 314, 3) := by decide +kernel
theorem dX11_valueOf_103 : decode cX11_valueOf 103 = .ok (.invokevirtual 323, 3) := by decide +kernel
theorem dX11_valueOf_106 : decode cX11_valueOf 106 = .ok (.ireturn, 1) := by decide +kernel
theorem dX11_valueOf_107 : decode cX11_valueOf 107 = .ok (.aload_n 0, 1) := by decide +kernel
theorem dX11_valueOf_108 : decode cX11_valueOf 108 = .ok (.aload_n 0, 1) := by decide +kernel
theorem dX11_valueOf_109 : decode cX11_valueOf 109 = .ok (.getfield 314, 3) := by decide +kernel
theorem dX11_valueOf_112 : decode cX11_valueOf 112 = .ok (.invokevirtual 326, 3) := by decide +kernel
theorem dX11_valueOf_115 : decode cX11_valueOf 115 = .ok (.ireturn, 1) := by decide +kernel
theorem dX11_valueOf_116 : decode cX11_valueOf 116 = .ok (.aload_n 0, 1) := by decide +kernel
theorem dX11_valueOf_117 : decode cX11_valueOf 117 = .ok (.getfield 314, 3) := by decide +kernel
theorem dX11_valueOf_120 : decode cX11_valueOf 120 = .ok (.bipush 16, 2) := by decide +kernel
theorem dX11_valueOf_122 : decode cX11_valueOf 122 = .ok (.irem, 1) := by decide +kernel
theorem dX11_valueOf_123 : decode cX11_valueOf 123 = .ok (.ireturn, 1) := by decide +kernel
theorem dX11_valueOf_124 : decode cX11_valueOf 124 = .ok (.aload_n 0, 1) := by decide +kernel
theorem dX11_valueOf_125 : decode cX11_valueOf 125 = .ok (.getfield 314, 3) := by decide +kernel
theorem dX11_valueOf_128 : decode cX11_valueOf 128 = .ok (.bipush 16, 2) := by decide +kernel
theorem dX11_valueOf_130 : decode cX11_valueOf 130 = .ok (.idiv, 1) := by decide +kernel
theorem dX11_valueOf_131 : decode cX11_valueOf 131 = .ok (.ireturn, 1) := by decide +kernel
theorem dX11_valueOf_132 : decode cX11_valueOf 132 = .ok (.aload_n 0, 1) := by decide +kernel
theorem dX11_valueOf_133 : decode cX11_valueOf 133 = .ok (.getfield 329, 3) := by decide +kernel
theorem dX11_valueOf_136 : decode cX11_valueOf 136 = .ok (.ireturn, 1) := by decide +kernel
theorem dX11_valueOf_137 : decode cX11_valueOf 137 = .ok (.aload_n 0, 1) := by decide +kernel
theorem dX11_valueOf_138 : decode cX11_valueOf 138 = .ok (.getfield 332, 3) := by decide +kernel
theorem dX11_valueOf_141 : decode cX11_valueOf 141 = .ok (.ireturn, 1) := by decide +kernel
theorem dX11_valueOf_142 : decode cX11_valueOf 142 = .ok (.aload_n 0, 1) := by decide +kernel
theorem dX11_valueOf_143 : decode cX11_valueOf 143 = .ok (.getfield 311, 3) := by decide +kernel
theorem dX11_valueOf_146 : decode cX11_valueOf 146 = .ok (.iconst (-1), 1) := by decide +kernel
theorem dX11_valueOf_147 : decode cX11_valueOf 147 = .ok (.if_icmp .ne 7, 3) := by decide +kernel
theorem dX11_valueOf_150 : decode cX11_valueOf 150 = .ok (.iconst 0, 1) := by decide +kernel
theorem dX11_valueOf_151 : decode cX11_valueOf 151 = .ok (.goto 8, 3) := by decide +kernel
theorem dX11_valueOf_154 : decode cX11_valueOf 154 = .ok (.aload_n 0, 1) := by decide +kernel
theorem dX11_valueOf_155 : decode cX11_valueOf 155 = .ok (.iload_n 1, 1) := by decide +kernel
theorem dX11_valueOf_156 : decode cX11_valueOf 156 = .ok (.invokevirtual 335, 3) := by decide +kernel
theorem dX11_valueOf_159 : decode cX11_valueOf 159 = .ok (.ireturn, 1) := by decide +kernel
theorem dX11_worked_0 : decode cX11_worked 0 = .ok (.iload_n 0, 1) := by decide +kernel
theorem dX11_worked_1 : decode cX11_worked 1 = .ok (.lookupswitch 125 #[(37, 91), (42, 75), (43, 67), (45, 71), (47, 79), (60, 103), (62, 114)], 67) := by decide +kernel
theorem dX11_worked_68 : decode cX11_worked 68 = .ok (.iload_n 1, 1) := by decide +kernel
theorem dX11_worked_69 : decode cX11_worked 69 = .ok (.iload_n 2, 1) := by decide +kernel
theorem dX11_worked_70 : decode cX11_worked 70 = .ok (.iadd, 1) := by decide +kernel
theorem dX11_worked_71 : decode cX11_worked 71 = .ok (.ireturn, 1) := by decide +kernel
theorem dX11_worked_72 : decode cX11_worked 72 = .ok (.iload_n 1, 1) := by decide +kernel
theorem dX11_worked_73 : decode cX11_worked 73 = .ok (.iload_n 2, 1) := by decide +kernel
theorem dX11_worked_74 : decode cX11_worked 74 = .ok (.isub, 1) := by decide +kernel
theorem dX11_worked_75 : decode cX11_worked 75 = .ok (.ireturn, 1) := by decide +kernel
theorem dX11_worked_76 : decode cX11_worked 76 = .ok (.iload_n 1, 1) := by decide +kernel
theorem dX11_worked_77 : decode cX11_worked 77 = .ok (.iload_n 2, 1) := by decide +kernel
theorem dX11_worked_78 : decode cX11_worked 78 = .ok (.imul, 1) := by decide +kernel
theorem dX11_worked_79 : decode cX11_worked 79 = .ok (.ireturn, 1) := by decide +kernel
theorem dX11_worked_80 : decode cX11_worked 80 = .ok (.iload_n 2, 1) := by decide +kernel
theorem dX11_worked_81 : decode cX11_worked 81 = .ok (.ifCond .ne 7, 3) := by decide +kernel
theorem dX11_worked_84 : decode cX11_worked 84 = .ok (.iconst 0, 1) := by decide +kernel
theorem dX11_worked_85 : decode cX11_worked 85 = .ok (.goto 6, 3) := by decide +kernel
theorem dX11_worked_88 : decode cX11_worked 88 = .ok (.iload_n 1, 1) := by decide +kernel
theorem dX11_worked_89 : decode cX11_worked 89 = .ok (.iload_n 2, 1) := by decide +kernel
theorem dX11_worked_90 : decode cX11_worked 90 = .ok (.idiv, 1) := by decide +kernel
theorem dX11_worked_91 : decode cX11_worked 91 = .ok (.ireturn, 1) := by decide +kernel
theorem dX11_worked_92 : decode cX11_worked 92 = .ok (.iload_n 2, 1) := by decide +kernel
theorem dX11_worked_93 : decode cX11_worked 93 = .ok (.ifCond .ne 7, 3) := by decide +kernel
theorem dX11_worked_96 : decode cX11_worked 96 = .ok (.iconst 0, 1) := by decide +kernel
theorem dX11_worked_97 : decode cX11_worked 97 = .ok (.goto 6, 3) := by decide +kernel
theorem dX11_worked_100 : decode cX11_worked 100 = .ok (.iload_n 1, 1) := by decide +kernel
theorem dX11_worked_101 : decode cX11_worked 101 = .ok (.iload_n 2, 1) := by decide +kernel
theorem dX11_worked_102 : decode cX11_worked 102 = .ok (.irem, 1) := by decide +kernel
theorem dX11_worked_103 : decode cX11_worked 103 = .ok (.ireturn, 1) := by decide +kernel
theorem dX11_worked_104 : decode cX11_worked 104 = .ok (.iload_n 1, 1) := by decide +kernel
theorem dX11_worked_105 : decode cX11_worked 105 = .ok (.iload_n 2, 1) := by decide +kernel
theorem dX11_worked_106 : decode cX11_worked 106 = .ok (.if_icmp .ge 7, 3) := by decide +kernel
theorem dX11_worked_109 : decode cX11_worked 109 = .ok (.iconst 1, 1) := by decide +kernel
theorem dX11_worked_110 : decode cX11_worked 110 = .ok (.goto 4, 3) := by decide +kernel
theorem dX11_worked_113 : decode cX11_worked 113 = .ok (.iconst 0, 1) := by decide +kernel
theorem dX11_worked_114 : decode cX11_worked 114 = .ok (.ireturn, 1) := by decide +kernel
theorem dX11_worked_115 : decode cX11_worked 115 = .ok (.iload_n 1, 1) := by decide +kernel
theorem dX11_worked_116 : decode cX11_worked 116 = .ok (.iload_n 2, 1) := by decide +kernel
theorem dX11_worked_117 : decode cX11_worked 117 = .ok (.if_icmp .le 7, 3) := by decide +kernel
theorem dX11_worked_120 : decode cX11_worked 120 = .ok (.iconst 1, 1) := by decide +kernel
theorem dX11_worked_121 : decode cX11_worked 121 = .ok (.goto 4, 3) := by decide +kernel
theorem dX11_worked_124 : decode cX11_worked 124 = .ok (.iconst 0, 1) := by decide +kernel
theorem dX11_worked_125 : decode cX11_worked 125 = .ok (.ireturn, 1) := by decide +kernel
theorem dX11_worked_126 : decode cX11_worked 126 = .ok (.iload_n 1, 1) := by decide +kernel
theorem dX11_worked_127 : decode cX11_worked 127 = .ok (.iload_n 2, 1) := by decide +kernel
theorem dX11_worked_128 : decode cX11_worked 128 = .ok (.if_icmp .ne 7, 3) := by decide +kernel
theorem dX11_worked_131 : decode cX11_worked 131 = .ok (.iconst 1, 1) := by decide +kernel
theorem dX11_worked_132 : decode cX11_worked 132 = .ok (.goto 4, 3) := by decide +kernel
theorem dX11_worked_135 : decode cX11_worked 135 = .ok (.iconst 0, 1) := by decide +kernel
theorem dX11_worked_136 : decode cX11_worked 136 = .ok (.ireturn, 1) := by decide +kernel
theorem dX11_does_0 : decode cX11_does 0 = .ok (.iload_n 2, 1) := by decide +kernel
theorem dX11_does_1 : decode cX11_does 1 = .ok (.iconst 1, 1) := by decide +kernel
theorem dX11_does_2 : decode cX11_does 2 = .ok (.iadd, 1) := by decide +kernel
theorem dX11_does_3 : decode cX11_does 3 = .ok (.istore_n 3, 1) := by decide +kernel
theorem dX11_does_4 : decode cX11_does 4 = .ok (.iload_n 1, 1) := by decide +kernel
theorem dX11_does_5 : decode cX11_does 5 = .ok (.bipush 38, 2) := by decide +kernel
theorem dX11_does_7 : decode cX11_does 7 = .ok (.if_icmp .eq 9, 3) := by decide +kernel
theorem dX11_does_10 : decode cX11_does 10 = .ok (.iload_n 1, 1) := by decide +kernel
theorem dX11_does_11 : decode cX11_does 11 = .ok (.bipush 124, 2) := by decide +kernel
theorem dX11_does_13 : decode cX11_does 13 = .ok (.if_icmp .ne 58, 3) := by decide +kernel
theorem dX11_does_16 : decode cX11_does 16 = .ok (.aload_n 0, 1) := by decide +kernel
theorem dX11_does_17 : decode cX11_does 17 = .ok (.getfield 91, 3) := by decide +kernel
theorem dX11_does_20 : decode cX11_does 20 = .ok (.iload_n 2, 1) := by decide +kernel
theorem dX11_does_21 : decode cX11_does 21 = .ok (.baload, 1) := by decide +kernel
theorem dX11_does_22 : decode cX11_does 22 = .ok (.ifCond .ne 23, 3) := by decide +kernel
theorem dX11_does_25 : decode cX11_does 25 = .ok (.aload_n 0, 1) := by decide +kernel
theorem dX11_does_26 : decode cX11_does 26 = .ok (.getfield 88, 3) := by decide +kernel
theorem dX11_does_29 : decode cX11_does 29 = .ok (.iload_n 2, 1) := by decide +kernel
theorem dX11_does_30 : decode cX11_does 30 = .ok (.iaload, 1) := by decide +kernel
theorem dX11_does_31 : decode cX11_does 31 = .ok (.iload_n 1, 1) := by decide +kernel
theorem dX11_does_32 : decode cX11_does 32 = .ok (.bipush 38, 2) := by decide +kernel
theorem dX11_does_34 : decode cX11_does 34 = .ok (.if_icmp .ne 7, 3) := by decide +kernel
theorem dX11_does_37 : decode cX11_does 37 = .ok (.iconst 1, 1) := by decide +kernel
theorem dX11_does_38 : decode cX11_does 38 = .ok (.goto 4, 3) := by decide +kernel
theorem dX11_does_41 : decode cX11_does 41 = .ok (.iconst 0, 1) := by decide +kernel
theorem dX11_does_42 : decode cX11_does 42 = .ok (.if_icmp .eq 4, 3) := by decide +kernel
theorem dX11_does_45 : decode cX11_does 45 = .ok (.return_, 1) := by decide +kernel
theorem dX11_does_46 : decode cX11_does 46 = .ok (.aload_n 0, 1) := by decide +kernel
theorem dX11_does_47 : decode cX11_does 47 = .ok (.getfield 88, 3) := by decide +kernel
theorem dX11_does_50 : decode cX11_does 50 = .ok (.iload_n 2, 1) := by decide +kernel
theorem dX11_does_51 : decode cX11_does 51 = .ok (.aload_n 0, 1) := by decide +kernel
theorem dX11_does_52 : decode cX11_does 52 = .ok (.getfield 88, 3) := by decide +kernel
theorem dX11_does_55 : decode cX11_does 55 = .ok (.iload_n 3, 1) := by decide +kernel
theorem dX11_does_56 : decode cX11_does 56 = .ok (.iaload, 1) := by decide +kernel
theorem dX11_does_57 : decode cX11_does 57 = .ok (.iastore, 1) := by decide +kernel
theorem dX11_does_58 : decode cX11_does 58 = .ok (.aload_n 0, 1) := by decide +kernel
theorem dX11_does_59 : decode cX11_does 59 = .ok (.getfield 91, 3) := by decide +kernel
theorem dX11_does_62 : decode cX11_does 62 = .ok (.iload_n 2, 1) := by decide +kernel
theorem dX11_does_63 : decode cX11_does 63 = .ok (.aload_n 0, 1) := by decide +kernel
theorem dX11_does_64 : decode cX11_does 64 = .ok (.getfield 91, 3) := by decide +kernel
theorem dX11_does_67 : decode cX11_does 67 = .ok (.iload_n 3, 1) := by decide +kernel
theorem dX11_does_68 : decode cX11_does 68 = .ok (.baload, 1) := by decide +kernel
theorem dX11_does_69 : decode cX11_does 69 = .ok (.bastore, 1) := by decide +kernel
theorem dX11_does_70 : decode cX11_does 70 = .ok (.return_, 1) := by decide +kernel
theorem dX11_does_71 : decode cX11_does 71 = .ok (.aload_n 0, 1) := by decide +kernel
theorem dX11_does_72 : decode cX11_does 72 = .ok (.getfield 91, 3) := by decide +kernel
theorem dX11_does_75 : decode cX11_does 75 = .ok (.iload_n 2, 1) := by decide +kernel
theorem dX11_does_76 : decode cX11_does 76 = .ok (.aload_n 0, 1) := by decide +kernel
theorem dX11_does_77 : decode cX11_does 77 = .ok (.getfield 91, 3) := by decide +kernel
theorem dX11_does_80 : decode cX11_does 80 = .ok (.iload_n 2, 1) := by decide +kernel
theorem dX11_does_81 : decode cX11_does 81 = .ok (.baload, 1) := by decide +kernel
theorem dX11_does_82 : decode cX11_does 82 = .ok (.ifCond .ne 33, 3) := by decide +kernel
theorem dX11_does_85 : decode cX11_does 85 = .ok (.aload_n 0, 1) := by decide +kernel
theorem dX11_does_86 : decode cX11_does 86 = .ok (.getfield 91, 3) := by decide +kernel
theorem dX11_does_89 : decode cX11_does 89 = .ok (.iload_n 3, 1) := by decide +kernel
theorem dX11_does_90 : decode cX11_does 90 = .ok (.baload, 1) := by decide +kernel
theorem dX11_does_91 : decode cX11_does 91 = .ok (.ifCond .ne 24, 3) := by decide +kernel
theorem dX11_does_94 : decode cX11_does 94 = .ok (.iload_n 1, 1) := by decide +kernel
theorem dX11_does_95 : decode cX11_does 95 = .ok (.bipush 47, 2) := by decide +kernel
theorem dX11_does_97 : decode cX11_does 97 = .ok (.if_icmp .eq 9, 3) := by decide +kernel
theorem dX11_does_100 : decode cX11_does 100 = .ok (.iload_n 1, 1) := by decide +kernel
theorem dX11_does_101 : decode cX11_does 101 = .ok (.bipush 37, 2) := by decide +kernel
theorem dX11_does_103 : decode cX11_does 103 = .ok (.if_icmp .ne 16, 3) := by decide +kernel
theorem dX11_does_106 : decode cX11_does 106 = .ok (.aload_n 0, 1) := by decide +kernel
theorem dX11_does_107 : decode cX11_does 107 = .ok (.getfield 88, 3) := by decide +kernel
theorem dX11_does_110 : decode cX11_does 110 = .ok (.iload_n 3, 1) := by decide +kernel
theorem dX11_does_111 : decode cX11_does 111 = .ok (.iaload, 1) := by decide +kernel
theorem dX11_does_112 : decode cX11_does 112 = .ok (.ifCond .ne 7, 3) := by decide +kernel
theorem dX11_does_115 : decode cX11_does 115 = .ok (.iconst 1, 1) := by decide +kernel
theorem dX11_does_116 : decode cX11_does 116 = .ok (.goto 4, 3) := by decide +kernel
theorem dX11_does_119 : decode cX11_does 119 = .ok (.iconst 0, 1) := by decide +kernel
theorem dX11_does_120 : decode cX11_does 120 = .ok (.bastore, 1) := by decide +kernel
theorem dX11_does_121 : decode cX11_does 121 = .ok (.aload_n 0, 1) := by decide +kernel
theorem dX11_does_122 : decode cX11_does 122 = .ok (.getfield 88, 3) := by decide +kernel
theorem dX11_does_125 : decode cX11_does 125 = .ok (.iload_n 2, 1) := by decide +kernel
theorem dX11_does_126 : decode cX11_does 126 = .ok (.iload_n 1, 1) := by decide +kernel
theorem dX11_does_127 : decode cX11_does 127 = .ok (.aload_n 0, 1) := by decide +kernel
theorem dX11_does_128 : decode cX11_does 128 = .ok (.getfield 88, 3) := by decide +kernel
theorem dX11_does_131 : decode cX11_does 131 = .ok (.iload_n 2, 1) := by decide +kernel
theorem dX11_does_132 : decode cX11_does 132 = .ok (.iaload, 1) := by decide +kernel
theorem dX11_does_133 : decode cX11_does 133 = .ok (.aload_n 0, 1) := by decide +kernel
theorem dX11_does_134 : decode cX11_does 134 = .ok (.getfield 88, 3) := by decide +kernel
theorem dX11_does_137 : decode cX11_does 137 = .ok (.iload_n 3, 1) := by decide +kernel
theorem dX11_does_138 : decode cX11_does 138 = .ok (.iaload, 1) := by decide +kernel
theorem dX11_does_139 : decode cX11_does 139 = .ok (.invokestatic 338, 3) := by decide +kernel
theorem dX11_does_142 : decode cX11_does 142 = .ok (.iastore, 1) := by decide +kernel
theorem dX11_does_143 : decode cX11_does 143 = .ok (.return_, 1) := by decide +kernel
theorem dX11_works_0 : decode cX11_works 0 = .ok (.iconst 0, 1) := by decide +kernel
theorem dX11_works_1 : decode cX11_works 1 = .ok (.istore_n 3, 1) := by decide +kernel
theorem dX11_works_2 : decode cX11_works 2 = .ok (.iload_n 1, 1) := by decide +kernel
theorem dX11_works_3 : decode cX11_works 3 = .ok (.istore 4, 2) := by decide +kernel
theorem dX11_works_5 : decode cX11_works 5 = .ok (.iload 4, 2) := by decide +kernel
theorem dX11_works_7 : decode cX11_works 7 = .ok (.iload_n 2, 1) := by decide +kernel
theorem dX11_works_8 : decode cX11_works 8 = .ok (.if_icmp .ge 119, 3) := by decide +kernel
theorem dX11_works_11 : decode cX11_works 11 = .ok (.aload_n 0, 1) := by decide +kernel
theorem dX11_works_12 : decode cX11_works 12 = .ok (.getfield 61, 3) := by decide +kernel
theorem dX11_works_15 : decode cX11_works 15 = .ok (.iload 4, 2) := by decide +kernel
theorem dX11_works_17 : decode cX11_works 17 = .ok (.iaload, 1) := by decide +kernel
theorem dX11_works_18 : decode cX11_works 18 = .ok (.iconst 2, 1) := by decide +kernel
theorem dX11_works_19 : decode cX11_works 19 = .ok (.if_icmp .le 23, 3) := by decide +kernel
theorem dX11_works_22 : decode cX11_works 22 = .ok (.iinc 3 (-1), 3) := by decide +kernel
theorem dX11_works_25 : decode cX11_works 25 = .ok (.aload_n 0, 1) := by decide +kernel
theorem dX11_works_26 : decode cX11_works 26 = .ok (.aload_n 0, 1) := by decide +kernel
theorem dX11_works_27 : decode cX11_works 27 = .ok (.getfield 61, 3) := by decide +kernel
theorem dX11_works_30 : decode cX11_works 30 = .ok (.iload 4, 2) := by decide +kernel
theorem dX11_works_32 : decode cX11_works 32 = .ok (.iaload, 1) := by decide +kernel
theorem dX11_works_33 : decode cX11_works 33 = .ok (.iload_n 3, 1) := by decide +kernel
theorem dX11_works_34 : decode cX11_works 34 = .ok (.iconst 1, 1) := by decide +kernel
theorem dX11_works_35 : decode cX11_works 35 = .ok (.isub, 1) := by decide +kernel
theorem dX11_works_36 : decode cX11_works 36 = .ok (.invokevirtual 341, 3) := by decide +kernel
theorem dX11_works_39 : decode cX11_works 39 = .ok (.goto 82, 3) := by decide +kernel
theorem dX11_works_42 : decode cX11_works 42 = .ok (.aload_n 0, 1) := by decide +kernel
theorem dX11_works_43 : decode cX11_works 43 = .ok (.getfield 61, 3) := by decide +kernel
theorem dX11_works_46 : decode cX11_works 46 = .ok (.iload 4, 2) := by decide +kernel
theorem dX11_works_48 : decode cX11_works 48 = .ok (.iaload, 1) := by decide +kernel
theorem dX11_works_49 : decode cX11_works 49 = .ok (.iconst 2, 1) := by decide +kernel
theorem dX11_works_50 : decode cX11_works 50 = .ok (.if_icmp .ne 24, 3) := by decide +kernel
theorem dX11_works_53 : decode cX11_works 53 = .ok (.aload_n 0, 1) := by decide +kernel
theorem dX11_works_54 : decode cX11_works 54 = .ok (.getfield 88, 3) := by decide +kernel
theorem dX11_works_57 : decode cX11_works 57 = .ok (.iload_n 3, 1) := by decide +kernel
theorem dX11_works_58 : decode cX11_works 58 = .ok (.iconst 1, 1) := by decide +kernel
theorem dX11_works_59 : decode cX11_works 59 = .ok (.isub, 1) := by decide +kernel
theorem dX11_works_60 : decode cX11_works 60 = .ok (.iconst 1, 1) := by decide +kernel
theorem dX11_works_61 : decode cX11_works 61 = .ok (.aload_n 0, 1) := by decide +kernel
theorem dX11_works_62 : decode cX11_works 62 = .ok (.getfield 88, 3) := by decide +kernel
theorem dX11_works_65 : decode cX11_works 65 = .ok (.iload_n 3, 1) := by decide +kernel
theorem dX11_works_66 : decode cX11_works 66 = .ok (.iconst 1, 1) := by decide +kernel
theorem dX11_works_67 : decode cX11_works 67 = .ok (.isub, 1) := by decide +kernel
theorem dX11_works_68 : decode cX11_works 68 = .ok (.iaload, 1) := by decide +kernel
theorem dX11_works_69 : decode cX11_works 69 = .ok (.isub, 1) := by decide +kernel
theorem dX11_works_70 : decode cX11_works 70 = .ok (.iastore, 1) := by decide +kernel
theorem dX11_works_71 : decode cX11_works 71 = .ok (.goto 50, 3) := by decide +kernel
theorem dX11_works_74 : decode cX11_works 74 = .ok (.aload_n 0, 1) := by decide +kernel
theorem dX11_works_75 : decode cX11_works 75 = .ok (.getfield 91, 3) := by decide +kernel
theorem dX11_works_78 : decode cX11_works 78 = .ok (.iload_n 3, 1) := by decide +kernel
theorem dX11_works_79 : decode cX11_works 79 = .ok (.iconst 0, 1) := by decide +kernel
theorem dX11_works_80 : decode cX11_works 80 = .ok (.bastore, 1) := by decide +kernel
theorem dX11_works_81 : decode cX11_works 81 = .ok (.aload_n 0, 1) := by decide +kernel
theorem dX11_works_82 : decode cX11_works 82 = .ok (.getfield 88, 3) := by decide +kernel
theorem dX11_works_85 : decode cX11_works 85 = .ok (.iload_n 3, 1) := by decide +kernel
theorem dX11_works_86 : decode cX11_works 86 = .ok (.aload_n 0, 1) := by decide +kernel
theorem dX11_works_87 : decode cX11_works 87 = .ok (.getfield 61, 3) := by decide +kernel
theorem dX11_works_90 : decode cX11_works 90 = .ok (.iload 4, 2) := by decide +kernel
theorem dX11_works_92 : decode cX11_works 92 = .ok (.iaload, 1) := by decide +kernel
theorem dX11_works_93 : decode cX11_works 93 = .ok (.ifCond .ne 13, 3) := by decide +kernel
theorem dX11_works_96 : decode cX11_works 96 = .ok (.aload_n 0, 1) := by decide +kernel
theorem dX11_works_97 : decode cX11_works 97 = .ok (.getfield 64, 3) := by decide +kernel
theorem dX11_works_100 : decode cX11_works 100 = .ok (.iload 4, 2) := by decide +kernel
theorem dX11_works_102 : decode cX11_works 102 = .ok (.iaload, 1) := by decide +kernel
theorem dX11_works_103 : decode cX11_works 103 = .ok (.goto 14, 3) := by decide +kernel
theorem dX11_works_106 : decode cX11_works 106 = .ok (.aload_n 0, 1) := by decide +kernel
theorem dX11_works_107 : decode cX11_works 107 = .ok (.aload_n 0, 1) := by decide +kernel
theorem dX11_works_108 : decode cX11_works 108 = .ok (.getfield 64, 3) := by decide +kernel
theorem dX11_works_111 : decode cX11_works 111 = .ok (.iload 4, 2) := by decide +kernel
theorem dX11_works_113 : decode cX11_works 113 = .ok (.iaload, 1) := by decide +kernel
theorem dX11_works_114 : decode cX11_works 114 = .ok (.invokevirtual 344, 3) := by decide +kernel
theorem dX11_works_117 : decode cX11_works 117 = .ok (.iastore, 1) := by decide +kernel
theorem dX11_works_118 : decode cX11_works 118 = .ok (.iinc 3 1, 3) := by decide +kernel
theorem dX11_works_121 : decode cX11_works 121 = .ok (.iinc 4 1, 3) := by decide +kernel
theorem dX11_works_124 : decode cX11_works 124 = .ok (.goto (-119), 3) := by decide +kernel
theorem dX11_works_127 : decode cX11_works 127 = .ok (.return_, 1) := by decide +kernel
theorem dX11_tells_0 : decode cX11_tells 0 = .ok (.iconst 0, 1) := by decide +kernel
theorem dX11_tells_1 : decode cX11_tells 1 = .ok (.istore_n 3, 1) := by decide +kernel
theorem dX11_tells_2 : decode cX11_tells 2 = .ok (.iload_n 3, 1) := by decide +kernel
theorem dX11_tells_3 : decode cX11_tells 3 = .ok (.aload_n 0, 1) := by decide +kernel
theorem dX11_tells_4 : decode cX11_tells 4 = .ok (.getfield 304, 3) := by decide +kernel
theorem dX11_tells_7 : decode cX11_tells 7 = .ok (.if_icmp .ge 119, 3) := by decide +kernel
theorem dX11_tells_10 : decode cX11_tells 10 = .ok (.aload_n 0, 1) := by decide +kernel
theorem dX11_tells_11 : decode cX11_tells 11 = .ok (.getfield 49, 3) := by decide +kernel
theorem dX11_tells_14 : decode cX11_tells 14 = .ok (.iload_n 3, 1) := by decide +kernel
theorem dX11_tells_15 : decode cX11_tells 15 = .ok (.iaload, 1) := by decide +kernel
theorem dX11_tells_16 : decode cX11_tells 16 = .ok (.iload_n 1, 1) := by decide +kernel
theorem dX11_tells_17 : decode cX11_tells 17 = .ok (.if_icmp .eq 6, 3) := by decide +kernel
theorem dX11_tells_20 : decode cX11_tells 20 = .ok (.goto 100, 3) := by decide +kernel
theorem dX11_tells_23 : decode cX11_tells 23 = .ok (.aload_n 0, 1) := by decide +kernel
theorem dX11_tells_24 : decode cX11_tells 24 = .ok (.aload_n 0, 1) := by decide +kernel
theorem dX11_tells_25 : decode cX11_tells 25 = .ok (.getfield 55, 3) := by decide +kernel
theorem dX11_tells_28 : decode cX11_tells 28 = .ok (.iload_n 3, 1) := by decide +kernel
theorem dX11_tells_29 : decode cX11_tells 29 = .ok (.iaload, 1) := by decide +kernel
theorem dX11_tells_30 : decode cX11_tells 30 = .ok (.aload_n 0, 1) := by decide +kernel
theorem dX11_tells_31 : decode cX11_tells 31 = .ok (.getfield 58, 3) := by decide +kernel
theorem dX11_tells_34 : decode cX11_tells 34 = .ok (.iload_n 3, 1) := by decide +kernel
theorem dX11_tells_35 : decode cX11_tells 35 = .ok (.iaload, 1) := by decide +kernel
theorem dX11_tells_36 : decode cX11_tells 36 = .ok (.invokevirtual 347, 3) := by decide +kernel
theorem dX11_tells_39 : decode cX11_tells 39 = .ok (.aload_n 0, 1) := by decide +kernel
theorem dX11_tells_40 : decode cX11_tells 40 = .ok (.getfield 91, 3) := by decide +kernel
theorem dX11_tells_43 : decode cX11_tells 43 = .ok (.iconst 0, 1) := by decide +kernel
theorem dX11_tells_44 : decode cX11_tells 44 = .ok (.baload, 1) := by decide +kernel
theorem dX11_tells_45 : decode cX11_tells 45 = .ok (.ifCond .ne 75, 3) := by decide +kernel
theorem dX11_tells_48 : decode cX11_tells 48 = .ok (.aload_n 0, 1) := by decide +kernel
theorem dX11_tells_49 : decode cX11_tells 49 = .ok (.getfield 88, 3) := by decide +kernel
theorem dX11_tells_52 : decode cX11_tells 52 = .ok (.iconst 0, 1) := by decide +kernel
theorem dX11_tells_53 : decode cX11_tells 53 = .ok (.iaload, 1) := by decide +kernel
theorem dX11_tells_54 : decode cX11_tells 54 = .ok (.iconst 1, 1) := by decide +kernel
theorem dX11_tells_55 : decode cX11_tells 55 = .ok (.if_icmp .eq 6, 3) := by decide +kernel
theorem dX11_tells_58 : decode cX11_tells 58 = .ok (.goto 62, 3) := by decide +kernel
theorem dX11_tells_61 : decode cX11_tells 61 = .ok (.aload_n 0, 1) := by decide +kernel
theorem dX11_tells_62 : decode cX11_tells 62 = .ok (.aload_n 0, 1) := by decide +kernel
theorem dX11_tells_63 : decode cX11_tells 63 = .ok (.getfield 52, 3) := by decide +kernel
theorem dX11_tells_66 : decode cX11_tells 66 = .ok (.iload_n 3, 1) := by decide +kernel
theorem dX11_tells_67 : decode cX11_tells 67 = .ok (.iaload, 1) := by decide +kernel
theorem dX11_tells_68 : decode cX11_tells 68 = .ok (.aload_n 0, 1) := by decide +kernel
theorem dX11_tells_69 : decode cX11_tells 69 = .ok (.getfield 55, 3) := by decide +kernel
theorem dX11_tells_72 : decode cX11_tells 72 = .ok (.iload_n 3, 1) := by decide +kernel
theorem dX11_tells_73 : decode cX11_tells 73 = .ok (.iaload, 1) := by decide +kernel
theorem dX11_tells_74 : decode cX11_tells 74 = .ok (.invokevirtual 347, 3) := by decide +kernel
theorem dX11_tells_77 : decode cX11_tells 77 = .ok (.aload_n 0, 1) := by decide +kernel
theorem dX11_tells_78 : decode cX11_tells 78 = .ok (.getfield 91, 3) := by decide +kernel
theorem dX11_tells_81 : decode cX11_tells 81 = .ok (.iconst 0, 1) := by decide +kernel
theorem dX11_tells_82 : decode cX11_tells 82 = .ok (.baload, 1) := by decide +kernel
theorem dX11_tells_83 : decode cX11_tells 83 = .ok (.ifCond .eq 7, 3) := by decide +kernel
theorem dX11_tells_86 : decode cX11_tells 86 = .ok (.iconst 0, 1) := by decide +kernel
theorem dX11_tells_87 : decode cX11_tells 87 = .ok (.goto 9, 3) := by decide +kernel
theorem dX11_tells_90 : decode cX11_tells 90 = .ok (.aload_n 0, 1) := by decide +kernel
theorem dX11_tells_91 : decode cX11_tells 91 = .ok (.getfield 88, 3) := by decide +kernel
theorem dX11_tells_94 : decode cX11_tells 94 = .ok (.iconst 0, 1) := by decide +kernel
theorem dX11_tells_95 : decode cX11_tells 95 = .ok (.iaload, 1) := by decide +kernel
theorem dX11_tells_96 : decode cX11_tells 96 = .ok (.istore 4, 2) := by decide +kernel
theorem dX11_tells_98 : decode cX11_tells 98 = .ok (.iload 4, 2) := by decide +kernel
theorem dX11_tells_100 : decode cX11_tells 100 = .ok (.ifCond .ge 7, 3) := by decide +kernel
theorem dX11_tells_103 : decode cX11_tells 103 = .ok (.iconst 0, 1) := by decide +kernel
theorem dX11_tells_104 : decode cX11_tells 104 = .ok (.goto 15, 3) := by decide +kernel
theorem dX11_tells_107 : decode cX11_tells 107 = .ok (.iload 4, 2) := by decide +kernel
theorem dX11_tells_109 : decode cX11_tells 109 = .ok (.iload_n 2, 1) := by decide +kernel
theorem dX11_tells_110 : decode cX11_tells 110 = .ok (.if_icmp .le 7, 3) := by decide +kernel
theorem dX11_tells_113 : decode cX11_tells 113 = .ok (.iload_n 2, 1) := by decide +kernel
theorem dX11_tells_114 : decode cX11_tells 114 = .ok (.goto 5, 3) := by decide +kernel
theorem dX11_tells_117 : decode cX11_tells 117 = .ok (.iload 4, 2) := by decide +kernel
theorem dX11_tells_119 : decode cX11_tells 119 = .ok (.ireturn, 1) := by decide +kernel
theorem dX11_tells_120 : decode cX11_tells 120 = .ok (.iinc 3 1, 3) := by decide +kernel
theorem dX11_tells_123 : decode cX11_tells 123 = .ok (.goto (-121), 3) := by decide +kernel
theorem dX11_tells_126 : decode cX11_tells 126 = .ok (.iconst 0, 1) := by decide +kernel
theorem dX11_tells_127 : decode cX11_tells 127 = .ok (.ireturn, 1) := by decide +kernel
theorem dX11_bySquare_0 : decode cX11_bySquare 0 = .ok (.aload_n 0, 1) := by decide +kernel
theorem dX11_bySquare_1 : decode cX11_bySquare 1 = .ok (.iload_n 2, 1) := by decide +kernel
theorem dX11_bySquare_2 : decode cX11_bySquare 2 = .ok (.putfield 314, 3) := by decide +kernel
theorem dX11_bySquare_5 : decode cX11_bySquare 5 = .ok (.aload_n 0, 1) := by decide +kernel
theorem dX11_bySquare_6 : decode cX11_bySquare 6 = .ok (.iload_n 3, 1) := by decide +kernel
theorem dX11_bySquare_7 : decode cX11_bySquare 7 = .ok (.putfield 332, 3) := by decide +kernel
theorem dX11_bySquare_10 : decode cX11_bySquare 10 = .ok (.aload_n 0, 1) := by decide +kernel
theorem dX11_bySquare_11 : decode cX11_bySquare 11 = .ok (.iconst (-1), 1) := by decide +kernel
theorem dX11_bySquare_12 : decode cX11_bySquare 12 = .ok (.putfield 311, 3) := by decide +kernel
theorem dX11_bySquare_15 : decode cX11_bySquare 15 = .ok (.aload_n 0, 1) := by decide +kernel
theorem dX11_bySquare_16 : decode cX11_bySquare 16 = .ok (.iload_n 1, 1) := by decide +kernel
theorem dX11_bySquare_17 : decode cX11_bySquare 17 = .ok (.iload 4, 2) := by decide +kernel
theorem dX11_bySquare_19 : decode cX11_bySquare 19 = .ok (.invokevirtual 350, 3) := by decide +kernel
theorem dX11_bySquare_22 : decode cX11_bySquare 22 = .ok (.ireturn, 1) := by decide +kernel
theorem dX11_kindOn_0 : decode cX11_kindOn 0 = .ok (.aload_n 0, 1) := by decide +kernel
theorem dX11_kindOn_1 : decode cX11_kindOn 1 = .ok (.getfield 25, 3) := by decide +kernel
theorem dX11_kindOn_4 : decode cX11_kindOn 4 = .ok (.iload_n 1, 1) := by decide +kernel
theorem dX11_kindOn_5 : decode cX11_kindOn 5 = .ok (.iaload, 1) := by decide +kernel
theorem dX11_kindOn_6 : decode cX11_kindOn 6 = .ok (.iconst (-1), 1) := by decide +kernel
theorem dX11_kindOn_7 : decode cX11_kindOn 7 = .ok (.if_icmp .ne 8, 3) := by decide +kernel
theorem dX11_kindOn_10 : decode cX11_kindOn 10 = .ok (.bipush 9, 2) := by decide +kernel
theorem dX11_kindOn_12 : decode cX11_kindOn 12 = .ok (.goto 14, 3) := by decide +kernel
theorem dX11_kindOn_15 : decode cX11_kindOn 15 = .ok (.aload_n 0, 1) := by decide +kernel
theorem dX11_kindOn_16 : decode cX11_kindOn 16 = .ok (.getfield 31, 3) := by decide +kernel
theorem dX11_kindOn_19 : decode cX11_kindOn 19 = .ok (.aload_n 0, 1) := by decide +kernel
theorem dX11_kindOn_20 : decode cX11_kindOn 20 = .ok (.getfield 25, 3) := by decide +kernel
theorem dX11_kindOn_23 : decode cX11_kindOn 23 = .ok (.iload_n 1, 1) := by decide +kernel
theorem dX11_kindOn_24 : decode cX11_kindOn 24 = .ok (.iaload, 1) := by decide +kernel
theorem dX11_kindOn_25 : decode cX11_kindOn 25 = .ok (.iaload, 1) := by decide +kernel
theorem dX11_kindOn_26 : decode cX11_kindOn 26 = .ok (.ireturn, 1) := by decide +kernel
theorem dX11_bears_0 : decode cX11_bears 0 = .ok (.aload_n 0, 1) := by decide +kernel
theorem dX11_bears_1 : decode cX11_bears 1 = .ok (.bipush 98, 2) := by decide +kernel
theorem dX11_bears_3 : decode cX11_bears 3 = .ok (.iload_n 1, 1) := by decide +kernel
theorem dX11_bears_4 : decode cX11_bears 4 = .ok (.aload_n 0, 1) := by decide +kernel
theorem dX11_bears_5 : decode cX11_bears 5 = .ok (.iload_n 1, 1) := by decide +kernel
theorem dX11_bears_6 : decode cX11_bears 6 = .ok (.invokevirtual 353, 3) := by decide +kernel
theorem dX11_bears_9 : decode cX11_bears 9 = .ok (.sipush 9999, 3) := by decide +kernel
theorem dX11_bears_12 : decode cX11_bears 12 = .ok (.invokevirtual 356, 3) := by decide +kernel
theorem dX11_bears_15 : decode cX11_bears 15 = .ok (.ireturn, 1) := by decide +kernel
theorem dX11_mayCut_0 : decode cX11_mayCut 0 = .ok (.aload_n 0, 1) := by decide +kernel
theorem dX11_mayCut_1 : decode cX11_mayCut 1 = .ok (.bipush 99, 2) := by decide +kernel
theorem dX11_mayCut_3 : decode cX11_mayCut 3 = .ok (.iload_n 1, 1) := by decide +kernel
theorem dX11_mayCut_4 : decode cX11_mayCut 4 = .ok (.iload_n 2, 1) := by decide +kernel
theorem dX11_mayCut_5 : decode cX11_mayCut 5 = .ok (.iconst 1, 1) := by decide +kernel
theorem dX11_mayCut_6 : decode cX11_mayCut 6 = .ok (.invokevirtual 356, 3) := by decide +kernel
theorem dX11_mayCut_9 : decode cX11_mayCut 9 = .ok (.ifCond .le 7, 3) := by decide +kernel
theorem dX11_mayCut_12 : decode cX11_mayCut 12 = .ok (.iconst 1, 1) := by decide +kernel
theorem dX11_mayCut_13 : decode cX11_mayCut 13 = .ok (.goto 4, 3) := by decide +kernel
theorem dX11_mayCut_16 : decode cX11_mayCut 16 = .ok (.iconst 0, 1) := by decide +kernel
theorem dX11_mayCut_17 : decode cX11_mayCut 17 = .ok (.ireturn, 1) := by decide +kernel
theorem dX11_drawOf_0 : decode cX11_drawOf 0 = .ok (.aload_n 0, 1) := by decide +kernel
theorem dX11_drawOf_1 : decode cX11_drawOf 1 = .ok (.aload_n 0, 1) := by decide +kernel
theorem dX11_drawOf_2 : decode cX11_drawOf 2 = .ok (.getfield 28, 3) := by decide +kernel
theorem dX11_drawOf_5 : decode cX11_drawOf 5 = .ok (.iload_n 1, 1) := by decide +kernel
theorem dX11_drawOf_6 : decode cX11_drawOf 6 = .ok (.iaload, 1) := by decide +kernel
theorem dX11_drawOf_7 : decode cX11_drawOf 7 = .ok (.putfield 314, 3) := by decide +kernel
theorem dX11_drawOf_10 : decode cX11_drawOf 10 = .ok (.aload_n 0, 1) := by decide +kernel
theorem dX11_drawOf_11 : decode cX11_drawOf 11 = .ok (.aload_n 0, 1) := by decide +kernel
theorem dX11_drawOf_12 : decode cX11_drawOf 12 = .ok (.getfield 31, 3) := by decide +kernel
theorem dX11_drawOf_15 : decode cX11_drawOf 15 = .ok (.iload_n 1, 1) := by decide +kernel
theorem dX11_drawOf_16 : decode cX11_drawOf 16 = .ok (.iaload, 1) := by decide +kernel
theorem dX11_drawOf_17 : decode cX11_drawOf 17 = .ok (.putfield 332, 3) := by decide +kernel
theorem dX11_drawOf_20 : decode cX11_drawOf 20 = .ok (.aload_n 0, 1) := by decide +kernel
theorem dX11_drawOf_21 : decode cX11_drawOf 21 = .ok (.iload_n 1, 1) := by decide +kernel
theorem dX11_drawOf_22 : decode cX11_drawOf 22 = .ok (.putfield 311, 3) := by decide +kernel
theorem dX11_drawOf_25 : decode cX11_drawOf 25 = .ok (.aload_n 0, 1) := by decide +kernel
theorem dX11_drawOf_26 : decode cX11_drawOf 26 = .ok (.iload_n 2, 1) := by decide +kernel
theorem dX11_drawOf_27 : decode cX11_drawOf 27 = .ok (.putfield 317, 3) := by decide +kernel
theorem dX11_drawOf_30 : decode cX11_drawOf 30 = .ok (.aload_n 0, 1) := by decide +kernel
theorem dX11_drawOf_31 : decode cX11_drawOf 31 = .ok (.bipush 103, 2) := by decide +kernel
theorem dX11_drawOf_33 : decode cX11_drawOf 33 = .ok (.sipush 999, 3) := by decide +kernel
theorem dX11_drawOf_36 : decode cX11_drawOf 36 = .ok (.invokevirtual 350, 3) := by decide +kernel
theorem dX11_drawOf_39 : decode cX11_drawOf 39 = .ok (.ireturn, 1) := by decide +kernel
theorem dX11_isOpenAt_0 : decode cX11_isOpenAt 0 = .ok (.iload_n 1, 1) := by decide +kernel
theorem dX11_isOpenAt_1 : decode cX11_isOpenAt 1 = .ok (.iconst (-1), 1) := by decide +kernel
theorem dX11_isOpenAt_2 : decode cX11_isOpenAt 2 = .ok (.if_icmp .eq 17, 3) := by decide +kernel
theorem dX11_isOpenAt_5 : decode cX11_isOpenAt 5 = .ok (.aload_n 0, 1) := by decide +kernel
theorem dX11_isOpenAt_6 : decode cX11_isOpenAt 6 = .ok (.getfield 25, 3) := by decide +kernel
theorem dX11_isOpenAt_9 : decode cX11_isOpenAt 9 = .ok (.iload_n 1, 1) := by decide +kernel
theorem dX11_isOpenAt_10 : decode cX11_isOpenAt 10 = .ok (.iaload, 1) := by decide +kernel
theorem dX11_isOpenAt_11 : decode cX11_isOpenAt 11 = .ok (.iconst (-1), 1) := by decide +kernel
theorem dX11_isOpenAt_12 : decode cX11_isOpenAt 12 = .ok (.if_icmp .eq 7, 3) := by decide +kernel
theorem dX11_isOpenAt_15 : decode cX11_isOpenAt 15 = .ok (.iconst 1, 1) := by decide +kernel
theorem dX11_isOpenAt_16 : decode cX11_isOpenAt 16 = .ok (.goto 4, 3) := by decide +kernel
theorem dX11_isOpenAt_19 : decode cX11_isOpenAt 19 = .ok (.iconst 0, 1) := by decide +kernel
theorem dX11_isOpenAt_20 : decode cX11_isOpenAt 20 = .ok (.ireturn, 1) := by decide +kernel
theorem dX11_makesRow_0 : decode cX11_makesRow 0 = .ok (.bipush (-3), 2) := by decide +kernel
theorem dX11_makesRow_2 : decode cX11_makesRow 2 = .ok (.istore_n 2, 1) := by decide +kernel
theorem dX11_makesRow_3 : decode cX11_makesRow 3 = .ok (.iload_n 2, 1) := by decide +kernel
theorem dX11_makesRow_4 : decode cX11_makesRow 4 = .ok (.iconst 4, 1) := by decide +kernel
theorem dX11_makesRow_5 : decode cX11_makesRow 5 = .ok (.if_icmp .ge 85, 3) := by decide +kernel
theorem dX11_makesRow_8 : decode cX11_makesRow 8 = .ok (.bipush (-3), 2) := by decide +kernel
theorem dX11_makesRow_10 : decode cX11_makesRow 10 = .ok (.istore_n 3, 1) := by decide +kernel
theorem dX11_makesRow_11 : decode cX11_makesRow 11 = .ok (.iload_n 3, 1) := by decide +kernel
theorem dX11_makesRow_12 : decode cX11_makesRow 12 = .ok (.iconst 4, 1) := by decide +kernel
theorem dX11_makesRow_13 : decode cX11_makesRow 13 = .ok (.if_icmp .ge 71, 3) := by decide +kernel
theorem dX11_makesRow_16 : decode cX11_makesRow 16 = .ok (.iload_n 2, 1) := by decide +kernel
theorem dX11_makesRow_17 : decode cX11_makesRow 17 = .ok (.ifCond .ne 10, 3) := by decide +kernel
theorem dX11_makesRow_20 : decode cX11_makesRow 20 = .ok (.iload_n 3, 1) := by decide +kernel
theorem dX11_makesRow_21 : decode cX11_makesRow 21 = .ok (.ifCond .ne 6, 3) := by decide +kernel
theorem dX11_makesRow_24 : decode cX11_makesRow 24 = .ok (.goto 54, 3) := by decide +kernel
theorem dX11_makesRow_27 : decode cX11_makesRow 27 = .ok (.aload_n 0, 1) := by decide +kernel
theorem dX11_makesRow_28 : decode cX11_makesRow 28 = .ok (.iload_n 1, 1) := by decide +kernel
theorem dX11_makesRow_29 : decode cX11_makesRow 29 = .ok (.iload_n 2, 1) := by decide +kernel
theorem dX11_makesRow_30 : decode cX11_makesRow 30 = .ok (.iload_n 3, 1) := by decide +kernel
theorem dX11_makesRow_31 : decode cX11_makesRow 31 = .ok (.invokestatic 181, 3) := by decide +kernel
theorem dX11_makesRow_34 : decode cX11_makesRow 34 = .ok (.invokevirtual 360, 3) := by decide +kernel
theorem dX11_makesRow_37 : decode cX11_makesRow 37 = .ok (.istore 4, 2) := by decide +kernel
theorem dX11_makesRow_39 : decode cX11_makesRow 39 = .ok (.iload 4, 2) := by decide +kernel
theorem dX11_makesRow_41 : decode cX11_makesRow 41 = .ok (.ifCond .eq 37, 3) := by decide +kernel
theorem dX11_makesRow_44 : decode cX11_makesRow 44 = .ok (.aload_n 0, 1) := by decide +kernel
theorem dX11_makesRow_45 : decode cX11_makesRow 45 = .ok (.iload_n 1, 1) := by decide +kernel
theorem dX11_makesRow_46 : decode cX11_makesRow 46 = .ok (.iconst 2, 1) := by decide +kernel
theorem dX11_makesRow_47 : decode cX11_makesRow 47 = .ok (.iload_n 2, 1) := by decide +kernel
theorem dX11_makesRow_48 : decode cX11_makesRow 48 = .ok (.imul, 1) := by decide +kernel
theorem dX11_makesRow_49 : decode cX11_makesRow 49 = .ok (.iconst 2, 1) := by decide +kernel
theorem dX11_makesRow_50 : decode cX11_makesRow 50 = .ok (.iload_n 3, 1) := by decide +kernel
theorem dX11_makesRow_51 : decode cX11_makesRow 51 = .ok (.imul, 1) := by decide +kernel
theorem dX11_makesRow_52 : decode cX11_makesRow 52 = .ok (.invokestatic 181, 3) := by decide +kernel
theorem dX11_makesRow_55 : decode cX11_makesRow 55 = .ok (.invokevirtual 360, 3) := by decide +kernel
theorem dX11_makesRow_58 : decode cX11_makesRow 58 = .ok (.ifCond .ne 18, 3) := by decide +kernel
theorem dX11_makesRow_61 : decode cX11_makesRow 61 = .ok (.aload_n 0, 1) := by decide +kernel
theorem dX11_makesRow_62 : decode cX11_makesRow 62 = .ok (.iload_n 1, 1) := by decide +kernel
theorem dX11_makesRow_63 : decode cX11_makesRow 63 = .ok (.iload_n 2, 1) := by decide +kernel
theorem dX11_makesRow_64 : decode cX11_makesRow 64 = .ok (.ineg, 1) := by decide +kernel
theorem dX11_makesRow_65 : decode cX11_makesRow 65 = .ok (.iload_n 3, 1) := by decide +kernel
theorem dX11_makesRow_66 : decode cX11_makesRow 66 = .ok (.ineg, 1) := by decide +kernel
theorem dX11_makesRow_67 : decode cX11_makesRow 67 = .ok (.invokestatic 181, 3) := by decide +kernel
theorem dX11_makesRow_70 : decode cX11_makesRow 70 = .ok (.invokevirtual 360, 3) := by decide +kernel
theorem dX11_makesRow_73 : decode cX11_makesRow 73 = .ok (.ifCond .eq 5, 3) := by decide +kernel
theorem dX11_makesRow_76 : decode cX11_makesRow 76 = .ok (.iconst 1, 1) := by decide +kernel
theorem dX11_makesRow_77 : decode cX11_makesRow 77 = .ok (.ireturn, 1) := by decide +kernel
theorem dX11_makesRow_78 : decode cX11_makesRow 78 = .ok (.iinc 3 1, 3) := by decide +kernel
theorem dX11_makesRow_81 : decode cX11_makesRow 81 = .ok (.goto (-70), 3) := by decide +kernel
theorem dX11_makesRow_84 : decode cX11_makesRow 84 = .ok (.iinc 2 1, 3) := by decide +kernel
theorem dX11_makesRow_87 : decode cX11_makesRow 87 = .ok (.goto (-84), 3) := by decide +kernel
theorem dX11_makesRow_90 : decode cX11_makesRow 90 = .ok (.iconst 0, 1) := by decide +kernel
theorem dX11_makesRow_91 : decode cX11_makesRow 91 = .ok (.ireturn, 1) := by decide +kernel
theorem dX11_isDigit_0 : decode cX11_isDigit 0 = .ok (.iload_n 0, 1) := by decide +kernel
theorem dX11_isDigit_1 : decode cX11_isDigit 1 = .ok (.i2l, 1) := by decide +kernel
theorem dX11_isDigit_2 : decode cX11_isDigit 2 = .ok (.lconst 0, 1) := by decide +kernel
theorem dX11_isDigit_3 : decode cX11_isDigit 3 = .ok (.ldc2_w 363, 3) := by decide +kernel
theorem dX11_isDigit_6 : decode cX11_isDigit 6 = .ok (.invokestatic 156, 3) := by decide +kernel
theorem dX11_isDigit_9 : decode cX11_isDigit 9 = .ok (.ireturn, 1) := by decide +kernel
theorem dX11_cut_0 : decode cX11_cut 0 = .ok (.iload_n 1, 1) := by decide +kernel
theorem dX11_cut_1 : decode cX11_cut 1 = .ok (.iload_n 2, 1) := by decide +kernel
theorem dX11_cut_2 : decode cX11_cut 2 = .ok (.invokestatic 177, 3) := by decide +kernel
theorem dX11_cut_5 : decode cX11_cut 5 = .ok (.ifCond .eq 48, 3) := by decide +kernel
theorem dX11_cut_8 : decode cX11_cut 8 = .ok (.iload_n 3, 1) := by decide +kernel
theorem dX11_cut_9 : decode cX11_cut 9 = .ok (.i2l, 1) := by decide +kernel
theorem dX11_cut_10 : decode cX11_cut 10 = .ok (.lconst 0, 1) := by decide +kernel
theorem dX11_cut_11 : decode cX11_cut 11 = .ok (.ldc2_w 365, 3) := by decide +kernel
theorem dX11_cut_14 : decode cX11_cut 14 = .ok (.invokestatic 156, 3) := by decide +kernel
theorem dX11_cut_17 : decode cX11_cut 17 = .ok (.ifCond .eq 36, 3) := by decide +kernel
theorem dX11_cut_20 : decode cX11_cut 20 = .ok (.iload 4, 2) := by decide +kernel
theorem dX11_cut_22 : decode cX11_cut 22 = .ok (.invokestatic 367, 3) := by decide +kernel
theorem dX11_cut_25 : decode cX11_cut 25 = .ok (.ifCond .eq 28, 3) := by decide +kernel
theorem dX11_cut_28 : decode cX11_cut 28 = .ok (.iload 5, 2) := by decide +kernel
theorem dX11_cut_30 : decode cX11_cut 30 = .ok (.invokestatic 367, 3) := by decide +kernel
theorem dX11_cut_33 : decode cX11_cut 33 = .ok (.ifCond .eq 20, 3) := by decide +kernel
theorem dX11_cut_36 : decode cX11_cut 36 = .ok (.iload 6, 2) := by decide +kernel
theorem dX11_cut_38 : decode cX11_cut 38 = .ok (.invokestatic 367, 3) := by decide +kernel
theorem dX11_cut_41 : decode cX11_cut 41 = .ok (.ifCond .eq 12, 3) := by decide +kernel
theorem dX11_cut_44 : decode cX11_cut 44 = .ok (.aload_n 0, 1) := by decide +kernel
theorem dX11_cut_45 : decode cX11_cut 45 = .ok (.getfield 164, 3) := by decide +kernel
theorem dX11_cut_48 : decode cX11_cut 48 = .ok (.bipush 12, 2) := by decide +kernel
theorem dX11_cut_50 : decode cX11_cut 50 = .ok (.if_icmp .ne 5, 3) := by decide +kernel
theorem dX11_cut_53 : decode cX11_cut 53 = .ok (.iconst (-1), 1) := by decide +kernel
theorem dX11_cut_54 : decode cX11_cut 54 = .ok (.ireturn, 1) := by decide +kernel
theorem dX11_cut_55 : decode cX11_cut 55 = .ok (.bipush 16, 2) := by decide +kernel
theorem dX11_cut_57 : decode cX11_cut 57 = .ok (.iload_n 2, 1) := by decide +kernel
theorem dX11_cut_58 : decode cX11_cut 58 = .ok (.imul, 1) := by decide +kernel
theorem dX11_cut_59 : decode cX11_cut 59 = .ok (.iload_n 1, 1) := by decide +kernel
theorem dX11_cut_60 : decode cX11_cut 60 = .ok (.iadd, 1) := by decide +kernel
theorem dX11_cut_61 : decode cX11_cut 61 = .ok (.istore 7, 2) := by decide +kernel
theorem dX11_cut_63 : decode cX11_cut 63 = .ok (.aload_n 0, 1) := by decide +kernel
theorem dX11_cut_64 : decode cX11_cut 64 = .ok (.iload 7, 2) := by decide +kernel
theorem dX11_cut_66 : decode cX11_cut 66 = .ok (.invokevirtual 185, 3) := by decide +kernel
theorem dX11_cut_69 : decode cX11_cut 69 = .ok (.ifCond .eq 12, 3) := by decide +kernel
theorem dX11_cut_72 : decode cX11_cut 72 = .ok (.aload_n 0, 1) := by decide +kernel
theorem dX11_cut_73 : decode cX11_cut 73 = .ok (.iload 7, 2) := by decide +kernel
theorem dX11_cut_75 : decode cX11_cut 75 = .ok (.invokevirtual 370, 3) := by decide +kernel
theorem dX11_cut_78 : decode cX11_cut 78 = .ok (.ifCond .eq 5, 3) := by decide +kernel
theorem dX11_cut_81 : decode cX11_cut 81 = .ok (.iconst (-1), 1) := by decide +kernel
theorem dX11_cut_82 : decode cX11_cut 82 = .ok (.ireturn, 1) := by decide +kernel
theorem dX11_cut_83 : decode cX11_cut 83 = .ok (.aload_n 0, 1) := by decide +kernel
theorem dX11_cut_84 : decode cX11_cut 84 = .ok (.iload 7, 2) := by decide +kernel
theorem dX11_cut_86 : decode cX11_cut 86 = .ok (.iload_n 3, 1) := by decide +kernel
theorem dX11_cut_87 : decode cX11_cut 87 = .ok (.invokevirtual 373, 3) := by decide +kernel
theorem dX11_cut_90 : decode cX11_cut 90 = .ok (.ifCond .ne 6, 3) := by decide +kernel
theorem dX11_cut_93 : decode cX11_cut 93 = .ok (.bipush (-2), 2) := by decide +kernel
theorem dX11_cut_95 : decode cX11_cut 95 = .ok (.ireturn, 1) := by decide +kernel
theorem dX11_cut_96 : decode cX11_cut 96 = .ok (.aload_n 0, 1) := by decide +kernel
theorem dX11_cut_97 : decode cX11_cut 97 = .ok (.iload 7, 2) := by decide +kernel
theorem dX11_cut_99 : decode cX11_cut 99 = .ok (.invokevirtual 376, 3) := by decide +kernel
theorem dX11_cut_102 : decode cX11_cut 102 = .ok (.ifCond .eq 6, 3) := by decide +kernel
theorem dX11_cut_105 : decode cX11_cut 105 = .ok (.bipush (-3), 2) := by decide +kernel
theorem dX11_cut_107 : decode cX11_cut 107 = .ok (.ireturn, 1) := by decide +kernel
theorem dX11_cut_108 : decode cX11_cut 108 = .ok (.aload_n 0, 1) := by decide +kernel
theorem dX11_cut_109 : decode cX11_cut 109 = .ok (.getfield 28, 3) := by decide +kernel
theorem dX11_cut_112 : decode cX11_cut 112 = .ok (.aload_n 0, 1) := by decide +kernel
theorem dX11_cut_113 : decode cX11_cut 113 = .ok (.getfield 164, 3) := by decide +kernel
theorem dX11_cut_116 : decode cX11_cut 116 = .ok (.iload 7, 2) := by decide +kernel
theorem dX11_cut_118 : decode cX11_cut 118 = .ok (.iastore, 1) := by decide +kernel
theorem dX11_cut_119 : decode cX11_cut 119 = .ok (.aload_n 0, 1) := by decide +kernel
theorem dX11_cut_120 : decode cX11_cut 120 = .ok (.getfield 31, 3) := by decide +kernel
theorem dX11_cut_123 : decode cX11_cut 123 = .ok (.aload_n 0, 1) := by decide +kernel
theorem dX11_cut_124 : decode cX11_cut 124 = .ok (.getfield 164, 3) := by decide +kernel
theorem dX11_cut_127 : decode cX11_cut 127 = .ok (.iload_n 3, 1) := by decide +kernel
theorem dX11_cut_128 : decode cX11_cut 128 = .ok (.iastore, 1) := by decide +kernel
theorem dX11_cut_129 : decode cX11_cut 129 = .ok (.aload_n 0, 1) := by decide +kernel
theorem dX11_cut_130 : decode cX11_cut 130 = .ok (.getfield 34, 3) := by decide +kernel
theorem dX11_cut_133 : decode cX11_cut 133 = .ok (.aload_n 0, 1) := by decide +kernel
theorem dX11_cut_134 : decode cX11_cut 134 = .ok (.getfield 164, 3) := by decide +kernel
theorem dX11_cut_137 : decode cX11_cut 137 = .ok (.iload 4, 2) := by decide +kernel
theorem dX11_cut_139 : decode cX11_cut 139 = .ok (.iastore, 1) := by decide +kernel
theorem dX11_cut_140 : decode cX11_cut 140 = .ok (.aload_n 0, 1) := by decide +kernel
theorem dX11_cut_141 : decode cX11_cut 141 = .ok (.getfield 37, 3) := by decide +kernel
theorem dX11_cut_144 : decode cX11_cut 144 = .ok (.aload_n 0, 1) := by decide +kernel
theorem dX11_cut_145 : decode cX11_cut 145 = .ok (.getfield 164, 3) := by decide +kernel
theorem dX11_cut_148 : decode cX11_cut 148 = .ok (.iload 5, 2) := by decide +kernel
theorem dX11_cut_150 : decode cX11_cut 150 = .ok (.iastore, 1) := by decide +kernel
theorem dX11_cut_151 : decode cX11_cut 151 = .ok (.aload_n 0, 1) := by decide +kernel
theorem dX11_cut_152 : decode cX11_cut 152 = .ok (.getfield 40, 3) := by decide +kernel
theorem dX11_cut_155 : decode cX11_cut 155 = .ok (.aload_n 0, 1) := by decide +kernel
theorem dX11_cut_156 : decode cX11_cut 156 = .ok (.getfield 164, 3) := by decide +kernel
theorem dX11_cut_159 : decode cX11_cut 159 = .ok (.iload 6, 2) := by decide +kernel
theorem dX11_cut_161 : decode cX11_cut 161 = .ok (.iastore, 1) := by decide +kernel
theorem dX11_cut_162 : decode cX11_cut 162 = .ok (.aload_n 0, 1) := by decide +kernel
theorem dX11_cut_163 : decode cX11_cut 163 = .ok (.getfield 25, 3) := by decide +kernel
theorem dX11_cut_166 : decode cX11_cut 166 = .ok (.iload 7, 2) := by decide +kernel
theorem dX11_cut_168 : decode cX11_cut 168 = .ok (.aload_n 0, 1) := by decide +kernel
theorem dX11_cut_169 : decode cX11_cut 169 = .ok (.getfield 164, 3) := by decide +kernel
theorem dX11_cut_172 : decode cX11_cut 172 = .ok (.iastore, 1) := by decide +kernel
theorem dX11_cut_173 : decode cX11_cut 173 = .ok (.aload_n 0, 1) := by decide +kernel
theorem dX11_cut_174 : decode cX11_cut 174 = .ok (.dup, 1) := by decide +kernel
theorem dX11_cut_175 : decode cX11_cut 175 = .ok (.getfield 164, 3) := by decide +kernel
theorem dX11_cut_178 : decode cX11_cut 178 = .ok (.iconst 1, 1) := by decide +kernel
theorem dX11_cut_179 : decode cX11_cut 179 = .ok (.iadd, 1) := by decide +kernel
theorem dX11_cut_180 : decode cX11_cut 180 = .ok (.putfield 164, 3) := by decide +kernel
theorem dX11_cut_183 : decode cX11_cut 183 = .ok (.aload_n 0, 1) := by decide +kernel
theorem dX11_cut_184 : decode cX11_cut 184 = .ok (.getfield 164, 3) := by decide +kernel
theorem dX11_cut_187 : decode cX11_cut 187 = .ok (.iconst 1, 1) := by decide +kernel
theorem dX11_cut_188 : decode cX11_cut 188 = .ok (.isub, 1) := by decide +kernel
theorem dX11_cut_189 : decode cX11_cut 189 = .ok (.ireturn, 1) := by decide +kernel
theorem dX11_shut_0 : decode cX11_shut 0 = .ok (.aload_n 0, 1) := by decide +kernel
theorem dX11_shut_1 : decode cX11_shut 1 = .ok (.iload_n 1, 1) := by decide +kernel
theorem dX11_shut_2 : decode cX11_shut 2 = .ok (.invokevirtual 379, 3) := by decide +kernel
theorem dX11_shut_5 : decode cX11_shut 5 = .ok (.ifCond .ne 5, 3) := by decide +kernel
theorem dX11_shut_8 : decode cX11_shut 8 = .ok (.iconst 0, 1) := by decide +kernel
theorem dX11_shut_9 : decode cX11_shut 9 = .ok (.ireturn, 1) := by decide +kernel
theorem dX11_shut_10 : decode cX11_shut 10 = .ok (.aload_n 0, 1) := by decide +kernel
theorem dX11_shut_11 : decode cX11_shut 11 = .ok (.getfield 25, 3) := by decide +kernel
theorem dX11_shut_14 : decode cX11_shut 14 = .ok (.aload_n 0, 1) := by decide +kernel
theorem dX11_shut_15 : decode cX11_shut 15 = .ok (.getfield 28, 3) := by decide +kernel
theorem dX11_shut_18 : decode cX11_shut 18 = .ok (.iload_n 1, 1) := by decide +kernel
theorem dX11_shut_19 : decode cX11_shut 19 = .ok (.iaload, 1) := by decide +kernel
theorem dX11_shut_20 : decode cX11_shut 20 = .ok (.iconst (-1), 1) := by decide +kernel
theorem dX11_shut_21 : decode cX11_shut 21 = .ok (.iastore, 1) := by decide +kernel
theorem dX11_shut_22 : decode cX11_shut 22 = .ok (.iconst 1, 1) := by decide +kernel
theorem dX11_shut_23 : decode cX11_shut 23 = .ok (.ireturn, 1) := by decide +kernel
theorem dX11_group_0 : decode cX11_group 0 = .ok (.iload_n 1, 1) := by decide +kernel
theorem dX11_group_1 : decode cX11_group 1 = .ok (.iload_n 2, 1) := by decide +kernel
theorem dX11_group_2 : decode cX11_group 2 = .ok (.invokestatic 177, 3) := by decide +kernel
theorem dX11_group_5 : decode cX11_group 5 = .ok (.ifCond .eq 37, 3) := by decide +kernel
theorem dX11_group_8 : decode cX11_group 8 = .ok (.iload_n 3, 1) := by decide +kernel
theorem dX11_group_9 : decode cX11_group 9 = .ok (.i2l, 1) := by decide +kernel
theorem dX11_group_10 : decode cX11_group 10 = .ok (.lconst 1, 1) := by decide +kernel
theorem dX11_group_11 : decode cX11_group 11 = .ok (.ldc2_w 188, 3) := by decide +kernel
theorem dX11_group_14 : decode cX11_group 14 = .ok (.invokestatic 156, 3) := by decide +kernel
theorem dX11_group_17 : decode cX11_group 17 = .ok (.ifCond .eq 25, 3) := by decide +kernel
theorem dX11_group_20 : decode cX11_group 20 = .ok (.aload_n 0, 1) := by decide +kernel
theorem dX11_group_21 : decode cX11_group 21 = .ok (.getfield 170, 3) := by decide +kernel
theorem dX11_group_24 : decode cX11_group 24 = .ok (.bipush 8, 2) := by decide +kernel
theorem dX11_group_26 : decode cX11_group 26 = .ok (.if_icmp .eq 16, 3) := by decide +kernel
theorem dX11_group_29 : decode cX11_group 29 = .ok (.aload_n 0, 1) := by decide +kernel
theorem dX11_group_30 : decode cX11_group 30 = .ok (.bipush 16, 2) := by decide +kernel
theorem dX11_group_32 : decode cX11_group 32 = .ok (.iload_n 2, 1) := by decide +kernel
theorem dX11_group_33 : decode cX11_group 33 = .ok (.imul, 1) := by decide +kernel
theorem dX11_group_34 : decode cX11_group 34 = .ok (.iload_n 1, 1) := by decide +kernel
theorem dX11_group_35 : decode cX11_group 35 = .ok (.iadd, 1) := by decide +kernel
theorem dX11_group_36 : decode cX11_group 36 = .ok (.invokevirtual 185, 3) := by decide +kernel
theorem dX11_group_39 : decode cX11_group 39 = .ok (.ifCond .ne 5, 3) := by decide +kernel
theorem dX11_group_42 : decode cX11_group 42 = .ok (.iconst (-1), 1) := by decide +kernel
theorem dX11_group_43 : decode cX11_group 43 = .ok (.ireturn, 1) := by decide +kernel
theorem dX11_group_44 : decode cX11_group 44 = .ok (.aload_n 0, 1) := by decide +kernel
theorem dX11_group_45 : decode cX11_group 45 = .ok (.getfield 43, 3) := by decide +kernel
theorem dX11_group_48 : decode cX11_group 48 = .ok (.aload_n 0, 1) := by decide +kernel
theorem dX11_group_49 : decode cX11_group 49 = .ok (.getfield 170, 3) := by decide +kernel
theorem dX11_group_52 : decode cX11_group 52 = .ok (.bipush 16, 2) := by decide +kernel
theorem dX11_group_54 : decode cX11_group 54 = .ok (.iload_n 2, 1) := by decide +kernel
theorem dX11_group_55 : decode cX11_group 55 = .ok (.imul, 1) := by decide +kernel
theorem dX11_group_56 : decode cX11_group 56 = .ok (.iload_n 1, 1) := by decide +kernel
theorem dX11_group_57 : decode cX11_group 57 = .ok (.iadd, 1) := by decide +kernel
theorem dX11_group_58 : decode cX11_group 58 = .ok (.iastore, 1) := by decide +kernel
theorem dX11_group_59 : decode cX11_group 59 = .ok (.aload_n 0, 1) := by decide +kernel
theorem dX11_group_60 : decode cX11_group 60 = .ok (.getfield 46, 3) := by decide +kernel
theorem dX11_group_63 : decode cX11_group 63 = .ok (.aload_n 0, 1) := by decide +kernel
theorem dX11_group_64 : decode cX11_group 64 = .ok (.getfield 170, 3) := by decide +kernel
theorem dX11_group_67 : decode cX11_group 67 = .ok (.iload_n 3, 1) := by decide +kernel
theorem dX11_group_68 : decode cX11_group 68 = .ok (.iastore, 1) := by decide +kernel
theorem dX11_group_69 : decode cX11_group 69 = .ok (.aload_n 0, 1) := by decide +kernel
theorem dX11_group_70 : decode cX11_group 70 = .ok (.dup, 1) := by decide +kernel
theorem dX11_group_71 : decode cX11_group 71 = .ok (.getfield 170, 3) := by decide +kernel
theorem dX11_group_74 : decode cX11_group 74 = .ok (.iconst 1, 1) := by decide +kernel
theorem dX11_group_75 : decode cX11_group 75 = .ok (.iadd, 1) := by decide +kernel
theorem dX11_group_76 : decode cX11_group 76 = .ok (.putfield 170, 3) := by decide +kernel
theorem dX11_group_79 : decode cX11_group 79 = .ok (.aload_n 0, 1) := by decide +kernel
theorem dX11_group_80 : decode cX11_group 80 = .ok (.getfield 170, 3) := by decide +kernel
theorem dX11_group_83 : decode cX11_group 83 = .ok (.iconst 1, 1) := by decide +kernel
theorem dX11_group_84 : decode cX11_group 84 = .ok (.isub, 1) := by decide +kernel
theorem dX11_group_85 : decode cX11_group 85 = .ok (.ireturn, 1) := by decide +kernel
theorem dX11_drownedMany_0 : decode cX11_drownedMany 0 = .ok (.iconst 0, 1) := by decide +kernel
theorem dX11_drownedMany_1 : decode cX11_drownedMany 1 = .ok (.istore_n 1, 1) := by decide +kernel
theorem dX11_drownedMany_2 : decode cX11_drownedMany 2 = .ok (.iconst 0, 1) := by decide +kernel
theorem dX11_drownedMany_3 : decode cX11_drownedMany 3 = .ok (.istore_n 2, 1) := by decide +kernel
theorem dX11_drownedMany_4 : decode cX11_drownedMany 4 = .ok (.iload_n 2, 1) := by decide +kernel
theorem dX11_drownedMany_5 : decode cX11_drownedMany 5 = .ok (.aload_n 0, 1) := by decide +kernel
theorem dX11_drownedMany_6 : decode cX11_drownedMany 6 = .ok (.getfield 170, 3) := by decide +kernel
theorem dX11_drownedMany_9 : decode cX11_drownedMany 9 = .ok (.if_icmp .ge 28, 3) := by decide +kernel
theorem dX11_drownedMany_12 : decode cX11_drownedMany 12 = .ok (.iload_n 1, 1) := by decide +kernel
theorem dX11_drownedMany_13 : decode cX11_drownedMany 13 = .ok (.aload_n 0, 1) := by decide +kernel
theorem dX11_drownedMany_14 : decode cX11_drownedMany 14 = .ok (.getfield 43, 3) := by decide +kernel
theorem dX11_drownedMany_17 : decode cX11_drownedMany 17 = .ok (.iload_n 2, 1) := by decide +kernel
theorem dX11_drownedMany_18 : decode cX11_drownedMany 18 = .ok (.iaload, 1) := by decide +kernel
theorem dX11_drownedMany_19 : decode cX11_drownedMany 19 = .ok (.bipush (-2), 2) := by decide +kernel
theorem dX11_drownedMany_21 : decode cX11_drownedMany 21 = .ok (.if_icmp .ne 7, 3) := by decide +kernel
theorem dX11_drownedMany_24 : decode cX11_drownedMany 24 = .ok (.iconst 1, 1) := by decide +kernel
theorem dX11_drownedMany_25 : decode cX11_drownedMany 25 = .ok (.goto 4, 3) := by decide +kernel
theorem dX11_drownedMany_28 : decode cX11_drownedMany 28 = .ok (.iconst 0, 1) := by decide +kernel
theorem dX11_drownedMany_29 : decode cX11_drownedMany 29 = .ok (.iadd, 1) := by decide +kernel
theorem dX11_drownedMany_30 : decode cX11_drownedMany 30 = .ok (.istore_n 1, 1) := by decide +kernel
theorem dX11_drownedMany_31 : decode cX11_drownedMany 31 = .ok (.iinc 2 1, 3) := by decide +kernel
theorem dX11_drownedMany_34 : decode cX11_drownedMany 34 = .ok (.goto (-30), 3) := by decide +kernel
theorem dX11_drownedMany_37 : decode cX11_drownedMany 37 = .ok (.iload_n 1, 1) := by decide +kernel
theorem dX11_drownedMany_38 : decode cX11_drownedMany 38 = .ok (.ireturn, 1) := by decide +kernel
theorem dX11_breaks_0 : decode cX11_breaks 0 = .ok (.aload_n 0, 1) := by decide +kernel
theorem dX11_breaks_1 : decode cX11_breaks 1 = .ok (.getfield 21, 3) := by decide +kernel
theorem dX11_breaks_4 : decode cX11_breaks 4 = .ok (.iload_n 1, 1) := by decide +kernel
theorem dX11_breaks_5 : decode cX11_breaks 5 = .ok (.iconst 1, 1) := by decide +kernel
theorem dX11_breaks_6 : decode cX11_breaks 6 = .ok (.bastore, 1) := by decide +kernel
theorem dX11_breaks_7 : decode cX11_breaks 7 = .ok (.iconst 0, 1) := by decide +kernel
theorem dX11_breaks_8 : decode cX11_breaks 8 = .ok (.istore_n 2, 1) := by decide +kernel
theorem dX11_breaks_9 : decode cX11_breaks 9 = .ok (.iload_n 2, 1) := by decide +kernel
theorem dX11_breaks_10 : decode cX11_breaks 10 = .ok (.aload_n 0, 1) := by decide +kernel
theorem dX11_breaks_11 : decode cX11_breaks 11 = .ok (.getfield 170, 3) := by decide +kernel
theorem dX11_breaks_14 : decode cX11_breaks 14 = .ok (.if_icmp .ge 27, 3) := by decide +kernel
theorem dX11_breaks_17 : decode cX11_breaks 17 = .ok (.aload_n 0, 1) := by decide +kernel
theorem dX11_breaks_18 : decode cX11_breaks 18 = .ok (.getfield 43, 3) := by decide +kernel
theorem dX11_breaks_21 : decode cX11_breaks 21 = .ok (.iload_n 2, 1) := by decide +kernel
theorem dX11_breaks_22 : decode cX11_breaks 22 = .ok (.iaload, 1) := by decide +kernel
theorem dX11_breaks_23 : decode cX11_breaks 23 = .ok (.iload_n 1, 1) := by decide +kernel
theorem dX11_breaks_24 : decode cX11_breaks 24 = .ok (.if_icmp .ne 11, 3) := by decide +kernel
theorem dX11_breaks_27 : decode cX11_breaks 27 = .ok (.aload_n 0, 1) := by decide +kernel
theorem dX11_breaks_28 : decode cX11_breaks 28 = .ok (.getfield 43, 3) := by decide +kernel
theorem dX11_breaks_31 : decode cX11_breaks 31 = .ok (.iload_n 2, 1) := by decide +kernel
theorem dX11_breaks_32 : decode cX11_breaks 32 = .ok (.bipush (-2), 2) := by decide +kernel
theorem dX11_breaks_34 : decode cX11_breaks 34 = .ok (.iastore, 1) := by decide +kernel
theorem dX11_breaks_35 : decode cX11_breaks 35 = .ok (.iinc 2 1, 3) := by decide +kernel
theorem dX11_breaks_38 : decode cX11_breaks 38 = .ok (.goto (-29), 3) := by decide +kernel
theorem dX11_breaks_41 : decode cX11_breaks 41 = .ok (.return_, 1) := by decide +kernel
theorem dX11_settles_0 : decode cX11_settles 0 = .ok (.iconst 0, 1) := by decide +kernel
theorem dX11_settles_1 : decode cX11_settles 1 = .ok (.istore_n 1, 1) := by decide +kernel
theorem dX11_settles_2 : decode cX11_settles 2 = .ok (.iconst 1, 1) := by decide +kernel
theorem dX11_settles_3 : decode cX11_settles 3 = .ok (.istore_n 2, 1) := by decide +kernel
theorem dX11_settles_4 : decode cX11_settles 4 = .ok (.iload_n 2, 1) := by decide +kernel
theorem dX11_settles_5 : decode cX11_settles 5 = .ok (.ifCond .le 122, 3) := by decide +kernel
theorem dX11_settles_8 : decode cX11_settles 8 = .ok (.iconst 0, 1) := by decide +kernel
theorem dX11_settles_9 : decode cX11_settles 9 = .ok (.istore_n 2, 1) := by decide +kernel
theorem dX11_settles_10 : decode cX11_settles 10 = .ok (.iconst 0, 1) := by decide +kernel
theorem dX11_settles_11 : decode cX11_settles 11 = .ok (.istore_n 3, 1) := by decide +kernel
theorem dX11_settles_12 : decode cX11_settles 12 = .ok (.iload_n 3, 1) := by decide +kernel
theorem dX11_settles_13 : decode cX11_settles 13 = .ok (.aload_n 0, 1) := by decide +kernel
theorem dX11_settles_14 : decode cX11_settles 14 = .ok (.getfield 170, 3) := by decide +kernel
theorem dX11_settles_17 : decode cX11_settles 17 = .ok (.if_icmp .ge 62, 3) := by decide +kernel
theorem dX11_settles_20 : decode cX11_settles 20 = .ok (.aload_n 0, 1) := by decide +kernel
theorem dX11_settles_21 : decode cX11_settles 21 = .ok (.getfield 43, 3) := by decide +kernel
theorem dX11_settles_24 : decode cX11_settles 24 = .ok (.iload_n 3, 1) := by decide +kernel
theorem dX11_settles_25 : decode cX11_settles 25 = .ok (.iaload, 1) := by decide +kernel
theorem dX11_settles_26 : decode cX11_settles 26 = .ok (.istore 4, 2) := by decide +kernel
theorem dX11_settles_28 : decode cX11_settles 28 = .ok (.iload 4, 2) := by decide +kernel
theorem dX11_settles_30 : decode cX11_settles 30 = .ok (.bipush (-2), 2) := by decide +kernel
theorem dX11_settles_32 : decode cX11_settles 32 = .ok (.if_icmp .eq 41, 3) := by decide +kernel
theorem dX11_settles_35 : decode cX11_settles 35 = .ok (.aload_n 0, 1) := by decide +kernel
theorem dX11_settles_36 : decode cX11_settles 36 = .ok (.iload 4, 2) := by decide +kernel
theorem dX11_settles_38 : decode cX11_settles 38 = .ok (.invokevirtual 185, 3) := by decide +kernel
theorem dX11_settles_41 : decode cX11_settles 41 = .ok (.ifCond .eq 32, 3) := by decide +kernel
theorem dX11_settles_44 : decode cX11_settles 44 = .ok (.aload_n 0, 1) := by decide +kernel
theorem dX11_settles_45 : decode cX11_settles 45 = .ok (.iload 4, 2) := by decide +kernel
theorem dX11_settles_47 : decode cX11_settles 47 = .ok (.invokevirtual 382, 3) := by decide +kernel
theorem dX11_settles_50 : decode cX11_settles 50 = .ok (.aload_n 0, 1) := by decide +kernel
theorem dX11_settles_51 : decode cX11_settles 51 = .ok (.iload 4, 2) := by decide +kernel
theorem dX11_settles_53 : decode cX11_settles 53 = .ok (.invokevirtual 385, 3) := by decide +kernel
theorem dX11_settles_56 : decode cX11_settles 56 = .ok (.if_icmp .gt 6, 3) := by decide +kernel
theorem dX11_settles_59 : decode cX11_settles 59 = .ok (.goto 14, 3) := by decide +kernel
theorem dX11_settles_62 : decode cX11_settles 62 = .ok (.aload_n 0, 1) := by decide +kernel
theorem dX11_settles_63 : decode cX11_settles 63 = .ok (.getfield 94, 3) := by decide +kernel
theorem dX11_settles_66 : decode cX11_settles 66 = .ok (.iload_n 2, 1) := by decide +kernel
theorem dX11_settles_67 : decode cX11_settles 67 = .ok (.iload 4, 2) := by decide +kernel
theorem dX11_settles_69 : decode cX11_settles 69 = .ok (.iastore, 1) := by decide +kernel
theorem dX11_settles_70 : decode cX11_settles 70 = .ok (.iinc 2 1, 3) := by decide +kernel
theorem dX11_settles_73 : decode cX11_settles 73 = .ok (.iinc 3 1, 3) := by decide +kernel
theorem dX11_settles_76 : decode cX11_settles 76 = .ok (.goto (-64), 3) := by decide +kernel
theorem dX11_settles_79 : decode cX11_settles 79 = .ok (.iconst 0, 1) := by decide +kernel
theorem dX11_settles_80 : decode cX11_settles 80 = .ok (.istore_n 3, 1) := by decide +kernel
theorem dX11_settles_81 : decode cX11_settles 81 = .ok (.iload_n 3, 1) := by decide +kernel
theorem dX11_settles_82 : decode cX11_settles 82 = .ok (.iload_n 2, 1) := by decide +kernel
theorem dX11_settles_83 : decode cX11_settles 83 = .ok (.if_icmp .ge 41, 3) := by decide +kernel
theorem dX11_settles_86 : decode cX11_settles 86 = .ok (.iload_n 1, 1) := by decide +kernel
theorem dX11_settles_87 : decode cX11_settles 87 = .ok (.aload_n 0, 1) := by decide +kernel
theorem dX11_settles_88 : decode cX11_settles 88 = .ok (.getfield 21, 3) := by decide +kernel
theorem dX11_settles_91 : decode cX11_settles 91 = .ok (.aload_n 0, 1) := by decide +kernel
theorem dX11_settles_92 : decode cX11_settles 92 = .ok (.getfield 94, 3) := by decide +kernel
theorem dX11_settles_95 : decode cX11_settles 95 = .ok (.iload_n 3, 1) := by decide +kernel
theorem dX11_settles_96 : decode cX11_settles 96 = .ok (.iaload, 1) := by decide +kernel
theorem dX11_settles_97 : decode cX11_settles 97 = .ok (.baload, 1) := by decide +kernel
theorem dX11_settles_98 : decode cX11_settles 98 = .ok (.ifCond .eq 7, 3) := by decide +kernel
theorem dX11_settles_101 : decode cX11_settles 101 = .ok (.iconst 0, 1) := by decide +kernel
theorem dX11_settles_102 : decode cX11_settles 102 = .ok (.goto 4, 3) := by decide +kernel
theorem dX11_settles_105 : decode cX11_settles 105 = .ok (.iconst 1, 1) := by decide +kernel
theorem dX11_settles_106 : decode cX11_settles 106 = .ok (.iadd, 1) := by decide +kernel
theorem dX11_settles_107 : decode cX11_settles 107 = .ok (.istore_n 1, 1) := by decide +kernel
theorem dX11_settles_108 : decode cX11_settles 108 = .ok (.aload_n 0, 1) := by decide +kernel
theorem dX11_settles_109 : decode cX11_settles 109 = .ok (.aload_n 0, 1) := by decide +kernel
theorem dX11_settles_110 : decode cX11_settles 110 = .ok (.getfield 94, 3) := by decide +kernel
theorem dX11_settles_113 : decode cX11_settles 113 = .ok (.iload_n 3, 1) := by decide +kernel
theorem dX11_settles_114 : decode cX11_settles 114 = .ok (.iaload, 1) := by decide +kernel
theorem dX11_settles_115 : decode cX11_settles 115 = .ok (.invokevirtual 388, 3) := by decide +kernel
theorem dX11_settles_118 : decode cX11_settles 118 = .ok (.iinc 3 1, 3) := by decide +kernel
theorem dX11_settles_121 : decode cX11_settles 121 = .ok (.goto (-40), 3) := by decide +kernel
theorem dX11_settles_124 : decode cX11_settles 124 = .ok (.goto (-120), 3) := by decide +kernel
theorem dX11_settles_127 : decode cX11_settles 127 = .ok (.iload_n 1, 1) := by decide +kernel
theorem dX11_settles_128 : decode cX11_settles 128 = .ok (.ireturn, 1) := by decide +kernel
theorem dX11_settle_0 : decode cX11_settle 0 = .ok (.aload_n 0, 1) := by decide +kernel
theorem dX11_settle_1 : decode cX11_settle 1 = .ok (.invokevirtual 391, 3) := by decide +kernel
theorem dX11_settle_4 : decode cX11_settle 4 = .ok (.ireturn, 1) := by decide +kernel
theorem dX11_thawsAll_0 : decode cX11_thawsAll 0 = .ok (.iconst 0, 1) := by decide +kernel
theorem dX11_thawsAll_1 : decode cX11_thawsAll 1 = .ok (.istore_n 1, 1) := by decide +kernel
theorem dX11_thawsAll_2 : decode cX11_thawsAll 2 = .ok (.iload_n 1, 1) := by decide +kernel
theorem dX11_thawsAll_3 : decode cX11_thawsAll 3 = .ok (.sipush 256, 3) := by decide +kernel
theorem dX11_thawsAll_6 : decode cX11_thawsAll 6 = .ok (.if_icmp .ge 42, 3) := by decide +kernel
theorem dX11_thawsAll_9 : decode cX11_thawsAll 9 = .ok (.aload_n 0, 1) := by decide +kernel
theorem dX11_thawsAll_10 : decode cX11_thawsAll 10 = .ok (.getfield 97, 3) := by decide +kernel
theorem dX11_thawsAll_13 : decode cX11_thawsAll 13 = .ok (.iload_n 1, 1) := by decide +kernel
theorem dX11_thawsAll_14 : decode cX11_thawsAll 14 = .ok (.aload_n 0, 1) := by decide +kernel
theorem dX11_thawsAll_15 : decode cX11_thawsAll 15 = .ok (.getfield 21, 3) := by decide +kernel
theorem dX11_thawsAll_18 : decode cX11_thawsAll 18 = .ok (.iload_n 1, 1) := by decide +kernel
theorem dX11_thawsAll_19 : decode cX11_thawsAll 19 = .ok (.baload, 1) := by decide +kernel
theorem dX11_thawsAll_20 : decode cX11_thawsAll 20 = .ok (.ifCond .eq 7, 3) := by decide +kernel
theorem dX11_thawsAll_23 : decode cX11_thawsAll 23 = .ok (.iconst 0, 1) := by decide +kernel
theorem dX11_thawsAll_24 : decode cX11_thawsAll 24 = .ok (.goto 17, 3) := by decide +kernel
theorem dX11_thawsAll_27 : decode cX11_thawsAll 27 = .ok (.aload_n 0, 1) := by decide +kernel
theorem dX11_thawsAll_28 : decode cX11_thawsAll 28 = .ok (.bipush 116, 2) := by decide +kernel
theorem dX11_thawsAll_30 : decode cX11_thawsAll 30 = .ok (.iload_n 1, 1) := by decide +kernel
theorem dX11_thawsAll_31 : decode cX11_thawsAll 31 = .ok (.aload_n 0, 1) := by decide +kernel
theorem dX11_thawsAll_32 : decode cX11_thawsAll 32 = .ok (.iload_n 1, 1) := by decide +kernel
theorem dX11_thawsAll_33 : decode cX11_thawsAll 33 = .ok (.invokevirtual 353, 3) := by decide +kernel
theorem dX11_thawsAll_36 : decode cX11_thawsAll 36 = .ok (.bipush 9, 2) := by decide +kernel
theorem dX11_thawsAll_38 : decode cX11_thawsAll 38 = .ok (.invokevirtual 356, 3) := by decide +kernel
theorem dX11_thawsAll_41 : decode cX11_thawsAll 41 = .ok (.iastore, 1) := by decide +kernel
theorem dX11_thawsAll_42 : decode cX11_thawsAll 42 = .ok (.iinc 1 1, 3) := by decide +kernel
theorem dX11_thawsAll_45 : decode cX11_thawsAll 45 = .ok (.goto (-43), 3) := by decide +kernel
theorem dX11_thawsAll_48 : decode cX11_thawsAll 48 = .ok (.iconst 0, 1) := by decide +kernel
theorem dX11_thawsAll_49 : decode cX11_thawsAll 49 = .ok (.istore_n 1, 1) := by decide +kernel
theorem dX11_thawsAll_50 : decode cX11_thawsAll 50 = .ok (.iload_n 1, 1) := by decide +kernel
theorem dX11_thawsAll_51 : decode cX11_thawsAll 51 = .ok (.sipush 256, 3) := by decide +kernel
theorem dX11_thawsAll_54 : decode cX11_thawsAll 54 = .ok (.if_icmp .ge 47, 3) := by decide +kernel
theorem dX11_thawsAll_57 : decode cX11_thawsAll 57 = .ok (.aload_n 0, 1) := by decide +kernel
theorem dX11_thawsAll_58 : decode cX11_thawsAll 58 = .ok (.getfield 17, 3) := by decide +kernel
theorem dX11_thawsAll_61 : decode cX11_thawsAll 61 = .ok (.iload_n 1, 1) := by decide +kernel
theorem dX11_thawsAll_62 : decode cX11_thawsAll 62 = .ok (.aload_n 0, 1) := by decide +kernel
theorem dX11_thawsAll_63 : decode cX11_thawsAll 63 = .ok (.getfield 17, 3) := by decide +kernel
theorem dX11_thawsAll_66 : decode cX11_thawsAll 66 = .ok (.iload_n 1, 1) := by decide +kernel
theorem dX11_thawsAll_67 : decode cX11_thawsAll 67 = .ok (.iaload, 1) := by decide +kernel
theorem dX11_thawsAll_68 : decode cX11_thawsAll 68 = .ok (.aload_n 0, 1) := by decide +kernel
theorem dX11_thawsAll_69 : decode cX11_thawsAll 69 = .ok (.getfield 97, 3) := by decide +kernel
theorem dX11_thawsAll_72 : decode cX11_thawsAll 72 = .ok (.iload_n 1, 1) := by decide +kernel
theorem dX11_thawsAll_73 : decode cX11_thawsAll 73 = .ok (.iaload, 1) := by decide +kernel
theorem dX11_thawsAll_74 : decode cX11_thawsAll 74 = .ok (.if_icmp .ge 7, 3) := by decide +kernel
theorem dX11_thawsAll_77 : decode cX11_thawsAll 77 = .ok (.iconst 0, 1) := by decide +kernel
theorem dX11_thawsAll_78 : decode cX11_thawsAll 78 = .ok (.goto 16, 3) := by decide +kernel
theorem dX11_thawsAll_81 : decode cX11_thawsAll 81 = .ok (.aload_n 0, 1) := by decide +kernel
theorem dX11_thawsAll_82 : decode cX11_thawsAll 82 = .ok (.getfield 17, 3) := by decide +kernel
theorem dX11_thawsAll_85 : decode cX11_thawsAll 85 = .ok (.iload_n 1, 1) := by decide +kernel
theorem dX11_thawsAll_86 : decode cX11_thawsAll 86 = .ok (.iaload, 1) := by decide +kernel
theorem dX11_thawsAll_87 : decode cX11_thawsAll 87 = .ok (.aload_n 0, 1) := by decide +kernel
theorem dX11_thawsAll_88 : decode cX11_thawsAll 88 = .ok (.getfield 97, 3) := by decide +kernel
theorem dX11_thawsAll_91 : decode cX11_thawsAll 91 = .ok (.iload_n 1, 1) := by decide +kernel
theorem dX11_thawsAll_92 : decode cX11_thawsAll 92 = .ok (.iaload, 1) := by decide +kernel
theorem dX11_thawsAll_93 : decode cX11_thawsAll 93 = .ok (.isub, 1) := by decide +kernel
theorem dX11_thawsAll_94 : decode cX11_thawsAll 94 = .ok (.iastore, 1) := by decide +kernel
theorem dX11_thawsAll_95 : decode cX11_thawsAll 95 = .ok (.iinc 1 1, 3) := by decide +kernel
theorem dX11_thawsAll_98 : decode cX11_thawsAll 98 = .ok (.goto (-48), 3) := by decide +kernel
theorem dX11_thawsAll_101 : decode cX11_thawsAll 101 = .ok (.return_, 1) := by decide +kernel
theorem dX11_drawnTo_0 : decode cX11_drawnTo 0 = .ok (.aload_n 0, 1) := by decide +kernel
theorem dX11_drawnTo_1 : decode cX11_drawnTo 1 = .ok (.getfield 43, 3) := by decide +kernel
theorem dX11_drawnTo_4 : decode cX11_drawnTo 4 = .ok (.iload_n 1, 1) := by decide +kernel
theorem dX11_drawnTo_5 : decode cX11_drawnTo 5 = .ok (.iaload, 1) := by decide +kernel
theorem dX11_drawnTo_6 : decode cX11_drawnTo 6 = .ok (.bipush (-2), 2) := by decide +kernel
theorem dX11_drawnTo_8 : decode cX11_drawnTo 8 = .ok (.if_icmp .ne 5, 3) := by decide +kernel
theorem dX11_drawnTo_11 : decode cX11_drawnTo 11 = .ok (.iconst (-1), 1) := by decide +kernel
theorem dX11_drawnTo_12 : decode cX11_drawnTo 12 = .ok (.ireturn, 1) := by decide +kernel
theorem dX11_drawnTo_13 : decode cX11_drawnTo 13 = .ok (.iconst (-1), 1) := by decide +kernel
theorem dX11_drawnTo_14 : decode cX11_drawnTo 14 = .ok (.istore_n 2, 1) := by decide +kernel
theorem dX11_drawnTo_15 : decode cX11_drawnTo 15 = .ok (.iconst 0, 1) := by decide +kernel
theorem dX11_drawnTo_16 : decode cX11_drawnTo 16 = .ok (.istore_n 3, 1) := by decide +kernel
theorem dX11_drawnTo_17 : decode cX11_drawnTo 17 = .ok (.iconst 0, 1) := by decide +kernel
theorem dX11_drawnTo_18 : decode cX11_drawnTo 18 = .ok (.istore 4, 2) := by decide +kernel
theorem dX11_drawnTo_20 : decode cX11_drawnTo 20 = .ok (.iload 4, 2) := by decide +kernel
theorem dX11_drawnTo_22 : decode cX11_drawnTo 22 = .ok (.aload_n 0, 1) := by decide +kernel
theorem dX11_drawnTo_23 : decode cX11_drawnTo 23 = .ok (.getfield 164, 3) := by decide +kernel
theorem dX11_drawnTo_26 : decode cX11_drawnTo 26 = .ok (.if_icmp .ge 45, 3) := by decide +kernel
theorem dX11_drawnTo_29 : decode cX11_drawnTo 29 = .ok (.aload_n 0, 1) := by decide +kernel
theorem dX11_drawnTo_30 : decode cX11_drawnTo 30 = .ok (.iload 4, 2) := by decide +kernel
theorem dX11_drawnTo_32 : decode cX11_drawnTo 32 = .ok (.invokevirtual 379, 3) := by decide +kernel
theorem dX11_drawnTo_35 : decode cX11_drawnTo 35 = .ok (.ifCond .ne 6, 3) := by decide +kernel
theorem dX11_drawnTo_38 : decode cX11_drawnTo 38 = .ok (.goto 27, 3) := by decide +kernel
theorem dX11_drawnTo_41 : decode cX11_drawnTo 41 = .ok (.aload_n 0, 1) := by decide +kernel
theorem dX11_drawnTo_42 : decode cX11_drawnTo 42 = .ok (.iload 4, 2) := by decide +kernel
theorem dX11_drawnTo_44 : decode cX11_drawnTo 44 = .ok (.iload_n 1, 1) := by decide +kernel
theorem dX11_drawnTo_45 : decode cX11_drawnTo 45 = .ok (.invokevirtual 394, 3) := by decide +kernel
theorem dX11_drawnTo_48 : decode cX11_drawnTo 48 = .ok (.istore 5, 2) := by decide +kernel
theorem dX11_drawnTo_50 : decode cX11_drawnTo 50 = .ok (.iload 5, 2) := by decide +kernel
theorem dX11_drawnTo_52 : decode cX11_drawnTo 52 = .ok (.iload_n 3, 1) := by decide +kernel
theorem dX11_drawnTo_53 : decode cX11_drawnTo 53 = .ok (.if_icmp .gt 6, 3) := by decide +kernel
theorem dX11_drawnTo_56 : decode cX11_drawnTo 56 = .ok (.goto 9, 3) := by decide +kernel
theorem dX11_drawnTo_59 : decode cX11_drawnTo 59 = .ok (.iload 4, 2) := by decide +kernel
theorem dX11_drawnTo_61 : decode cX11_drawnTo 61 = .ok (.istore_n 2, 1) := by decide +kernel
theorem dX11_drawnTo_62 : decode cX11_drawnTo 62 = .ok (.iload 5, 2) := by decide +kernel
theorem dX11_drawnTo_64 : decode cX11_drawnTo 64 = .ok (.istore_n 3, 1) := by decide +kernel
theorem dX11_drawnTo_65 : decode cX11_drawnTo 65 = .ok (.iinc 4 1, 3) := by decide +kernel
theorem dX11_drawnTo_68 : decode cX11_drawnTo 68 = .ok (.goto (-48), 3) := by decide +kernel
theorem dX11_drawnTo_71 : decode cX11_drawnTo 71 = .ok (.iload_n 2, 1) := by decide +kernel
theorem dX11_drawnTo_72 : decode cX11_drawnTo 72 = .ok (.ireturn, 1) := by decide +kernel
theorem dX11_signOf_0 : decode cX11_signOf 0 = .ok (.iload_n 0, 1) := by decide +kernel
theorem dX11_signOf_1 : decode cX11_signOf 1 = .ok (.ifCond .ge 7, 3) := by decide +kernel
theorem dX11_signOf_4 : decode cX11_signOf 4 = .ok (.iconst (-1), 1) := by decide +kernel
theorem dX11_signOf_5 : decode cX11_signOf 5 = .ok (.goto 12, 3) := by decide +kernel
theorem dX11_signOf_8 : decode cX11_signOf 8 = .ok (.iload_n 0, 1) := by decide +kernel
theorem dX11_signOf_9 : decode cX11_signOf 9 = .ok (.ifCond .le 7, 3) := by decide +kernel
theorem dX11_signOf_12 : decode cX11_signOf 12 = .ok (.iconst 1, 1) := by decide +kernel
theorem dX11_signOf_13 : decode cX11_signOf 13 = .ok (.goto 4, 3) := by decide +kernel
theorem dX11_signOf_16 : decode cX11_signOf 16 = .ok (.iconst 0, 1) := by decide +kernel
theorem dX11_signOf_17 : decode cX11_signOf 17 = .ok (.ireturn, 1) := by decide +kernel
theorem dX11_goes_0 : decode cX11_goes 0 = .ok (.aload_n 0, 1) := by decide +kernel
theorem dX11_goes_1 : decode cX11_goes 1 = .ok (.iload_n 1, 1) := by decide +kernel
theorem dX11_goes_2 : decode cX11_goes 2 = .ok (.invokevirtual 397, 3) := by decide +kernel
theorem dX11_goes_5 : decode cX11_goes 5 = .ok (.istore_n 2, 1) := by decide +kernel
theorem dX11_goes_6 : decode cX11_goes 6 = .ok (.iload_n 2, 1) := by decide +kernel
theorem dX11_goes_7 : decode cX11_goes 7 = .ok (.iconst (-1), 1) := by decide +kernel
theorem dX11_goes_8 : decode cX11_goes 8 = .ok (.if_icmp .eq 22, 3) := by decide +kernel
theorem dX11_goes_11 : decode cX11_goes 11 = .ok (.aload_n 0, 1) := by decide +kernel
theorem dX11_goes_12 : decode cX11_goes 12 = .ok (.getfield 43, 3) := by decide +kernel
theorem dX11_goes_15 : decode cX11_goes 15 = .ok (.iload_n 1, 1) := by decide +kernel
theorem dX11_goes_16 : decode cX11_goes 16 = .ok (.iaload, 1) := by decide +kernel
theorem dX11_goes_17 : decode cX11_goes 17 = .ok (.aload_n 0, 1) := by decide +kernel
theorem dX11_goes_18 : decode cX11_goes 18 = .ok (.getfield 28, 3) := by decide +kernel
