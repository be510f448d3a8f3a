abbrev cX12_init : ByteArray := prog_14_method_1_code
def yX12_init : MethodName := ⟨RX12, "<init>", "()V"⟩
theorem wcX12_init : Cond.code yX12_init cX12_init 1 none ∈ tb := tb_8 (i := 15) rfl rfl
theorem wi_12 : Cond.initialized RX12 ∈ tb := tb_1 (i := 14) (by decide +kernel) rfl
theorem wnX12_init : Cond.instanceMethod yX12_init ∈ tb := tb_8 (i := 14) (by decide +kernel) rfl
theorem YX12_init : Yi yX12_init cX12_init 1 0 := ⟨wcX12_init, wnX12_init, wi_12, rfl, by decide +kernel, by decide +kernel, by decide +kernel⟩
theorem dX12_init_0 : decode cX12_init 0 = .ok (.aload_n 0, 1) := by decide +kernel
theorem dX12_init_1 : decode cX12_init 1 = .ok (.invokespecial 1, 3) := by decide +kernel
theorem dX12_init_4 : decode cX12_init 4 = .ok (.aload_n 0, 1) := by decide +kernel
theorem dX12_init_5 : decode cX12_init 5 = .ok (.sipush 4000, 3) := by decide +kernel
theorem dX12_init_8 : decode cX12_init 8 = .ok (.newarray .byte, 2) := by decide +kernel
theorem dX12_init_10 : decode cX12_init 10 = .ok (.putfield 7, 3) := by decide +kernel
theorem dX12_init_13 : decode cX12_init 13 = .ok (.aload_n 0, 1) := by decide +kernel
theorem dX12_init_14 : decode cX12_init 14 = .ok (.sipush 4000, 3) := by decide +kernel
theorem dX12_init_17 : decode cX12_init 17 = .ok (.newarray .byte, 2) := by decide +kernel
theorem dX12_init_19 : decode cX12_init 19 = .ok (.putfield 13, 3) := by decide +kernel
theorem dX12_init_22 : decode cX12_init 22 = .ok (.aload_n 0, 1) := by decide +kernel
theorem dX12_init_23 : decode cX12_init 23 = .ok (.sipush 4100, 3) := by decide +kernel
theorem dX12_init_26 : decode cX12_init 26 = .ok (.newarray .byte, 2) := by decide +kernel
theorem dX12_init_28 : decode cX12_init 28 = .ok (.putfield 16, 3) := by decide +kernel
theorem dX12_init_31 : decode cX12_init 31 = .ok (.aload_n 0, 1) := by decide +kernel
theorem dX12_init_32 : decode cX12_init 32 = .ok (.sipush 24000, 3) := by decide +kernel
theorem dX12_init_35 : decode cX12_init 35 = .ok (.newarray .byte, 2) := by decide +kernel
theorem dX12_init_37 : decode cX12_init 37 = .ok (.putfield 19, 3) := by decide +kernel
theorem dX12_init_40 : decode cX12_init 40 = .ok (.aload_n 0, 1) := by decide +kernel
theorem dX12_init_41 : decode cX12_init 41 = .ok (.bipush 6, 2) := by decide +kernel
theorem dX12_init_43 : decode cX12_init 43 = .ok (.newarray .int, 2) := by decide +kernel
theorem dX12_init_45 : decode cX12_init 45 = .ok (.putfield 22, 3) := by decide +kernel
theorem dX12_init_48 : decode cX12_init 48 = .ok (.aload_n 0, 1) := by decide +kernel
theorem dX12_init_49 : decode cX12_init 49 = .ok (.sipush 8100, 3) := by decide +kernel
theorem dX12_init_52 : decode cX12_init 52 = .ok (.newarray .byte, 2) := by decide +kernel
theorem dX12_init_54 : decode cX12_init 54 = .ok (.putfield 26, 3) := by decide +kernel
theorem dX12_init_57 : decode cX12_init 57 = .ok (.aload_n 0, 1) := by decide +kernel
theorem dX12_init_58 : decode cX12_init 58 = .ok (.sipush 4002, 3) := by decide +kernel
theorem dX12_init_61 : decode cX12_init 61 = .ok (.newarray .int, 2) := by decide +kernel
theorem dX12_init_63 : decode cX12_init 63 = .ok (.putfield 29, 3) := by decide +kernel
theorem dX12_init_66 : decode cX12_init 66 = .ok (.aload_n 0, 1) := by decide +kernel
theorem dX12_init_67 : decode cX12_init 67 = .ok (.ldc 32, 2) := by decide +kernel
theorem dX12_init_69 : decode cX12_init 69 = .ok (.newarray .byte, 2) := by decide +kernel
theorem dX12_init_71 : decode cX12_init 71 = .ok (.putfield 33, 3) := by decide +kernel
theorem dX12_init_74 : decode cX12_init 74 = .ok (.aload_n 0, 1) := by decide +kernel
theorem dX12_init_75 : decode cX12_init 75 = .ok (.ldc 32, 2) := by decide +kernel
theorem dX12_init_77 : decode cX12_init 77 = .ok (.newarray .byte, 2) := by decide +kernel
theorem dX12_init_79 : decode cX12_init 79 = .ok (.putfield 36, 3) := by decide +kernel
theorem dX12_init_82 : decode cX12_init 82 = .ok (.aload_n 0, 1) := by decide +kernel
theorem dX12_init_83 : decode cX12_init 83 = .ok (.ldc 32, 2) := by decide +kernel
theorem dX12_init_85 : decode cX12_init 85 = .ok (.newarray .byte, 2) := by decide +kernel
theorem dX12_init_87 : decode cX12_init 87 = .ok (.putfield 39, 3) := by decide +kernel
theorem dX12_init_90 : decode cX12_init 90 = .ok (.aload_n 0, 1) := by decide +kernel
theorem dX12_init_91 : decode cX12_init 91 = .ok (.ldc 42, 2) := by decide +kernel
theorem dX12_init_93 : decode cX12_init 93 = .ok (.newarray .byte, 2) := by decide +kernel
theorem dX12_init_95 : decode cX12_init 95 = .ok (.putfield 43, 3) := by decide +kernel
theorem dX12_init_98 : decode cX12_init 98 = .ok (.aload_n 0, 1) := by decide +kernel
theorem dX12_init_99 : decode cX12_init 99 = .ok (.ldc 42, 2) := by decide +kernel
theorem dX12_init_101 : decode cX12_init 101 = .ok (.newarray .byte, 2) := by decide +kernel
theorem dX12_init_103 : decode cX12_init 103 = .ok (.putfield 46, 3) := by decide +kernel
theorem dX12_init_106 : decode cX12_init 106 = .ok (.aload_n 0, 1) := by decide +kernel
theorem dX12_init_107 : decode cX12_init 107 = .ok (.sipush 400, 3) := by decide +kernel
theorem dX12_init_110 : decode cX12_init 110 = .ok (.newarray .int, 2) := by decide +kernel
theorem dX12_init_112 : decode cX12_init 112 = .ok (.putfield 49, 3) := by decide +kernel
theorem dX12_init_115 : decode cX12_init 115 = .ok (.aload_n 0, 1) := by decide +kernel
theorem dX12_init_116 : decode cX12_init 116 = .ok (.sipush 400, 3) := by decide +kernel
theorem dX12_init_119 : decode cX12_init 119 = .ok (.newarray .int, 2) := by decide +kernel
theorem dX12_init_121 : decode cX12_init 121 = .ok (.putfield 52, 3) := by decide +kernel
theorem dX12_init_124 : decode cX12_init 124 = .ok (.aload_n 0, 1) := by decide +kernel
theorem dX12_init_125 : decode cX12_init 125 = .ok (.sipush 400, 3) := by decide +kernel
theorem dX12_init_128 : decode cX12_init 128 = .ok (.newarray .int, 2) := by decide +kernel
theorem dX12_init_130 : decode cX12_init 130 = .ok (.putfield 55, 3) := by decide +kernel
theorem dX12_init_133 : decode cX12_init 133 = .ok (.aload_n 0, 1) := by decide +kernel
theorem dX12_init_134 : decode cX12_init 134 = .ok (.sipush 400, 3) := by decide +kernel
theorem dX12_init_137 : decode cX12_init 137 = .ok (.newarray .int, 2) := by decide +kernel
theorem dX12_init_139 : decode cX12_init 139 = .ok (.putfield 58, 3) := by decide +kernel
theorem dX12_init_142 : decode cX12_init 142 = .ok (.aload_n 0, 1) := by decide +kernel
theorem dX12_init_143 : decode cX12_init 143 = .ok (.bipush 40, 2) := by decide +kernel
theorem dX12_init_145 : decode cX12_init 145 = .ok (.newarray .int, 2) := by decide +kernel
theorem dX12_init_147 : decode cX12_init 147 = .ok (.putfield 61, 3) := by decide +kernel
theorem dX12_init_150 : decode cX12_init 150 = .ok (.aload_n 0, 1) := by decide +kernel
theorem dX12_init_151 : decode cX12_init 151 = .ok (.sipush 480, 3) := by decide +kernel
theorem dX12_init_154 : decode cX12_init 154 = .ok (.newarray .byte, 2) := by decide +kernel
theorem dX12_init_156 : decode cX12_init 156 = .ok (.putfield 64, 3) := by decide +kernel
theorem dX12_init_159 : decode cX12_init 159 = .ok (.aload_n 0, 1) := by decide +kernel
theorem dX12_init_160 : decode cX12_init 160 = .ok (.bipush 40, 2) := by decide +kernel
theorem dX12_init_162 : decode cX12_init 162 = .ok (.newarray .int, 2) := by decide +kernel
theorem dX12_init_164 : decode cX12_init 164 = .ok (.putfield 67, 3) := by decide +kernel
theorem dX12_init_167 : decode cX12_init 167 = .ok (.aload_n 0, 1) := by decide +kernel
theorem dX12_init_168 : decode cX12_init 168 = .ok (.bipush 40, 2) := by decide +kernel
theorem dX12_init_170 : decode cX12_init 170 = .ok (.newarray .int, 2) := by decide +kernel
theorem dX12_init_172 : decode cX12_init 172 = .ok (.putfield 70, 3) := by decide +kernel
theorem dX12_init_175 : decode cX12_init 175 = .ok (.aload_n 0, 1) := by decide +kernel
theorem dX12_init_176 : decode cX12_init 176 = .ok (.bipush 40, 2) := by decide +kernel
theorem dX12_init_178 : decode cX12_init 178 = .ok (.newarray .int, 2) := by decide +kernel
theorem dX12_init_180 : decode cX12_init 180 = .ok (.putfield 73, 3) := by decide +kernel
theorem dX12_init_183 : decode cX12_init 183 = .ok (.aload_n 0, 1) := by decide +kernel
theorem dX12_init_184 : decode cX12_init 184 = .ok (.bipush 40, 2) := by decide +kernel
theorem dX12_init_186 : decode cX12_init 186 = .ok (.newarray .int, 2) := by decide +kernel
theorem dX12_init_188 : decode cX12_init 188 = .ok (.putfield 76, 3) := by decide +kernel
theorem dX12_init_191 : decode cX12_init 191 = .ok (.aload_n 0, 1) := by decide +kernel
theorem dX12_init_192 : decode cX12_init 192 = .ok (.sipush 1920, 3) := by decide +kernel
theorem dX12_init_195 : decode cX12_init 195 = .ok (.newarray .byte, 2) := by decide +kernel
theorem dX12_init_197 : decode cX12_init 197 = .ok (.putfield 79, 3) := by decide +kernel
theorem dX12_init_200 : decode cX12_init 200 = .ok (.aload_n 0, 1) := by decide +kernel
theorem dX12_init_201 : decode cX12_init 201 = .ok (.sipush 2040, 3) := by decide +kernel
theorem dX12_init_204 : decode cX12_init 204 = .ok (.newarray .byte, 2) := by decide +kernel
theorem dX12_init_206 : decode cX12_init 206 = .ok (.putfield 82, 3) := by decide +kernel
theorem dX12_init_209 : decode cX12_init 209 = .ok (.aload_n 0, 1) := by decide +kernel
theorem dX12_init_210 : decode cX12_init 210 = .ok (.bipush 120, 2) := by decide +kernel
theorem dX12_init_212 : decode cX12_init 212 = .ok (.newarray .int, 2) := by decide +kernel
theorem dX12_init_214 : decode cX12_init 214 = .ok (.putfield 85, 3) := by decide +kernel
theorem dX12_init_217 : decode cX12_init 217 = .ok (.aload_n 0, 1) := by decide +kernel
theorem dX12_init_218 : decode cX12_init 218 = .ok (.sipush 1440, 3) := by decide +kernel
theorem dX12_init_221 : decode cX12_init 221 = .ok (.newarray .byte, 2) := by decide +kernel
theorem dX12_init_223 : decode cX12_init 223 = .ok (.putfield 88, 3) := by decide +kernel
theorem dX12_init_226 : decode cX12_init 226 = .ok (.aload_n 0, 1) := by decide +kernel
theorem dX12_init_227 : decode cX12_init 227 = .ok (.sipush 1500, 3) := by decide +kernel
theorem dX12_init_230 : decode cX12_init 230 = .ok (.newarray .boolean, 2) := by decide +kernel
theorem dX12_init_232 : decode cX12_init 232 = .ok (.putfield 91, 3) := by decide +kernel
theorem dX12_init_235 : decode cX12_init 235 = .ok (.aload_n 0, 1) := by decide +kernel
theorem dX12_init_236 : decode cX12_init 236 = .ok (.bipush 60, 2) := by decide +kernel
theorem dX12_init_238 : decode cX12_init 238 = .ok (.newarray .int, 2) := by decide +kernel
theorem dX12_init_240 : decode cX12_init 240 = .ok (.putfield 95, 3) := by decide +kernel
theorem dX12_init_243 : decode cX12_init 243 = .ok (.aload_n 0, 1) := by decide +kernel
theorem dX12_init_244 : decode cX12_init 244 = .ok (.bipush 13, 2) := by decide +kernel
theorem dX12_init_246 : decode cX12_init 246 = .ok (.newarray .int, 2) := by decide +kernel
theorem dX12_init_248 : decode cX12_init 248 = .ok (.putfield 98, 3) := by decide +kernel
theorem dX12_init_251 : decode cX12_init 251 = .ok (.aload_n 0, 1) := by decide +kernel
theorem dX12_init_252 : decode cX12_init 252 = .ok (.iconst 1, 1) := by decide +kernel
theorem dX12_init_253 : decode cX12_init 253 = .ok (.putfield 101, 3) := by decide +kernel
theorem dX12_init_256 : decode cX12_init 256 = .ok (.aload_n 0, 1) := by decide +kernel
theorem dX12_init_257 : decode cX12_init 257 = .ok (.iconst 1, 1) := by decide +kernel
theorem dX12_init_258 : decode cX12_init 258 = .ok (.putfield 105, 3) := by decide +kernel
theorem dX12_init_261 : decode cX12_init 261 = .ok (.aload_n 0, 1) := by decide +kernel
theorem dX12_init_262 : decode cX12_init 262 = .ok (.sipush 240, 3) := by decide +kernel
theorem dX12_init_265 : decode cX12_init 265 = .ok (.newarray .byte, 2) := by decide +kernel
theorem dX12_init_267 : decode cX12_init 267 = .ok (.putfield 108, 3) := by decide +kernel
theorem dX12_init_270 : decode cX12_init 270 = .ok (.aload_n 0, 1) := by decide +kernel
theorem dX12_init_271 : decode cX12_init 271 = .ok (.bipush 20, 2) := by decide +kernel
theorem dX12_init_273 : decode cX12_init 273 = .ok (.newarray .int, 2) := by decide +kernel
theorem dX12_init_275 : decode cX12_init 275 = .ok (.putfield 111, 3) := by decide +kernel
theorem dX12_init_278 : decode cX12_init 278 = .ok (.aload_n 0, 1) := by decide +kernel
theorem dX12_init_279 : decode cX12_init 279 = .ok (.bipush 20, 2) := by decide +kernel
theorem dX12_init_281 : decode cX12_init 281 = .ok (.newarray .int, 2) := by decide +kernel
theorem dX12_init_283 : decode cX12_init 283 = .ok (.putfield 114, 3) := by decide +kernel
theorem dX12_init_286 : decode cX12_init 286 = .ok (.aload_n 0, 1) := by decide +kernel
theorem dX12_init_287 : decode cX12_init 287 = .ok (.sipush 1440, 3) := by decide +kernel
theorem dX12_init_290 : decode cX12_init 290 = .ok (.newarray .byte, 2) := by decide +kernel
theorem dX12_init_292 : decode cX12_init 292 = .ok (.putfield 117, 3) := by decide +kernel
theorem dX12_init_295 : decode cX12_init 295 = .ok (.aload_n 0, 1) := by decide +kernel
theorem dX12_init_296 : decode cX12_init 296 = .ok (.bipush 120, 2) := by decide +kernel
theorem dX12_init_298 : decode cX12_init 298 = .ok (.newarray .int, 2) := by decide +kernel
theorem dX12_init_300 : decode cX12_init 300 = .ok (.putfield 120, 3) := by decide +kernel
theorem dX12_init_303 : decode cX12_init 303 = .ok (.aload_n 0, 1) := by decide +kernel
theorem dX12_init_304 : decode cX12_init 304 = .ok (.sipush 3840, 3) := by decide +kernel
theorem dX12_init_307 : decode cX12_init 307 = .ok (.newarray .byte, 2) := by decide +kernel
theorem dX12_init_309 : decode cX12_init 309 = .ok (.putfield 123, 3) := by decide +kernel
theorem dX12_init_312 : decode cX12_init 312 = .ok (.aload_n 0, 1) := by decide +kernel
theorem dX12_init_313 : decode cX12_init 313 = .ok (.bipush 120, 2) := by decide +kernel
theorem dX12_init_315 : decode cX12_init 315 = .ok (.newarray .int, 2) := by decide +kernel
theorem dX12_init_317 : decode cX12_init 317 = .ok (.putfield 126, 3) := by decide +kernel
theorem dX12_init_320 : decode cX12_init 320 = .ok (.aload_n 0, 1) := by decide +kernel
theorem dX12_init_321 : decode cX12_init 321 = .ok (.bipush 120, 2) := by decide +kernel
theorem dX12_init_323 : decode cX12_init 323 = .ok (.newarray .int, 2) := by decide +kernel
theorem dX12_init_325 : decode cX12_init 325 = .ok (.putfield 129, 3) := by decide +kernel
theorem dX12_init_328 : decode cX12_init 328 = .ok (.aload_n 0, 1) := by decide +kernel
theorem dX12_init_329 : decode cX12_init 329 = .ok (.bipush 60, 2) := by decide +kernel
theorem dX12_init_331 : decode cX12_init 331 = .ok (.newarray .int, 2) := by decide +kernel
theorem dX12_init_333 : decode cX12_init 333 = .ok (.putfield 132, 3) := by decide +kernel
theorem dX12_init_336 : decode cX12_init 336 = .ok (.aload_n 0, 1) := by decide +kernel
theorem dX12_init_337 : decode cX12_init 337 = .ok (.iconst 2, 1) := by decide +kernel
theorem dX12_init_338 : decode cX12_init 338 = .ok (.newarray .int, 2) := by decide +kernel
theorem dX12_init_340 : decode cX12_init 340 = .ok (.putfield 135, 3) := by decide +kernel
theorem dX12_init_343 : decode cX12_init 343 = .ok (.aload_n 0, 1) := by decide +kernel
theorem dX12_init_344 : decode cX12_init 344 = .ok (.ldc 32, 2) := by decide +kernel
theorem dX12_init_346 : decode cX12_init 346 = .ok (.newarray .byte, 2) := by decide +kernel
theorem dX12_init_348 : decode cX12_init 348 = .ok (.putfield 138, 3) := by decide +kernel
theorem dX12_init_351 : decode cX12_init 351 = .ok (.aload_n 0, 1) := by decide +kernel
theorem dX12_init_352 : decode cX12_init 352 = .ok (.bipush 120, 2) := by decide +kernel
theorem dX12_init_354 : decode cX12_init 354 = .ok (.newarray .int, 2) := by decide +kernel
theorem dX12_init_356 : decode cX12_init 356 = .ok (.putfield 141, 3) := by decide +kernel
theorem dX12_init_359 : decode cX12_init 359 = .ok (.aload_n 0, 1) := by decide +kernel
theorem dX12_init_360 : decode cX12_init 360 = .ok (.bipush 120, 2) := by decide +kernel
theorem dX12_init_362 : decode cX12_init 362 = .ok (.newarray .int, 2) := by decide +kernel
theorem dX12_init_364 : decode cX12_init 364 = .ok (.putfield 144, 3) := by decide +kernel
theorem dX12_init_367 : decode cX12_init 367 = .ok (.aload_n 0, 1) := by decide +kernel
theorem dX12_init_368 : decode cX12_init 368 = .ok (.bipush 120, 2) := by decide +kernel
theorem dX12_init_370 : decode cX12_init 370 = .ok (.newarray .int, 2) := by decide +kernel
theorem dX12_init_372 : decode cX12_init 372 = .ok (.putfield 147, 3) := by decide +kernel
theorem dX12_init_375 : decode cX12_init 375 = .ok (.aload_n 0, 1) := by decide +kernel
theorem dX12_init_376 : decode cX12_init 376 = .ok (.bipush 120, 2) := by decide +kernel
theorem dX12_init_378 : decode cX12_init 378 = .ok (.newarray .int, 2) := by decide +kernel
theorem dX12_init_380 : decode cX12_init 380 = .ok (.putfield 150, 3) := by decide +kernel
theorem dX12_init_383 : decode cX12_init 383 = .ok (.aload_n 0, 1) := by decide +kernel
theorem dX12_init_384 : decode cX12_init 384 = .ok (.bipush 60, 2) := by decide +kernel
theorem dX12_init_386 : decode cX12_init 386 = .ok (.newarray .int, 2) := by decide +kernel
theorem dX12_init_388 : decode cX12_init 388 = .ok (.putfield 153, 3) := by decide +kernel
theorem dX12_init_391 : decode cX12_init 391 = .ok (.aload_n 0, 1) := by decide +kernel
theorem dX12_init_392 : decode cX12_init 392 = .ok (.iconst 2, 1) := by decide +kernel
theorem dX12_init_393 : decode cX12_init 393 = .ok (.newarray .int, 2) := by decide +kernel
theorem dX12_init_395 : decode cX12_init 395 = .ok (.putfield 156, 3) := by decide +kernel
theorem dX12_init_398 : decode cX12_init 398 = .ok (.aload_n 0, 1) := by decide +kernel
theorem dX12_init_399 : decode cX12_init 399 = .ok (.ldc 32, 2) := by decide +kernel
theorem dX12_init_401 : decode cX12_init 401 = .ok (.newarray .byte, 2) := by decide +kernel
theorem dX12_init_403 : decode cX12_init 403 = .ok (.putfield 159, 3) := by decide +kernel
theorem dX12_init_406 : decode cX12_init 406 = .ok (.aload_n 0, 1) := by decide +kernel
theorem dX12_init_407 : decode cX12_init 407 = .ok (.sipush 200, 3) := by decide +kernel
theorem dX12_init_410 : decode cX12_init 410 = .ok (.newarray .int, 2) := by decide +kernel
theorem dX12_init_412 : decode cX12_init 412 = .ok (.putfield 162, 3) := by decide +kernel
theorem dX12_init_415 : decode cX12_init 415 = .ok (.aload_n 0, 1) := by decide +kernel
theorem dX12_init_416 : decode cX12_init 416 = .ok (.sipush 200, 3) := by decide +kernel
theorem dX12_init_419 : decode cX12_init 419 = .ok (.newarray .int, 2) := by decide +kernel
theorem dX12_init_421 : decode cX12_init 421 = .ok (.putfield 165, 3) := by decide +kernel
theorem dX12_init_424 : decode cX12_init 424 = .ok (.aload_n 0, 1) := by decide +kernel
theorem dX12_init_425 : decode cX12_init 425 = .ok (.sipush 200, 3) := by decide +kernel
theorem dX12_init_428 : decode cX12_init 428 = .ok (.newarray .int, 2) := by decide +kernel
theorem dX12_init_430 : decode cX12_init 430 = .ok (.putfield 168, 3) := by decide +kernel
theorem dX12_init_433 : decode cX12_init 433 = .ok (.aload_n 0, 1) := by decide +kernel
theorem dX12_init_434 : decode cX12_init 434 = .ok (.bipush 100, 2) := by decide +kernel
theorem dX12_init_436 : decode cX12_init 436 = .ok (.newarray .int, 2) := by decide +kernel
theorem dX12_init_438 : decode cX12_init 438 = .ok (.putfield 171, 3) := by decide +kernel
theorem dX12_init_441 : decode cX12_init 441 = .ok (.aload_n 0, 1) := by decide +kernel
theorem dX12_init_442 : decode cX12_init 442 = .ok (.iconst 2, 1) := by decide +kernel
theorem dX12_init_443 : decode cX12_init 443 = .ok (.newarray .int, 2) := by decide +kernel
theorem dX12_init_445 : decode cX12_init 445 = .ok (.putfield 174, 3) := by decide +kernel
theorem dX12_init_448 : decode cX12_init 448 = .ok (.aload_n 0, 1) := by decide +kernel
theorem dX12_init_449 : decode cX12_init 449 = .ok (.iconst 4, 1) := by decide +kernel
theorem dX12_init_450 : decode cX12_init 450 = .ok (.newarray .int, 2) := by decide +kernel
theorem dX12_init_452 : decode cX12_init 452 = .ok (.putfield 177, 3) := by decide +kernel
theorem dX12_init_455 : decode cX12_init 455 = .ok (.aload_n 0, 1) := by decide +kernel
theorem dX12_init_456 : decode cX12_init 456 = .ok (.bipush 32, 2) := by decide +kernel
theorem dX12_init_458 : decode cX12_init 458 = .ok (.newarray .byte, 2) := by decide +kernel
theorem dX12_init_460 : decode cX12_init 460 = .ok (.putfield 180, 3) := by decide +kernel
theorem dX12_init_463 : decode cX12_init 463 = .ok (.aload_n 0, 1) := by decide +kernel
theorem dX12_init_464 : decode cX12_init 464 = .ok (.bipush 60, 2) := by decide +kernel
theorem dX12_init_466 : decode cX12_init 466 = .ok (.newarray .int, 2) := by decide +kernel
theorem dX12_init_468 : decode cX12_init 468 = .ok (.putfield 183, 3) := by decide +kernel
theorem dX12_init_471 : decode cX12_init 471 = .ok (.aload_n 0, 1) := by decide +kernel
theorem dX12_init_472 : decode cX12_init 472 = .ok (.bipush 60, 2) := by decide +kernel
theorem dX12_init_474 : decode cX12_init 474 = .ok (.newarray .int, 2) := by decide +kernel
theorem dX12_init_476 : decode cX12_init 476 = .ok (.putfield 186, 3) := by decide +kernel
theorem dX12_init_479 : decode cX12_init 479 = .ok (.aload_n 0, 1) := by decide +kernel
theorem dX12_init_480 : decode cX12_init 480 = .ok (.bipush 60, 2) := by decide +kernel
theorem dX12_init_482 : decode cX12_init 482 = .ok (.newarray .int, 2) := by decide +kernel
theorem dX12_init_484 : decode cX12_init 484 = .ok (.putfield 189, 3) := by decide +kernel
theorem dX12_init_487 : decode cX12_init 487 = .ok (.aload_n 0, 1) := by decide +kernel
theorem dX12_init_488 : decode cX12_init 488 = .ok (.bipush 60, 2) := by decide +kernel
theorem dX12_init_490 : decode cX12_init 490 = .ok (.newarray .int, 2) := by decide +kernel
theorem dX12_init_492 : decode cX12_init 492 = .ok (.putfield 192, 3) := by decide +kernel
theorem dX12_init_495 : decode cX12_init 495 = .ok (.aload_n 0, 1) := by decide +kernel
theorem dX12_init_496 : decode cX12_init 496 = .ok (.sipush 300, 3) := by decide +kernel
theorem dX12_init_499 : decode cX12_init 499 = .ok (.newarray .int, 2) := by decide +kernel
theorem dX12_init_501 : decode cX12_init 501 = .ok (.putfield 195, 3) := by decide +kernel
theorem dX12_init_504 : decode cX12_init 504 = .ok (.aload_n 0, 1) := by decide +kernel
theorem dX12_init_505 : decode cX12_init 505 = .ok (.sipush 300, 3) := by decide +kernel
theorem dX12_init_508 : decode cX12_init 508 = .ok (.newarray .int, 2) := by decide +kernel
theorem dX12_init_510 : decode cX12_init 510 = .ok (.putfield 198, 3) := by decide +kernel
theorem dX12_init_513 : decode cX12_init 513 = .ok (.aload_n 0, 1) := by decide +kernel
theorem dX12_init_514 : decode cX12_init 514 = .ok (.sipush 300, 3) := by decide +kernel
theorem dX12_init_517 : decode cX12_init 517 = .ok (.newarray .int, 2) := by decide +kernel
theorem dX12_init_519 : decode cX12_init 519 = .ok (.putfield 201, 3) := by decide +kernel
theorem dX12_init_522 : decode cX12_init 522 = .ok (.aload_n 0, 1) := by decide +kernel
theorem dX12_init_523 : decode cX12_init 523 = .ok (.ldc 42, 2) := by decide +kernel
theorem dX12_init_525 : decode cX12_init 525 = .ok (.newarray .byte, 2) := by decide +kernel
theorem dX12_init_527 : decode cX12_init 527 = .ok (.putfield 204, 3) := by decide +kernel
theorem dX12_init_530 : decode cX12_init 530 = .ok (.aload_n 0, 1) := by decide +kernel
theorem dX12_init_531 : decode cX12_init 531 = .ok (.ldc 42, 2) := by decide +kernel
theorem dX12_init_533 : decode cX12_init 533 = .ok (.newarray .byte, 2) := by decide +kernel
theorem dX12_init_535 : decode cX12_init 535 = .ok (.putfield 207, 3) := by decide +kernel
theorem dX12_init_538 : decode cX12_init 538 = .ok (.aload_n 0, 1) := by decide +kernel
theorem dX12_init_539 : decode cX12_init 539 = .ok (.sipush 1501, 3) := by decide +kernel
theorem dX12_init_542 : decode cX12_init 542 = .ok (.newarray .int, 2) := by decide +kernel
theorem dX12_init_544 : decode cX12_init 544 = .ok (.putfield 210, 3) := by decide +kernel
theorem dX12_init_547 : decode cX12_init 547 = .ok (.aload_n 0, 1) := by decide +kernel
theorem dX12_init_548 : decode cX12_init 548 = .ok (.sipush 1501, 3) := by decide +kernel
theorem dX12_init_551 : decode cX12_init 551 = .ok (.newarray .int, 2) := by decide +kernel
theorem dX12_init_553 : decode cX12_init 553 = .ok (.putfield 213, 3) := by decide +kernel
theorem dX12_init_556 : decode cX12_init 556 = .ok (.aload_n 0, 1) := by decide +kernel
theorem dX12_init_557 : decode cX12_init 557 = .ok (.sipush 1501, 3) := by decide +kernel
theorem dX12_init_560 : decode cX12_init 560 = .ok (.newarray .int, 2) := by decide +kernel
theorem dX12_init_562 : decode cX12_init 562 = .ok (.putfield 216, 3) := by decide +kernel
theorem dX12_init_565 : decode cX12_init 565 = .ok (.aload_n 0, 1) := by decide +kernel
theorem dX12_init_566 : decode cX12_init 566 = .ok (.sipush 1501, 3) := by decide +kernel
theorem dX12_init_569 : decode cX12_init 569 = .ok (.newarray .boolean, 2) := by decide +kernel
theorem dX12_init_571 : decode cX12_init 571 = .ok (.putfield 219, 3) := by decide +kernel
theorem dX12_init_574 : decode cX12_init 574 = .ok (.aload_n 0, 1) := by decide +kernel
theorem dX12_init_575 : decode cX12_init 575 = .ok (.sipush 1501, 3) := by decide +kernel
theorem dX12_init_578 : decode cX12_init 578 = .ok (.newarray .boolean, 2) := by decide +kernel
theorem dX12_init_580 : decode cX12_init 580 = .ok (.putfield 222, 3) := by decide +kernel
theorem dX12_init_583 : decode cX12_init 583 = .ok (.aload_n 0, 1) := by decide +kernel
theorem dX12_init_584 : decode cX12_init 584 = .ok (.sipush 1501, 3) := by decide +kernel
theorem dX12_init_587 : decode cX12_init 587 = .ok (.newarray .int, 2) := by decide +kernel
theorem dX12_init_589 : decode cX12_init 589 = .ok (.putfield 225, 3) := by decide +kernel
theorem dX12_init_592 : decode cX12_init 592 = .ok (.aload_n 0, 1) := by decide +kernel
theorem dX12_init_593 : decode cX12_init 593 = .ok (.sipush 1501, 3) := by decide +kernel
theorem dX12_init_596 : decode cX12_init 596 = .ok (.newarray .int, 2) := by decide +kernel
theorem dX12_init_598 : decode cX12_init 598 = .ok (.putfield 228, 3) := by decide +kernel
theorem dX12_init_601 : decode cX12_init 601 = .ok (.aload_n 0, 1) := by decide +kernel
theorem dX12_init_602 : decode cX12_init 602 = .ok (.sipush 1501, 3) := by decide +kernel
theorem dX12_init_605 : decode cX12_init 605 = .ok (.newarray .int, 2) := by decide +kernel
theorem dX12_init_607 : decode cX12_init 607 = .ok (.putfield 231, 3) := by decide +kernel
theorem dX12_init_610 : decode cX12_init 610 = .ok (.aload_n 0, 1) := by decide +kernel
theorem dX12_init_611 : decode cX12_init 611 = .ok (.sipush 1501, 3) := by decide +kernel
theorem dX12_init_614 : decode cX12_init 614 = .ok (.newarray .int, 2) := by decide +kernel
theorem dX12_init_616 : decode cX12_init 616 = .ok (.putfield 234, 3) := by decide +kernel
theorem dX12_init_619 : decode cX12_init 619 = .ok (.aload_n 0, 1) := by decide +kernel
theorem dX12_init_620 : decode cX12_init 620 = .ok (.sipush 1501, 3) := by decide +kernel
theorem dX12_init_623 : decode cX12_init 623 = .ok (.newarray .int, 2) := by decide +kernel
theorem dX12_init_625 : decode cX12_init 625 = .ok (.putfield 237, 3) := by decide +kernel
theorem dX12_init_628 : decode cX12_init 628 = .ok (.aload_n 0, 1) := by decide +kernel
theorem dX12_init_629 : decode cX12_init 629 = .ok (.sipush 8000, 3) := by decide +kernel
theorem dX12_init_632 : decode cX12_init 632 = .ok (.newarray .byte, 2) := by decide +kernel
theorem dX12_init_634 : decode cX12_init 634 = .ok (.putfield 240, 3) := by decide +kernel
theorem dX12_init_637 : decode cX12_init 637 = .ok (.aload_n 0, 1) := by decide +kernel
theorem dX12_init_638 : decode cX12_init 638 = .ok (.sipush 8000, 3) := by decide +kernel
theorem dX12_init_641 : decode cX12_init 641 = .ok (.newarray .int, 2) := by decide +kernel
theorem dX12_init_643 : decode cX12_init 643 = .ok (.putfield 243, 3) := by decide +kernel
theorem dX12_init_646 : decode cX12_init 646 = .ok (.aload_n 0, 1) := by decide +kernel
theorem dX12_init_647 : decode cX12_init 647 = .ok (.ldc 246, 2) := by decide +kernel
theorem dX12_init_649 : decode cX12_init 649 = .ok (.newarray .byte, 2) := by decide +kernel
theorem dX12_init_651 : decode cX12_init 651 = .ok (.putfield 247, 3) := by decide +kernel
theorem dX12_init_654 : decode cX12_init 654 = .ok (.aload_n 0, 1) := by decide +kernel
theorem dX12_init_655 : decode cX12_init 655 = .ok (.ldc 246, 2) := by decide +kernel
theorem dX12_init_657 : decode cX12_init 657 = .ok (.newarray .byte, 2) := by decide +kernel
theorem dX12_init_659 : decode cX12_init 659 = .ok (.putfield 250, 3) := by decide +kernel
theorem dX12_init_662 : decode cX12_init 662 = .ok (.aload_n 0, 1) := by decide +kernel
theorem dX12_init_663 : decode cX12_init 663 = .ok (.sipush 6100, 3) := by decide +kernel
theorem dX12_init_666 : decode cX12_init 666 = .ok (.newarray .int, 2) := by decide +kernel
theorem dX12_init_668 : decode cX12_init 668 = .ok (.putfield 253, 3) := by decide +kernel
theorem dX12_init_671 : decode cX12_init 671 = .ok (.aload_n 0, 1) := by decide +kernel
theorem dX12_init_672 : decode cX12_init 672 = .ok (.sipush 6100, 3) := by decide +kernel
theorem dX12_init_675 : decode cX12_init 675 = .ok (.newarray .int, 2) := by decide +kernel
theorem dX12_init_677 : decode cX12_init 677 = .ok (.putfield 256, 3) := by decide +kernel
theorem dX12_init_680 : decode cX12_init 680 = .ok (.aload_n 0, 1) := by decide +kernel
theorem dX12_init_681 : decode cX12_init 681 = .ok (.sipush 6100, 3) := by decide +kernel
theorem dX12_init_684 : decode cX12_init 684 = .ok (.newarray .int, 2) := by decide +kernel
theorem dX12_init_686 : decode cX12_init 686 = .ok (.putfield 259, 3) := by decide +kernel
theorem dX12_init_689 : decode cX12_init 689 = .ok (.aload_n 0, 1) := by decide +kernel
theorem dX12_init_690 : decode cX12_init 690 = .ok (.sipush 6100, 3) := by decide +kernel
theorem dX12_init_693 : decode cX12_init 693 = .ok (.newarray .boolean, 2) := by decide +kernel
theorem dX12_init_695 : decode cX12_init 695 = .ok (.putfield 262, 3) := by decide +kernel
theorem dX12_init_698 : decode cX12_init 698 = .ok (.aload_n 0, 1) := by decide +kernel
theorem dX12_init_699 : decode cX12_init 699 = .ok (.bipush 101, 2) := by decide +kernel
theorem dX12_init_701 : decode cX12_init 701 = .ok (.newarray .int, 2) := by decide +kernel
theorem dX12_init_703 : decode cX12_init 703 = .ok (.putfield 265, 3) := by decide +kernel
theorem dX12_init_706 : decode cX12_init 706 = .ok (.aload_n 0, 1) := by decide +kernel
theorem dX12_init_707 : decode cX12_init 707 = .ok (.iconst 1, 1) := by decide +kernel
theorem dX12_init_708 : decode cX12_init 708 = .ok (.putfield 268, 3) := by decide +kernel
theorem dX12_init_711 : decode cX12_init 711 = .ok (.aload_n 0, 1) := by decide +kernel
theorem dX12_init_712 : decode cX12_init 712 = .ok (.iconst 1, 1) := by decide +kernel
theorem dX12_init_713 : decode cX12_init 713 = .ok (.putfield 271, 3) := by decide +kernel
theorem dX12_init_716 : decode cX12_init 716 = .ok (.aload_n 0, 1) := by decide +kernel
theorem dX12_init_717 : decode cX12_init 717 = .ok (.ldc 246, 2) := by decide +kernel
theorem dX12_init_719 : decode cX12_init 719 = .ok (.newarray .byte, 2) := by decide +kernel
theorem dX12_init_721 : decode cX12_init 721 = .ok (.putfield 274, 3) := by decide +kernel
theorem dX12_init_724 : decode cX12_init 724 = .ok (.aload_n 0, 1) := by decide +kernel
theorem dX12_init_725 : decode cX12_init 725 = .ok (.sipush 6100, 3) := by decide +kernel
theorem dX12_init_728 : decode cX12_init 728 = .ok (.newarray .int, 2) := by decide +kernel
theorem dX12_init_730 : decode cX12_init 730 = .ok (.putfield 277, 3) := by decide +kernel
theorem dX12_init_733 : decode cX12_init 733 = .ok (.aload_n 0, 1) := by decide +kernel
theorem dX12_init_734 : decode cX12_init 734 = .ok (.sipush 6100, 3) := by decide +kernel
theorem dX12_init_737 : decode cX12_init 737 = .ok (.newarray .int, 2) := by decide +kernel
theorem dX12_init_739 : decode cX12_init 739 = .ok (.putfield 280, 3) := by decide +kernel
theorem dX12_init_742 : decode cX12_init 742 = .ok (.aload_n 0, 1) := by decide +kernel
theorem dX12_init_743 : decode cX12_init 743 = .ok (.sipush 6100, 3) := by decide +kernel
theorem dX12_init_746 : decode cX12_init 746 = .ok (.newarray .int, 2) := by decide +kernel
theorem dX12_init_748 : decode cX12_init 748 = .ok (.putfield 283, 3) := by decide +kernel
theorem dX12_init_751 : decode cX12_init 751 = .ok (.aload_n 0, 1) := by decide +kernel
theorem dX12_init_752 : decode cX12_init 752 = .ok (.sipush 6100, 3) := by decide +kernel
theorem dX12_init_755 : decode cX12_init 755 = .ok (.newarray .int, 2) := by decide +kernel
theorem dX12_init_757 : decode cX12_init 757 = .ok (.putfield 286, 3) := by decide +kernel
theorem dX12_init_760 : decode cX12_init 760 = .ok (.aload_n 0, 1) := by decide +kernel
theorem dX12_init_761 : decode cX12_init 761 = .ok (.sipush 6101, 3) := by decide +kernel
theorem dX12_init_764 : decode cX12_init 764 = .ok (.newarray .int, 2) := by decide +kernel
theorem dX12_init_766 : decode cX12_init 766 = .ok (.putfield 289, 3) := by decide +kernel
theorem dX12_init_769 : decode cX12_init 769 = .ok (.aload_n 0, 1) := by decide +kernel
theorem dX12_init_770 : decode cX12_init 770 = .ok (.sipush 6101, 3) := by decide +kernel
theorem dX12_init_773 : decode cX12_init 773 = .ok (.newarray .int, 2) := by decide +kernel
theorem dX12_init_775 : decode cX12_init 775 = .ok (.putfield 292, 3) := by decide +kernel
theorem dX12_init_778 : decode cX12_init 778 = .ok (.aload_n 0, 1) := by decide +kernel
theorem dX12_init_779 : decode cX12_init 779 = .ok (.ldc 42, 2) := by decide +kernel
theorem dX12_init_781 : decode cX12_init 781 = .ok (.newarray .byte, 2) := by decide +kernel
theorem dX12_init_783 : decode cX12_init 783 = .ok (.putfield 295, 3) := by decide +kernel
theorem dX12_init_786 : decode cX12_init 786 = .ok (.aload_n 0, 1) := by decide +kernel
theorem dX12_init_787 : decode cX12_init 787 = .ok (.bipush 64, 2) := by decide +kernel
theorem dX12_init_789 : decode cX12_init 789 = .ok (.newarray .byte, 2) := by decide +kernel
theorem dX12_init_791 : decode cX12_init 791 = .ok (.putfield 298, 3) := by decide +kernel
theorem dX12_init_794 : decode cX12_init 794 = .ok (.aload_n 0, 1) := by decide +kernel
theorem dX12_init_795 : decode cX12_init 795 = .ok (.sipush 400, 3) := by decide +kernel
theorem dX12_init_798 : decode cX12_init 798 = .ok (.newarray .byte, 2) := by decide +kernel
theorem dX12_init_800 : decode cX12_init 800 = .ok (.putfield 301, 3) := by decide +kernel
theorem dX12_init_803 : decode cX12_init 803 = .ok (.aload_n 0, 1) := by decide +kernel
theorem dX12_init_804 : decode cX12_init 804 = .ok (.sipush 400, 3) := by decide +kernel
theorem dX12_init_807 : decode cX12_init 807 = .ok (.newarray .byte, 2) := by decide +kernel
theorem dX12_init_809 : decode cX12_init 809 = .ok (.putfield 304, 3) := by decide +kernel
theorem dX12_init_812 : decode cX12_init 812 = .ok (.aload_n 0, 1) := by decide +kernel
theorem dX12_init_813 : decode cX12_init 813 = .ok (.ldc 42, 2) := by decide +kernel
theorem dX12_init_815 : decode cX12_init 815 = .ok (.newarray .int, 2) := by decide +kernel
theorem dX12_init_817 : decode cX12_init 817 = .ok (.putfield 307, 3) := by decide +kernel
theorem dX12_init_820 : decode cX12_init 820 = .ok (.aload_n 0, 1) := by decide +kernel
theorem dX12_init_821 : decode cX12_init 821 = .ok (.ldc 42, 2) := by decide +kernel
theorem dX12_init_823 : decode cX12_init 823 = .ok (.newarray .int, 2) := by decide +kernel
theorem dX12_init_825 : decode cX12_init 825 = .ok (.putfield 310, 3) := by decide +kernel
theorem dX12_init_828 : decode cX12_init 828 = .ok (.aload_n 0, 1) := by decide +kernel
theorem dX12_init_829 : decode cX12_init 829 = .ok (.sipush 4200, 3) := by decide +kernel
theorem dX12_init_832 : decode cX12_init 832 = .ok (.newarray .int, 2) := by decide +kernel
theorem dX12_init_834 : decode cX12_init 834 = .ok (.putfield 313, 3) := by decide +kernel
theorem dX12_init_837 : decode cX12_init 837 = .ok (.aload_n 0, 1) := by decide +kernel
theorem dX12_init_838 : decode cX12_init 838 = .ok (.sipush 4200, 3) := by decide +kernel
theorem dX12_init_841 : decode cX12_init 841 = .ok (.newarray .int, 2) := by decide +kernel
theorem dX12_init_843 : decode cX12_init 843 = .ok (.putfield 316, 3) := by decide +kernel
theorem dX12_init_846 : decode cX12_init 846 = .ok (.aload_n 0, 1) := by decide +kernel
theorem dX12_init_847 : decode cX12_init 847 = .ok (.sipush 4002, 3) := by decide +kernel
theorem dX12_init_850 : decode cX12_init 850 = .ok (.newarray .int, 2) := by decide +kernel
theorem dX12_init_852 : decode cX12_init 852 = .ok (.putfield 319, 3) := by decide +kernel
theorem dX12_init_855 : decode cX12_init 855 = .ok (.aload_n 0, 1) := by decide +kernel
theorem dX12_init_856 : decode cX12_init 856 = .ok (.bipush 8, 2) := by decide +kernel
theorem dX12_init_858 : decode cX12_init 858 = .ok (.newarray .int, 2) := by decide +kernel
theorem dX12_init_860 : decode cX12_init 860 = .ok (.putfield 322, 3) := by decide +kernel
theorem dX12_init_863 : decode cX12_init 863 = .ok (.aload_n 0, 1) := by decide +kernel
theorem dX12_init_864 : decode cX12_init 864 = .ok (.bipush 8, 2) := by decide +kernel
theorem dX12_init_866 : decode cX12_init 866 = .ok (.newarray .int, 2) := by decide +kernel
theorem dX12_init_868 : decode cX12_init 868 = .ok (.putfield 325, 3) := by decide +kernel
theorem dX12_init_871 : decode cX12_init 871 = .ok (.aload_n 0, 1) := by decide +kernel
theorem dX12_init_872 : decode cX12_init 872 = .ok (.bipush 8, 2) := by decide +kernel
theorem dX12_init_874 : decode cX12_init 874 = .ok (.newarray .int, 2) := by decide +kernel
theorem dX12_init_876 : decode cX12_init 876 = .ok (.putfield 328, 3) := by decide +kernel
theorem dX12_init_879 : decode cX12_init 879 = .ok (.aload_n 0, 1) := by decide +kernel
theorem dX12_init_880 : decode cX12_init 880 = .ok (.bipush 44, 2) := by decide +kernel
theorem dX12_init_882 : decode cX12_init 882 = .ok (.newarray .int, 2) := by decide +kernel
theorem dX12_init_884 : decode cX12_init 884 = .ok (.putfield 331, 3) := by decide +kernel
theorem dX12_init_887 : decode cX12_init 887 = .ok (.aload_n 0, 1) := by decide +kernel
theorem dX12_init_888 : decode cX12_init 888 = .ok (.iconst 3, 1) := by decide +kernel
theorem dX12_init_889 : decode cX12_init 889 = .ok (.newarray .int, 2) := by decide +kernel
theorem dX12_init_891 : decode cX12_init 891 = .ok (.putfield 334, 3) := by decide +kernel
theorem dX12_init_894 : decode cX12_init 894 = .ok (.aload_n 0, 1) := by decide +kernel
theorem dX12_init_895 : decode cX12_init 895 = .ok (.bipush 64, 2) := by decide +kernel
theorem dX12_init_897 : decode cX12_init 897 = .ok (.newarray .byte, 2) := by decide +kernel
theorem dX12_init_899 : decode cX12_init 899 = .ok (.putfield 337, 3) := by decide +kernel
theorem dX12_init_902 : decode cX12_init 902 = .ok (.aload_n 0, 1) := by decide +kernel
theorem dX12_init_903 : decode cX12_init 903 = .ok (.invokevirtual 340, 3) := by decide +kernel
theorem dX12_init_906 : decode cX12_init 906 = .ok (.aload_n 0, 1) := by decide +kernel
theorem dX12_init_907 : decode cX12_init 907 = .ok (.aload_n 0, 1) := by decide +kernel
theorem dX12_init_908 : decode cX12_init 908 = .ok (.getfield 98, 3) := by decide +kernel
theorem dX12_init_911 : decode cX12_init 911 = .ok (.bipush 9, 2) := by decide +kernel
theorem dX12_init_913 : decode cX12_init 913 = .ok (.iaload, 1) := by decide +kernel
theorem dX12_init_914 : decode cX12_init 914 = .ok (.putfield 343, 3) := by decide +kernel
theorem dX12_init_917 : decode cX12_init 917 = .ok (.aload_n 0, 1) := by decide +kernel
theorem dX12_init_918 : decode cX12_init 918 = .ok (.aload_n 0, 1) := by decide +kernel
theorem dX12_init_919 : decode cX12_init 919 = .ok (.getfield 98, 3) := by decide +kernel
theorem dX12_init_922 : decode cX12_init 922 = .ok (.iconst 0, 1) := by decide +kernel
theorem dX12_init_923 : decode cX12_init 923 = .ok (.iaload, 1) := by decide +kernel
theorem dX12_init_924 : decode cX12_init 924 = .ok (.putfield 346, 3) := by decide +kernel
theorem dX12_init_927 : decode cX12_init 927 = .ok (.return_, 1) := by decide +kernel
theorem k_RX12_7 : Cond.fieldLink RX12 7 RX12 "tape" "[B" ∈ tb := tb_8 (i := 25) (by decide +kernel) rfl
theorem k_RX12_13 : Cond.fieldLink RX12 13 RX12 "ms" "[B" ∈ tb := tb_8 (i := 26) (by decide +kernel) rfl
theorem k_RX12_16 : Cond.fieldLink RX12 16 RX12 "made" "[B" ∈ tb := tb_8 (i := 27) (by decide +kernel) rfl
theorem k_RX12_19 : Cond.fieldLink RX12 19 RX12 "old" "[B" ∈ tb := tb_8 (i := 28) (by decide +kernel) rfl
theorem k_RX12_22 : Cond.fieldLink RX12 22 RX12 "oldSize" "[I" ∈ tb := tb_8 (i := 29) (by decide +kernel) rfl
theorem k_RX12_26 : Cond.fieldLink RX12 26 RX12 "src" "[B" ∈ tb := tb_8 (i := 33) (by decide +kernel) rfl
theorem k_RX12_29 : Cond.fieldLink RX12 29 RX12 "lineAt" "[I" ∈ tb := tb_8 (i := 35) (by decide +kernel) rfl
theorem k_RX12_33 : Cond.fieldLink RX12 33 RX12 "sg" "[B" ∈ tb := tb_8 (i := 37) (by decide +kernel) rfl
theorem k_RX12_32 : Cond.constant RX12 32 (140000) ∈ tb := tb_8 (i := 17) (by decide +kernel) rfl
theorem k_RX12_36 : Cond.fieldLink RX12 36 RX12 "sy" "[B" ∈ tb := tb_8 (i := 38) (by decide +kernel) rfl
theorem k_RX12_39 : Cond.fieldLink RX12 39 RX12 "pt" "[B" ∈ tb := tb_8 (i := 39) (by decide +kernel) rfl
theorem k_RX12_43 : Cond.fieldLink RX12 43 RX12 "kg" "[B" ∈ tb := tb_8 (i := 43) (by decide +kernel) rfl
theorem k_RX12_42 : Cond.constant RX12 42 (70000) ∈ tb := tb_8 (i := 18) (by decide +kernel) rfl
theorem k_RX12_46 : Cond.fieldLink RX12 46 RX12 "ky" "[B" ∈ tb := tb_8 (i := 44) (by decide +kernel) rfl
theorem k_RX12_49 : Cond.fieldLink RX12 49 RX12 "textFrom" "[I" ∈ tb := tb_8 (i := 47) (by decide +kernel) rfl
theorem k_RX12_52 : Cond.fieldLink RX12 52 RX12 "textTo" "[I" ∈ tb := tb_8 (i := 48) (by decide +kernel) rfl
theorem k_RX12_55 : Cond.fieldLink RX12 55 RX12 "argFrom" "[I" ∈ tb := tb_8 (i := 49) (by decide +kernel) rfl
theorem k_RX12_58 : Cond.fieldLink RX12 58 RX12 "argTo" "[I" ∈ tb := tb_8 (i := 50) (by decide +kernel) rfl
theorem k_RX12_61 : Cond.fieldLink RX12 61 RX12 "argMany" "[I" ∈ tb := tb_8 (i := 51) (by decide +kernel) rfl
theorem k_RX12_64 : Cond.fieldLink RX12 64 RX12 "macroName" "[B" ∈ tb := tb_8 (i := 59) (by decide +kernel) rfl
theorem k_RX12_67 : Cond.fieldLink RX12 67 RX12 "macroSize" "[I" ∈ tb := tb_8 (i := 60) (by decide +kernel) rfl
theorem k_RX12_70 : Cond.fieldLink RX12 70 RX12 "macroArgs" "[I" ∈ tb := tb_8 (i := 61) (by decide +kernel) rfl
theorem k_RX12_73 : Cond.fieldLink RX12 73 RX12 "bodyFrom" "[I" ∈ tb := tb_8 (i := 62) (by decide +kernel) rfl
theorem k_RX12_76 : Cond.fieldLink RX12 76 RX12 "bodyTo" "[I" ∈ tb := tb_8 (i := 63) (by decide +kernel) rfl
theorem k_RX12_79 : Cond.fieldLink RX12 79 RX12 "patSign" "[B" ∈ tb := tb_8 (i := 64) (by decide +kernel) rfl
theorem k_RX12_82 : Cond.fieldLink RX12 82 RX12 "patDigit" "[B" ∈ tb := tb_8 (i := 65) (by decide +kernel) rfl
theorem k_RX12_85 : Cond.fieldLink RX12 85 RX12 "patSize" "[I" ∈ tb := tb_8 (i := 66) (by decide +kernel) rfl
theorem k_RX12_88 : Cond.fieldLink RX12 88 RX12 "exSign" "[B" ∈ tb := tb_8 (i := 67) (by decide +kernel) rfl
theorem k_RX12_91 : Cond.fieldLink RX12 91 RX12 "exPoint" "[Z" ∈ tb := tb_8 (i := 68) (by decide +kernel) rfl
theorem k_RX12_95 : Cond.fieldLink RX12 95 RX12 "exSize" "[I" ∈ tb := tb_8 (i := 69) (by decide +kernel) rfl
theorem k_RX12_98 : Cond.fieldLink RX12 98 RX12 "set" "[I" ∈ tb := tb_8 (i := 73) (by decide +kernel) rfl
theorem k_RX12_108 : Cond.fieldLink RX12 108 RX12 "counterName" "[B" ∈ tb := tb_8 (i := 78) (by decide +kernel) rfl
theorem k_RX12_111 : Cond.fieldLink RX12 111 RX12 "counterSize" "[I" ∈ tb := tb_8 (i := 79) (by decide +kernel) rfl
theorem k_RX12_114 : Cond.fieldLink RX12 114 RX12 "counterValue" "[I" ∈ tb := tb_8 (i := 80) (by decide +kernel) rfl
theorem k_RX12_117 : Cond.fieldLink RX12 117 RX12 "labelName" "[B" ∈ tb := tb_8 (i := 83) (by decide +kernel) rfl
theorem k_RX12_120 : Cond.fieldLink RX12 120 RX12 "labelSize" "[I" ∈ tb := tb_8 (i := 84) (by decide +kernel) rfl
theorem k_RX12_123 : Cond.fieldLink RX12 123 RX12 "refSign" "[B" ∈ tb := tb_8 (i := 85) (by decide +kernel) rfl
theorem k_RX12_126 : Cond.fieldLink RX12 126 RX12 "refSize" "[I" ∈ tb := tb_8 (i := 86) (by decide +kernel) rfl
theorem k_RX12_129 : Cond.fieldLink RX12 129 RX12 "labelPage" "[I" ∈ tb := tb_8 (i := 87) (by decide +kernel) rfl
theorem k_RX12_132 : Cond.fieldLink RX12 132 RX12 "labelLine" "[I" ∈ tb := tb_8 (i := 88) (by decide +kernel) rfl
theorem k_RX12_135 : Cond.fieldLink RX12 135 RX12 "labels" "[I" ∈ tb := tb_8 (i := 89) (by decide +kernel) rfl
theorem k_RX12_138 : Cond.fieldLink RX12 138 RX12 "titleSign" "[B" ∈ tb := tb_8 (i := 90) (by decide +kernel) rfl
theorem k_RX12_141 : Cond.fieldLink RX12 141 RX12 "titleFrom" "[I" ∈ tb := tb_8 (i := 91) (by decide +kernel) rfl
theorem k_RX12_144 : Cond.fieldLink RX12 144 RX12 "titleSize" "[I" ∈ tb := tb_8 (i := 92) (by decide +kernel) rfl
theorem k_RX12_147 : Cond.fieldLink RX12 147 RX12 "level" "[I" ∈ tb := tb_8 (i := 93) (by decide +kernel) rfl
theorem k_RX12_150 : Cond.fieldLink RX12 150 RX12 "headPage" "[I" ∈ tb := tb_8 (i := 94) (by decide +kernel) rfl
theorem k_RX12_153 : Cond.fieldLink RX12 153 RX12 "headLine" "[I" ∈ tb := tb_8 (i := 95) (by decide +kernel) rfl
theorem k_RX12_156 : Cond.fieldLink RX12 156 RX12 "headings" "[I" ∈ tb := tb_8 (i := 96) (by decide +kernel) rfl
theorem k_RX12_159 : Cond.fieldLink RX12 159 RX12 "keySign" "[B" ∈ tb := tb_8 (i := 98) (by decide +kernel) rfl
theorem k_RX12_162 : Cond.fieldLink RX12 162 RX12 "keyFrom" "[I" ∈ tb := tb_8 (i := 99) (by decide +kernel) rfl
theorem k_RX12_165 : Cond.fieldLink RX12 165 RX12 "keySize" "[I" ∈ tb := tb_8 (i := 100) (by decide +kernel) rfl
theorem k_RX12_168 : Cond.fieldLink RX12 168 RX12 "markPage" "[I" ∈ tb := tb_8 (i := 101) (by decide +kernel) rfl
theorem k_RX12_171 : Cond.fieldLink RX12 171 RX12 "markLine" "[I" ∈ tb := tb_8 (i := 102) (by decide +kernel) rfl
theorem k_RX12_174 : Cond.fieldLink RX12 174 RX12 "marks" "[I" ∈ tb := tb_8 (i := 103) (by decide +kernel) rfl
theorem k_RX12_177 : Cond.fieldLink RX12 177 RX12 "number" "[I" ∈ tb := tb_8 (i := 105) (by decide +kernel) rfl
theorem k_RX12_180 : Cond.fieldLink RX12 180 RX12 "refNow" "[B" ∈ tb := tb_8 (i := 106) (by decide +kernel) rfl
theorem k_RX12_183 : Cond.fieldLink RX12 183 RX12 "noteFrom" "[I" ∈ tb := tb_8 (i := 110) (by decide +kernel) rfl
theorem k_RX12_186 : Cond.fieldLink RX12 186 RX12 "noteTo" "[I" ∈ tb := tb_8 (i := 111) (by decide +kernel) rfl
theorem k_RX12_189 : Cond.fieldLink RX12 189 RX12 "noteLineFrom" "[I" ∈ tb := tb_8 (i := 112) (by decide +kernel) rfl
theorem k_RX12_192 : Cond.fieldLink RX12 192 RX12 "noteLineTo" "[I" ∈ tb := tb_8 (i := 113) (by decide +kernel) rfl
theorem k_RX12_195 : Cond.fieldLink RX12 195 RX12 "waitKind" "[I" ∈ tb := tb_8 (i := 114) (by decide +kernel) rfl
theorem k_RX12_198 : Cond.fieldLink RX12 198 RX12 "waitWhich" "[I" ∈ tb := tb_8 (i := 115) (by decide +kernel) rfl
theorem k_RX12_201 : Cond.fieldLink RX12 201 RX12 "waitAt" "[I" ∈ tb := tb_8 (i := 116) (by decide +kernel) rfl
theorem k_RX12_204 : Cond.fieldLink RX12 204 RX12 "ls" "[B" ∈ tb := tb_8 (i := 119) (by decide +kernel) rfl
theorem k_RX12_207 : Cond.fieldLink RX12 207 RX12 "ly" "[B" ∈ tb := tb_8 (i := 120) (by decide +kernel) rfl
theorem k_RX12_210 : Cond.fieldLink RX12 210 RX12 "lineFrom" "[I" ∈ tb := tb_8 (i := 123) (by decide +kernel) rfl
theorem k_RX12_213 : Cond.fieldLink RX12 213 RX12 "lineSize" "[I" ∈ tb := tb_8 (i := 124) (by decide +kernel) rfl
theorem k_RX12_216 : Cond.fieldLink RX12 216 RX12 "lineOrigin" "[I" ∈ tb := tb_8 (i := 125) (by decide +kernel) rfl
theorem k_RX12_219 : Cond.fieldLink RX12 219 RX12 "linePut" "[Z" ∈ tb := tb_8 (i := 126) (by decide +kernel) rfl
theorem k_RX12_222 : Cond.fieldLink RX12 222 RX12 "lineEnds" "[Z" ∈ tb := tb_8 (i := 127) (by decide +kernel) rfl
theorem k_RX12_225 : Cond.fieldLink RX12 225 RX12 "lineA" "[I" ∈ tb := tb_8 (i := 128) (by decide +kernel) rfl
theorem k_RX12_228 : Cond.fieldLink RX12 228 RX12 "lineB" "[I" ∈ tb := tb_8 (i := 129) (by decide +kernel) rfl
theorem k_RX12_231 : Cond.fieldLink RX12 231 RX12 "lineNoteFrom" "[I" ∈ tb := tb_8 (i := 130) (by decide +kernel) rfl
theorem k_RX12_234 : Cond.fieldLink RX12 234 RX12 "lineNoteTo" "[I" ∈ tb := tb_8 (i := 131) (by decide +kernel) rfl
theorem k_RX12_237 : Cond.fieldLink RX12 237 RX12 "linePage" "[I" ∈ tb := tb_8 (i := 132) (by decide +kernel) rfl
theorem k_RX12_240 : Cond.fieldLink RX12 240 RX12 "elKind" "[B" ∈ tb := tb_8 (i := 133) (by decide +kernel) rfl
theorem k_RX12_243 : Cond.fieldLink RX12 243 RX12 "elLine" "[I" ∈ tb := tb_8 (i := 134) (by decide +kernel) rfl
theorem k_RX12_247 : Cond.fieldLink RX12 247 RX12 "pg" "[B" ∈ tb := tb_8 (i := 139) (by decide +kernel) rfl
theorem k_RX12_246 : Cond.constant RX12 246 (80000) ∈ tb := tb_8 (i := 19) (by decide +kernel) rfl
theorem k_RX12_250 : Cond.fieldLink RX12 250 RX12 "py" "[B" ∈ tb := tb_8 (i := 140) (by decide +kernel) rfl
theorem k_RX12_253 : Cond.fieldLink RX12 253 RX12 "proofFrom" "[I" ∈ tb := tb_8 (i := 141) (by decide +kernel) rfl
theorem k_RX12_256 : Cond.fieldLink RX12 256 RX12 "proofSize" "[I" ∈ tb := tb_8 (i := 142) (by decide +kernel) rfl
theorem k_RX12_259 : Cond.fieldLink RX12 259 RX12 "proofOrigin" "[I" ∈ tb := tb_8 (i := 143) (by decide +kernel) rfl
theorem k_RX12_262 : Cond.fieldLink RX12 262 RX12 "proofPut" "[Z" ∈ tb := tb_8 (i := 144) (by decide +kernel) rfl
theorem k_RX12_265 : Cond.fieldLink RX12 265 RX12 "pageAt" "[I" ∈ tb := tb_8 (i := 145) (by decide +kernel) rfl
theorem k_RX12_274 : Cond.fieldLink RX12 274 RX12 "kept" "[B" ∈ tb := tb_8 (i := 155) (by decide +kernel) rfl
theorem k_RX12_277 : Cond.fieldLink RX12 277 RX12 "keptFrom" "[I" ∈ tb := tb_8 (i := 156) (by decide +kernel) rfl
theorem k_RX12_280 : Cond.fieldLink RX12 280 RX12 "keptSize" "[I" ∈ tb := tb_8 (i := 157) (by decide +kernel) rfl
theorem k_RX12_283 : Cond.fieldLink RX12 283 RX12 "idA" "[I" ∈ tb := tb_8 (i := 159) (by decide +kernel) rfl
theorem k_RX12_286 : Cond.fieldLink RX12 286 RX12 "idB" "[I" ∈ tb := tb_8 (i := 160) (by decide +kernel) rfl
theorem k_RX12_289 : Cond.fieldLink RX12 289 RX12 "rowA" "[I" ∈ tb := tb_8 (i := 161) (by decide +kernel) rfl
theorem k_RX12_292 : Cond.fieldLink RX12 292 RX12 "rowB" "[I" ∈ tb := tb_8 (i := 162) (by decide +kernel) rfl
theorem k_RX12_295 : Cond.fieldLink RX12 295 RX12 "answer" "[B" ∈ tb := tb_8 (i := 163) (by decide +kernel) rfl
theorem k_RX12_298 : Cond.fieldLink RX12 298 RX12 "small" "[B" ∈ tb := tb_8 (i := 165) (by decide +kernel) rfl
theorem k_RX12_301 : Cond.fieldLink RX12 301 RX12 "line" "[B" ∈ tb := tb_8 (i := 167) (by decide +kernel) rfl
theorem k_RX12_304 : Cond.fieldLink RX12 304 RX12 "lineStyle" "[B" ∈ tb := tb_8 (i := 168) (by decide +kernel) rfl
theorem k_RX12_307 : Cond.fieldLink RX12 307 RX12 "cost" "[I" ∈ tb := tb_8 (i := 172) (by decide +kernel) rfl
theorem k_RX12_310 : Cond.fieldLink RX12 310 RX12 "endAt" "[I" ∈ tb := tb_8 (i := 173) (by decide +kernel) rfl
theorem k_RX12_313 : Cond.fieldLink RX12 313 RX12 "cellAt" "[I" ∈ tb := tb_8 (i := 174) (by decide +kernel) rfl
theorem k_RX12_316 : Cond.fieldLink RX12 316 RX12 "cellEnd" "[I" ∈ tb := tb_8 (i := 175) (by decide +kernel) rfl
theorem k_RX12_319 : Cond.fieldLink RX12 319 RX12 "cellFirst" "[I" ∈ tb := tb_8 (i := 176) (by decide +kernel) rfl
theorem k_RX12_322 : Cond.fieldLink RX12 322 RX12 "align" "[I" ∈ tb := tb_8 (i := 177) (by decide +kernel) rfl
theorem k_RX12_325 : Cond.fieldLink RX12 325 RX12 "broad" "[I" ∈ tb := tb_8 (i := 178) (by decide +kernel) rfl
theorem k_RX12_328 : Cond.fieldLink RX12 328 RX12 "cursor" "[I" ∈ tb := tb_8 (i := 179) (by decide +kernel) rfl
theorem k_RX12_331 : Cond.fieldLink RX12 331 RX12 "levels" "[I" ∈ tb := tb_8 (i := 180) (by decide +kernel) rfl
theorem k_RX12_334 : Cond.fieldLink RX12 334 RX12 "listCount" "[I" ∈ tb := tb_8 (i := 181) (by decide +kernel) rfl
theorem k_RX12_337 : Cond.fieldLink RX12 337 RX12 "aheadSign" "[B" ∈ tb := tb_8 (i := 185) (by decide +kernel) rfl
abbrev cX12_settings : ByteArray := prog_14_method_3_code
def yX12_settings : MethodName := ⟨RX12, "settings", "()V"⟩
theorem wcX12_settings : Cond.code yX12_settings cX12_settings 1 none ∈ tb := tb_8 (i := 23) rfl rfl
theorem wnX12_settings : Cond.instanceMethod yX12_settings ∈ tb := tb_8 (i := 22) (by decide +kernel) rfl
theorem wlX12_settings : Cond.selects RX12 yX12_settings yX12_settings ∈ tb := tb_s (i := 75) (by decide +kernel) rfl
theorem YX12_settings : Yv yX12_settings cX12_settings 1 none 0 := ⟨wcX12_settings, wlX12_settings, wnX12_settings, wi_12, by decide +kernel, by decide +kernel, by decide +kernel⟩
theorem dX12_settings_0 : decode cX12_settings 0 = .ok (.aload_n 0, 1) := by decide +kernel
theorem dX12_settings_1 : decode cX12_settings 1 = .ok (.getfield 98, 3) := by decide +kernel
theorem dX12_settings_4 : decode cX12_settings 4 = .ok (.iconst 0, 1) := by decide +kernel
theorem dX12_settings_5 : decode cX12_settings 5 = .ok (.bipush 40, 2) := by decide +kernel
theorem dX12_settings_7 : decode cX12_settings 7 = .ok (.iastore, 1) := by decide +kernel
theorem dX12_settings_8 : decode cX12_settings 8 = .ok (.aload_n 0, 1) := by decide +kernel
theorem dX12_settings_9 : decode cX12_settings 9 = .ok (.getfield 98, 3) := by decide +kernel
theorem dX12_settings_12 : decode cX12_settings 12 = .ok (.iconst 1, 1) := by decide +kernel
theorem dX12_settings_13 : decode cX12_settings 13 = .ok (.iconst 2, 1) := by decide +kernel
theorem dX12_settings_14 : decode cX12_settings 14 = .ok (.iastore, 1) := by decide +kernel
theorem dX12_settings_15 : decode cX12_settings 15 = .ok (.aload_n 0, 1) := by decide +kernel
theorem dX12_settings_16 : decode cX12_settings 16 = .ok (.getfield 98, 3) := by decide +kernel
theorem dX12_settings_19 : decode cX12_settings 19 = .ok (.iconst 2, 1) := by decide +kernel
theorem dX12_settings_20 : decode cX12_settings 20 = .ok (.iconst 3, 1) := by decide +kernel
theorem dX12_settings_21 : decode cX12_settings 21 = .ok (.iastore, 1) := by decide +kernel
theorem dX12_settings_22 : decode cX12_settings 22 = .ok (.aload_n 0, 1) := by decide +kernel
theorem dX12_settings_23 : decode cX12_settings 23 = .ok (.getfield 98, 3) := by decide +kernel
theorem dX12_settings_26 : decode cX12_settings 26 = .ok (.iconst 3, 1) := by decide +kernel
theorem dX12_settings_27 : decode cX12_settings 27 = .ok (.iconst 1, 1) := by decide +kernel
theorem dX12_settings_28 : decode cX12_settings 28 = .ok (.iastore, 1) := by decide +kernel
theorem dX12_settings_29 : decode cX12_settings 29 = .ok (.aload_n 0, 1) := by decide +kernel
theorem dX12_settings_30 : decode cX12_settings 30 = .ok (.getfield 98, 3) := by decide +kernel
theorem dX12_settings_33 : decode cX12_settings 33 = .ok (.iconst 4, 1) := by decide +kernel
theorem dX12_settings_34 : decode cX12_settings 34 = .ok (.iconst 2, 1) := by decide +kernel
theorem dX12_settings_35 : decode cX12_settings 35 = .ok (.iastore, 1) := by decide +kernel
theorem dX12_settings_36 : decode cX12_settings 36 = .ok (.aload_n 0, 1) := by decide +kernel
theorem dX12_settings_37 : decode cX12_settings 37 = .ok (.getfield 98, 3) := by decide +kernel
theorem dX12_settings_40 : decode cX12_settings 40 = .ok (.iconst 5, 1) := by decide +kernel
theorem dX12_settings_41 : decode cX12_settings 41 = .ok (.iconst 2, 1) := by decide +kernel
theorem dX12_settings_42 : decode cX12_settings 42 = .ok (.iastore, 1) := by decide +kernel
theorem dX12_settings_43 : decode cX12_settings 43 = .ok (.aload_n 0, 1) := by decide +kernel
theorem dX12_settings_44 : decode cX12_settings 44 = .ok (.getfield 98, 3) := by decide +kernel
theorem dX12_settings_47 : decode cX12_settings 47 = .ok (.bipush 6, 2) := by decide +kernel
theorem dX12_settings_49 : decode cX12_settings 49 = .ok (.iconst 0, 1) := by decide +kernel
theorem dX12_settings_50 : decode cX12_settings 50 = .ok (.iastore, 1) := by decide +kernel
theorem dX12_settings_51 : decode cX12_settings 51 = .ok (.aload_n 0, 1) := by decide +kernel
theorem dX12_settings_52 : decode cX12_settings 52 = .ok (.getfield 98, 3) := by decide +kernel
theorem dX12_settings_55 : decode cX12_settings 55 = .ok (.bipush 7, 2) := by decide +kernel
theorem dX12_settings_57 : decode cX12_settings 57 = .ok (.iconst 2, 1) := by decide +kernel
theorem dX12_settings_58 : decode cX12_settings 58 = .ok (.iastore, 1) := by decide +kernel
theorem dX12_settings_59 : decode cX12_settings 59 = .ok (.aload_n 0, 1) := by decide +kernel
theorem dX12_settings_60 : decode cX12_settings 60 = .ok (.getfield 98, 3) := by decide +kernel
theorem dX12_settings_63 : decode cX12_settings 63 = .ok (.bipush 8, 2) := by decide +kernel
theorem dX12_settings_65 : decode cX12_settings 65 = .ok (.iconst 1, 1) := by decide +kernel
theorem dX12_settings_66 : decode cX12_settings 66 = .ok (.iastore, 1) := by decide +kernel
theorem dX12_settings_67 : decode cX12_settings 67 = .ok (.aload_n 0, 1) := by decide +kernel
theorem dX12_settings_68 : decode cX12_settings 68 = .ok (.getfield 98, 3) := by decide +kernel
theorem dX12_settings_71 : decode cX12_settings 71 = .ok (.bipush 9, 2) := by decide +kernel
theorem dX12_settings_73 : decode cX12_settings 73 = .ok (.bipush 24, 2) := by decide +kernel
theorem dX12_settings_75 : decode cX12_settings 75 = .ok (.iastore, 1) := by decide +kernel
theorem dX12_settings_76 : decode cX12_settings 76 = .ok (.aload_n 0, 1) := by decide +kernel
theorem dX12_settings_77 : decode cX12_settings 77 = .ok (.getfield 98, 3) := by decide +kernel
theorem dX12_settings_80 : decode cX12_settings 80 = .ok (.bipush 10, 2) := by decide +kernel
theorem dX12_settings_82 : decode cX12_settings 82 = .ok (.iconst 0, 1) := by decide +kernel
theorem dX12_settings_83 : decode cX12_settings 83 = .ok (.iastore, 1) := by decide +kernel
theorem dX12_settings_84 : decode cX12_settings 84 = .ok (.aload_n 0, 1) := by decide +kernel
theorem dX12_settings_85 : decode cX12_settings 85 = .ok (.getfield 98, 3) := by decide +kernel
theorem dX12_settings_88 : decode cX12_settings 88 = .ok (.bipush 11, 2) := by decide +kernel
theorem dX12_settings_90 : decode cX12_settings 90 = .ok (.iconst 1, 1) := by decide +kernel
theorem dX12_settings_91 : decode cX12_settings 91 = .ok (.iastore, 1) := by decide +kernel
theorem dX12_settings_92 : decode cX12_settings 92 = .ok (.aload_n 0, 1) := by decide +kernel
theorem dX12_settings_93 : decode cX12_settings 93 = .ok (.getfield 98, 3) := by decide +kernel
theorem dX12_settings_96 : decode cX12_settings 96 = .ok (.bipush 12, 2) := by decide +kernel
theorem dX12_settings_98 : decode cX12_settings 98 = .ok (.iconst 1, 1) := by decide +kernel
theorem dX12_settings_99 : decode cX12_settings 99 = .ok (.iastore, 1) := by decide +kernel
theorem dX12_settings_100 : decode cX12_settings 100 = .ok (.return_, 1) := by decide +kernel
theorem k_RX12_1 : Cond.methodLink RX12 1 ⟨"java/lang/Object", "<init>", "()V"⟩ ∈ tb := tb_8 (i := 16) (by decide +kernel) rfl
theorem k_RX12_101 : Cond.fieldLink RX12 101 RX12 "lastFirst" "I" ∈ tb := tb_8 (i := 75) (by decide +kernel) rfl
theorem k_RX12_105 : Cond.fieldLink RX12 105 RX12 "lastSystem" "I" ∈ tb := tb_8 (i := 76) (by decide +kernel) rfl
theorem k_RX12_268 : Cond.fieldLink RX12 268 RX12 "proofFirst" "I" ∈ tb := tb_8 (i := 153) (by decide +kernel) rfl
theorem k_RX12_271 : Cond.fieldLink RX12 271 RX12 "proofSystem" "I" ∈ tb := tb_8 (i := 154) (by decide +kernel) rfl
theorem k_RX12_340 : Cond.methodLink RX12 340 yX12_settings ∈ tb := tb_8 (i := 20) (by decide +kernel) rfl
theorem k_RX12_343 : Cond.fieldLink RX12 343 RX12 "lastHigh" "I" ∈ tb := tb_8 (i := 74) (by decide +kernel) rfl
theorem k_RX12_346 : Cond.fieldLink RX12 346 RX12 "lastWide" "I" ∈ tb := tb_8 (i := 77) (by decide +kernel) rfl
set_option maxHeartbeats 4000000 in
set_option maxRecDepth 100000 in
theorem ct_X12_settings (l : Launch) (D : va_G) (G : Nat → ClassId) (t : Nat → Nat) (N : Nat) (ad : Nat → Nat) (cl : Nat → va_E) (o : Nat) (v : Nat → Int32) (lw : Int64) (a : Nat → Nat → Int32) (M : MW G N ad cl o v lw a) (d : Nat) : CtV l yX12_settings cX12_settings 1 (rmD d 0 0) D G t (N, ad, cl) [.ref (ad o)] (fun u => ∃ cl', u = (N, ad, cl') ∧ (∀ z, z < o ∨ o + 105 ≤ z → cl' z = cl z) ∧ MW G N ad cl' o (v) lw (va_up a 28 (upd (upd (upd (upd (upd (upd (upd (upd (upd (upd (upd (upd (upd (a 28) 0 (40)) 1 (2)) 2 (3)) 3 (1)) 4 (2)) 5 (2)) 6 (0)) 7 (2)) 8 (1)) 9 (24)) 10 (0)) 11 (1)) 12 (1)))) := by
  refine ct_V (own := RX12) (by decide +kernel) rfl (Nat.le_of_ble_eq_true rfl) rfl ?_
  intro p e s m args below meth c A ls X hr hin hl w
  obtain ⟨hx, hb, hml, hown, hts, -⟩ := id X
  have hl : lv_has ls 1 [(0, .ref (ad (o)))] := hl
  have hf : ∀ z, z < o ∨ o + 105 ≤ z → cl z = cl z := fun _ _ => rfl
  refine lv_aload_n hx hb dX12_settings_0 rfl (lv_at hl 0 rfl) ?_
  refine m_geta X w M rfl 49 (by decide) (j := 28) rfl rfl k_RX12_98 dX12_settings_1 ?_
  refine lv_iconst (v := 0) hx hb dX12_settings_4 (by decide) ?_
  refine lv_bipush (v := 40) hx hb dX12_settings_5 (by decide) ?_
  refine m_ist X w M 28 (by decide) rfl (x := 0) (by unfold vp_in; decide) (i := 0) (rfl) dX12_settings_7 (fun H locs cl1 w M fz => ?_)
  have hf : ∀ z, z < o ∨ o + 105 ≤ z → cl1 z = cl z := fun z hz => (fz z (by omega)).trans (hf z hz)
  refine lv_aload_n hx hb dX12_settings_8 rfl (lv_at hl 0 rfl) ?_
  refine m_geta X w M rfl 49 (by decide) (j := 28) rfl rfl k_RX12_98 dX12_settings_9 ?_
  refine lv_iconst (v := 1) hx hb dX12_settings_12 (by decide) ?_
  refine lv_iconst (v := 2) hx hb dX12_settings_13 (by decide) ?_
  refine m_ist X w M 28 (by decide) rfl (x := 1) (by unfold vp_in; decide) (i := 1) (rfl) dX12_settings_14 (fun H locs cl2 w M fz => ?_)
  have hf : ∀ z, z < o ∨ o + 105 ≤ z → cl2 z = cl z := fun z hz => (fz z (by omega)).trans (hf z hz)
  refine lv_aload_n hx hb dX12_settings_15 rfl (lv_at hl 0 rfl) ?_
  refine m_geta X w M rfl 49 (by decide) (j := 28) rfl rfl k_RX12_98 dX12_settings_16 ?_
  refine lv_iconst (v := 2) hx hb dX12_settings_19 (by decide) ?_
  refine lv_iconst (v := 3) hx hb dX12_settings_20 (by decide) ?_
  refine m_ist X w M 28 (by decide) rfl (x := 2) (by unfold vp_in; decide) (i := 2) (rfl) dX12_settings_21 (fun H locs cl3 w M fz => ?_)
  have hf : ∀ z, z < o ∨ o + 105 ≤ z → cl3 z = cl z := fun z hz => (fz z (by omega)).trans (hf z hz)
  refine lv_aload_n hx hb dX12_settings_22 rfl (lv_at hl 0 rfl) ?_
  refine m_geta X w M rfl 49 (by decide) (j := 28) rfl rfl k_RX12_98 dX12_settings_23 ?_
  refine lv_iconst (v := 3) hx hb dX12_settings_26 (by decide) ?_
  refine lv_iconst (v := 1) hx hb dX12_settings_27 (by decide) ?_
  refine m_ist X w M 28 (by decide) rfl (x := 3) (by unfold vp_in; decide) (i := 3) (rfl) dX12_settings_28 (fun H locs cl4 w M fz => ?_)
  have hf : ∀ z, z < o ∨ o + 105 ≤ z → cl4 z = cl z := fun z hz => (fz z (by omega)).trans (hf z hz)
  refine lv_aload_n hx hb dX12_settings_29 rfl (lv_at hl 0 rfl) ?_
  refine m_geta X w M rfl 49 (by decide) (j := 28) rfl rfl k_RX12_98 dX12_settings_30 ?_
  refine lv_iconst (v := 4) hx hb dX12_settings_33 (by decide) ?_
  refine lv_iconst (v := 2) hx hb dX12_settings_34 (by decide) ?_
  refine m_ist X w M 28 (by decide) rfl (x := 4) (by unfold vp_in; decide) (i := 4) (rfl) dX12_settings_35 (fun H locs cl5 w M fz => ?_)
  have hf : ∀ z, z < o ∨ o + 105 ≤ z → cl5 z = cl z := fun z hz => (fz z (by omega)).trans (hf z hz)
  refine lv_aload_n hx hb dX12_settings_36 rfl (lv_at hl 0 rfl) ?_
  refine m_geta X w M rfl 49 (by decide) (j := 28) rfl rfl k_RX12_98 dX12_settings_37 ?_
  refine lv_iconst (v := 5) hx hb dX12_settings_40 (by decide) ?_
  refine lv_iconst (v := 2) hx hb dX12_settings_41 (by decide) ?_
  refine m_ist X w M 28 (by decide) rfl (x := 5) (by unfold vp_in; decide) (i := 5) (rfl) dX12_settings_42 (fun H locs cl6 w M fz => ?_)
  have hf : ∀ z, z < o ∨ o + 105 ≤ z → cl6 z = cl z := fun z hz => (fz z (by omega)).trans (hf z hz)
  refine lv_aload_n hx hb dX12_settings_43 rfl (lv_at hl 0 rfl) ?_
  refine m_geta X w M rfl 49 (by decide) (j := 28) rfl rfl k_RX12_98 dX12_settings_44 ?_
  refine lv_bipush (v := 6) hx hb dX12_settings_47 (by decide) ?_
  refine lv_iconst (v := 0) hx hb dX12_settings_49 (by decide) ?_
  refine m_ist X w M 28 (by decide) rfl (x := 6) (by unfold vp_in; decide) (i := 6) (rfl) dX12_settings_50 (fun H locs cl7 w M fz => ?_)
  have hf : ∀ z, z < o ∨ o + 105 ≤ z → cl7 z = cl z := fun z hz => (fz z (by omega)).trans (hf z hz)
  refine lv_aload_n hx hb dX12_settings_51 rfl (lv_at hl 0 rfl) ?_
  refine m_geta X w M rfl 49 (by decide) (j := 28) rfl rfl k_RX12_98 dX12_settings_52 ?_
  refine lv_bipush (v := 7) hx hb dX12_settings_55 (by decide) ?_
  refine lv_iconst (v := 2) hx hb dX12_settings_57 (by decide) ?_
  refine m_ist X w M 28 (by decide) rfl (x := 7) (by unfold vp_in; decide) (i := 7) (rfl) dX12_settings_58 (fun H locs cl8 w M fz => ?_)
  have hf : ∀ z, z < o ∨ o + 105 ≤ z → cl8 z = cl z := fun z hz => (fz z (by omega)).trans (hf z hz)
  refine lv_aload_n hx hb dX12_settings_59 rfl (lv_at hl 0 rfl) ?_
  refine m_geta X w M rfl 49 (by decide) (j := 28) rfl rfl k_RX12_98 dX12_settings_60 ?_
  refine lv_bipush (v := 8) hx hb dX12_settings_63 (by decide) ?_
  refine lv_iconst (v := 1) hx hb dX12_settings_65 (by decide) ?_
  refine m_ist X w M 28 (by decide) rfl (x := 8) (by unfold vp_in; decide) (i := 8) (rfl) dX12_settings_66 (fun H locs cl9 w M fz => ?_)
  have hf : ∀ z, z < o ∨ o + 105 ≤ z → cl9 z = cl z := fun z hz => (fz z (by omega)).trans (hf z hz)
  refine lv_aload_n hx hb dX12_settings_67 rfl (lv_at hl 0 rfl) ?_
  refine m_geta X w M rfl 49 (by decide) (j := 28) rfl rfl k_RX12_98 dX12_settings_68 ?_
  refine lv_bipush (v := 9) hx hb dX12_settings_71 (by decide) ?_
  refine lv_bipush (v := 24) hx hb dX12_settings_73 (by decide) ?_
  refine m_ist X w M 28 (by decide) rfl (x := 9) (by unfold vp_in; decide) (i := 9) (rfl) dX12_settings_75 (fun H locs cl10 w M fz => ?_)
  have hf : ∀ z, z < o ∨ o + 105 ≤ z → cl10 z = cl z := fun z hz => (fz z (by omega)).trans (hf z hz)
  refine lv_aload_n hx hb dX12_settings_76 rfl (lv_at hl 0 rfl) ?_
  refine m_geta X w M rfl 49 (by decide) (j := 28) rfl rfl k_RX12_98 dX12_settings_77 ?_
  refine lv_bipush (v := 10) hx hb dX12_settings_80 (by decide) ?_
  refine lv_iconst (v := 0) hx hb dX12_settings_82 (by decide) ?_
  refine m_ist X w M 28 (by decide) rfl (x := 10) (by unfold vp_in; decide) (i := 10) (rfl) dX12_settings_83 (fun H locs cl11 w M fz => ?_)
  have hf : ∀ z, z < o ∨ o + 105 ≤ z → cl11 z = cl z := fun z hz => (fz z (by omega)).trans (hf z hz)
  refine lv_aload_n hx hb dX12_settings_84 rfl (lv_at hl 0 rfl) ?_
  refine m_geta X w M rfl 49 (by decide) (j := 28) rfl rfl k_RX12_98 dX12_settings_85 ?_
  refine lv_bipush (v := 11) hx hb dX12_settings_88 (by decide) ?_
  refine lv_iconst (v := 1) hx hb dX12_settings_90 (by decide) ?_
  refine m_ist X w M 28 (by decide) rfl (x := 11) (by unfold vp_in; decide) (i := 11) (rfl) dX12_settings_91 (fun H locs cl12 w M fz => ?_)
  have hf : ∀ z, z < o ∨ o + 105 ≤ z → cl12 z = cl z := fun z hz => (fz z (by omega)).trans (hf z hz)
  refine lv_aload_n hx hb dX12_settings_92 rfl (lv_at hl 0 rfl) ?_
  refine m_geta X w M rfl 49 (by decide) (j := 28) rfl rfl k_RX12_98 dX12_settings_93 ?_
  refine lv_bipush (v := 12) hx hb dX12_settings_96 (by decide) ?_
  refine lv_iconst (v := 1) hx hb dX12_settings_98 (by decide) ?_
  refine m_ist X w M 28 (by decide) rfl (x := 12) (by unfold vp_in; decide) (i := 12) (rfl) dX12_settings_99 (fun H locs cl13 w M fz => ?_)
  have hf : ∀ z, z < o ∨ o + 105 ≤ z → cl13 z = cl z := fun z hz => (fz z (by omega)).trans (hf z hz)
  refine e_V X hr w ⟨cl13, rfl, hf, ?_⟩ (Nat.zero_le _) (Nat.zero_le _) dX12_settings_100
  simp only [va_up_self, bx_uu] at M
  exact M
def vM1 : Nat → Int32 := va_up (va_up (va_up (va_up (va_up (va_up (v0M) 52 1) 53 1) 130 1) 131 1) 50 24) 54 40
def aM1 : Nat → Nat → Int32 := va_up (fun _ _ => 0) 28 (upd (upd (upd (upd (upd (upd (upd (upd (upd (upd (upd (upd (upd (fun _ => 0) 0 (40)) 1 (2)) 2 (3)) 3 (1)) 4 (2)) 5 (2)) 6 (0)) 7 (2)) 8 (1)) 9 (24)) 10 (0)) 11 (1)) 12 (1))
set_option maxHeartbeats 4000000 in
set_option maxRecDepth 100000 in
theorem cn_12 (l : Launch) (D : va_G) (G : Nat → ClassId) (t : Nat → Nat) (N : Nat) (ad : Nat → Nat) (cl : Nat → va_E) (o : Nat) (hiN : o + 1 = N) (hc0 : cl o = .inr (12, fsOf (mfldJ (fun _ => 0) 0 v0M 0 0))) (d : Nat) (hd : 2 ≤ d) : CtV l yX12_init cX12_init 1 (rmD d 104 1601497) D G t (N, ad, cl) [.ref (ad o)] (fun u => ∃ ad' cl', u = (o + 105, ad', cl') ∧ (∀ k, k < o + 1 → ad' k = ad k) ∧ (∀ k, k < o → cl' k = cl k) ∧ MW G (o + 105) ad' cl' o vM1 0 aM1) := by
  subst hiN
  refine ct_V (own := RX12) (by decide +kernel) rfl (Nat.le_of_ble_eq_true rfl) rfl ?_
  intro p e s m args below meth c A ls X hr hin hl w
  obtain ⟨hx, hb, hml, hown, hts, -⟩ := id X
  have hl : lv_has ls 1 [(0, .ref (ad (o)))] := hl
  have I0 : IM G ad cl o 0 v0M ad cl := ⟨by rw [hc0, mf_blank (ad := ad) (o := o)], fun i hi => absurd hi (Nat.not_lt_zero i), fun _ _ => rfl, fun _ _ => rfl⟩
  refine lv_aload_n hx hb dX12_init_0 rfl (lv_at hl 0 rfl) ?_
  refine g_oinit X hl.1 k_RX12_1 dX12_init_1 (by decide) ⟨by show 1 ≤ d; omega, rm_loc (by omega) (by decide)⟩ ?_
  refine lv_aload_n hx hb dX12_init_4 rfl (lv_at hl 0 rfl) ?_
  refine lv_sipush (v := 4000) hx hb dX12_init_5 (by decide) ?_
  refine m_step (j := 0) (n := 4000) X hin w I0 1 rfl wa_B rfl rfl (fun _ h => by cases h) (fun _ => rfl) rfl (by decide) (by decide) (by decide) (by show _ ≤ 104; omega) (by show _ ≤ 1601497; omega) 1 (by decide) rfl rfl k_RX12_7 rfl (fun _ => rfl) (fun _ => rfl) dX12_init_8 dX12_init_10 (fun H locs ad1 cl1 w I0 => ?_)
  refine lv_aload_n hx hb dX12_init_13 rfl (lv_at hl 0 rfl) ?_
  refine lv_sipush (v := 4000) hx hb dX12_init_14 (by decide) ?_
  refine m_step (j := 1) (n := 4000) X hin w I0 1 rfl wa_B rfl rfl (fun _ h => by cases h) (fun _ => rfl) rfl (by decide) (by decide) (by decide) (by show _ ≤ 104; omega) (by show _ ≤ 1601497; omega) 2 (by decide) rfl rfl k_RX12_13 rfl (fun _ => rfl) (fun _ => rfl) dX12_init_17 dX12_init_19 (fun H locs ad2 cl2 w I0 => ?_)
  refine lv_aload_n hx hb dX12_init_22 rfl (lv_at hl 0 rfl) ?_
  refine lv_sipush (v := 4100) hx hb dX12_init_23 (by decide) ?_
  refine m_step (j := 2) (n := 4100) X hin w I0 1 rfl wa_B rfl rfl (fun _ h => by cases h) (fun _ => rfl) rfl (by decide) (by decide) (by decide) (by show _ ≤ 104; omega) (by show _ ≤ 1601497; omega) 3 (by decide) rfl rfl k_RX12_16 rfl (fun _ => rfl) (fun _ => rfl) dX12_init_26 dX12_init_28 (fun H locs ad3 cl3 w I0 => ?_)
  refine lv_aload_n hx hb dX12_init_31 rfl (lv_at hl 0 rfl) ?_
  refine lv_sipush (v := 24000) hx hb dX12_init_32 (by decide) ?_
  refine m_step (j := 3) (n := 24000) X hin w I0 1 rfl wa_B rfl rfl (fun _ h => by cases h) (fun _ => rfl) rfl (by decide) (by decide) (by decide) (by show _ ≤ 104; omega) (by show _ ≤ 1601497; omega) 4 (by decide) rfl rfl k_RX12_19 rfl (fun _ => rfl) (fun _ => rfl) dX12_init_35 dX12_init_37 (fun H locs ad4 cl4 w I0 => ?_)
  refine lv_aload_n hx hb dX12_init_40 rfl (lv_at hl 0 rfl) ?_
  refine lv_bipush (v := 6) hx hb dX12_init_41 (by decide) ?_
  refine m_step (j := 4) (n := 6) X hin w I0 0 rfl wa_I rfl rfl (fun _ h => by cases h) (fun _ => rfl) rfl (by decide) (by decide) (by decide) (by show _ ≤ 104; omega) (by show _ ≤ 1601497; omega) 5 (by decide) rfl rfl k_RX12_22 rfl (fun _ => rfl) (fun _ => rfl) dX12_init_43 dX12_init_45 (fun H locs ad5 cl5 w I0 => ?_)
  refine lv_aload_n hx hb dX12_init_48 rfl (lv_at hl 0 rfl) ?_
  refine lv_sipush (v := 8100) hx hb dX12_init_49 (by decide) ?_
  refine m_step (j := 5) (n := 8100) X hin w I0 1 rfl wa_B rfl rfl (fun _ h => by cases h) (fun _ => rfl) rfl (by decide) (by decide) (by decide) (by show _ ≤ 104; omega) (by show _ ≤ 1601497; omega) 9 (by decide) rfl rfl k_RX12_26 rfl (fun _ => rfl) (fun _ => rfl) dX12_init_52 dX12_init_54 (fun H locs ad6 cl6 w I0 => ?_)
  refine lv_aload_n hx hb dX12_init_57 rfl (lv_at hl 0 rfl) ?_
  refine lv_sipush (v := 4002) hx hb dX12_init_58 (by decide) ?_
  refine m_step (j := 6) (n := 4002) X hin w I0 0 rfl wa_I rfl rfl (fun _ h => by cases h) (fun _ => rfl) rfl (by decide) (by decide) (by decide) (by show _ ≤ 104; omega) (by show _ ≤ 1601497; omega) 11 (by decide) rfl rfl k_RX12_29 rfl (fun _ => rfl) (fun _ => rfl) dX12_init_61 dX12_init_63 (fun H locs ad7 cl7 w I0 => ?_)
  refine lv_aload_n hx hb dX12_init_66 rfl (lv_at hl 0 rfl) ?_
  refine lv_ldc hx hb hown (hts _ k_RX12_32) dX12_init_67 ?_
  refine m_step (j := 7) (n := 140000) X hin w I0 1 rfl wa_B rfl rfl (fun _ h => by cases h) (fun _ => rfl) rfl (by decide) (by decide) (by decide) (by show _ ≤ 104; omega) (by show _ ≤ 1601497; omega) 13 (by decide) rfl rfl k_RX12_33 rfl (fun _ => rfl) (fun _ => rfl) dX12_init_69 dX12_init_71 (fun H locs ad8 cl8 w I0 => ?_)
  refine lv_aload_n hx hb dX12_init_74 rfl (lv_at hl 0 rfl) ?_
  refine lv_ldc hx hb hown (hts _ k_RX12_32) dX12_init_75 ?_
  refine m_step (j := 8) (n := 140000) X hin w I0 1 rfl wa_B rfl rfl (fun _ h => by cases h) (fun _ => rfl) rfl (by decide) (by decide) (by decide) (by show _ ≤ 104; omega) (by show _ ≤ 1601497; omega) 14 (by decide) rfl rfl k_RX12_36 rfl (fun _ => rfl) (fun _ => rfl) dX12_init_77 dX12_init_79 (fun H locs ad9 cl9 w I0 => ?_)
  refine lv_aload_n hx hb dX12_init_82 rfl (lv_at hl 0 rfl) ?_
  refine lv_ldc hx hb hown (hts _ k_RX12_32) dX12_init_83 ?_
  refine m_step (j := 9) (n := 140000) X hin w I0 1 rfl wa_B rfl rfl (fun _ h => by cases h) (fun _ => rfl) rfl (by decide) (by decide) (by decide) (by show _ ≤ 104; omega) (by show _ ≤ 1601497; omega) 15 (by decide) rfl rfl k_RX12_39 rfl (fun _ => rfl) (fun _ => rfl) dX12_init_85 dX12_init_87 (fun H locs ad10 cl10 w I0 => ?_)
  refine lv_aload_n hx hb dX12_init_90 rfl (lv_at hl 0 rfl) ?_
  refine lv_ldc hx hb hown (hts _ k_RX12_42) dX12_init_91 ?_
  refine m_step (j := 10) (n := 70000) X hin w I0 1 rfl wa_B rfl rfl (fun _ h => by cases h) (fun _ => rfl) rfl (by decide) (by decide) (by decide) (by show _ ≤ 104; omega) (by show _ ≤ 1601497; omega) 19 (by decide) rfl rfl k_RX12_43 rfl (fun _ => rfl) (fun _ => rfl) dX12_init_93 dX12_init_95 (fun H locs ad11 cl11 w I0 => ?_)
  refine lv_aload_n hx hb dX12_init_98 rfl (lv_at hl 0 rfl) ?_
  refine lv_ldc hx hb hown (hts _ k_RX12_42) dX12_init_99 ?_
  refine m_step (j := 11) (n := 70000) X hin w I0 1 rfl wa_B rfl rfl (fun _ h => by cases h) (fun _ => rfl) rfl (by decide) (by decide) (by decide) (by show _ ≤ 104; omega) (by show _ ≤ 1601497; omega) 20 (by decide) rfl rfl k_RX12_46 rfl (fun _ => rfl) (fun _ => rfl) dX12_init_101 dX12_init_103 (fun H locs ad12 cl12 w I0 => ?_)
  refine lv_aload_n hx hb dX12_init_106 rfl (lv_at hl 0 rfl) ?_
  refine lv_sipush (v := 400) hx hb dX12_init_107 (by decide) ?_
  refine m_step (j := 12) (n := 400) X hin w I0 0 rfl wa_I rfl rfl (fun _ h => by cases h) (fun _ => rfl) rfl (by decide) (by decide) (by decide) (by show _ ≤ 104; omega) (by show _ ≤ 1601497; omega) 23 (by decide) rfl rfl k_RX12_49 rfl (fun _ => rfl) (fun _ => rfl) dX12_init_110 dX12_init_112 (fun H locs ad13 cl13 w I0 => ?_)
  refine lv_aload_n hx hb dX12_init_115 rfl (lv_at hl 0 rfl) ?_
  refine lv_sipush (v := 400) hx hb dX12_init_116 (by decide) ?_
  refine m_step (j := 13) (n := 400) X hin w I0 0 rfl wa_I rfl rfl (fun _ h => by cases h) (fun _ => rfl) rfl (by decide) (by decide) (by decide) (by show _ ≤ 104; omega) (by show _ ≤ 1601497; omega) 24 (by decide) rfl rfl k_RX12_52 rfl (fun _ => rfl) (fun _ => rfl) dX12_init_119 dX12_init_121 (fun H locs ad14 cl14 w I0 => ?_)
  refine lv_aload_n hx hb dX12_init_124 rfl (lv_at hl 0 rfl) ?_
  refine lv_sipush (v := 400) hx hb dX12_init_125 (by decide) ?_
  refine m_step (j := 14) (n := 400) X hin w I0 0 rfl wa_I rfl rfl (fun _ h => by cases h) (fun _ => rfl) rfl (by decide) (by decide) (by decide) (by show _ ≤ 104; omega) (by show _ ≤ 1601497; omega) 25 (by decide) rfl rfl k_RX12_55 rfl (fun _ => rfl) (fun _ => rfl) dX12_init_128 dX12_init_130 (fun H locs ad15 cl15 w I0 => ?_)
  refine lv_aload_n hx hb dX12_init_133 rfl (lv_at hl 0 rfl) ?_
  refine lv_sipush (v := 400) hx hb dX12_init_134 (by decide) ?_
  refine m_step (j := 15) (n := 400) X hin w I0 0 rfl wa_I rfl rfl (fun _ h => by cases h) (fun _ => rfl) rfl (by decide) (by decide) (by decide) (by show _ ≤ 104; omega) (by show _ ≤ 1601497; omega) 26 (by decide) rfl rfl k_RX12_58 rfl (fun _ => rfl) (fun _ => rfl) dX12_init_137 dX12_init_139 (fun H locs ad16 cl16 w I0 => ?_)
  refine lv_aload_n hx hb dX12_init_142 rfl (lv_at hl 0 rfl) ?_
  refine lv_bipush (v := 40) hx hb dX12_init_143 (by decide) ?_
  refine m_step (j := 16) (n := 40) X hin w I0 0 rfl wa_I rfl rfl (fun _ h => by cases h) (fun _ => rfl) rfl (by decide) (by decide) (by decide) (by show _ ≤ 104; omega) (by show _ ≤ 1601497; omega) 27 (by decide) rfl rfl k_RX12_61 rfl (fun _ => rfl) (fun _ => rfl) dX12_init_145 dX12_init_147 (fun H locs ad17 cl17 w I0 => ?_)
  refine lv_aload_n hx hb dX12_init_150 rfl (lv_at hl 0 rfl) ?_
  refine lv_sipush (v := 480) hx hb dX12_init_151 (by decide) ?_
  refine m_step (j := 17) (n := 480) X hin w I0 1 rfl wa_B rfl rfl (fun _ h => by cases h) (fun _ => rfl) rfl (by decide) (by decide) (by decide) (by show _ ≤ 104; omega) (by show _ ≤ 1601497; omega) 35 (by decide) rfl rfl k_RX12_64 rfl (fun _ => rfl) (fun _ => rfl) dX12_init_154 dX12_init_156 (fun H locs ad18 cl18 w I0 => ?_)
  refine lv_aload_n hx hb dX12_init_159 rfl (lv_at hl 0 rfl) ?_
  refine lv_bipush (v := 40) hx hb dX12_init_160 (by decide) ?_
  refine m_step (j := 18) (n := 40) X hin w I0 0 rfl wa_I rfl rfl (fun _ h => by cases h) (fun _ => rfl) rfl (by decide) (by decide) (by decide) (by show _ ≤ 104; omega) (by show _ ≤ 1601497; omega) 36 (by decide) rfl rfl k_RX12_67 rfl (fun _ => rfl) (fun _ => rfl) dX12_init_162 dX12_init_164 (fun H locs ad19 cl19 w I0 => ?_)
  refine lv_aload_n hx hb dX12_init_167 rfl (lv_at hl 0 rfl) ?_
  refine lv_bipush (v := 40) hx hb dX12_init_168 (by decide) ?_
  refine m_step (j := 19) (n := 40) X hin w I0 0 rfl wa_I rfl rfl (fun _ h => by cases h) (fun _ => rfl) rfl (by decide) (by decide) (by decide) (by show _ ≤ 104; omega) (by show _ ≤ 1601497; omega) 37 (by decide) rfl rfl k_RX12_70 rfl (fun _ => rfl) (fun _ => rfl) dX12_init_170 dX12_init_172 (fun H locs ad20 cl20 w I0 => ?_)
  refine lv_aload_n hx hb dX12_init_175 rfl (lv_at hl 0 rfl) ?_
  refine lv_bipush (v := 40) hx hb dX12_init_176 (by decide) ?_
  refine m_step (j := 20) (n := 40) X hin w I0 0 rfl wa_I rfl rfl (fun _ h => by cases h) (fun _ => rfl) rfl (by decide) (by decide) (by decide) (by show _ ≤ 104; omega) (by show _ ≤ 1601497; omega) 38 (by decide) rfl rfl k_RX12_73 rfl (fun _ => rfl) (fun _ => rfl) dX12_init_178 dX12_init_180 (fun H locs ad21 cl21 w I0 => ?_)
  refine lv_aload_n hx hb dX12_init_183 rfl (lv_at hl 0 rfl) ?_
  refine lv_bipush (v := 40) hx hb dX12_init_184 (by decide) ?_
  refine m_step (j := 21) (n := 40) X hin w I0 0 rfl wa_I rfl rfl (fun _ h => by cases h) (fun _ => rfl) rfl (by decide) (by decide) (by decide) (by show _ ≤ 104; omega) (by show _ ≤ 1601497; omega) 39 (by decide) rfl rfl k_RX12_76 rfl (fun _ => rfl) (fun _ => rfl) dX12_init_186 dX12_init_188 (fun H locs ad22 cl22 w I0 => ?_)
  refine lv_aload_n hx hb dX12_init_191 rfl (lv_at hl 0 rfl) ?_
  refine lv_sipush (v := 1920) hx hb dX12_init_192 (by decide) ?_
  refine m_step (j := 22) (n := 1920) X hin w I0 1 rfl wa_B rfl rfl (fun _ h => by cases h) (fun _ => rfl) rfl (by decide) (by decide) (by decide) (by show _ ≤ 104; omega) (by show _ ≤ 1601497; omega) 40 (by decide) rfl rfl k_RX12_79 rfl (fun _ => rfl) (fun _ => rfl) dX12_init_195 dX12_init_197 (fun H locs ad23 cl23 w I0 => ?_)
  refine lv_aload_n hx hb dX12_init_200 rfl (lv_at hl 0 rfl) ?_
  refine lv_sipush (v := 2040) hx hb dX12_init_201 (by decide) ?_
  refine m_step (j := 23) (n := 2040) X hin w I0 1 rfl wa_B rfl rfl (fun _ h => by cases h) (fun _ => rfl) rfl (by decide) (by decide) (by decide) (by show _ ≤ 104; omega) (by show _ ≤ 1601497; omega) 41 (by decide) rfl rfl k_RX12_82 rfl (fun _ => rfl) (fun _ => rfl) dX12_init_204 dX12_init_206 (fun H locs ad24 cl24 w I0 => ?_)
  refine lv_aload_n hx hb dX12_init_209 rfl (lv_at hl 0 rfl) ?_
  refine lv_bipush (v := 120) hx hb dX12_init_210 (by decide) ?_
  refine m_step (j := 24) (n := 120) X hin w I0 0 rfl wa_I rfl rfl (fun _ h => by cases h) (fun _ => rfl) rfl (by decide) (by decide) (by decide) (by show _ ≤ 104; omega) (by show _ ≤ 1601497; omega) 42 (by decide) rfl rfl k_RX12_85 rfl (fun _ => rfl) (fun _ => rfl) dX12_init_212 dX12_init_214 (fun H locs ad25 cl25 w I0 => ?_)
  refine lv_aload_n hx hb dX12_init_217 rfl (lv_at hl 0 rfl) ?_
  refine lv_sipush (v := 1440) hx hb dX12_init_218 (by decide) ?_
  refine m_step (j := 25) (n := 1440) X hin w I0 1 rfl wa_B rfl rfl (fun _ h => by cases h) (fun _ => rfl) rfl (by decide) (by decide) (by decide) (by show _ ≤ 104; omega) (by show _ ≤ 1601497; omega) 43 (by decide) rfl rfl k_RX12_88 rfl (fun _ => rfl) (fun _ => rfl) dX12_init_221 dX12_init_223 (fun H locs ad26 cl26 w I0 => ?_)
  refine lv_aload_n hx hb dX12_init_226 rfl (lv_at hl 0 rfl) ?_
  refine lv_sipush (v := 1500) hx hb dX12_init_227 (by decide) ?_
  refine m_step (j := 26) (n := 1500) X hin w I0 2 rfl wa_Z rfl rfl (fun _ h => by cases h) (fun _ => rfl) rfl (by decide) (by decide) (by decide) (by show _ ≤ 104; omega) (by show _ ≤ 1601497; omega) 44 (by decide) rfl rfl k_RX12_91 rfl (fun _ => rfl) (fun _ => rfl) dX12_init_230 dX12_init_232 (fun H locs ad27 cl27 w I0 => ?_)
  refine lv_aload_n hx hb dX12_init_235 rfl (lv_at hl 0 rfl) ?_
  refine lv_bipush (v := 60) hx hb dX12_init_236 (by decide) ?_
  refine m_step (j := 27) (n := 60) X hin w I0 0 rfl wa_I rfl rfl (fun _ h => by cases h) (fun _ => rfl) rfl (by decide) (by decide) (by decide) (by show _ ≤ 104; omega) (by show _ ≤ 1601497; omega) 45 (by decide) rfl rfl k_RX12_95 rfl (fun _ => rfl) (fun _ => rfl) dX12_init_238 dX12_init_240 (fun H locs ad28 cl28 w I0 => ?_)
  refine lv_aload_n hx hb dX12_init_243 rfl (lv_at hl 0 rfl) ?_
  refine lv_bipush (v := 13) hx hb dX12_init_244 (by decide) ?_
  refine m_step (j := 28) (n := 13) X hin w I0 0 rfl wa_I rfl rfl (fun _ h => by cases h) (fun _ => rfl) rfl (by decide) (by decide) (by decide) (by show _ ≤ 104; omega) (by show _ ≤ 1601497; omega) 49 (by decide) rfl rfl k_RX12_98 rfl (fun _ => rfl) (fun _ => rfl) dX12_init_246 dX12_init_248 (fun H locs ad29 cl29 w I0 => ?_)
  refine lv_aload_n hx hb dX12_init_251 rfl (lv_at hl 0 rfl) ?_
  refine lv_iconst (v := 1) hx hb dX12_init_252 (by decide) ?_
  refine m_stepi (j := 29) X w I0 52 (by decide) rfl (by decide) rfl k_RX12_101 rfl rfl rfl dX12_init_253 (fun H locs cx1 w I0 => ?_)
  refine lv_aload_n hx hb dX12_init_256 rfl (lv_at hl 0 rfl) ?_
  refine lv_iconst (v := 1) hx hb dX12_init_257 (by decide) ?_
  refine m_stepi (j := 29) X w I0 53 (by decide) rfl (by decide) rfl k_RX12_105 rfl rfl rfl dX12_init_258 (fun H locs cx2 w I0 => ?_)
  refine lv_aload_n hx hb dX12_init_261 rfl (lv_at hl 0 rfl) ?_
  refine lv_sipush (v := 240) hx hb dX12_init_262 (by decide) ?_
  refine m_step (j := 29) (n := 240) X hin w I0 1 rfl wa_B rfl rfl (fun _ h => by cases h) (fun _ => rfl) rfl (by decide) (by decide) (by decide) (by show _ ≤ 104; omega) (by show _ ≤ 1601497; omega) 55 (by decide) rfl rfl k_RX12_108 rfl (fun _ => rfl) (fun _ => rfl) dX12_init_265 dX12_init_267 (fun H locs ad30 cl30 w I0 => ?_)
  refine lv_aload_n hx hb dX12_init_270 rfl (lv_at hl 0 rfl) ?_
  refine lv_bipush (v := 20) hx hb dX12_init_271 (by decide) ?_
  refine m_step (j := 30) (n := 20) X hin w I0 0 rfl wa_I rfl rfl (fun _ h => by cases h) (fun _ => rfl) rfl (by decide) (by decide) (by decide) (by show _ ≤ 104; omega) (by show _ ≤ 1601497; omega) 56 (by decide) rfl rfl k_RX12_111 rfl (fun _ => rfl) (fun _ => rfl) dX12_init_273 dX12_init_275 (fun H locs ad31 cl31 w I0 => ?_)
  refine lv_aload_n hx hb dX12_init_278 rfl (lv_at hl 0 rfl) ?_
  refine lv_bipush (v := 20) hx hb dX12_init_279 (by decide) ?_
  refine m_step (j := 31) (n := 20) X hin w I0 0 rfl wa_I rfl rfl (fun _ h => by cases h) (fun _ => rfl) rfl (by decide) (by decide) (by decide) (by show _ ≤ 104; omega) (by show _ ≤ 1601497; omega) 57 (by decide) rfl rfl k_RX12_114 rfl (fun _ => rfl) (fun _ => rfl) dX12_init_281 dX12_init_283 (fun H locs ad32 cl32 w I0 => ?_)
  refine lv_aload_n hx hb dX12_init_286 rfl (lv_at hl 0 rfl) ?_
  refine lv_sipush (v := 1440) hx hb dX12_init_287 (by decide) ?_
  refine m_step (j := 32) (n := 1440) X hin w I0 1 rfl wa_B rfl rfl (fun _ h => by cases h) (fun _ => rfl) rfl (by decide) (by decide) (by decide) (by show _ ≤ 104; omega) (by show _ ≤ 1601497; omega) 60 (by decide) rfl rfl k_RX12_117 rfl (fun _ => rfl) (fun _ => rfl) dX12_init_290 dX12_init_292 (fun H locs ad33 cl33 w I0 => ?_)
  refine lv_aload_n hx hb dX12_init_295 rfl (lv_at hl 0 rfl) ?_
  refine lv_bipush (v := 120) hx hb dX12_init_296 (by decide) ?_
  refine m_step (j := 33) (n := 120) X hin w I0 0 rfl wa_I rfl rfl (fun _ h => by cases h) (fun _ => rfl) rfl (by decide) (by decide) (by decide) (by show _ ≤ 104; omega) (by show _ ≤ 1601497; omega) 61 (by decide) rfl rfl k_RX12_120 rfl (fun _ => rfl) (fun _ => rfl) dX12_init_298 dX12_init_300 (fun H locs ad34 cl34 w I0 => ?_)
  refine lv_aload_n hx hb dX12_init_303 rfl (lv_at hl 0 rfl) ?_
  refine lv_sipush (v := 3840) hx hb dX12_init_304 (by decide) ?_
  refine m_step (j := 34) (n := 3840) X hin w I0 1 rfl wa_B rfl rfl (fun _ h => by cases h) (fun _ => rfl) rfl (by decide) (by decide) (by decide) (by show _ ≤ 104; omega) (by show _ ≤ 1601497; omega) 62 (by decide) rfl rfl k_RX12_123 rfl (fun _ => rfl) (fun _ => rfl) dX12_init_307 dX12_init_309 (fun H locs ad35 cl35 w I0 => ?_)
  refine lv_aload_n hx hb dX12_init_312 rfl (lv_at hl 0 rfl) ?_
  refine lv_bipush (v := 120) hx hb dX12_init_313 (by decide) ?_
  refine m_step (j := 35) (n := 120) X hin w I0 0 rfl wa_I rfl rfl (fun _ h => by cases h) (fun _ => rfl) rfl (by decide) (by decide) (by decide) (by show _ ≤ 104; omega) (by show _ ≤ 1601497; omega) 63 (by decide) rfl rfl k_RX12_126 rfl (fun _ => rfl) (fun _ => rfl) dX12_init_315 dX12_init_317 (fun H locs ad36 cl36 w I0 => ?_)
  refine lv_aload_n hx hb dX12_init_320 rfl (lv_at hl 0 rfl) ?_
  refine lv_bipush (v := 120) hx hb dX12_init_321 (by decide) ?_
  refine m_step (j := 36) (n := 120) X hin w I0 0 rfl wa_I rfl rfl (fun _ h => by cases h) (fun _ => rfl) rfl (by decide) (by decide) (by decide) (by show _ ≤ 104; omega) (by show _ ≤ 1601497; omega) 64 (by decide) rfl rfl k_RX12_129 rfl (fun _ => rfl) (fun _ => rfl) dX12_init_323 dX12_init_325 (fun H locs ad37 cl37 w I0 => ?_)
  refine lv_aload_n hx hb dX12_init_328 rfl (lv_at hl 0 rfl) ?_
  refine lv_bipush (v := 60) hx hb dX12_init_329 (by decide) ?_
  refine m_step (j := 37) (n := 60) X hin w I0 0 rfl wa_I rfl rfl (fun _ h => by cases h) (fun _ => rfl) rfl (by decide) (by decide) (by decide) (by show _ ≤ 104; omega) (by show _ ≤ 1601497; omega) 65 (by decide) rfl rfl k_RX12_132 rfl (fun _ => rfl) (fun _ => rfl) dX12_init_331 dX12_init_333 (fun H locs ad38 cl38 w I0 => ?_)
  refine lv_aload_n hx hb dX12_init_336 rfl (lv_at hl 0 rfl) ?_
  refine lv_iconst (v := 2) hx hb dX12_init_337 (by decide) ?_
  refine m_step (j := 38) (n := 2) X hin w I0 0 rfl wa_I rfl rfl (fun _ h => by cases h) (fun _ => rfl) rfl (by decide) (by decide) (by decide) (by show _ ≤ 104; omega) (by show _ ≤ 1601497; omega) 66 (by decide) rfl rfl k_RX12_135 rfl (fun _ => rfl) (fun _ => rfl) dX12_init_338 dX12_init_340 (fun H locs ad39 cl39 w I0 => ?_)
  refine lv_aload_n hx hb dX12_init_343 rfl (lv_at hl 0 rfl) ?_
  refine lv_ldc hx hb hown (hts _ k_RX12_32) dX12_init_344 ?_
  refine m_step (j := 39) (n := 140000) X hin w I0 1 rfl wa_B rfl rfl (fun _ h => by cases h) (fun _ => rfl) rfl (by decide) (by decide) (by decide) (by show _ ≤ 104; omega) (by show _ ≤ 1601497; omega) 67 (by decide) rfl rfl k_RX12_138 rfl (fun _ => rfl) (fun _ => rfl) dX12_init_346 dX12_init_348 (fun H locs ad40 cl40 w I0 => ?_)
  refine lv_aload_n hx hb dX12_init_351 rfl (lv_at hl 0 rfl) ?_
  refine lv_bipush (v := 120) hx hb dX12_init_352 (by decide) ?_
  refine m_step (j := 40) (n := 120) X hin w I0 0 rfl wa_I rfl rfl (fun _ h => by cases h) (fun _ => rfl) rfl (by decide) (by decide) (by decide) (by show _ ≤ 104; omega) (by show _ ≤ 1601497; omega) 68 (by decide) rfl rfl k_RX12_141 rfl (fun _ => rfl) (fun _ => rfl) dX12_init_354 dX12_init_356 (fun H locs ad41 cl41 w I0 => ?_)
  refine lv_aload_n hx hb dX12_init_359 rfl (lv_at hl 0 rfl) ?_
  refine lv_bipush (v := 120) hx hb dX12_init_360 (by decide) ?_
  refine m_step (j := 41) (n := 120) X hin w I0 0 rfl wa_I rfl rfl (fun _ h => by cases h) (fun _ => rfl) rfl (by decide) (by decide) (by decide) (by show _ ≤ 104; omega) (by show _ ≤ 1601497; omega) 69 (by decide) rfl rfl k_RX12_144 rfl (fun _ => rfl) (fun _ => rfl) dX12_init_362 dX12_init_364 (fun H locs ad42 cl42 w I0 => ?_)
  refine lv_aload_n hx hb dX12_init_367 rfl (lv_at hl 0 rfl) ?_
  refine lv_bipush (v := 120) hx hb dX12_init_368 (by decide) ?_
  refine m_step (j := 42) (n := 120) X hin w I0 0 rfl wa_I rfl rfl (fun _ h => by cases h) (fun _ => rfl) rfl (by decide) (by decide) (by decide) (by show _ ≤ 104; omega) (by show _ ≤ 1601497; omega) 70 (by decide) rfl rfl k_RX12_147 rfl (fun _ => rfl) (fun _ => rfl) dX12_init_370 dX12_init_372 (fun H locs ad43 cl43 w I0 => ?_)
  refine lv_aload_n hx hb dX12_init_375 rfl (lv_at hl 0 rfl) ?_
  refine lv_bipush (v := 120) hx hb dX12_init_376 (by decide) ?_
  refine m_step (j := 43) (n := 120) X hin w I0 0 rfl wa_I rfl rfl (fun _ h => by cases h) (fun _ => rfl) rfl (by decide) (by decide) (by decide) (by show _ ≤ 104; omega) (by show _ ≤ 1601497; omega) 71 (by decide) rfl rfl k_RX12_150 rfl (fun _ => rfl) (fun _ => rfl) dX12_init_378 dX12_init_380 (fun H locs ad44 cl44 w I0 => ?_)
  refine lv_aload_n hx hb dX12_init_383 rfl (lv_at hl 0 rfl) ?_
  refine lv_bipush (v := 60) hx hb dX12_init_384 (by decide) ?_
  refine m_step (j := 44) (n := 60) X hin w I0 0 rfl wa_I rfl rfl (fun _ h => by cases h) (fun _ => rfl) rfl (by decide) (by decide) (by decide) (by show _ ≤ 104; omega) (by show _ ≤ 1601497; omega) 72 (by decide) rfl rfl k_RX12_153 rfl (fun _ => rfl) (fun _ => rfl) dX12_init_386 dX12_init_388 (fun H locs ad45 cl45 w I0 => ?_)
  refine lv_aload_n hx hb dX12_init_391 rfl (lv_at hl 0 rfl) ?_
  refine lv_iconst (v := 2) hx hb dX12_init_392 (by decide) ?_
  refine m_step (j := 45) (n := 2) X hin w I0 0 rfl wa_I rfl rfl (fun _ h => by cases h) (fun _ => rfl) rfl (by decide) (by decide) (by decide) (by show _ ≤ 104; omega) (by show _ ≤ 1601497; omega) 73 (by decide) rfl rfl k_RX12_156 rfl (fun _ => rfl) (fun _ => rfl) dX12_init_393 dX12_init_395 (fun H locs ad46 cl46 w I0 => ?_)
  refine lv_aload_n hx hb dX12_init_398 rfl (lv_at hl 0 rfl) ?_
  refine lv_ldc hx hb hown (hts _ k_RX12_32) dX12_init_399 ?_
  refine m_step (j := 46) (n := 140000) X hin w I0 1 rfl wa_B rfl rfl (fun _ h => by cases h) (fun _ => rfl) rfl (by decide) (by decide) (by decide) (by show _ ≤ 104; omega) (by show _ ≤ 1601497; omega) 75 (by decide) rfl rfl k_RX12_159 rfl (fun _ => rfl) (fun _ => rfl) dX12_init_401 dX12_init_403 (fun H locs ad47 cl47 w I0 => ?_)
  refine lv_aload_n hx hb dX12_init_406 rfl (lv_at hl 0 rfl) ?_
  refine lv_sipush (v := 200) hx hb dX12_init_407 (by decide) ?_
  refine m_step (j := 47) (n := 200) X hin w I0 0 rfl wa_I rfl rfl (fun _ h => by cases h) (fun _ => rfl) rfl (by decide) (by decide) (by decide) (by show _ ≤ 104; omega) (by show _ ≤ 1601497; omega) 76 (by decide) rfl rfl k_RX12_162 rfl (fun _ => rfl) (fun _ => rfl) dX12_init_410 dX12_init_412 (fun H locs ad48 cl48 w I0 => ?_)
  refine lv_aload_n hx hb dX12_init_415 rfl (lv_at hl 0 rfl) ?_
  refine lv_sipush (v := 200) hx hb dX12_init_416 (by decide) ?_
  refine m_step (j := 48) (n := 200) X hin w I0 0 rfl wa_I rfl rfl (fun _ h => by cases h) (fun _ => rfl) rfl (by decide) (by decide) (by decide) (by show _ ≤ 104; omega) (by show _ ≤ 1601497; omega) 77 (by decide) rfl rfl k_RX12_165 rfl (fun _ => rfl) (fun _ => rfl) dX12_init_419 dX12_init_421 (fun H locs ad49 cl49 w I0 => ?_)
  refine lv_aload_n hx hb dX12_init_424 rfl (lv_at hl 0 rfl) ?_
  refine lv_sipush (v := 200) hx hb dX12_init_425 (by decide) ?_
  refine m_step (j := 49) (n := 200) X hin w I0 0 rfl wa_I rfl rfl (fun _ h => by cases h) (fun _ => rfl) rfl (by decide) (by decide) (by decide) (by show _ ≤ 104; omega) (by show _ ≤ 1601497; omega) 78 (by decide) rfl rfl k_RX12_168 rfl (fun _ => rfl) (fun _ => rfl) dX12_init_428 dX12_init_430 (fun H locs ad50 cl50 w I0 => ?_)
  refine lv_aload_n hx hb dX12_init_433 rfl (lv_at hl 0 rfl) ?_
  refine lv_bipush (v := 100) hx hb dX12_init_434 (by decide) ?_
  refine m_step (j := 50) (n := 100) X hin w I0 0 rfl wa_I rfl rfl (fun _ h => by cases h) (fun _ => rfl) rfl (by decide) (by decide) (by decide) (by show _ ≤ 104; omega) (by show _ ≤ 1601497; omega) 79 (by decide) rfl rfl k_RX12_171 rfl (fun _ => rfl) (fun _ => rfl) dX12_init_436 dX12_init_438 (fun H locs ad51 cl51 w I0 => ?_)
  refine lv_aload_n hx hb dX12_init_441 rfl (lv_at hl 0 rfl) ?_
  refine lv_iconst (v := 2) hx hb dX12_init_442 (by decide) ?_
  refine m_step (j := 51) (n := 2) X hin w I0 0 rfl wa_I rfl rfl (fun _ h => by cases h) (fun _ => rfl) rfl (by decide) (by decide) (by decide) (by show _ ≤ 104; omega) (by show _ ≤ 1601497; omega) 80 (by decide) rfl rfl k_RX12_174 rfl (fun _ => rfl) (fun _ => rfl) dX12_init_443 dX12_init_445 (fun H locs ad52 cl52 w I0 => ?_)
  refine lv_aload_n hx hb dX12_init_448 rfl (lv_at hl 0 rfl) ?_
  refine lv_iconst (v := 4) hx hb dX12_init_449 (by decide) ?_
  refine m_step (j := 52) (n := 4) X hin w I0 0 rfl wa_I rfl rfl (fun _ h => by cases h) (fun _ => rfl) rfl (by decide) (by decide) (by decide) (by show _ ≤ 104; omega) (by show _ ≤ 1601497; omega) 82 (by decide) rfl rfl k_RX12_177 rfl (fun _ => rfl) (fun _ => rfl) dX12_init_450 dX12_init_452 (fun H locs ad53 cl53 w I0 => ?_)
  refine lv_aload_n hx hb dX12_init_455 rfl (lv_at hl 0 rfl) ?_
  refine lv_bipush (v := 32) hx hb dX12_init_456 (by decide) ?_
  refine m_step (j := 53) (n := 32) X hin w I0 1 rfl wa_B rfl rfl (fun _ h => by cases h) (fun _ => rfl) rfl (by decide) (by decide) (by decide) (by show _ ≤ 104; omega) (by show _ ≤ 1601497; omega) 83 (by decide) rfl rfl k_RX12_180 rfl (fun _ => rfl) (fun _ => rfl) dX12_init_458 dX12_init_460 (fun H locs ad54 cl54 w I0 => ?_)
  refine lv_aload_n hx hb dX12_init_463 rfl (lv_at hl 0 rfl) ?_
  refine lv_bipush (v := 60) hx hb dX12_init_464 (by decide) ?_
  refine m_step (j := 54) (n := 60) X hin w I0 0 rfl wa_I rfl rfl (fun _ h => by cases h) (fun _ => rfl) rfl (by decide) (by decide) (by decide) (by show _ ≤ 104; omega) (by show _ ≤ 1601497; omega) 87 (by decide) rfl rfl k_RX12_183 rfl (fun _ => rfl) (fun _ => rfl) dX12_init_466 dX12_init_468 (fun H locs ad55 cl55 w I0 => ?_)
  refine lv_aload_n hx hb dX12_init_471 rfl (lv_at hl 0 rfl) ?_
  refine lv_bipush (v := 60) hx hb dX12_init_472 (by decide) ?_
  refine m_step (j := 55) (n := 60) X hin w I0 0 rfl wa_I rfl rfl (fun _ h => by cases h) (fun _ => rfl) rfl (by decide) (by decide) (by decide) (by show _ ≤ 104; omega) (by show _ ≤ 1601497; omega) 88 (by decide) rfl rfl k_RX12_186 rfl (fun _ => rfl) (fun _ => rfl) dX12_init_474 dX12_init_476 (fun H locs ad56 cl56 w I0 => ?_)
  refine lv_aload_n hx hb dX12_init_479 rfl (lv_at hl 0 rfl) ?_
  refine lv_bipush (v := 60) hx hb dX12_init_480 (by decide) ?_
  refine m_step (j := 56) (n := 60) X hin w I0 0 rfl wa_I rfl rfl (fun _ h => by cases h) (fun _ => rfl) rfl (by decide) (by decide) (by decide) (by show _ ≤ 104; omega) (by show _ ≤ 1601497; omega) 89 (by decide) rfl rfl k_RX12_189 rfl (fun _ => rfl) (fun _ => rfl) dX12_init_482 dX12_init_484 (fun H locs ad57 cl57 w I0 => ?_)
  refine lv_aload_n hx hb dX12_init_487 rfl (lv_at hl 0 rfl) ?_
  refine lv_bipush (v := 60) hx hb dX12_init_488 (by decide) ?_
  refine m_step (j := 57) (n := 60) X hin w I0 0 rfl wa_I rfl rfl (fun _ h => by cases h) (fun _ => rfl) rfl (by decide) (by decide) (by decide) (by show _ ≤ 104; omega) (by show _ ≤ 1601497; omega) 90 (by decide) rfl rfl k_RX12_192 rfl (fun _ => rfl) (fun _ => rfl) dX12_init_490 dX12_init_492 (fun H locs ad58 cl58 w I0 => ?_)
  refine lv_aload_n hx hb dX12_init_495 rfl (lv_at hl 0 rfl) ?_
  refine lv_sipush (v := 300) hx hb dX12_init_496 (by decide) ?_
  refine m_step (j := 58) (n := 300) X hin w I0 0 rfl wa_I rfl rfl (fun _ h => by cases h) (fun _ => rfl) rfl (by decide) (by decide) (by decide) (by show _ ≤ 104; omega) (by show _ ≤ 1601497; omega) 91 (by decide) rfl rfl k_RX12_195 rfl (fun _ => rfl) (fun _ => rfl) dX12_init_499 dX12_init_501 (fun H locs ad59 cl59 w I0 => ?_)
  refine lv_aload_n hx hb dX12_init_504 rfl (lv_at hl 0 rfl) ?_
  refine lv_sipush (v := 300) hx hb dX12_init_505 (by decide) ?_
  refine m_step (j := 59) (n := 300) X hin w I0 0 rfl wa_I rfl rfl (fun _ h => by cases h) (fun _ => rfl) rfl (by decide) (by decide) (by decide) (by show _ ≤ 104; omega) (by show _ ≤ 1601497; omega) 92 (by decide) rfl rfl k_RX12_198 rfl (fun _ => rfl) (fun _ => rfl) dX12_init_508 dX12_init_510 (fun H locs ad60 cl60 w I0 => ?_)
  refine lv_aload_n hx hb dX12_init_513 rfl (lv_at hl 0 rfl) ?_
  refine lv_sipush (v := 300) hx hb dX12_init_514 (by decide) ?_
  refine m_step (j := 60) (n := 300) X hin w I0 0 rfl wa_I rfl rfl (fun _ h => by cases h) (fun _ => rfl) rfl (by decide) (by decide) (by decide) (by show _ ≤ 104; omega) (by show _ ≤ 1601497; omega) 93 (by decide) rfl rfl k_RX12_201 rfl (fun _ => rfl) (fun _ => rfl) dX12_init_517 dX12_init_519 (fun H locs ad61 cl61 w I0 => ?_)
  refine lv_aload_n hx hb dX12_init_522 rfl (lv_at hl 0 rfl) ?_
  refine lv_ldc hx hb hown (hts _ k_RX12_42) dX12_init_523 ?_
  refine m_step (j := 61) (n := 70000) X hin w I0 1 rfl wa_B rfl rfl (fun _ h => by cases h) (fun _ => rfl) rfl (by decide) (by decide) (by decide) (by show _ ≤ 104; omega) (by show _ ≤ 1601497; omega) 96 (by decide) rfl rfl k_RX12_204 rfl (fun _ => rfl) (fun _ => rfl) dX12_init_525 dX12_init_527 (fun H locs ad62 cl62 w I0 => ?_)
  refine lv_aload_n hx hb dX12_init_530 rfl (lv_at hl 0 rfl) ?_
  refine lv_ldc hx hb hown (hts _ k_RX12_42) dX12_init_531 ?_
  refine m_step (j := 62) (n := 70000) X hin w I0 1 rfl wa_B rfl rfl (fun _ h => by cases h) (fun _ => rfl) rfl (by decide) (by decide) (by decide) (by show _ ≤ 104; omega) (by show _ ≤ 1601497; omega) 97 (by decide) rfl rfl k_RX12_207 rfl (fun _ => rfl) (fun _ => rfl) dX12_init_533 dX12_init_535 (fun H locs ad63 cl63 w I0 => ?_)
  refine lv_aload_n hx hb dX12_init_538 rfl (lv_at hl 0 rfl) ?_
  refine lv_sipush (v := 1501) hx hb dX12_init_539 (by decide) ?_
  refine m_step (j := 63) (n := 1501) X hin w I0 0 rfl wa_I rfl rfl (fun _ h => by cases h) (fun _ => rfl) rfl (by decide) (by decide) (by decide) (by show _ ≤ 104; omega) (by show _ ≤ 1601497; omega) 100 (by decide) rfl rfl k_RX12_210 rfl (fun _ => rfl) (fun _ => rfl) dX12_init_542 dX12_init_544 (fun H locs ad64 cl64 w I0 => ?_)
  refine lv_aload_n hx hb dX12_init_547 rfl (lv_at hl 0 rfl) ?_
  refine lv_sipush (v := 1501) hx hb dX12_init_548 (by decide) ?_
  refine m_step (j := 64) (n := 1501) X hin w I0 0 rfl wa_I rfl rfl (fun _ h => by cases h) (fun _ => rfl) rfl (by decide) (by decide) (by decide) (by show _ ≤ 104; omega) (by show _ ≤ 1601497; omega) 101 (by decide) rfl rfl k_RX12_213 rfl (fun _ => rfl) (fun _ => rfl) dX12_init_551 dX12_init_553 (fun H locs ad65 cl65 w I0 => ?_)
  refine lv_aload_n hx hb dX12_init_556 rfl (lv_at hl 0 rfl) ?_
  refine lv_sipush (v := 1501) hx hb dX12_init_557 (by decide) ?_
  refine m_step (j := 65) (n := 1501) X hin w I0 0 rfl wa_I rfl rfl (fun _ h => by cases h) (fun _ => rfl) rfl (by decide) (by decide) (by decide) (by show _ ≤ 104; omega) (by show _ ≤ 1601497; omega) 102 (by decide) rfl rfl k_RX12_216 rfl (fun _ => rfl) (fun _ => rfl) dX12_init_560 dX12_init_562 (fun H locs ad66 cl66 w I0 => ?_)
  refine lv_aload_n hx hb dX12_init_565 rfl (lv_at hl 0 rfl) ?_
  refine lv_sipush (v := 1501) hx hb dX12_init_566 (by decide) ?_
  refine m_step (j := 66) (n := 1501) X hin w I0 2 rfl wa_Z rfl rfl (fun _ h => by cases h) (fun _ => rfl) rfl (by decide) (by decide) (by decide) (by show _ ≤ 104; omega) (by show _ ≤ 1601497; omega) 103 (by decide) rfl rfl k_RX12_219 rfl (fun _ => rfl) (fun _ => rfl) dX12_init_569 dX12_init_571 (fun H locs ad67 cl67 w I0 => ?_)
  refine lv_aload_n hx hb dX12_init_574 rfl (lv_at hl 0 rfl) ?_
  refine lv_sipush (v := 1501) hx hb dX12_init_575 (by decide) ?_
  refine m_step (j := 67) (n := 1501) X hin w I0 2 rfl wa_Z rfl rfl (fun _ h => by cases h) (fun _ => rfl) rfl (by decide) (by decide) (by decide) (by show _ ≤ 104; omega) (by show _ ≤ 1601497; omega) 104 (by decide) rfl rfl k_RX12_222 rfl (fun _ => rfl) (fun _ => rfl) dX12_init_578 dX12_init_580 (fun H locs ad68 cl68 w I0 => ?_)
  refine lv_aload_n hx hb dX12_init_583 rfl (lv_at hl 0 rfl) ?_
  refine lv_sipush (v := 1501) hx hb dX12_init_584 (by decide) ?_
  refine m_step (j := 68) (n := 1501) X hin w I0 0 rfl wa_I rfl rfl (fun _ h => by cases h) (fun _ => rfl) rfl (by decide) (by decide) (by decide) (by show _ ≤ 104; omega) (by show _ ≤ 1601497; omega) 105 (by decide) rfl rfl k_RX12_225 rfl (fun _ => rfl) (fun _ => rfl) dX12_init_587 dX12_init_589 (fun H locs ad69 cl69 w I0 => ?_)
  refine lv_aload_n hx hb dX12_init_592 rfl (lv_at hl 0 rfl) ?_
  refine lv_sipush (v := 1501) hx hb dX12_init_593 (by decide) ?_
  refine m_step (j := 69) (n := 1501) X hin w I0 0 rfl wa_I rfl rfl (fun _ h => by cases h) (fun _ => rfl) rfl (by decide) (by decide) (by decide) (by show _ ≤ 104; omega) (by show _ ≤ 1601497; omega) 106 (by decide) rfl rfl k_RX12_228 rfl (fun _ => rfl) (fun _ => rfl) dX12_init_596 dX12_init_598 (fun H locs ad70 cl70 w I0 => ?_)
  refine lv_aload_n hx hb dX12_init_601 rfl (lv_at hl 0 rfl) ?_
  refine lv_sipush (v := 1501) hx hb dX12_init_602 (by decide) ?_
  refine m_step (j := 70) (n := 1501) X hin w I0 0 rfl wa_I rfl rfl (fun _ h => by cases h) (fun _ => rfl) rfl (by decide) (by decide) (by decide) (by show _ ≤ 104; omega) (by show _ ≤ 1601497; omega) 107 (by decide) rfl rfl k_RX12_231 rfl (fun _ => rfl) (fun _ => rfl) dX12_init_605 dX12_init_607 (fun H locs ad71 cl71 w I0 => ?_)
  refine lv_aload_n hx hb dX12_init_610 rfl (lv_at hl 0 rfl) ?_
  refine lv_sipush (v := 1501) hx hb dX12_init_611 (by decide) ?_
  refine m_step (j := 71) (n := 1501) X hin w I0 0 rfl wa_I rfl rfl (fun _ h => by cases h) (fun _ => rfl) rfl (by decide) (by decide) (by decide) (by show _ ≤ 104; omega) (by show _ ≤ 1601497; omega) 108 (by decide) rfl rfl k_RX12_234 rfl (fun _ => rfl) (fun _ => rfl) dX12_init_614 dX12_init_616 (fun H locs ad72 cl72 w I0 => ?_)
  refine lv_aload_n hx hb dX12_init_619 rfl (lv_at hl 0 rfl) ?_
  refine lv_sipush (v := 1501) hx hb dX12_init_620 (by decide) ?_
  refine m_step (j := 72) (n := 1501) X hin w I0 0 rfl wa_I rfl rfl (fun _ h => by cases h) (fun _ => rfl) rfl (by decide) (by decide) (by decide) (by show _ ≤ 104; omega) (by show _ ≤ 1601497; omega) 109 (by decide) rfl rfl k_RX12_237 rfl (fun _ => rfl) (fun _ => rfl) dX12_init_623 dX12_init_625 (fun H locs ad73 cl73 w I0 => ?_)
  refine lv_aload_n hx hb dX12_init_628 rfl (lv_at hl 0 rfl) ?_
  refine lv_sipush (v := 8000) hx hb dX12_init_629 (by decide) ?_
  refine m_step (j := 73) (n := 8000) X hin w I0 1 rfl wa_B rfl rfl (fun _ h => by cases h) (fun _ => rfl) rfl (by decide) (by decide) (by decide) (by show _ ≤ 104; omega) (by show _ ≤ 1601497; omega) 110 (by decide) rfl rfl k_RX12_240 rfl (fun _ => rfl) (fun _ => rfl) dX12_init_632 dX12_init_634 (fun H locs ad74 cl74 w I0 => ?_)
  refine lv_aload_n hx hb dX12_init_637 rfl (lv_at hl 0 rfl) ?_
  refine lv_sipush (v := 8000) hx hb dX12_init_638 (by decide) ?_
  refine m_step (j := 74) (n := 8000) X hin w I0 0 rfl wa_I rfl rfl (fun _ h => by cases h) (fun _ => rfl) rfl (by decide) (by decide) (by decide) (by show _ ≤ 104; omega) (by show _ ≤ 1601497; omega) 111 (by decide) rfl rfl k_RX12_243 rfl (fun _ => rfl) (fun _ => rfl) dX12_init_641 dX12_init_643 (fun H locs ad75 cl75 w I0 => ?_)
  refine lv_aload_n hx hb dX12_init_646 rfl (lv_at hl 0 rfl) ?_
  refine lv_ldc hx hb hown (hts _ k_RX12_246) dX12_init_647 ?_
  refine m_step (j := 75) (n := 80000) X hin w I0 1 rfl wa_B rfl rfl (fun _ h => by cases h) (fun _ => rfl) rfl (by decide) (by decide) (by decide) (by show _ ≤ 104; omega) (by show _ ≤ 1601497; omega) 116 (by decide) rfl rfl k_RX12_247 rfl (fun _ => rfl) (fun _ => rfl) dX12_init_649 dX12_init_651 (fun H locs ad76 cl76 w I0 => ?_)
  refine lv_aload_n hx hb dX12_init_654 rfl (lv_at hl 0 rfl) ?_
  refine lv_ldc hx hb hown (hts _ k_RX12_246) dX12_init_655 ?_
  refine m_step (j := 76) (n := 80000) X hin w I0 1 rfl wa_B rfl rfl (fun _ h => by cases h) (fun _ => rfl) rfl (by decide) (by decide) (by decide) (by show _ ≤ 104; omega) (by show _ ≤ 1601497; omega) 117 (by decide) rfl rfl k_RX12_250 rfl (fun _ => rfl) (fun _ => rfl) dX12_init_657 dX12_init_659 (fun H locs ad77 cl77 w I0 => ?_)
  refine lv_aload_n hx hb dX12_init_662 rfl (lv_at hl 0 rfl) ?_
  refine lv_sipush (v := 6100) hx hb dX12_init_663 (by decide) ?_
  refine m_step (j := 77) (n := 6100) X hin w I0 0 rfl wa_I rfl rfl (fun _ h => by cases h) (fun _ => rfl) rfl (by decide) (by decide) (by decide) (by show _ ≤ 104; omega) (by show _ ≤ 1601497; omega) 118 (by decide) rfl rfl k_RX12_253 rfl (fun _ => rfl) (fun _ => rfl) dX12_init_666 dX12_init_668 (fun H locs ad78 cl78 w I0 => ?_)
  refine lv_aload_n hx hb dX12_init_671 rfl (lv_at hl 0 rfl) ?_
  refine lv_sipush (v := 6100) hx hb dX12_init_672 (by decide) ?_
  refine m_step (j := 78) (n := 6100) X hin w I0 0 rfl wa_I rfl rfl (fun _ h => by cases h) (fun _ => rfl) rfl (by decide) (by decide) (by decide) (by show _ ≤ 104; omega) (by show _ ≤ 1601497; omega) 119 (by decide) rfl rfl k_RX12_256 rfl (fun _ => rfl) (fun _ => rfl) dX12_init_675 dX12_init_677 (fun H locs ad79 cl79 w I0 => ?_)
  refine lv_aload_n hx hb dX12_init_680 rfl (lv_at hl 0 rfl) ?_
  refine lv_sipush (v := 6100) hx hb dX12_init_681 (by decide) ?_
  refine m_step (j := 79) (n := 6100) X hin w I0 0 rfl wa_I rfl rfl (fun _ h => by cases h) (fun _ => rfl) rfl (by decide) (by decide) (by decide) (by show _ ≤ 104; omega) (by show _ ≤ 1601497; omega) 120 (by decide) rfl rfl k_RX12_259 rfl (fun _ => rfl) (fun _ => rfl) dX12_init_684 dX12_init_686 (fun H locs ad80 cl80 w I0 => ?_)
  refine lv_aload_n hx hb dX12_init_689 rfl (lv_at hl 0 rfl) ?_
  refine lv_sipush (v := 6100) hx hb dX12_init_690 (by decide) ?_
  refine m_step (j := 80) (n := 6100) X hin w I0 2 rfl wa_Z rfl rfl (fun _ h => by cases h) (fun _ => rfl) rfl (by decide) (by decide) (by decide) (by show _ ≤ 104; omega) (by show _ ≤ 1601497; omega) 121 (by decide) rfl rfl k_RX12_262 rfl (fun _ => rfl) (fun _ => rfl) dX12_init_693 dX12_init_695 (fun H locs ad81 cl81 w I0 => ?_)
  refine lv_aload_n hx hb dX12_init_698 rfl (lv_at hl 0 rfl) ?_
  refine lv_bipush (v := 101) hx hb dX12_init_699 (by decide) ?_
  refine m_step (j := 81) (n := 101) X hin w I0 0 rfl wa_I rfl rfl (fun _ h => by cases h) (fun _ => rfl) rfl (by decide) (by decide) (by decide) (by show _ ≤ 104; omega) (by show _ ≤ 1601497; omega) 122 (by decide) rfl rfl k_RX12_265 rfl (fun _ => rfl) (fun _ => rfl) dX12_init_701 dX12_init_703 (fun H locs ad82 cl82 w I0 => ?_)
  refine lv_aload_n hx hb dX12_init_706 rfl (lv_at hl 0 rfl) ?_
  refine lv_iconst (v := 1) hx hb dX12_init_707 (by decide) ?_
  refine m_stepi (j := 82) X w I0 130 (by decide) rfl (by decide) rfl k_RX12_268 rfl rfl rfl dX12_init_708 (fun H locs cx3 w I0 => ?_)
  refine lv_aload_n hx hb dX12_init_711 rfl (lv_at hl 0 rfl) ?_
  refine lv_iconst (v := 1) hx hb dX12_init_712 (by decide) ?_
  refine m_stepi (j := 82) X w I0 131 (by decide) rfl (by decide) rfl k_RX12_271 rfl rfl rfl dX12_init_713 (fun H locs cx4 w I0 => ?_)
  refine lv_aload_n hx hb dX12_init_716 rfl (lv_at hl 0 rfl) ?_
  refine lv_ldc hx hb hown (hts _ k_RX12_246) dX12_init_717 ?_
  refine m_step (j := 82) (n := 80000) X hin w I0 1 rfl wa_B rfl rfl (fun _ h => by cases h) (fun _ => rfl) rfl (by decide) (by decide) (by decide) (by show _ ≤ 104; omega) (by show _ ≤ 1601497; omega) 132 (by decide) rfl rfl k_RX12_274 rfl (fun _ => rfl) (fun _ => rfl) dX12_init_719 dX12_init_721 (fun H locs ad83 cl83 w I0 => ?_)
  refine lv_aload_n hx hb dX12_init_724 rfl (lv_at hl 0 rfl) ?_
  refine lv_sipush (v := 6100) hx hb dX12_init_725 (by decide) ?_
  refine m_step (j := 83) (n := 6100) X hin w I0 0 rfl wa_I rfl rfl (fun _ h => by cases h) (fun _ => rfl) rfl (by decide) (by decide) (by decide) (by show _ ≤ 104; omega) (by show _ ≤ 1601497; omega) 133 (by decide) rfl rfl k_RX12_277 rfl (fun _ => rfl) (fun _ => rfl) dX12_init_728 dX12_init_730 (fun H locs ad84 cl84 w I0 => ?_)
  refine lv_aload_n hx hb dX12_init_733 rfl (lv_at hl 0 rfl) ?_
  refine lv_sipush (v := 6100) hx hb dX12_init_734 (by decide) ?_
  refine m_step (j := 84) (n := 6100) X hin w I0 0 rfl wa_I rfl rfl (fun _ h => by cases h) (fun _ => rfl) rfl (by decide) (by decide) (by decide) (by show _ ≤ 104; omega) (by show _ ≤ 1601497; omega) 134 (by decide) rfl rfl k_RX12_280 rfl (fun _ => rfl) (fun _ => rfl) dX12_init_737 dX12_init_739 (fun H locs ad85 cl85 w I0 => ?_)
  refine lv_aload_n hx hb dX12_init_742 rfl (lv_at hl 0 rfl) ?_
  refine lv_sipush (v := 6100) hx hb dX12_init_743 (by decide) ?_
  refine m_step (j := 85) (n := 6100) X hin w I0 0 rfl wa_I rfl rfl (fun _ h => by cases h) (fun _ => rfl) rfl (by decide) (by decide) (by decide) (by show _ ≤ 104; omega) (by show _ ≤ 1601497; omega) 136 (by decide) rfl rfl k_RX12_283 rfl (fun _ => rfl) (fun _ => rfl) dX12_init_746 dX12_init_748 (fun H locs ad86 cl86 w I0 => ?_)
  refine lv_aload_n hx hb dX12_init_751 rfl (lv_at hl 0 rfl) ?_
  refine lv_sipush (v := 6100) hx hb dX12_init_752 (by decide) ?_
  refine m_step (j := 86) (n := 6100) X hin w I0 0 rfl wa_I rfl rfl (fun _ h => by cases h) (fun _ => rfl) rfl (by decide) (by decide) (by decide) (by show _ ≤ 104; omega) (by show _ ≤ 1601497; omega) 137 (by decide) rfl rfl k_RX12_286 rfl (fun _ => rfl) (fun _ => rfl) dX12_init_755 dX12_init_757 (fun H locs ad87 cl87 w I0 => ?_)
  refine lv_aload_n hx hb dX12_init_760 rfl (lv_at hl 0 rfl) ?_
  refine lv_sipush (v := 6101) hx hb dX12_init_761 (by decide) ?_
  refine m_step (j := 87) (n := 6101) X hin w I0 0 rfl wa_I rfl rfl (fun _ h => by cases h) (fun _ => rfl) rfl (by decide) (by decide) (by decide) (by show _ ≤ 104; omega) (by show _ ≤ 1601497; omega) 138 (by decide) rfl rfl k_RX12_289 rfl (fun _ => rfl) (fun _ => rfl) dX12_init_764 dX12_init_766 (fun H locs ad88 cl88 w I0 => ?_)
  refine lv_aload_n hx hb dX12_init_769 rfl (lv_at hl 0 rfl) ?_
  refine lv_sipush (v := 6101) hx hb dX12_init_770 (by decide) ?_
  refine m_step (j := 88) (n := 6101) X hin w I0 0 rfl wa_I rfl rfl (fun _ h => by cases h) (fun _ => rfl) rfl (by decide) (by decide) (by decide) (by show _ ≤ 104; omega) (by show _ ≤ 1601497; omega) 139 (by decide) rfl rfl k_RX12_292 rfl (fun _ => rfl) (fun _ => rfl) dX12_init_773 dX12_init_775 (fun H locs ad89 cl89 w I0 => ?_)
  refine lv_aload_n hx hb dX12_init_778 rfl (lv_at hl 0 rfl) ?_
  refine lv_ldc hx hb hown (hts _ k_RX12_42) dX12_init_779 ?_
  refine m_step (j := 89) (n := 70000) X hin w I0 1 rfl wa_B rfl rfl (fun _ h => by cases h) (fun _ => rfl) rfl (by decide) (by decide) (by decide) (by show _ ≤ 104; omega) (by show _ ≤ 1601497; omega) 140 (by decide) rfl rfl k_RX12_295 rfl (fun _ => rfl) (fun _ => rfl) dX12_init_781 dX12_init_783 (fun H locs ad90 cl90 w I0 => ?_)
  refine lv_aload_n hx hb dX12_init_786 rfl (lv_at hl 0 rfl) ?_
  refine lv_bipush (v := 64) hx hb dX12_init_787 (by decide) ?_
  refine m_step (j := 90) (n := 64) X hin w I0 1 rfl wa_B rfl rfl (fun _ h => by cases h) (fun _ => rfl) rfl (by decide) (by decide) (by decide) (by show _ ≤ 104; omega) (by show _ ≤ 1601497; omega) 142 (by decide) rfl rfl k_RX12_298 rfl (fun _ => rfl) (fun _ => rfl) dX12_init_789 dX12_init_791 (fun H locs ad91 cl91 w I0 => ?_)
  refine lv_aload_n hx hb dX12_init_794 rfl (lv_at hl 0 rfl) ?_
  refine lv_sipush (v := 400) hx hb dX12_init_795 (by decide) ?_
  refine m_step (j := 91) (n := 400) X hin w I0 1 rfl wa_B rfl rfl (fun _ h => by cases h) (fun _ => rfl) rfl (by decide) (by decide) (by decide) (by show _ ≤ 104; omega) (by show _ ≤ 1601497; omega) 144 (by decide) rfl rfl k_RX12_301 rfl (fun _ => rfl) (fun _ => rfl) dX12_init_798 dX12_init_800 (fun H locs ad92 cl92 w I0 => ?_)
  refine lv_aload_n hx hb dX12_init_803 rfl (lv_at hl 0 rfl) ?_
  refine lv_sipush (v := 400) hx hb dX12_init_804 (by decide) ?_
  refine m_step (j := 92) (n := 400) X hin w I0 1 rfl wa_B rfl rfl (fun _ h => by cases h) (fun _ => rfl) rfl (by decide) (by decide) (by decide) (by show _ ≤ 104; omega) (by show _ ≤ 1601497; omega) 145 (by decide) rfl rfl k_RX12_304 rfl (fun _ => rfl) (fun _ => rfl) dX12_init_807 dX12_init_809 (fun H locs ad93 cl93 w I0 => ?_)
  refine lv_aload_n hx hb dX12_init_812 rfl (lv_at hl 0 rfl) ?_
  refine lv_ldc hx hb hown (hts _ k_RX12_42) dX12_init_813 ?_
  refine m_step (j := 93) (n := 70000) X hin w I0 0 rfl wa_I rfl rfl (fun _ h => by cases h) (fun _ => rfl) rfl (by decide) (by decide) (by decide) (by show _ ≤ 104; omega) (by show _ ≤ 1601497; omega) 149 (by decide) rfl rfl k_RX12_307 rfl (fun _ => rfl) (fun _ => rfl) dX12_init_815 dX12_init_817 (fun H locs ad94 cl94 w I0 => ?_)
  refine lv_aload_n hx hb dX12_init_820 rfl (lv_at hl 0 rfl) ?_
  refine lv_ldc hx hb hown (hts _ k_RX12_42) dX12_init_821 ?_
  refine m_step (j := 94) (n := 70000) X hin w I0 0 rfl wa_I rfl rfl (fun _ h => by cases h) (fun _ => rfl) rfl (by decide) (by decide) (by decide) (by show _ ≤ 104; omega) (by show _ ≤ 1601497; omega) 150 (by decide) rfl rfl k_RX12_310 rfl (fun _ => rfl) (fun _ => rfl) dX12_init_823 dX12_init_825 (fun H locs ad95 cl95 w I0 => ?_)
  refine lv_aload_n hx hb dX12_init_828 rfl (lv_at hl 0 rfl) ?_
  refine lv_sipush (v := 4200) hx hb dX12_init_829 (by decide) ?_
  refine m_step (j := 95) (n := 4200) X hin w I0 0 rfl wa_I rfl rfl (fun _ h => by cases h) (fun _ => rfl) rfl (by decide) (by decide) (by decide) (by show _ ≤ 104; omega) (by show _ ≤ 1601497; omega) 151 (by decide) rfl rfl k_RX12_313 rfl (fun _ => rfl) (fun _ => rfl) dX12_init_832 dX12_init_834 (fun H locs ad96 cl96 w I0 => ?_)
  refine lv_aload_n hx hb dX12_init_837 rfl (lv_at hl 0 rfl) ?_
  refine lv_sipush (v := 4200) hx hb dX12_init_838 (by decide) ?_
  refine m_step (j := 96) (n := 4200) X hin w I0 0 rfl wa_I rfl rfl (fun _ h => by cases h) (fun _ => rfl) rfl (by decide) (by decide) (by decide) (by show _ ≤ 104; omega) (by show _ ≤ 1601497; omega) 152 (by decide) rfl rfl k_RX12_316 rfl (fun _ => rfl) (fun _ => rfl) dX12_init_841 dX12_init_843 (fun H locs ad97 cl97 w I0 => ?_)
  refine lv_aload_n hx hb dX12_init_846 rfl (lv_at hl 0 rfl) ?_
  refine lv_sipush (v := 4002) hx hb dX12_init_847 (by decide) ?_
  refine m_step (j := 97) (n := 4002) X hin w I0 0 rfl wa_I rfl rfl (fun _ h => by cases h) (fun _ => rfl) rfl (by decide) (by decide) (by decide) (by show _ ≤ 104; omega) (by show _ ≤ 1601497; omega) 153 (by decide) rfl rfl k_RX12_319 rfl (fun _ => rfl) (fun _ => rfl) dX12_init_850 dX12_init_852 (fun H locs ad98 cl98 w I0 => ?_)
  refine lv_aload_n hx hb dX12_init_855 rfl (lv_at hl 0 rfl) ?_
  refine lv_bipush (v := 8) hx hb dX12_init_856 (by decide) ?_
  refine m_step (j := 98) (n := 8) X hin w I0 0 rfl wa_I rfl rfl (fun _ h => by cases h) (fun _ => rfl) rfl (by decide) (by decide) (by decide) (by show _ ≤ 104; omega) (by show _ ≤ 1601497; omega) 154 (by decide) rfl rfl k_RX12_322 rfl (fun _ => rfl) (fun _ => rfl) dX12_init_858 dX12_init_860 (fun H locs ad99 cl99 w I0 => ?_)
  refine lv_aload_n hx hb dX12_init_863 rfl (lv_at hl 0 rfl) ?_
  refine lv_bipush (v := 8) hx hb dX12_init_864 (by decide) ?_
  refine m_step (j := 99) (n := 8) X hin w I0 0 rfl wa_I rfl rfl (fun _ h => by cases h) (fun _ => rfl) rfl (by decide) (by decide) (by decide) (by show _ ≤ 104; omega) (by show _ ≤ 1601497; omega) 155 (by decide) rfl rfl k_RX12_325 rfl (fun _ => rfl) (fun _ => rfl) dX12_init_866 dX12_init_868 (fun H locs ad100 cl100 w I0 => ?_)
  refine lv_aload_n hx hb dX12_init_871 rfl (lv_at hl 0 rfl) ?_
  refine lv_bipush (v := 8) hx hb dX12_init_872 (by decide) ?_
  refine m_step (j := 100) (n := 8) X hin w I0 0 rfl wa_I rfl rfl (fun _ h => by cases h) (fun _ => rfl) rfl (by decide) (by decide) (by decide) (by show _ ≤ 104; omega) (by show _ ≤ 1601497; omega) 156 (by decide) rfl rfl k_RX12_328 rfl (fun _ => rfl) (fun _ => rfl) dX12_init_874 dX12_init_876 (fun H locs ad101 cl101 w I0 => ?_)
  refine lv_aload_n hx hb dX12_init_879 rfl (lv_at hl 0 rfl) ?_
  refine lv_bipush (v := 44) hx hb dX12_init_880 (by decide) ?_
  refine m_step (j := 101) (n := 44) X hin w I0 0 rfl wa_I rfl rfl (fun _ h => by cases h) (fun _ => rfl) rfl (by decide) (by decide) (by decide) (by show _ ≤ 104; omega) (by show _ ≤ 1601497; omega) 157 (by decide) rfl rfl k_RX12_331 rfl (fun _ => rfl) (fun _ => rfl) dX12_init_882 dX12_init_884 (fun H locs ad102 cl102 w I0 => ?_)
  refine lv_aload_n hx hb dX12_init_887 rfl (lv_at hl 0 rfl) ?_
  refine lv_iconst (v := 3) hx hb dX12_init_888 (by decide) ?_
  refine m_step (j := 102) (n := 3) X hin w I0 0 rfl wa_I rfl rfl (fun _ h => by cases h) (fun _ => rfl) rfl (by decide) (by decide) (by decide) (by show _ ≤ 104; omega) (by show _ ≤ 1601497; omega) 158 (by decide) rfl rfl k_RX12_334 rfl (fun _ => rfl) (fun _ => rfl) dX12_init_889 dX12_init_891 (fun H locs ad103 cl103 w I0 => ?_)
  refine lv_aload_n hx hb dX12_init_894 rfl (lv_at hl 0 rfl) ?_
  refine lv_bipush (v := 64) hx hb dX12_init_895 (by decide) ?_
  refine m_step (j := 103) (n := 64) X hin w I0 1 rfl wa_B rfl rfl (fun _ h => by cases h) (fun _ => rfl) rfl (by decide) (by decide) (by decide) (by show _ ≤ 104; omega) (by show _ ≤ 1601497; omega) 162 (by decide) rfl rfl k_RX12_337 rfl (fun _ => rfl) (fun _ => rfl) dX12_init_897 dX12_init_899 (fun H locs ad104 cl104 w I0 => ?_)
  refine lv_aload_n hx hb dX12_init_902 rfl (lv_at hl 0 rfl) ?_
  obtain ⟨i1, i2, i3, i4⟩ := I0
  have M : MW G (o + 105) ad104 cl104 o (va_up (va_up (va_up (va_up (v0M) 52 1) 53 1) 130 1) 131 1) 0 (fun _ _ => 0) := ⟨Nat.le_refl _, i1, i2⟩
  have ao : ad104 o = ad o := i3 o (by omega)
  have w : Wd D A s H locs (o + 105) ad104 cl104 := w
  refine c_V (As := []) (rest := []) X w (ct_X12_settings l D G t (o + 105) ad104 cl104 o _ 0 _ M (d - 1)) YX12_settings k_RX12_340 (o) ao (by omega) M.2.1 kc12 (by rw [ao]) rfl rfl hl.1 (rm_call (by omega) (by decide)) (Nat.le_of_ble_eq_true rfl) dX12_init_903 (⟨by show _ ≤ 104; omega, by show _ ≤ 1601497; omega⟩) (fun u H locs hp w => ?_)
  obtain ⟨cs, rfl, hfs, M⟩ := hp
  have w : Wd D A s H locs (o + 105) ad104 cs := w
  have hf : ∀ z, z < o → cs z = cl z := fun z hz => (hfs z (Or.inl hz)).trans (i4 z hz)
  refine lv_aload_n hx hb dX12_init_906 rfl (lv_at hl 0 rfl) ?_
  refine lv_aload_n hx hb dX12_init_907 rfl (lv_at hl 0 rfl) ?_
  refine m_geta X w M ao 49 (by decide) (j := 28) rfl rfl k_RX12_98 dX12_init_908 ?_
  refine lv_bipush (v := 9) hx hb dX12_init_911 (by decide) ?_
  refine m_ild X w M 28 (by decide) rfl (x := 9) (by unfold vp_in; decide) (y := 24) rfl dX12_init_913 ?_
  refine m_puti X w M ao 50 (by decide) rfl (by decide) rfl k_RX12_343 rfl rfl rfl dX12_init_914 (fun H locs cx5 w M fz => ?_)
  have hf : ∀ z, z < o → cx5 z = cl z := fun z hz => (fz z (by omega)).trans (hf z hz)
  refine lv_aload_n hx hb dX12_init_917 rfl (lv_at hl 0 rfl) ?_
  refine lv_aload_n hx hb dX12_init_918 rfl (lv_at hl 0 rfl) ?_
  refine m_geta X w M ao 49 (by decide) (j := 28) rfl rfl k_RX12_98 dX12_init_919 ?_
  refine lv_iconst (v := 0) hx hb dX12_init_922 (by decide) ?_
  refine m_ild X w M 28 (by decide) rfl (x := 0) (by unfold vp_in; decide) (y := 40) rfl dX12_init_923 ?_
  refine m_puti X w M ao 54 (by decide) rfl (by decide) rfl k_RX12_346 rfl rfl rfl dX12_init_924 (fun H locs cx6 w M fz => ?_)
  have hf : ∀ z, z < o → cx6 z = cl z := fun z hz => (fz z (by omega)).trans (hf z hz)
  exact e_V X hr w ⟨ad104, cx6, rfl, i3, hf, M⟩ (by show _ ≤ 104; omega) (by show _ ≤ 1601497; omega) dX12_init_927
