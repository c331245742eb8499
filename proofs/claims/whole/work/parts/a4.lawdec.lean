theorem d_L_law_0 : decode code 0 = .ok (.new 8, 3) := by decide +kernel
theorem d_L_law_3 : decode code 3 = .ok (.dup, 1) := by decide +kernel
theorem d_L_law_4 : decode code 4 = .ok (.invokespecial 41, 3) := by decide +kernel
theorem d_L_law_7 : decode code 7 = .ok (.astore_n 1, 1) := by decide +kernel
theorem d_L_law_8 : decode code 8 = .ok (.new 42, 3) := by decide +kernel
theorem d_L_law_11 : decode code 11 = .ok (.dup, 1) := by decide +kernel
theorem d_L_law_12 : decode code 12 = .ok (.invokespecial 44, 3) := by decide +kernel
theorem d_L_law_15 : decode code 15 = .ok (.astore_n 2, 1) := by decide +kernel
theorem d_L_law_16 : decode code 16 = .ok (.iconst 1, 1) := by decide +kernel
theorem d_L_law_17 : decode code 17 = .ok (.newarray .long, 2) := by decide +kernel
theorem d_L_law_19 : decode code 19 = .ok (.astore_n 3, 1) := by decide +kernel
theorem d_L_law_20 : decode code 20 = .ok (.iconst 0, 1) := by decide +kernel
theorem d_L_law_21 : decode code 21 = .ok (.istore 4, 2) := by decide +kernel
theorem d_L_law_23 : decode code 23 = .ok (.iload 4, 2) := by decide +kernel
theorem d_L_law_25 : decode code 25 = .ok (.aload_n 0, 1) := by decide +kernel
theorem d_L_law_26 : decode code 26 = .ok (.arraylength, 1) := by decide +kernel
theorem d_L_law_27 : decode code 27 = .ok (.bipush 6, 2) := by decide +kernel
theorem d_L_law_29 : decode code 29 = .ok (.isub, 1) := by decide +kernel
theorem d_L_law_30 : decode code 30 = .ok (.if_icmp .gt 1015, 3) := by decide +kernel
theorem d_L_law_33 : decode code 33 = .ok (.aload_n 0, 1) := by decide +kernel
theorem d_L_law_34 : decode code 34 = .ok (.iload 4, 2) := by decide +kernel
theorem d_L_law_36 : decode code 36 = .ok (.iaload, 1) := by decide +kernel
theorem d_L_law_37 : decode code 37 = .ok (.bipush 15, 2) := by decide +kernel
theorem d_L_law_39 : decode code 39 = .ok (.iand, 1) := by decide +kernel
theorem d_L_law_40 : decode code 40 = .ok (.tableswitch 999 0 10 #[60, 160, 174, 317, 416, 517, 616, 674, 731, 831, 943], 60) := by decide +kernel
theorem d_L_law_100 : decode code 100 = .ok (.aload_n 1, 1) := by decide +kernel
theorem d_L_law_101 : decode code 101 = .ok (.aload_n 0, 1) := by decide +kernel
theorem d_L_law_102 : decode code 102 = .ok (.iload 4, 2) := by decide +kernel
theorem d_L_law_104 : decode code 104 = .ok (.iconst 1, 1) := by decide +kernel
theorem d_L_law_105 : decode code 105 = .ok (.iadd, 1) := by decide +kernel
theorem d_L_law_106 : decode code 106 = .ok (.iaload, 1) := by decide +kernel
theorem d_L_law_107 : decode code 107 = .ok (.i2l, 1) := by decide +kernel
theorem d_L_law_108 : decode code 108 = .ok (.bipush 32, 2) := by decide +kernel
theorem d_L_law_110 : decode code 110 = .ok (.lshl, 1) := by decide +kernel
theorem d_L_law_111 : decode code 111 = .ok (.aload_n 0, 1) := by decide +kernel
theorem d_L_law_112 : decode code 112 = .ok (.iload 4, 2) := by decide +kernel
theorem d_L_law_114 : decode code 114 = .ok (.iconst 2, 1) := by decide +kernel
theorem d_L_law_115 : decode code 115 = .ok (.iadd, 1) := by decide +kernel
theorem d_L_law_116 : decode code 116 = .ok (.iaload, 1) := by decide +kernel
theorem d_L_law_117 : decode code 117 = .ok (.i2l, 1) := by decide +kernel
theorem d_L_law_118 : decode code 118 = .ok (.ldc2_w 45, 3) := by decide +kernel
theorem d_L_law_121 : decode code 121 = .ok (.land, 1) := by decide +kernel
theorem d_L_law_122 : decode code 122 = .ok (.lor, 1) := by decide +kernel
theorem d_L_law_123 : decode code 123 = .ok (.aload_n 0, 1) := by decide +kernel
theorem d_L_law_124 : decode code 124 = .ok (.iload 4, 2) := by decide +kernel
theorem d_L_law_126 : decode code 126 = .ok (.iconst 3, 1) := by decide +kernel
theorem d_L_law_127 : decode code 127 = .ok (.iadd, 1) := by decide +kernel
theorem d_L_law_128 : decode code 128 = .ok (.iaload, 1) := by decide +kernel
theorem d_L_law_129 : decode code 129 = .ok (.aload_n 3, 1) := by decide +kernel
theorem d_L_law_130 : decode code 130 = .ok (.invokestatic 47, 3) := by decide +kernel
theorem d_L_law_133 : decode code 133 = .ok (.istore 5, 2) := by decide +kernel
theorem d_L_law_135 : decode code 135 = .ok (.aload_n 2, 1) := by decide +kernel
theorem d_L_law_136 : decode code 136 = .ok (.aload_n 0, 1) := by decide +kernel
theorem d_L_law_137 : decode code 137 = .ok (.iload 4, 2) := by decide +kernel
theorem d_L_law_139 : decode code 139 = .ok (.iconst 1, 1) := by decide +kernel
theorem d_L_law_140 : decode code 140 = .ok (.iadd, 1) := by decide +kernel
theorem d_L_law_141 : decode code 141 = .ok (.iaload, 1) := by decide +kernel
theorem d_L_law_142 : decode code 142 = .ok (.i2l, 1) := by decide +kernel
theorem d_L_law_143 : decode code 143 = .ok (.bipush 32, 2) := by decide +kernel
theorem d_L_law_145 : decode code 145 = .ok (.lshl, 1) := by decide +kernel
theorem d_L_law_146 : decode code 146 = .ok (.aload_n 0, 1) := by decide +kernel
theorem d_L_law_147 : decode code 147 = .ok (.iload 4, 2) := by decide +kernel
theorem d_L_law_149 : decode code 149 = .ok (.iconst 2, 1) := by decide +kernel
theorem d_L_law_150 : decode code 150 = .ok (.iadd, 1) := by decide +kernel
theorem d_L_law_151 : decode code 151 = .ok (.iaload, 1) := by decide +kernel
theorem d_L_law_152 : decode code 152 = .ok (.i2l, 1) := by decide +kernel
theorem d_L_law_153 : decode code 153 = .ok (.ldc2_w 45, 3) := by decide +kernel
theorem d_L_law_156 : decode code 156 = .ok (.land, 1) := by decide +kernel
theorem d_L_law_157 : decode code 157 = .ok (.lor, 1) := by decide +kernel
theorem d_L_law_158 : decode code 158 = .ok (.aload_n 0, 1) := by decide +kernel
theorem d_L_law_159 : decode code 159 = .ok (.iload 4, 2) := by decide +kernel
theorem d_L_law_161 : decode code 161 = .ok (.iconst 3, 1) := by decide +kernel
theorem d_L_law_162 : decode code 162 = .ok (.iadd, 1) := by decide +kernel
theorem d_L_law_163 : decode code 163 = .ok (.iaload, 1) := by decide +kernel
theorem d_L_law_164 : decode code 164 = .ok (.invokevirtual 52, 3) := by decide +kernel
theorem d_L_law_167 : decode code 167 = .ok (.istore 6, 2) := by decide +kernel
theorem d_L_law_169 : decode code 169 = .ok (.aload_n 2, 1) := by decide +kernel
theorem d_L_law_170 : decode code 170 = .ok (.invokevirtual 53, 3) := by decide +kernel
theorem d_L_law_173 : decode code 173 = .ok (.iload 5, 2) := by decide +kernel
theorem d_L_law_175 : decode code 175 = .ok (.if_icmp .eq 5, 3) := by decide +kernel
theorem d_L_law_178 : decode code 178 = .ok (.iconst 0, 1) := by decide +kernel
theorem d_L_law_179 : decode code 179 = .ok (.ireturn, 1) := by decide +kernel
theorem d_L_law_180 : decode code 180 = .ok (.iload 5, 2) := by decide +kernel
theorem d_L_law_182 : decode code 182 = .ok (.ifCond .ne 15, 3) := by decide +kernel
theorem d_L_law_185 : decode code 185 = .ok (.aload_n 3, 1) := by decide +kernel
theorem d_L_law_186 : decode code 186 = .ok (.iconst 0, 1) := by decide +kernel
theorem d_L_law_187 : decode code 187 = .ok (.laload, 1) := by decide +kernel
theorem d_L_law_188 : decode code 188 = .ok (.iload 6, 2) := by decide +kernel
theorem d_L_law_190 : decode code 190 = .ok (.i2l, 1) := by decide +kernel
theorem d_L_law_191 : decode code 191 = .ok (.lcmp, 1) := by decide +kernel
theorem d_L_law_192 : decode code 192 = .ok (.ifCond .eq 5, 3) := by decide +kernel
theorem d_L_law_195 : decode code 195 = .ok (.iconst 0, 1) := by decide +kernel
theorem d_L_law_196 : decode code 196 = .ok (.ireturn, 1) := by decide +kernel
theorem d_L_law_197 : decode code 197 = .ok (.goto 842, 3) := by decide +kernel
theorem d_L_law_200 : decode code 200 = .ok (.aload_n 1, 1) := by decide +kernel
theorem d_L_law_201 : decode code 201 = .ok (.invokevirtual 57, 3) := by decide +kernel
theorem d_L_law_204 : decode code 204 = .ok (.aload_n 2, 1) := by decide +kernel
theorem d_L_law_205 : decode code 205 = .ok (.invokevirtual 61, 3) := by decide +kernel
theorem d_L_law_208 : decode code 208 = .ok (.lcmp, 1) := by decide +kernel
theorem d_L_law_209 : decode code 209 = .ok (.ifCond .eq 830, 3) := by decide +kernel
theorem d_L_law_212 : decode code 212 = .ok (.iconst 0, 1) := by decide +kernel
theorem d_L_law_213 : decode code 213 = .ok (.ireturn, 1) := by decide +kernel
theorem d_L_law_214 : decode code 214 = .ok (.aload_n 1, 1) := by decide +kernel
theorem d_L_law_215 : decode code 215 = .ok (.aload_n 0, 1) := by decide +kernel
theorem d_L_law_216 : decode code 216 = .ok (.iload 4, 2) := by decide +kernel
theorem d_L_law_218 : decode code 218 = .ok (.iconst 1, 1) := by decide +kernel
theorem d_L_law_219 : decode code 219 = .ok (.iadd, 1) := by decide +kernel
theorem d_L_law_220 : decode code 220 = .ok (.iaload, 1) := by decide +kernel
theorem d_L_law_221 : decode code 221 = .ok (.i2l, 1) := by decide +kernel
theorem d_L_law_222 : decode code 222 = .ok (.bipush 32, 2) := by decide +kernel
theorem d_L_law_224 : decode code 224 = .ok (.lshl, 1) := by decide +kernel
theorem d_L_law_225 : decode code 225 = .ok (.aload_n 0, 1) := by decide +kernel
theorem d_L_law_226 : decode code 226 = .ok (.iload 4, 2) := by decide +kernel
theorem d_L_law_228 : decode code 228 = .ok (.iconst 2, 1) := by decide +kernel
theorem d_L_law_229 : decode code 229 = .ok (.iadd, 1) := by decide +kernel
theorem d_L_law_230 : decode code 230 = .ok (.iaload, 1) := by decide +kernel
theorem d_L_law_231 : decode code 231 = .ok (.i2l, 1) := by decide +kernel
theorem d_L_law_232 : decode code 232 = .ok (.ldc2_w 45, 3) := by decide +kernel
theorem d_L_law_235 : decode code 235 = .ok (.land, 1) := by decide +kernel
theorem d_L_law_236 : decode code 236 = .ok (.lor, 1) := by decide +kernel
theorem d_L_law_237 : decode code 237 = .ok (.aload_n 0, 1) := by decide +kernel
theorem d_L_law_238 : decode code 238 = .ok (.iload 4, 2) := by decide +kernel
theorem d_L_law_240 : decode code 240 = .ok (.iconst 3, 1) := by decide +kernel
theorem d_L_law_241 : decode code 241 = .ok (.iadd, 1) := by decide +kernel
theorem d_L_law_242 : decode code 242 = .ok (.iaload, 1) := by decide +kernel
theorem d_L_law_243 : decode code 243 = .ok (.i2l, 1) := by decide +kernel
theorem d_L_law_244 : decode code 244 = .ok (.bipush 32, 2) := by decide +kernel
theorem d_L_law_246 : decode code 246 = .ok (.lshl, 1) := by decide +kernel
theorem d_L_law_247 : decode code 247 = .ok (.aload_n 0, 1) := by decide +kernel
theorem d_L_law_248 : decode code 248 = .ok (.iload 4, 2) := by decide +kernel
theorem d_L_law_250 : decode code 250 = .ok (.iconst 4, 1) := by decide +kernel
theorem d_L_law_251 : decode code 251 = .ok (.iadd, 1) := by decide +kernel
theorem d_L_law_252 : decode code 252 = .ok (.iaload, 1) := by decide +kernel
theorem d_L_law_253 : decode code 253 = .ok (.i2l, 1) := by decide +kernel
theorem d_L_law_254 : decode code 254 = .ok (.ldc2_w 45, 3) := by decide +kernel
theorem d_L_law_257 : decode code 257 = .ok (.land, 1) := by decide +kernel
theorem d_L_law_258 : decode code 258 = .ok (.lor, 1) := by decide +kernel
theorem d_L_law_259 : decode code 259 = .ok (.aload_n 0, 1) := by decide +kernel
theorem d_L_law_260 : decode code 260 = .ok (.iload 4, 2) := by decide +kernel
theorem d_L_law_262 : decode code 262 = .ok (.iconst 5, 1) := by decide +kernel
theorem d_L_law_263 : decode code 263 = .ok (.iadd, 1) := by decide +kernel
theorem d_L_law_264 : decode code 264 = .ok (.iaload, 1) := by decide +kernel
theorem d_L_law_265 : decode code 265 = .ok (.aload_n 3, 1) := by decide +kernel
theorem d_L_law_266 : decode code 266 = .ok (.invokestatic 62, 3) := by decide +kernel
theorem d_L_law_269 : decode code 269 = .ok (.istore 5, 2) := by decide +kernel
theorem d_L_law_271 : decode code 271 = .ok (.aload_n 2, 1) := by decide +kernel
theorem d_L_law_272 : decode code 272 = .ok (.aload_n 0, 1) := by decide +kernel
theorem d_L_law_273 : decode code 273 = .ok (.iload 4, 2) := by decide +kernel
theorem d_L_law_275 : decode code 275 = .ok (.iconst 1, 1) := by decide +kernel
theorem d_L_law_276 : decode code 276 = .ok (.iadd, 1) := by decide +kernel
theorem d_L_law_277 : decode code 277 = .ok (.iaload, 1) := by decide +kernel
theorem d_L_law_278 : decode code 278 = .ok (.i2l, 1) := by decide +kernel
theorem d_L_law_279 : decode code 279 = .ok (.bipush 32, 2) := by decide +kernel
theorem d_L_law_281 : decode code 281 = .ok (.lshl, 1) := by decide +kernel
theorem d_L_law_282 : decode code 282 = .ok (.aload_n 0, 1) := by decide +kernel
theorem d_L_law_283 : decode code 283 = .ok (.iload 4, 2) := by decide +kernel
theorem d_L_law_285 : decode code 285 = .ok (.iconst 2, 1) := by decide +kernel
theorem d_L_law_286 : decode code 286 = .ok (.iadd, 1) := by decide +kernel
theorem d_L_law_287 : decode code 287 = .ok (.iaload, 1) := by decide +kernel
theorem d_L_law_288 : decode code 288 = .ok (.i2l, 1) := by decide +kernel
theorem d_L_law_289 : decode code 289 = .ok (.ldc2_w 45, 3) := by decide +kernel
theorem d_L_law_292 : decode code 292 = .ok (.land, 1) := by decide +kernel
theorem d_L_law_293 : decode code 293 = .ok (.lor, 1) := by decide +kernel
theorem d_L_law_294 : decode code 294 = .ok (.aload_n 0, 1) := by decide +kernel
theorem d_L_law_295 : decode code 295 = .ok (.iload 4, 2) := by decide +kernel
theorem d_L_law_297 : decode code 297 = .ok (.iconst 3, 1) := by decide +kernel
theorem d_L_law_298 : decode code 298 = .ok (.iadd, 1) := by decide +kernel
theorem d_L_law_299 : decode code 299 = .ok (.iaload, 1) := by decide +kernel
theorem d_L_law_300 : decode code 300 = .ok (.i2l, 1) := by decide +kernel
theorem d_L_law_301 : decode code 301 = .ok (.bipush 32, 2) := by decide +kernel
theorem d_L_law_303 : decode code 303 = .ok (.lshl, 1) := by decide +kernel
theorem d_L_law_304 : decode code 304 = .ok (.aload_n 0, 1) := by decide +kernel
theorem d_L_law_305 : decode code 305 = .ok (.iload 4, 2) := by decide +kernel
theorem d_L_law_307 : decode code 307 = .ok (.iconst 4, 1) := by decide +kernel
theorem d_L_law_308 : decode code 308 = .ok (.iadd, 1) := by decide +kernel
theorem d_L_law_309 : decode code 309 = .ok (.iaload, 1) := by decide +kernel
theorem d_L_law_310 : decode code 310 = .ok (.i2l, 1) := by decide +kernel
theorem d_L_law_311 : decode code 311 = .ok (.ldc2_w 45, 3) := by decide +kernel
theorem d_L_law_314 : decode code 314 = .ok (.land, 1) := by decide +kernel
theorem d_L_law_315 : decode code 315 = .ok (.lor, 1) := by decide +kernel
theorem d_L_law_316 : decode code 316 = .ok (.aload_n 0, 1) := by decide +kernel
theorem d_L_law_317 : decode code 317 = .ok (.iload 4, 2) := by decide +kernel
theorem d_L_law_319 : decode code 319 = .ok (.iconst 5, 1) := by decide +kernel
theorem d_L_law_320 : decode code 320 = .ok (.iadd, 1) := by decide +kernel
theorem d_L_law_321 : decode code 321 = .ok (.iaload, 1) := by decide +kernel
theorem d_L_law_322 : decode code 322 = .ok (.invokevirtual 65, 3) := by decide +kernel
theorem d_L_law_325 : decode code 325 = .ok (.lstore 6, 2) := by decide +kernel
theorem d_L_law_327 : decode code 327 = .ok (.aload_n 2, 1) := by decide +kernel
theorem d_L_law_328 : decode code 328 = .ok (.invokevirtual 53, 3) := by decide +kernel
theorem d_L_law_331 : decode code 331 = .ok (.iload 5, 2) := by decide +kernel
theorem d_L_law_333 : decode code 333 = .ok (.if_icmp .eq 5, 3) := by decide +kernel
theorem d_L_law_336 : decode code 336 = .ok (.iconst 0, 1) := by decide +kernel
theorem d_L_law_337 : decode code 337 = .ok (.ireturn, 1) := by decide +kernel
theorem d_L_law_338 : decode code 338 = .ok (.iload 5, 2) := by decide +kernel
theorem d_L_law_340 : decode code 340 = .ok (.ifCond .ne 14, 3) := by decide +kernel
theorem d_L_law_343 : decode code 343 = .ok (.aload_n 3, 1) := by decide +kernel
theorem d_L_law_344 : decode code 344 = .ok (.iconst 0, 1) := by decide +kernel
theorem d_L_law_345 : decode code 345 = .ok (.laload, 1) := by decide +kernel
theorem d_L_law_346 : decode code 346 = .ok (.lload 6, 2) := by decide +kernel
theorem d_L_law_348 : decode code 348 = .ok (.lcmp, 1) := by decide +kernel
theorem d_L_law_349 : decode code 349 = .ok (.ifCond .eq 5, 3) := by decide +kernel
theorem d_L_law_352 : decode code 352 = .ok (.iconst 0, 1) := by decide +kernel
theorem d_L_law_353 : decode code 353 = .ok (.ireturn, 1) := by decide +kernel
theorem d_L_law_354 : decode code 354 = .ok (.goto 685, 3) := by decide +kernel
theorem d_L_law_357 : decode code 357 = .ok (.aload_n 1, 1) := by decide +kernel
theorem d_L_law_358 : decode code 358 = .ok (.aload_n 0, 1) := by decide +kernel
theorem d_L_law_359 : decode code 359 = .ok (.iload 4, 2) := by decide +kernel
theorem d_L_law_361 : decode code 361 = .ok (.iconst 1, 1) := by decide +kernel
theorem d_L_law_362 : decode code 362 = .ok (.iadd, 1) := by decide +kernel
theorem d_L_law_363 : decode code 363 = .ok (.iaload, 1) := by decide +kernel
theorem d_L_law_364 : decode code 364 = .ok (.i2l, 1) := by decide +kernel
theorem d_L_law_365 : decode code 365 = .ok (.bipush 32, 2) := by decide +kernel
theorem d_L_law_367 : decode code 367 = .ok (.lshl, 1) := by decide +kernel
theorem d_L_law_368 : decode code 368 = .ok (.aload_n 0, 1) := by decide +kernel
theorem d_L_law_369 : decode code 369 = .ok (.iload 4, 2) := by decide +kernel
theorem d_L_law_371 : decode code 371 = .ok (.iconst 2, 1) := by decide +kernel
theorem d_L_law_372 : decode code 372 = .ok (.iadd, 1) := by decide +kernel
theorem d_L_law_373 : decode code 373 = .ok (.iaload, 1) := by decide +kernel
theorem d_L_law_374 : decode code 374 = .ok (.i2l, 1) := by decide +kernel
theorem d_L_law_375 : decode code 375 = .ok (.ldc2_w 45, 3) := by decide +kernel
theorem d_L_law_378 : decode code 378 = .ok (.land, 1) := by decide +kernel
theorem d_L_law_379 : decode code 379 = .ok (.lor, 1) := by decide +kernel
theorem d_L_law_380 : decode code 380 = .ok (.aload_n 0, 1) := by decide +kernel
theorem d_L_law_381 : decode code 381 = .ok (.iload 4, 2) := by decide +kernel
theorem d_L_law_383 : decode code 383 = .ok (.iconst 3, 1) := by decide +kernel
theorem d_L_law_384 : decode code 384 = .ok (.iadd, 1) := by decide +kernel
theorem d_L_law_385 : decode code 385 = .ok (.iaload, 1) := by decide +kernel
theorem d_L_law_386 : decode code 386 = .ok (.aload_n 3, 1) := by decide +kernel
theorem d_L_law_387 : decode code 387 = .ok (.invokestatic 66, 3) := by decide +kernel
theorem d_L_law_390 : decode code 390 = .ok (.istore 5, 2) := by decide +kernel
theorem d_L_law_392 : decode code 392 = .ok (.aload_n 2, 1) := by decide +kernel
theorem d_L_law_393 : decode code 393 = .ok (.aload_n 0, 1) := by decide +kernel
theorem d_L_law_394 : decode code 394 = .ok (.iload 4, 2) := by decide +kernel
theorem d_L_law_396 : decode code 396 = .ok (.iconst 1, 1) := by decide +kernel
theorem d_L_law_397 : decode code 397 = .ok (.iadd, 1) := by decide +kernel
theorem d_L_law_398 : decode code 398 = .ok (.iaload, 1) := by decide +kernel
theorem d_L_law_399 : decode code 399 = .ok (.i2l, 1) := by decide +kernel
theorem d_L_law_400 : decode code 400 = .ok (.bipush 32, 2) := by decide +kernel
theorem d_L_law_402 : decode code 402 = .ok (.lshl, 1) := by decide +kernel
theorem d_L_law_403 : decode code 403 = .ok (.aload_n 0, 1) := by decide +kernel
theorem d_L_law_404 : decode code 404 = .ok (.iload 4, 2) := by decide +kernel
theorem d_L_law_406 : decode code 406 = .ok (.iconst 2, 1) := by decide +kernel
theorem d_L_law_407 : decode code 407 = .ok (.iadd, 1) := by decide +kernel
theorem d_L_law_408 : decode code 408 = .ok (.iaload, 1) := by decide +kernel
theorem d_L_law_409 : decode code 409 = .ok (.i2l, 1) := by decide +kernel
theorem d_L_law_410 : decode code 410 = .ok (.ldc2_w 45, 3) := by decide +kernel
theorem d_L_law_413 : decode code 413 = .ok (.land, 1) := by decide +kernel
theorem d_L_law_414 : decode code 414 = .ok (.lor, 1) := by decide +kernel
theorem d_L_law_415 : decode code 415 = .ok (.aload_n 0, 1) := by decide +kernel
theorem d_L_law_416 : decode code 416 = .ok (.iload 4, 2) := by decide +kernel
theorem d_L_law_418 : decode code 418 = .ok (.iconst 3, 1) := by decide +kernel
theorem d_L_law_419 : decode code 419 = .ok (.iadd, 1) := by decide +kernel
theorem d_L_law_420 : decode code 420 = .ok (.iaload, 1) := by decide +kernel
theorem d_L_law_421 : decode code 421 = .ok (.invokevirtual 68, 3) := by decide +kernel
theorem d_L_law_424 : decode code 424 = .ok (.lstore 6, 2) := by decide +kernel
theorem d_L_law_426 : decode code 426 = .ok (.aload_n 2, 1) := by decide +kernel
theorem d_L_law_427 : decode code 427 = .ok (.invokevirtual 53, 3) := by decide +kernel
theorem d_L_law_430 : decode code 430 = .ok (.iload 5, 2) := by decide +kernel
theorem d_L_law_432 : decode code 432 = .ok (.if_icmp .eq 5, 3) := by decide +kernel
theorem d_L_law_435 : decode code 435 = .ok (.iconst 0, 1) := by decide +kernel
theorem d_L_law_436 : decode code 436 = .ok (.ireturn, 1) := by decide +kernel
theorem d_L_law_437 : decode code 437 = .ok (.iload 5, 2) := by decide +kernel
theorem d_L_law_439 : decode code 439 = .ok (.ifCond .ne 14, 3) := by decide +kernel
theorem d_L_law_442 : decode code 442 = .ok (.aload_n 3, 1) := by decide +kernel
theorem d_L_law_443 : decode code 443 = .ok (.iconst 0, 1) := by decide +kernel
theorem d_L_law_444 : decode code 444 = .ok (.laload, 1) := by decide +kernel
theorem d_L_law_445 : decode code 445 = .ok (.lload 6, 2) := by decide +kernel
theorem d_L_law_447 : decode code 447 = .ok (.lcmp, 1) := by decide +kernel
theorem d_L_law_448 : decode code 448 = .ok (.ifCond .eq 5, 3) := by decide +kernel
theorem d_L_law_451 : decode code 451 = .ok (.iconst 0, 1) := by decide +kernel
theorem d_L_law_452 : decode code 452 = .ok (.ireturn, 1) := by decide +kernel
theorem d_L_law_453 : decode code 453 = .ok (.goto 586, 3) := by decide +kernel
theorem d_L_law_456 : decode code 456 = .ok (.aload_n 1, 1) := by decide +kernel
theorem d_L_law_457 : decode code 457 = .ok (.aload_n 0, 1) := by decide +kernel
theorem d_L_law_458 : decode code 458 = .ok (.iload 4, 2) := by decide +kernel
theorem d_L_law_460 : decode code 460 = .ok (.iconst 1, 1) := by decide +kernel
theorem d_L_law_461 : decode code 461 = .ok (.iadd, 1) := by decide +kernel
theorem d_L_law_462 : decode code 462 = .ok (.iaload, 1) := by decide +kernel
theorem d_L_law_463 : decode code 463 = .ok (.i2l, 1) := by decide +kernel
theorem d_L_law_464 : decode code 464 = .ok (.bipush 32, 2) := by decide +kernel
theorem d_L_law_466 : decode code 466 = .ok (.lshl, 1) := by decide +kernel
theorem d_L_law_467 : decode code 467 = .ok (.aload_n 0, 1) := by decide +kernel
theorem d_L_law_468 : decode code 468 = .ok (.iload 4, 2) := by decide +kernel
theorem d_L_law_470 : decode code 470 = .ok (.iconst 2, 1) := by decide +kernel
theorem d_L_law_471 : decode code 471 = .ok (.iadd, 1) := by decide +kernel
theorem d_L_law_472 : decode code 472 = .ok (.iaload, 1) := by decide +kernel
theorem d_L_law_473 : decode code 473 = .ok (.i2l, 1) := by decide +kernel
theorem d_L_law_474 : decode code 474 = .ok (.ldc2_w 45, 3) := by decide +kernel
theorem d_L_law_477 : decode code 477 = .ok (.land, 1) := by decide +kernel
theorem d_L_law_478 : decode code 478 = .ok (.lor, 1) := by decide +kernel
theorem d_L_law_479 : decode code 479 = .ok (.aload_n 0, 1) := by decide +kernel
theorem d_L_law_480 : decode code 480 = .ok (.iload 4, 2) := by decide +kernel
theorem d_L_law_482 : decode code 482 = .ok (.iconst 3, 1) := by decide +kernel
theorem d_L_law_483 : decode code 483 = .ok (.iadd, 1) := by decide +kernel
theorem d_L_law_484 : decode code 484 = .ok (.iaload, 1) := by decide +kernel
theorem d_L_law_485 : decode code 485 = .ok (.i2l, 1) := by decide +kernel
theorem d_L_law_486 : decode code 486 = .ok (.bipush 32, 2) := by decide +kernel
theorem d_L_law_488 : decode code 488 = .ok (.lshl, 1) := by decide +kernel
theorem d_L_law_489 : decode code 489 = .ok (.aload_n 0, 1) := by decide +kernel
theorem d_L_law_490 : decode code 490 = .ok (.iload 4, 2) := by decide +kernel
theorem d_L_law_492 : decode code 492 = .ok (.iconst 4, 1) := by decide +kernel
theorem d_L_law_493 : decode code 493 = .ok (.iadd, 1) := by decide +kernel
theorem d_L_law_494 : decode code 494 = .ok (.iaload, 1) := by decide +kernel
theorem d_L_law_495 : decode code 495 = .ok (.i2l, 1) := by decide +kernel
theorem d_L_law_496 : decode code 496 = .ok (.ldc2_w 45, 3) := by decide +kernel
theorem d_L_law_499 : decode code 499 = .ok (.land, 1) := by decide +kernel
theorem d_L_law_500 : decode code 500 = .ok (.lor, 1) := by decide +kernel
theorem d_L_law_501 : decode code 501 = .ok (.invokevirtual 69, 3) := by decide +kernel
theorem d_L_law_504 : decode code 504 = .ok (.aload_n 2, 1) := by decide +kernel
theorem d_L_law_505 : decode code 505 = .ok (.aload_n 0, 1) := by decide +kernel
theorem d_L_law_506 : decode code 506 = .ok (.iload 4, 2) := by decide +kernel
theorem d_L_law_508 : decode code 508 = .ok (.iconst 1, 1) := by decide +kernel
theorem d_L_law_509 : decode code 509 = .ok (.iadd, 1) := by decide +kernel
theorem d_L_law_510 : decode code 510 = .ok (.iaload, 1) := by decide +kernel
theorem d_L_law_511 : decode code 511 = .ok (.i2l, 1) := by decide +kernel
theorem d_L_law_512 : decode code 512 = .ok (.bipush 32, 2) := by decide +kernel
theorem d_L_law_514 : decode code 514 = .ok (.lshl, 1) := by decide +kernel
theorem d_L_law_515 : decode code 515 = .ok (.aload_n 0, 1) := by decide +kernel
theorem d_L_law_516 : decode code 516 = .ok (.iload 4, 2) := by decide +kernel
theorem d_L_law_518 : decode code 518 = .ok (.iconst 2, 1) := by decide +kernel
theorem d_L_law_519 : decode code 519 = .ok (.iadd, 1) := by decide +kernel
theorem d_L_law_520 : decode code 520 = .ok (.iaload, 1) := by decide +kernel
theorem d_L_law_521 : decode code 521 = .ok (.i2l, 1) := by decide +kernel
theorem d_L_law_522 : decode code 522 = .ok (.ldc2_w 45, 3) := by decide +kernel
theorem d_L_law_525 : decode code 525 = .ok (.land, 1) := by decide +kernel
theorem d_L_law_526 : decode code 526 = .ok (.lor, 1) := by decide +kernel
theorem d_L_law_527 : decode code 527 = .ok (.aload_n 0, 1) := by decide +kernel
theorem d_L_law_528 : decode code 528 = .ok (.iload 4, 2) := by decide +kernel
theorem d_L_law_530 : decode code 530 = .ok (.iconst 3, 1) := by decide +kernel
theorem d_L_law_531 : decode code 531 = .ok (.iadd, 1) := by decide +kernel
theorem d_L_law_532 : decode code 532 = .ok (.iaload, 1) := by decide +kernel
theorem d_L_law_533 : decode code 533 = .ok (.i2l, 1) := by decide +kernel
theorem d_L_law_534 : decode code 534 = .ok (.bipush 32, 2) := by decide +kernel
theorem d_L_law_536 : decode code 536 = .ok (.lshl, 1) := by decide +kernel
theorem d_L_law_537 : decode code 537 = .ok (.aload_n 0, 1) := by decide +kernel
theorem d_L_law_538 : decode code 538 = .ok (.iload 4, 2) := by decide +kernel
theorem d_L_law_540 : decode code 540 = .ok (.iconst 4, 1) := by decide +kernel
theorem d_L_law_541 : decode code 541 = .ok (.iadd, 1) := by decide +kernel
theorem d_L_law_542 : decode code 542 = .ok (.iaload, 1) := by decide +kernel
theorem d_L_law_543 : decode code 543 = .ok (.i2l, 1) := by decide +kernel
theorem d_L_law_544 : decode code 544 = .ok (.ldc2_w 45, 3) := by decide +kernel
theorem d_L_law_547 : decode code 547 = .ok (.land, 1) := by decide +kernel
theorem d_L_law_548 : decode code 548 = .ok (.lor, 1) := by decide +kernel
theorem d_L_law_549 : decode code 549 = .ok (.invokevirtual 73, 3) := by decide +kernel
theorem d_L_law_552 : decode code 552 = .ok (.if_icmp .eq 487, 3) := by decide +kernel
theorem d_L_law_555 : decode code 555 = .ok (.iconst 0, 1) := by decide +kernel
theorem d_L_law_556 : decode code 556 = .ok (.ireturn, 1) := by decide +kernel
theorem d_L_law_557 : decode code 557 = .ok (.aload_n 1, 1) := by decide +kernel
theorem d_L_law_558 : decode code 558 = .ok (.aload_n 0, 1) := by decide +kernel
theorem d_L_law_559 : decode code 559 = .ok (.iload 4, 2) := by decide +kernel
