theorem dL_law_0 : decode cL_law 0 = .ok (.new 8, 3) := by decide +kernel
theorem dL_law_3 : decode cL_law 3 = .ok (.dup, 1) := by decide +kernel
theorem dL_law_4 : decode cL_law 4 = .ok (.invokespecial 59, 3) := by decide +kernel
theorem dL_law_7 : decode cL_law 7 = .ok (.astore_n 1, 1) := by decide +kernel
theorem dL_law_8 : decode cL_law 8 = .ok (.new 60, 3) := by decide +kernel
theorem dL_law_11 : decode cL_law 11 = .ok (.dup, 1) := by decide +kernel
theorem dL_law_12 : decode cL_law 12 = .ok (.invokespecial 62, 3) := by decide +kernel
theorem dL_law_15 : decode cL_law 15 = .ok (.astore_n 2, 1) := by decide +kernel
theorem dL_law_16 : decode cL_law 16 = .ok (.iconst 1, 1) := by decide +kernel
theorem dL_law_17 : decode cL_law 17 = .ok (.newarray .long, 2) := by decide +kernel
theorem dL_law_19 : decode cL_law 19 = .ok (.astore_n 3, 1) := by decide +kernel
theorem dL_law_20 : decode cL_law 20 = .ok (.iconst 0, 1) := by decide +kernel
theorem dL_law_21 : decode cL_law 21 = .ok (.istore 4, 2) := by decide +kernel
theorem dL_law_23 : decode cL_law 23 = .ok (.iload 4, 2) := by decide +kernel
theorem dL_law_25 : decode cL_law 25 = .ok (.aload_n 0, 1) := by decide +kernel
theorem dL_law_26 : decode cL_law 26 = .ok (.arraylength, 1) := by decide +kernel
theorem dL_law_27 : decode cL_law 27 = .ok (.bipush 6, 2) := by decide +kernel
theorem dL_law_29 : decode cL_law 29 = .ok (.isub, 1) := by decide +kernel
theorem dL_law_30 : decode cL_law 30 = .ok (.if_icmp .gt 1013, 3) := by decide +kernel
theorem dL_law_33 : decode cL_law 33 = .ok (.aload_n 0, 1) := by decide +kernel
theorem dL_law_34 : decode cL_law 34 = .ok (.iload 4, 2) := by decide +kernel
theorem dL_law_36 : decode cL_law 36 = .ok (.iaload, 1) := by decide +kernel
theorem dL_law_37 : decode cL_law 37 = .ok (.bipush 31, 2) := by decide +kernel
theorem dL_law_39 : decode cL_law 39 = .ok (.iand, 1) := by decide +kernel
theorem dL_law_40 : decode cL_law 40 = .ok (.tableswitch 997 0 17 #[88, 136, 280, 336, 387, 431, 456, 500, 556, 600, 644, 700, 780, 817, 854, 891, 928, 972], 88) := by decide +kernel
theorem dL_law_128 : decode cL_law 128 = .ok (.aload_n 1, 1) := by decide +kernel
theorem dL_law_129 : decode cL_law 129 = .ok (.aload_n 0, 1) := by decide +kernel
theorem dL_law_130 : decode cL_law 130 = .ok (.iload 4, 2) := by decide +kernel
theorem dL_law_132 : decode cL_law 132 = .ok (.iconst 1, 1) := by decide +kernel
theorem dL_law_133 : decode cL_law 133 = .ok (.iadd, 1) := by decide +kernel
theorem dL_law_134 : decode cL_law 134 = .ok (.iaload, 1) := by decide +kernel
theorem dL_law_135 : decode cL_law 135 = .ok (.aload_n 0, 1) := by decide +kernel
theorem dL_law_136 : decode cL_law 136 = .ok (.iload 4, 2) := by decide +kernel
theorem dL_law_138 : decode cL_law 138 = .ok (.iconst 2, 1) := by decide +kernel
theorem dL_law_139 : decode cL_law 139 = .ok (.iadd, 1) := by decide +kernel
theorem dL_law_140 : decode cL_law 140 = .ok (.iaload, 1) := by decide +kernel
theorem dL_law_141 : decode cL_law 141 = .ok (.invokestatic 63, 3) := by decide +kernel
theorem dL_law_144 : decode cL_law 144 = .ok (.istore 5, 2) := by decide +kernel
theorem dL_law_146 : decode cL_law 146 = .ok (.aload_n 2, 1) := by decide +kernel
theorem dL_law_147 : decode cL_law 147 = .ok (.aload_n 0, 1) := by decide +kernel
theorem dL_law_148 : decode cL_law 148 = .ok (.iload 4, 2) := by decide +kernel
theorem dL_law_150 : decode cL_law 150 = .ok (.iconst 1, 1) := by decide +kernel
theorem dL_law_151 : decode cL_law 151 = .ok (.iadd, 1) := by decide +kernel
theorem dL_law_152 : decode cL_law 152 = .ok (.iaload, 1) := by decide +kernel
theorem dL_law_153 : decode cL_law 153 = .ok (.aload_n 0, 1) := by decide +kernel
theorem dL_law_154 : decode cL_law 154 = .ok (.iload 4, 2) := by decide +kernel
theorem dL_law_156 : decode cL_law 156 = .ok (.iconst 2, 1) := by decide +kernel
theorem dL_law_157 : decode cL_law 157 = .ok (.iadd, 1) := by decide +kernel
theorem dL_law_158 : decode cL_law 158 = .ok (.iaload, 1) := by decide +kernel
theorem dL_law_159 : decode cL_law 159 = .ok (.invokevirtual 68, 3) := by decide +kernel
theorem dL_law_162 : decode cL_law 162 = .ok (.aload_n 2, 1) := by decide +kernel
theorem dL_law_163 : decode cL_law 163 = .ok (.invokevirtual 69, 3) := by decide +kernel
theorem dL_law_166 : decode cL_law 166 = .ok (.iload 5, 2) := by decide +kernel
theorem dL_law_168 : decode cL_law 168 = .ok (.if_icmp .eq 5, 3) := by decide +kernel
theorem dL_law_171 : decode cL_law 171 = .ok (.iconst 0, 1) := by decide +kernel
theorem dL_law_172 : decode cL_law 172 = .ok (.ireturn, 1) := by decide +kernel
theorem dL_law_173 : decode cL_law 173 = .ok (.goto 864, 3) := by decide +kernel
theorem dL_law_176 : decode cL_law 176 = .ok (.aload_n 1, 1) := by decide +kernel
theorem dL_law_177 : decode cL_law 177 = .ok (.aload_n 0, 1) := by decide +kernel
theorem dL_law_178 : decode cL_law 178 = .ok (.iload 4, 2) := by decide +kernel
theorem dL_law_180 : decode cL_law 180 = .ok (.iconst 1, 1) := by decide +kernel
theorem dL_law_181 : decode cL_law 181 = .ok (.iadd, 1) := by decide +kernel
theorem dL_law_182 : decode cL_law 182 = .ok (.iaload, 1) := by decide +kernel
theorem dL_law_183 : decode cL_law 183 = .ok (.aload_n 0, 1) := by decide +kernel
theorem dL_law_184 : decode cL_law 184 = .ok (.iload 4, 2) := by decide +kernel
theorem dL_law_186 : decode cL_law 186 = .ok (.iconst 2, 1) := by decide +kernel
theorem dL_law_187 : decode cL_law 187 = .ok (.iadd, 1) := by decide +kernel
theorem dL_law_188 : decode cL_law 188 = .ok (.iaload, 1) := by decide +kernel
theorem dL_law_189 : decode cL_law 189 = .ok (.i2l, 1) := by decide +kernel
theorem dL_law_190 : decode cL_law 190 = .ok (.bipush 32, 2) := by decide +kernel
theorem dL_law_192 : decode cL_law 192 = .ok (.lshl, 1) := by decide +kernel
theorem dL_law_193 : decode cL_law 193 = .ok (.aload_n 0, 1) := by decide +kernel
theorem dL_law_194 : decode cL_law 194 = .ok (.iload 4, 2) := by decide +kernel
theorem dL_law_196 : decode cL_law 196 = .ok (.iconst 3, 1) := by decide +kernel
theorem dL_law_197 : decode cL_law 197 = .ok (.iadd, 1) := by decide +kernel
theorem dL_law_198 : decode cL_law 198 = .ok (.iaload, 1) := by decide +kernel
theorem dL_law_199 : decode cL_law 199 = .ok (.i2l, 1) := by decide +kernel
theorem dL_law_200 : decode cL_law 200 = .ok (.ldc2_w 72, 3) := by decide +kernel
theorem dL_law_203 : decode cL_law 203 = .ok (.land, 1) := by decide +kernel
theorem dL_law_204 : decode cL_law 204 = .ok (.lor, 1) := by decide +kernel
theorem dL_law_205 : decode cL_law 205 = .ok (.aload_n 0, 1) := by decide +kernel
theorem dL_law_206 : decode cL_law 206 = .ok (.iload 4, 2) := by decide +kernel
theorem dL_law_208 : decode cL_law 208 = .ok (.iconst 4, 1) := by decide +kernel
theorem dL_law_209 : decode cL_law 209 = .ok (.iadd, 1) := by decide +kernel
theorem dL_law_210 : decode cL_law 210 = .ok (.iaload, 1) := by decide +kernel
theorem dL_law_211 : decode cL_law 211 = .ok (.i2l, 1) := by decide +kernel
theorem dL_law_212 : decode cL_law 212 = .ok (.bipush 32, 2) := by decide +kernel
theorem dL_law_214 : decode cL_law 214 = .ok (.lshl, 1) := by decide +kernel
theorem dL_law_215 : decode cL_law 215 = .ok (.aload_n 0, 1) := by decide +kernel
theorem dL_law_216 : decode cL_law 216 = .ok (.iload 4, 2) := by decide +kernel
theorem dL_law_218 : decode cL_law 218 = .ok (.iconst 5, 1) := by decide +kernel
theorem dL_law_219 : decode cL_law 219 = .ok (.iadd, 1) := by decide +kernel
theorem dL_law_220 : decode cL_law 220 = .ok (.iaload, 1) := by decide +kernel
theorem dL_law_221 : decode cL_law 221 = .ok (.i2l, 1) := by decide +kernel
theorem dL_law_222 : decode cL_law 222 = .ok (.ldc2_w 72, 3) := by decide +kernel
theorem dL_law_225 : decode cL_law 225 = .ok (.land, 1) := by decide +kernel
theorem dL_law_226 : decode cL_law 226 = .ok (.lor, 1) := by decide +kernel
theorem dL_law_227 : decode cL_law 227 = .ok (.aload_n 3, 1) := by decide +kernel
theorem dL_law_228 : decode cL_law 228 = .ok (.invokestatic 74, 3) := by decide +kernel
theorem dL_law_231 : decode cL_law 231 = .ok (.istore 5, 2) := by decide +kernel
theorem dL_law_233 : decode cL_law 233 = .ok (.aload_n 2, 1) := by decide +kernel
theorem dL_law_234 : decode cL_law 234 = .ok (.aload_n 0, 1) := by decide +kernel
theorem dL_law_235 : decode cL_law 235 = .ok (.iload 4, 2) := by decide +kernel
theorem dL_law_237 : decode cL_law 237 = .ok (.iconst 1, 1) := by decide +kernel
theorem dL_law_238 : decode cL_law 238 = .ok (.iadd, 1) := by decide +kernel
theorem dL_law_239 : decode cL_law 239 = .ok (.iaload, 1) := by decide +kernel
theorem dL_law_240 : decode cL_law 240 = .ok (.aload_n 0, 1) := by decide +kernel
theorem dL_law_241 : decode cL_law 241 = .ok (.iload 4, 2) := by decide +kernel
theorem dL_law_243 : decode cL_law 243 = .ok (.iconst 2, 1) := by decide +kernel
theorem dL_law_244 : decode cL_law 244 = .ok (.iadd, 1) := by decide +kernel
theorem dL_law_245 : decode cL_law 245 = .ok (.iaload, 1) := by decide +kernel
theorem dL_law_246 : decode cL_law 246 = .ok (.i2l, 1) := by decide +kernel
theorem dL_law_247 : decode cL_law 247 = .ok (.bipush 32, 2) := by decide +kernel
theorem dL_law_249 : decode cL_law 249 = .ok (.lshl, 1) := by decide +kernel
theorem dL_law_250 : decode cL_law 250 = .ok (.aload_n 0, 1) := by decide +kernel
theorem dL_law_251 : decode cL_law 251 = .ok (.iload 4, 2) := by decide +kernel
theorem dL_law_253 : decode cL_law 253 = .ok (.iconst 3, 1) := by decide +kernel
theorem dL_law_254 : decode cL_law 254 = .ok (.iadd, 1) := by decide +kernel
theorem dL_law_255 : decode cL_law 255 = .ok (.iaload, 1) := by decide +kernel
theorem dL_law_256 : decode cL_law 256 = .ok (.i2l, 1) := by decide +kernel
theorem dL_law_257 : decode cL_law 257 = .ok (.ldc2_w 72, 3) := by decide +kernel
theorem dL_law_260 : decode cL_law 260 = .ok (.land, 1) := by decide +kernel
theorem dL_law_261 : decode cL_law 261 = .ok (.lor, 1) := by decide +kernel
theorem dL_law_262 : decode cL_law 262 = .ok (.aload_n 0, 1) := by decide +kernel
theorem dL_law_263 : decode cL_law 263 = .ok (.iload 4, 2) := by decide +kernel
theorem dL_law_265 : decode cL_law 265 = .ok (.iconst 4, 1) := by decide +kernel
theorem dL_law_266 : decode cL_law 266 = .ok (.iadd, 1) := by decide +kernel
theorem dL_law_267 : decode cL_law 267 = .ok (.iaload, 1) := by decide +kernel
theorem dL_law_268 : decode cL_law 268 = .ok (.i2l, 1) := by decide +kernel
theorem dL_law_269 : decode cL_law 269 = .ok (.bipush 32, 2) := by decide +kernel
theorem dL_law_271 : decode cL_law 271 = .ok (.lshl, 1) := by decide +kernel
theorem dL_law_272 : decode cL_law 272 = .ok (.aload_n 0, 1) := by decide +kernel
theorem dL_law_273 : decode cL_law 273 = .ok (.iload 4, 2) := by decide +kernel
theorem dL_law_275 : decode cL_law 275 = .ok (.iconst 5, 1) := by decide +kernel
theorem dL_law_276 : decode cL_law 276 = .ok (.iadd, 1) := by decide +kernel
theorem dL_law_277 : decode cL_law 277 = .ok (.iaload, 1) := by decide +kernel
theorem dL_law_278 : decode cL_law 278 = .ok (.i2l, 1) := by decide +kernel
theorem dL_law_279 : decode cL_law 279 = .ok (.ldc2_w 72, 3) := by decide +kernel
theorem dL_law_282 : decode cL_law 282 = .ok (.land, 1) := by decide +kernel
theorem dL_law_283 : decode cL_law 283 = .ok (.lor, 1) := by decide +kernel
theorem dL_law_284 : decode cL_law 284 = .ok (.invokevirtual 77, 3) := by decide +kernel
theorem dL_law_287 : decode cL_law 287 = .ok (.istore 6, 2) := by decide +kernel
theorem dL_law_289 : decode cL_law 289 = .ok (.aload_n 2, 1) := by decide +kernel
theorem dL_law_290 : decode cL_law 290 = .ok (.invokevirtual 69, 3) := by decide +kernel
theorem dL_law_293 : decode cL_law 293 = .ok (.iload 5, 2) := by decide +kernel
theorem dL_law_295 : decode cL_law 295 = .ok (.if_icmp .eq 5, 3) := by decide +kernel
theorem dL_law_298 : decode cL_law 298 = .ok (.iconst 0, 1) := by decide +kernel
theorem dL_law_299 : decode cL_law 299 = .ok (.ireturn, 1) := by decide +kernel
theorem dL_law_300 : decode cL_law 300 = .ok (.iload 5, 2) := by decide +kernel
theorem dL_law_302 : decode cL_law 302 = .ok (.ifCond .ne 15, 3) := by decide +kernel
theorem dL_law_305 : decode cL_law 305 = .ok (.aload_n 3, 1) := by decide +kernel
theorem dL_law_306 : decode cL_law 306 = .ok (.iconst 0, 1) := by decide +kernel
theorem dL_law_307 : decode cL_law 307 = .ok (.laload, 1) := by decide +kernel
theorem dL_law_308 : decode cL_law 308 = .ok (.iload 6, 2) := by decide +kernel
theorem dL_law_310 : decode cL_law 310 = .ok (.i2l, 1) := by decide +kernel
theorem dL_law_311 : decode cL_law 311 = .ok (.lcmp, 1) := by decide +kernel
theorem dL_law_312 : decode cL_law 312 = .ok (.ifCond .eq 5, 3) := by decide +kernel
theorem dL_law_315 : decode cL_law 315 = .ok (.iconst 0, 1) := by decide +kernel
theorem dL_law_316 : decode cL_law 316 = .ok (.ireturn, 1) := by decide +kernel
theorem dL_law_317 : decode cL_law 317 = .ok (.goto 720, 3) := by decide +kernel
theorem dL_law_320 : decode cL_law 320 = .ok (.aload_n 1, 1) := by decide +kernel
theorem dL_law_321 : decode cL_law 321 = .ok (.aload_n 0, 1) := by decide +kernel
theorem dL_law_322 : decode cL_law 322 = .ok (.iload 4, 2) := by decide +kernel
theorem dL_law_324 : decode cL_law 324 = .ok (.iconst 1, 1) := by decide +kernel
theorem dL_law_325 : decode cL_law 325 = .ok (.iadd, 1) := by decide +kernel
theorem dL_law_326 : decode cL_law 326 = .ok (.iaload, 1) := by decide +kernel
theorem dL_law_327 : decode cL_law 327 = .ok (.aload_n 3, 1) := by decide +kernel
theorem dL_law_328 : decode cL_law 328 = .ok (.invokestatic 78, 3) := by decide +kernel
theorem dL_law_331 : decode cL_law 331 = .ok (.istore 5, 2) := by decide +kernel
theorem dL_law_333 : decode cL_law 333 = .ok (.aload_n 2, 1) := by decide +kernel
theorem dL_law_334 : decode cL_law 334 = .ok (.aload_n 0, 1) := by decide +kernel
theorem dL_law_335 : decode cL_law 335 = .ok (.iload 4, 2) := by decide +kernel
theorem dL_law_337 : decode cL_law 337 = .ok (.iconst 1, 1) := by decide +kernel
theorem dL_law_338 : decode cL_law 338 = .ok (.iadd, 1) := by decide +kernel
theorem dL_law_339 : decode cL_law 339 = .ok (.iaload, 1) := by decide +kernel
theorem dL_law_340 : decode cL_law 340 = .ok (.invokevirtual 81, 3) := by decide +kernel
theorem dL_law_343 : decode cL_law 343 = .ok (.istore 6, 2) := by decide +kernel
theorem dL_law_345 : decode cL_law 345 = .ok (.aload_n 2, 1) := by decide +kernel
theorem dL_law_346 : decode cL_law 346 = .ok (.invokevirtual 69, 3) := by decide +kernel
theorem dL_law_349 : decode cL_law 349 = .ok (.iload 5, 2) := by decide +kernel
theorem dL_law_351 : decode cL_law 351 = .ok (.if_icmp .eq 5, 3) := by decide +kernel
theorem dL_law_354 : decode cL_law 354 = .ok (.iconst 0, 1) := by decide +kernel
theorem dL_law_355 : decode cL_law 355 = .ok (.ireturn, 1) := by decide +kernel
theorem dL_law_356 : decode cL_law 356 = .ok (.iload 5, 2) := by decide +kernel
theorem dL_law_358 : decode cL_law 358 = .ok (.ifCond .ne 15, 3) := by decide +kernel
theorem dL_law_361 : decode cL_law 361 = .ok (.aload_n 3, 1) := by decide +kernel
theorem dL_law_362 : decode cL_law 362 = .ok (.iconst 0, 1) := by decide +kernel
theorem dL_law_363 : decode cL_law 363 = .ok (.laload, 1) := by decide +kernel
theorem dL_law_364 : decode cL_law 364 = .ok (.iload 6, 2) := by decide +kernel
theorem dL_law_366 : decode cL_law 366 = .ok (.i2l, 1) := by decide +kernel
theorem dL_law_367 : decode cL_law 367 = .ok (.lcmp, 1) := by decide +kernel
theorem dL_law_368 : decode cL_law 368 = .ok (.ifCond .eq 5, 3) := by decide +kernel
theorem dL_law_371 : decode cL_law 371 = .ok (.iconst 0, 1) := by decide +kernel
theorem dL_law_372 : decode cL_law 372 = .ok (.ireturn, 1) := by decide +kernel
theorem dL_law_373 : decode cL_law 373 = .ok (.goto 664, 3) := by decide +kernel
theorem dL_law_376 : decode cL_law 376 = .ok (.aload_n 1, 1) := by decide +kernel
theorem dL_law_377 : decode cL_law 377 = .ok (.aload_n 3, 1) := by decide +kernel
theorem dL_law_378 : decode cL_law 378 = .ok (.invokestatic 82, 3) := by decide +kernel
theorem dL_law_381 : decode cL_law 381 = .ok (.istore 5, 2) := by decide +kernel
theorem dL_law_383 : decode cL_law 383 = .ok (.aload_n 2, 1) := by decide +kernel
theorem dL_law_384 : decode cL_law 384 = .ok (.invokevirtual 85, 3) := by decide +kernel
theorem dL_law_387 : decode cL_law 387 = .ok (.istore 6, 2) := by decide +kernel
theorem dL_law_389 : decode cL_law 389 = .ok (.aload_n 2, 1) := by decide +kernel
theorem dL_law_390 : decode cL_law 390 = .ok (.invokevirtual 69, 3) := by decide +kernel
theorem dL_law_393 : decode cL_law 393 = .ok (.iload 5, 2) := by decide +kernel
theorem dL_law_395 : decode cL_law 395 = .ok (.if_icmp .eq 5, 3) := by decide +kernel
theorem dL_law_398 : decode cL_law 398 = .ok (.iconst 0, 1) := by decide +kernel
theorem dL_law_399 : decode cL_law 399 = .ok (.ireturn, 1) := by decide +kernel
theorem dL_law_400 : decode cL_law 400 = .ok (.iload 5, 2) := by decide +kernel
theorem dL_law_402 : decode cL_law 402 = .ok (.ifCond .ne 22, 3) := by decide +kernel
theorem dL_law_405 : decode cL_law 405 = .ok (.aload_n 3, 1) := by decide +kernel
theorem dL_law_406 : decode cL_law 406 = .ok (.iconst 0, 1) := by decide +kernel
theorem dL_law_407 : decode cL_law 407 = .ok (.laload, 1) := by decide +kernel
theorem dL_law_408 : decode cL_law 408 = .ok (.iload 6, 2) := by decide +kernel
theorem dL_law_410 : decode cL_law 410 = .ok (.ifCond .eq 7, 3) := by decide +kernel
theorem dL_law_413 : decode cL_law 413 = .ok (.lconst 1, 1) := by decide +kernel
theorem dL_law_414 : decode cL_law 414 = .ok (.goto 4, 3) := by decide +kernel
theorem dL_law_417 : decode cL_law 417 = .ok (.lconst 0, 1) := by decide +kernel
theorem dL_law_418 : decode cL_law 418 = .ok (.lcmp, 1) := by decide +kernel
theorem dL_law_419 : decode cL_law 419 = .ok (.ifCond .eq 5, 3) := by decide +kernel
theorem dL_law_422 : decode cL_law 422 = .ok (.iconst 0, 1) := by decide +kernel
theorem dL_law_423 : decode cL_law 423 = .ok (.ireturn, 1) := by decide +kernel
theorem dL_law_424 : decode cL_law 424 = .ok (.goto 613, 3) := by decide +kernel
theorem dL_law_427 : decode cL_law 427 = .ok (.aload_n 1, 1) := by decide +kernel
theorem dL_law_428 : decode cL_law 428 = .ok (.aload_n 3, 1) := by decide +kernel
theorem dL_law_429 : decode cL_law 429 = .ok (.invokestatic 86, 3) := by decide +kernel
theorem dL_law_432 : decode cL_law 432 = .ok (.istore 5, 2) := by decide +kernel
theorem dL_law_434 : decode cL_law 434 = .ok (.aload_n 2, 1) := by decide +kernel
theorem dL_law_435 : decode cL_law 435 = .ok (.invokevirtual 88, 3) := by decide +kernel
theorem dL_law_438 : decode cL_law 438 = .ok (.istore 6, 2) := by decide +kernel
theorem dL_law_440 : decode cL_law 440 = .ok (.aload_n 2, 1) := by decide +kernel
theorem dL_law_441 : decode cL_law 441 = .ok (.invokevirtual 69, 3) := by decide +kernel
theorem dL_law_444 : decode cL_law 444 = .ok (.iload 5, 2) := by decide +kernel
theorem dL_law_446 : decode cL_law 446 = .ok (.if_icmp .eq 5, 3) := by decide +kernel
theorem dL_law_449 : decode cL_law 449 = .ok (.iconst 0, 1) := by decide +kernel
theorem dL_law_450 : decode cL_law 450 = .ok (.ireturn, 1) := by decide +kernel
theorem dL_law_451 : decode cL_law 451 = .ok (.iload 5, 2) := by decide +kernel
theorem dL_law_453 : decode cL_law 453 = .ok (.ifCond .ne 15, 3) := by decide +kernel
theorem dL_law_456 : decode cL_law 456 = .ok (.aload_n 3, 1) := by decide +kernel
theorem dL_law_457 : decode cL_law 457 = .ok (.iconst 0, 1) := by decide +kernel
theorem dL_law_458 : decode cL_law 458 = .ok (.laload, 1) := by decide +kernel
theorem dL_law_459 : decode cL_law 459 = .ok (.iload 6, 2) := by decide +kernel
theorem dL_law_461 : decode cL_law 461 = .ok (.i2l, 1) := by decide +kernel
theorem dL_law_462 : decode cL_law 462 = .ok (.lcmp, 1) := by decide +kernel
theorem dL_law_463 : decode cL_law 463 = .ok (.ifCond .eq 5, 3) := by decide +kernel
theorem dL_law_466 : decode cL_law 466 = .ok (.iconst 0, 1) := by decide +kernel
theorem dL_law_467 : decode cL_law 467 = .ok (.ireturn, 1) := by decide +kernel
theorem dL_law_468 : decode cL_law 468 = .ok (.goto 569, 3) := by decide +kernel
theorem dL_law_471 : decode cL_law 471 = .ok (.aload_n 1, 1) := by decide +kernel
theorem dL_law_472 : decode cL_law 472 = .ok (.aload_n 0, 1) := by decide +kernel
theorem dL_law_473 : decode cL_law 473 = .ok (.iload 4, 2) := by decide +kernel
theorem dL_law_475 : decode cL_law 475 = .ok (.iconst 1, 1) := by decide +kernel
theorem dL_law_476 : decode cL_law 476 = .ok (.iadd, 1) := by decide +kernel
theorem dL_law_477 : decode cL_law 477 = .ok (.iaload, 1) := by decide +kernel
theorem dL_law_478 : decode cL_law 478 = .ok (.invokevirtual 89, 3) := by decide +kernel
theorem dL_law_481 : decode cL_law 481 = .ok (.aload_n 2, 1) := by decide +kernel
theorem dL_law_482 : decode cL_law 482 = .ok (.aload_n 0, 1) := by decide +kernel
theorem dL_law_483 : decode cL_law 483 = .ok (.iload 4, 2) := by decide +kernel
theorem dL_law_485 : decode cL_law 485 = .ok (.iconst 1, 1) := by decide +kernel
theorem dL_law_486 : decode cL_law 486 = .ok (.iadd, 1) := by decide +kernel
theorem dL_law_487 : decode cL_law 487 = .ok (.iaload, 1) := by decide +kernel
theorem dL_law_488 : decode cL_law 488 = .ok (.invokevirtual 92, 3) := by decide +kernel
theorem dL_law_491 : decode cL_law 491 = .ok (.if_icmp .eq 546, 3) := by decide +kernel
theorem dL_law_494 : decode cL_law 494 = .ok (.iconst 0, 1) := by decide +kernel
theorem dL_law_495 : decode cL_law 495 = .ok (.ireturn, 1) := by decide +kernel
theorem dL_law_496 : decode cL_law 496 = .ok (.aload_n 1, 1) := by decide +kernel
theorem dL_law_497 : decode cL_law 497 = .ok (.aload_n 3, 1) := by decide +kernel
theorem dL_law_498 : decode cL_law 498 = .ok (.invokestatic 93, 3) := by decide +kernel
theorem dL_law_501 : decode cL_law 501 = .ok (.istore 5, 2) := by decide +kernel
theorem dL_law_503 : decode cL_law 503 = .ok (.aload_n 2, 1) := by decide +kernel
theorem dL_law_504 : decode cL_law 504 = .ok (.invokevirtual 95, 3) := by decide +kernel
theorem dL_law_507 : decode cL_law 507 = .ok (.istore 6, 2) := by decide +kernel
theorem dL_law_509 : decode cL_law 509 = .ok (.aload_n 2, 1) := by decide +kernel
theorem dL_law_510 : decode cL_law 510 = .ok (.invokevirtual 69, 3) := by decide +kernel
theorem dL_law_513 : decode cL_law 513 = .ok (.iload 5, 2) := by decide +kernel
theorem dL_law_515 : decode cL_law 515 = .ok (.if_icmp .eq 5, 3) := by decide +kernel
theorem dL_law_518 : decode cL_law 518 = .ok (.iconst 0, 1) := by decide +kernel
theorem dL_law_519 : decode cL_law 519 = .ok (.ireturn, 1) := by decide +kernel
theorem dL_law_520 : decode cL_law 520 = .ok (.iload 5, 2) := by decide +kernel
theorem dL_law_522 : decode cL_law 522 = .ok (.ifCond .ne 15, 3) := by decide +kernel
theorem dL_law_525 : decode cL_law 525 = .ok (.aload_n 3, 1) := by decide +kernel
theorem dL_law_526 : decode cL_law 526 = .ok (.iconst 0, 1) := by decide +kernel
theorem dL_law_527 : decode cL_law 527 = .ok (.laload, 1) := by decide +kernel
theorem dL_law_528 : decode cL_law 528 = .ok (.iload 6, 2) := by decide +kernel
theorem dL_law_530 : decode cL_law 530 = .ok (.i2l, 1) := by decide +kernel
theorem dL_law_531 : decode cL_law 531 = .ok (.lcmp, 1) := by decide +kernel
theorem dL_law_532 : decode cL_law 532 = .ok (.ifCond .eq 5, 3) := by decide +kernel
theorem dL_law_535 : decode cL_law 535 = .ok (.iconst 0, 1) := by decide +kernel
theorem dL_law_536 : decode cL_law 536 = .ok (.ireturn, 1) := by decide +kernel
theorem dL_law_537 : decode cL_law 537 = .ok (.goto 500, 3) := by decide +kernel
theorem dL_law_540 : decode cL_law 540 = .ok (.aload_n 1, 1) := by decide +kernel
theorem dL_law_541 : decode cL_law 541 = .ok (.aload_n 0, 1) := by decide +kernel
theorem dL_law_542 : decode cL_law 542 = .ok (.iload 4, 2) := by decide +kernel
theorem dL_law_544 : decode cL_law 544 = .ok (.iconst 1, 1) := by decide +kernel
theorem dL_law_545 : decode cL_law 545 = .ok (.iadd, 1) := by decide +kernel
theorem dL_law_546 : decode cL_law 546 = .ok (.iaload, 1) := by decide +kernel
theorem dL_law_547 : decode cL_law 547 = .ok (.aload_n 3, 1) := by decide +kernel
theorem dL_law_548 : decode cL_law 548 = .ok (.invokestatic 96, 3) := by decide +kernel
theorem dL_law_551 : decode cL_law 551 = .ok (.istore 5, 2) := by decide +kernel
theorem dL_law_553 : decode cL_law 553 = .ok (.aload_n 2, 1) := by decide +kernel
theorem dL_law_554 : decode cL_law 554 = .ok (.aload_n 0, 1) := by decide +kernel
theorem dL_law_555 : decode cL_law 555 = .ok (.iload 4, 2) := by decide +kernel
theorem dL_law_557 : decode cL_law 557 = .ok (.iconst 1, 1) := by decide +kernel
theorem dL_law_558 : decode cL_law 558 = .ok (.iadd, 1) := by decide +kernel
theorem dL_law_559 : decode cL_law 559 = .ok (.iaload, 1) := by decide +kernel
theorem dL_law_560 : decode cL_law 560 = .ok (.invokevirtual 98, 3) := by decide +kernel
theorem dL_law_563 : decode cL_law 563 = .ok (.istore 6, 2) := by decide +kernel
theorem dL_law_565 : decode cL_law 565 = .ok (.aload_n 2, 1) := by decide +kernel
theorem dL_law_566 : decode cL_law 566 = .ok (.invokevirtual 69, 3) := by decide +kernel
theorem dL_law_569 : decode cL_law 569 = .ok (.iload 5, 2) := by decide +kernel
theorem dL_law_571 : decode cL_law 571 = .ok (.if_icmp .eq 5, 3) := by decide +kernel
theorem dL_law_574 : decode cL_law 574 = .ok (.iconst 0, 1) := by decide +kernel
theorem dL_law_575 : decode cL_law 575 = .ok (.ireturn, 1) := by decide +kernel
theorem dL_law_576 : decode cL_law 576 = .ok (.iload 5, 2) := by decide +kernel
theorem dL_law_578 : decode cL_law 578 = .ok (.ifCond .ne 15, 3) := by decide +kernel
theorem dL_law_581 : decode cL_law 581 = .ok (.aload_n 3, 1) := by decide +kernel
theorem dL_law_582 : decode cL_law 582 = .ok (.iconst 0, 1) := by decide +kernel
theorem dL_law_583 : decode cL_law 583 = .ok (.laload, 1) := by decide +kernel
theorem dL_law_584 : decode cL_law 584 = .ok (.iload 6, 2) := by decide +kernel
theorem dL_law_586 : decode cL_law 586 = .ok (.i2l, 1) := by decide +kernel
theorem dL_law_587 : decode cL_law 587 = .ok (.lcmp, 1) := by decide +kernel
theorem dL_law_588 : decode cL_law 588 = .ok (.ifCond .eq 5, 3) := by decide +kernel
theorem dL_law_591 : decode cL_law 591 = .ok (.iconst 0, 1) := by decide +kernel
theorem dL_law_592 : decode cL_law 592 = .ok (.ireturn, 1) := by decide +kernel
theorem dL_law_593 : decode cL_law 593 = .ok (.goto 444, 3) := by decide +kernel
theorem dL_law_596 : decode cL_law 596 = .ok (.aload_n 1, 1) := by decide +kernel
theorem dL_law_597 : decode cL_law 597 = .ok (.aload_n 3, 1) := by decide +kernel
theorem dL_law_598 : decode cL_law 598 = .ok (.invokestatic 99, 3) := by decide +kernel
theorem dL_law_601 : decode cL_law 601 = .ok (.istore 5, 2) := by decide +kernel
theorem dL_law_603 : decode cL_law 603 = .ok (.aload_n 2, 1) := by decide +kernel
theorem dL_law_604 : decode cL_law 604 = .ok (.invokevirtual 101, 3) := by decide +kernel
theorem dL_law_607 : decode cL_law 607 = .ok (.istore 6, 2) := by decide +kernel
theorem dL_law_609 : decode cL_law 609 = .ok (.aload_n 2, 1) := by decide +kernel
theorem dL_law_610 : decode cL_law 610 = .ok (.invokevirtual 69, 3) := by decide +kernel
theorem dL_law_613 : decode cL_law 613 = .ok (.iload 5, 2) := by decide +kernel
theorem dL_law_615 : decode cL_law 615 = .ok (.if_icmp .eq 5, 3) := by decide +kernel
theorem dL_law_618 : decode cL_law 618 = .ok (.iconst 0, 1) := by decide +kernel
theorem dL_law_619 : decode cL_law 619 = .ok (.ireturn, 1) := by decide +kernel
theorem dL_law_620 : decode cL_law 620 = .ok (.iload 5, 2) := by decide +kernel
theorem dL_law_622 : decode cL_law 622 = .ok (.ifCond .ne 15, 3) := by decide +kernel
theorem dL_law_625 : decode cL_law 625 = .ok (.aload_n 3, 1) := by decide +kernel
theorem dL_law_626 : decode cL_law 626 = .ok (.iconst 0, 1) := by decide +kernel
theorem dL_law_627 : decode cL_law 627 = .ok (.laload, 1) := by decide +kernel
theorem dL_law_628 : decode cL_law 628 = .ok (.iload 6, 2) := by decide +kernel
theorem dL_law_630 : decode cL_law 630 = .ok (.i2l, 1) := by decide +kernel
theorem dL_law_631 : decode cL_law 631 = .ok (.lcmp, 1) := by decide +kernel
theorem dL_law_632 : decode cL_law 632 = .ok (.ifCond .eq 5, 3) := by decide +kernel
theorem dL_law_635 : decode cL_law 635 = .ok (.iconst 0, 1) := by decide +kernel
theorem dL_law_636 : decode cL_law 636 = .ok (.ireturn, 1) := by decide +kernel
theorem dL_law_637 : decode cL_law 637 = .ok (.goto 400, 3) := by decide +kernel
theorem dL_law_640 : decode cL_law 640 = .ok (.aload_n 1, 1) := by decide +kernel
theorem dL_law_641 : decode cL_law 641 = .ok (.aload_n 3, 1) := by decide +kernel
theorem dL_law_642 : decode cL_law 642 = .ok (.invokestatic 102, 3) := by decide +kernel
theorem dL_law_645 : decode cL_law 645 = .ok (.istore 5, 2) := by decide +kernel
theorem dL_law_647 : decode cL_law 647 = .ok (.aload_n 2, 1) := by decide +kernel
theorem dL_law_648 : decode cL_law 648 = .ok (.invokevirtual 104, 3) := by decide +kernel
theorem dL_law_651 : decode cL_law 651 = .ok (.istore 6, 2) := by decide +kernel
theorem dL_law_653 : decode cL_law 653 = .ok (.aload_n 2, 1) := by decide +kernel
theorem dL_law_654 : decode cL_law 654 = .ok (.invokevirtual 69, 3) := by decide +kernel
theorem dL_law_657 : decode cL_law 657 = .ok (.iload 5, 2) := by decide +kernel
theorem dL_law_659 : decode cL_law 659 = .ok (.if_icmp .eq 5, 3) := by decide +kernel
theorem dL_law_662 : decode cL_law 662 = .ok (.iconst 0, 1) := by decide +kernel
theorem dL_law_663 : decode cL_law 663 = .ok (.ireturn, 1) := by decide +kernel
theorem dL_law_664 : decode cL_law 664 = .ok (.iload 5, 2) := by decide +kernel
theorem dL_law_666 : decode cL_law 666 = .ok (.ifCond .ne 15, 3) := by decide +kernel
theorem dL_law_669 : decode cL_law 669 = .ok (.aload_n 3, 1) := by decide +kernel
theorem dL_law_670 : decode cL_law 670 = .ok (.iconst 0, 1) := by decide +kernel
theorem dL_law_671 : decode cL_law 671 = .ok (.laload, 1) := by decide +kernel
theorem dL_law_672 : decode cL_law 672 = .ok (.iload 6, 2) := by decide +kernel
theorem dL_law_674 : decode cL_law 674 = .ok (.i2l, 1) := by decide +kernel
theorem dL_law_675 : decode cL_law 675 = .ok (.lcmp, 1) := by decide +kernel
theorem dL_law_676 : decode cL_law 676 = .ok (.ifCond .eq 5, 3) := by decide +kernel
theorem dL_law_679 : decode cL_law 679 = .ok (.iconst 0, 1) := by decide +kernel
theorem dL_law_680 : decode cL_law 680 = .ok (.ireturn, 1) := by decide +kernel
theorem dL_law_681 : decode cL_law 681 = .ok (.goto 356, 3) := by decide +kernel
theorem dL_law_684 : decode cL_law 684 = .ok (.aload_n 1, 1) := by decide +kernel
theorem dL_law_685 : decode cL_law 685 = .ok (.aload_n 0, 1) := by decide +kernel
theorem dL_law_686 : decode cL_law 686 = .ok (.iload 4, 2) := by decide +kernel
theorem dL_law_688 : decode cL_law 688 = .ok (.iconst 1, 1) := by decide +kernel
theorem dL_law_689 : decode cL_law 689 = .ok (.iadd, 1) := by decide +kernel
theorem dL_law_690 : decode cL_law 690 = .ok (.iaload, 1) := by decide +kernel
theorem dL_law_691 : decode cL_law 691 = .ok (.aload_n 3, 1) := by decide +kernel
theorem dL_law_692 : decode cL_law 692 = .ok (.invokestatic 105, 3) := by decide +kernel
theorem dL_law_695 : decode cL_law 695 = .ok (.istore 5, 2) := by decide +kernel
theorem dL_law_697 : decode cL_law 697 = .ok (.aload_n 2, 1) := by decide +kernel
theorem dL_law_698 : decode cL_law 698 = .ok (.aload_n 0, 1) := by decide +kernel
theorem dL_law_699 : decode cL_law 699 = .ok (.iload 4, 2) := by decide +kernel
theorem dL_law_701 : decode cL_law 701 = .ok (.iconst 1, 1) := by decide +kernel
theorem dL_law_702 : decode cL_law 702 = .ok (.iadd, 1) := by decide +kernel
theorem dL_law_703 : decode cL_law 703 = .ok (.iaload, 1) := by decide +kernel
theorem dL_law_704 : decode cL_law 704 = .ok (.invokevirtual 107, 3) := by decide +kernel
theorem dL_law_707 : decode cL_law 707 = .ok (.istore 6, 2) := by decide +kernel
theorem dL_law_709 : decode cL_law 709 = .ok (.aload_n 2, 1) := by decide +kernel
theorem dL_law_710 : decode cL_law 710 = .ok (.invokevirtual 69, 3) := by decide +kernel
theorem dL_law_713 : decode cL_law 713 = .ok (.iload 5, 2) := by decide +kernel
theorem dL_law_715 : decode cL_law 715 = .ok (.if_icmp .eq 5, 3) := by decide +kernel
theorem dL_law_718 : decode cL_law 718 = .ok (.iconst 0, 1) := by decide +kernel
theorem dL_law_719 : decode cL_law 719 = .ok (.ireturn, 1) := by decide +kernel
theorem dL_law_720 : decode cL_law 720 = .ok (.iload 5, 2) := by decide +kernel
theorem dL_law_722 : decode cL_law 722 = .ok (.ifCond .ne 15, 3) := by decide +kernel
theorem dL_law_725 : decode cL_law 725 = .ok (.aload_n 3, 1) := by decide +kernel
theorem dL_law_726 : decode cL_law 726 = .ok (.iconst 0, 1) := by decide +kernel
theorem dL_law_727 : decode cL_law 727 = .ok (.laload, 1) := by decide +kernel
theorem dL_law_728 : decode cL_law 728 = .ok (.iload 6, 2) := by decide +kernel
theorem dL_law_730 : decode cL_law 730 = .ok (.i2l, 1) := by decide +kernel
theorem dL_law_731 : decode cL_law 731 = .ok (.lcmp, 1) := by decide +kernel
theorem dL_law_732 : decode cL_law 732 = .ok (.ifCond .eq 5, 3) := by decide +kernel
theorem dL_law_735 : decode cL_law 735 = .ok (.iconst 0, 1) := by decide +kernel
theorem dL_law_736 : decode cL_law 736 = .ok (.ireturn, 1) := by decide +kernel
theorem dL_law_737 : decode cL_law 737 = .ok (.goto 300, 3) := by decide +kernel
theorem dL_law_740 : decode cL_law 740 = .ok (.aload_n 1, 1) := by decide +kernel
theorem dL_law_741 : decode cL_law 741 = .ok (.aload_n 0, 1) := by decide +kernel
theorem dL_law_742 : decode cL_law 742 = .ok (.iload 4, 2) := by decide +kernel
theorem dL_law_744 : decode cL_law 744 = .ok (.iconst 1, 1) := by decide +kernel
theorem dL_law_745 : decode cL_law 745 = .ok (.iadd, 1) := by decide +kernel
theorem dL_law_746 : decode cL_law 746 = .ok (.iaload, 1) := by decide +kernel
theorem dL_law_747 : decode cL_law 747 = .ok (.aload_n 0, 1) := by decide +kernel
theorem dL_law_748 : decode cL_law 748 = .ok (.iload 4, 2) := by decide +kernel
theorem dL_law_750 : decode cL_law 750 = .ok (.iconst 2, 1) := by decide +kernel
theorem dL_law_751 : decode cL_law 751 = .ok (.iadd, 1) := by decide +kernel
theorem dL_law_752 : decode cL_law 752 = .ok (.iaload, 1) := by decide +kernel
theorem dL_law_753 : decode cL_law 753 = .ok (.aload_n 0, 1) := by decide +kernel
theorem dL_law_754 : decode cL_law 754 = .ok (.iload 4, 2) := by decide +kernel
theorem dL_law_756 : decode cL_law 756 = .ok (.iconst 3, 1) := by decide +kernel
theorem dL_law_757 : decode cL_law 757 = .ok (.iadd, 1) := by decide +kernel
theorem dL_law_758 : decode cL_law 758 = .ok (.iaload, 1) := by decide +kernel
theorem dL_law_759 : decode cL_law 759 = .ok (.aload_n 3, 1) := by decide +kernel
theorem dL_law_760 : decode cL_law 760 = .ok (.invokestatic 108, 3) := by decide +kernel
theorem dL_law_763 : decode cL_law 763 = .ok (.istore 5, 2) := by decide +kernel
theorem dL_law_765 : decode cL_law 765 = .ok (.aload_n 2, 1) := by decide +kernel
theorem dL_law_766 : decode cL_law 766 = .ok (.aload_n 0, 1) := by decide +kernel
theorem dL_law_767 : decode cL_law 767 = .ok (.iload 4, 2) := by decide +kernel
theorem dL_law_769 : decode cL_law 769 = .ok (.iconst 1, 1) := by decide +kernel
theorem dL_law_770 : decode cL_law 770 = .ok (.iadd, 1) := by decide +kernel
theorem dL_law_771 : decode cL_law 771 = .ok (.iaload, 1) := by decide +kernel
theorem dL_law_772 : decode cL_law 772 = .ok (.aload_n 0, 1) := by decide +kernel
theorem dL_law_773 : decode cL_law 773 = .ok (.iload 4, 2) := by decide +kernel
theorem dL_law_775 : decode cL_law 775 = .ok (.iconst 2, 1) := by decide +kernel
theorem dL_law_776 : decode cL_law 776 = .ok (.iadd, 1) := by decide +kernel
theorem dL_law_777 : decode cL_law 777 = .ok (.iaload, 1) := by decide +kernel
theorem dL_law_778 : decode cL_law 778 = .ok (.aload_n 0, 1) := by decide +kernel
theorem dL_law_779 : decode cL_law 779 = .ok (.iload 4, 2) := by decide +kernel
theorem dL_law_781 : decode cL_law 781 = .ok (.iconst 3, 1) := by decide +kernel
theorem dL_law_782 : decode cL_law 782 = .ok (.iadd, 1) := by decide +kernel
theorem dL_law_783 : decode cL_law 783 = .ok (.iaload, 1) := by decide +kernel
theorem dL_law_784 : decode cL_law 784 = .ok (.invokevirtual 111, 3) := by decide +kernel
theorem dL_law_787 : decode cL_law 787 = .ok (.istore 6, 2) := by decide +kernel
theorem dL_law_789 : decode cL_law 789 = .ok (.aload_n 2, 1) := by decide +kernel
theorem dL_law_790 : decode cL_law 790 = .ok (.invokevirtual 69, 3) := by decide +kernel
theorem dL_law_793 : decode cL_law 793 = .ok (.iload 5, 2) := by decide +kernel
theorem dL_law_795 : decode cL_law 795 = .ok (.if_icmp .eq 5, 3) := by decide +kernel
theorem dL_law_798 : decode cL_law 798 = .ok (.iconst 0, 1) := by decide +kernel
theorem dL_law_799 : decode cL_law 799 = .ok (.ireturn, 1) := by decide +kernel
theorem dL_law_800 : decode cL_law 800 = .ok (.iload 5, 2) := by decide +kernel
theorem dL_law_802 : decode cL_law 802 = .ok (.ifCond .ne 15, 3) := by decide +kernel
theorem dL_law_805 : decode cL_law 805 = .ok (.aload_n 3, 1) := by decide +kernel
theorem dL_law_806 : decode cL_law 806 = .ok (.iconst 0, 1) := by decide +kernel
theorem dL_law_807 : decode cL_law 807 = .ok (.laload, 1) := by decide +kernel
theorem dL_law_808 : decode cL_law 808 = .ok (.iload 6, 2) := by decide +kernel
theorem dL_law_810 : decode cL_law 810 = .ok (.i2l, 1) := by decide +kernel
theorem dL_law_811 : decode cL_law 811 = .ok (.lcmp, 1) := by decide +kernel
theorem dL_law_812 : decode cL_law 812 = .ok (.ifCond .eq 5, 3) := by decide +kernel
theorem dL_law_815 : decode cL_law 815 = .ok (.iconst 0, 1) := by decide +kernel
theorem dL_law_816 : decode cL_law 816 = .ok (.ireturn, 1) := by decide +kernel
theorem dL_law_817 : decode cL_law 817 = .ok (.goto 220, 3) := by decide +kernel
theorem dL_law_820 : decode cL_law 820 = .ok (.aload_n 1, 1) := by decide +kernel
theorem dL_law_821 : decode cL_law 821 = .ok (.aload_n 0, 1) := by decide +kernel
theorem dL_law_822 : decode cL_law 822 = .ok (.iload 4, 2) := by decide +kernel
theorem dL_law_824 : decode cL_law 824 = .ok (.iconst 1, 1) := by decide +kernel
theorem dL_law_825 : decode cL_law 825 = .ok (.iadd, 1) := by decide +kernel
theorem dL_law_826 : decode cL_law 826 = .ok (.iaload, 1) := by decide +kernel
theorem dL_law_827 : decode cL_law 827 = .ok (.aload_n 0, 1) := by decide +kernel
theorem dL_law_828 : decode cL_law 828 = .ok (.iload 4, 2) := by decide +kernel
theorem dL_law_830 : decode cL_law 830 = .ok (.iconst 2, 1) := by decide +kernel
theorem dL_law_831 : decode cL_law 831 = .ok (.iadd, 1) := by decide +kernel
theorem dL_law_832 : decode cL_law 832 = .ok (.iaload, 1) := by decide +kernel
theorem dL_law_833 : decode cL_law 833 = .ok (.invokevirtual 112, 3) := by decide +kernel
theorem dL_law_836 : decode cL_law 836 = .ok (.aload_n 2, 1) := by decide +kernel
theorem dL_law_837 : decode cL_law 837 = .ok (.aload_n 0, 1) := by decide +kernel
theorem dL_law_838 : decode cL_law 838 = .ok (.iload 4, 2) := by decide +kernel
theorem dL_law_840 : decode cL_law 840 = .ok (.iconst 1, 1) := by decide +kernel
theorem dL_law_841 : decode cL_law 841 = .ok (.iadd, 1) := by decide +kernel
theorem dL_law_842 : decode cL_law 842 = .ok (.iaload, 1) := by decide +kernel
theorem dL_law_843 : decode cL_law 843 = .ok (.aload_n 0, 1) := by decide +kernel
theorem dL_law_844 : decode cL_law 844 = .ok (.iload 4, 2) := by decide +kernel
theorem dL_law_846 : decode cL_law 846 = .ok (.iconst 2, 1) := by decide +kernel
theorem dL_law_847 : decode cL_law 847 = .ok (.iadd, 1) := by decide +kernel
theorem dL_law_848 : decode cL_law 848 = .ok (.iaload, 1) := by decide +kernel
theorem dL_law_849 : decode cL_law 849 = .ok (.invokevirtual 116, 3) := by decide +kernel
theorem dL_law_852 : decode cL_law 852 = .ok (.if_icmp .eq 185, 3) := by decide +kernel
theorem dL_law_855 : decode cL_law 855 = .ok (.iconst 0, 1) := by decide +kernel
theorem dL_law_856 : decode cL_law 856 = .ok (.ireturn, 1) := by decide +kernel
theorem dL_law_857 : decode cL_law 857 = .ok (.aload_n 1, 1) := by decide +kernel
theorem dL_law_858 : decode cL_law 858 = .ok (.aload_n 0, 1) := by decide +kernel
theorem dL_law_859 : decode cL_law 859 = .ok (.iload 4, 2) := by decide +kernel
theorem dL_law_861 : decode cL_law 861 = .ok (.iconst 1, 1) := by decide +kernel
theorem dL_law_862 : decode cL_law 862 = .ok (.iadd, 1) := by decide +kernel
theorem dL_law_863 : decode cL_law 863 = .ok (.iaload, 1) := by decide +kernel
theorem dL_law_864 : decode cL_law 864 = .ok (.aload_n 0, 1) := by decide +kernel
theorem dL_law_865 : decode cL_law 865 = .ok (.iload 4, 2) := by decide +kernel
theorem dL_law_867 : decode cL_law 867 = .ok (.iconst 2, 1) := by decide +kernel
theorem dL_law_868 : decode cL_law 868 = .ok (.iadd, 1) := by decide +kernel
theorem dL_law_869 : decode cL_law 869 = .ok (.iaload, 1) := by decide +kernel
theorem dL_law_870 : decode cL_law 870 = .ok (.invokevirtual 117, 3) := by decide +kernel
theorem dL_law_873 : decode cL_law 873 = .ok (.aload_n 2, 1) := by decide +kernel
theorem dL_law_874 : decode cL_law 874 = .ok (.aload_n 0, 1) := by decide +kernel
theorem dL_law_875 : decode cL_law 875 = .ok (.iload 4, 2) := by decide +kernel
theorem dL_law_877 : decode cL_law 877 = .ok (.iconst 1, 1) := by decide +kernel
theorem dL_law_878 : decode cL_law 878 = .ok (.iadd, 1) := by decide +kernel
theorem dL_law_879 : decode cL_law 879 = .ok (.iaload, 1) := by decide +kernel
theorem dL_law_880 : decode cL_law 880 = .ok (.aload_n 0, 1) := by decide +kernel
theorem dL_law_881 : decode cL_law 881 = .ok (.iload 4, 2) := by decide +kernel
theorem dL_law_883 : decode cL_law 883 = .ok (.iconst 2, 1) := by decide +kernel
theorem dL_law_884 : decode cL_law 884 = .ok (.iadd, 1) := by decide +kernel
theorem dL_law_885 : decode cL_law 885 = .ok (.iaload, 1) := by decide +kernel
theorem dL_law_886 : decode cL_law 886 = .ok (.invokevirtual 120, 3) := by decide +kernel
theorem dL_law_889 : decode cL_law 889 = .ok (.if_icmp .eq 148, 3) := by decide +kernel
theorem dL_law_892 : decode cL_law 892 = .ok (.iconst 0, 1) := by decide +kernel
theorem dL_law_893 : decode cL_law 893 = .ok (.ireturn, 1) := by decide +kernel
theorem dL_law_894 : decode cL_law 894 = .ok (.aload_n 1, 1) := by decide +kernel
theorem dL_law_895 : decode cL_law 895 = .ok (.aload_n 0, 1) := by decide +kernel
theorem dL_law_896 : decode cL_law 896 = .ok (.iload 4, 2) := by decide +kernel
theorem dL_law_898 : decode cL_law 898 = .ok (.iconst 1, 1) := by decide +kernel
theorem dL_law_899 : decode cL_law 899 = .ok (.iadd, 1) := by decide +kernel
theorem dL_law_900 : decode cL_law 900 = .ok (.iaload, 1) := by decide +kernel
theorem dL_law_901 : decode cL_law 901 = .ok (.aload_n 0, 1) := by decide +kernel
theorem dL_law_902 : decode cL_law 902 = .ok (.iload 4, 2) := by decide +kernel
theorem dL_law_904 : decode cL_law 904 = .ok (.iconst 2, 1) := by decide +kernel
theorem dL_law_905 : decode cL_law 905 = .ok (.iadd, 1) := by decide +kernel
theorem dL_law_906 : decode cL_law 906 = .ok (.iaload, 1) := by decide +kernel
theorem dL_law_907 : decode cL_law 907 = .ok (.invokevirtual 121, 3) := by decide +kernel
theorem dL_law_910 : decode cL_law 910 = .ok (.aload_n 2, 1) := by decide +kernel
theorem dL_law_911 : decode cL_law 911 = .ok (.aload_n 0, 1) := by decide +kernel
theorem dL_law_912 : decode cL_law 912 = .ok (.iload 4, 2) := by decide +kernel
theorem dL_law_914 : decode cL_law 914 = .ok (.iconst 1, 1) := by decide +kernel
theorem dL_law_915 : decode cL_law 915 = .ok (.iadd, 1) := by decide +kernel
theorem dL_law_916 : decode cL_law 916 = .ok (.iaload, 1) := by decide +kernel
theorem dL_law_917 : decode cL_law 917 = .ok (.aload_n 0, 1) := by decide +kernel
theorem dL_law_918 : decode cL_law 918 = .ok (.iload 4, 2) := by decide +kernel
theorem dL_law_920 : decode cL_law 920 = .ok (.iconst 2, 1) := by decide +kernel
theorem dL_law_921 : decode cL_law 921 = .ok (.iadd, 1) := by decide +kernel
theorem dL_law_922 : decode cL_law 922 = .ok (.iaload, 1) := by decide +kernel
theorem dL_law_923 : decode cL_law 923 = .ok (.invokevirtual 124, 3) := by decide +kernel
theorem dL_law_926 : decode cL_law 926 = .ok (.if_icmp .eq 111, 3) := by decide +kernel
theorem dL_law_929 : decode cL_law 929 = .ok (.iconst 0, 1) := by decide +kernel
theorem dL_law_930 : decode cL_law 930 = .ok (.ireturn, 1) := by decide +kernel
theorem dL_law_931 : decode cL_law 931 = .ok (.aload_n 1, 1) := by decide +kernel
theorem dL_law_932 : decode cL_law 932 = .ok (.aload_n 0, 1) := by decide +kernel
theorem dL_law_933 : decode cL_law 933 = .ok (.iload 4, 2) := by decide +kernel
theorem dL_law_935 : decode cL_law 935 = .ok (.iconst 1, 1) := by decide +kernel
theorem dL_law_936 : decode cL_law 936 = .ok (.iadd, 1) := by decide +kernel
theorem dL_law_937 : decode cL_law 937 = .ok (.iaload, 1) := by decide +kernel
theorem dL_law_938 : decode cL_law 938 = .ok (.aload_n 0, 1) := by decide +kernel
theorem dL_law_939 : decode cL_law 939 = .ok (.iload 4, 2) := by decide +kernel
theorem dL_law_941 : decode cL_law 941 = .ok (.iconst 2, 1) := by decide +kernel
theorem dL_law_942 : decode cL_law 942 = .ok (.iadd, 1) := by decide +kernel
theorem dL_law_943 : decode cL_law 943 = .ok (.iaload, 1) := by decide +kernel
theorem dL_law_944 : decode cL_law 944 = .ok (.invokevirtual 125, 3) := by decide +kernel
theorem dL_law_947 : decode cL_law 947 = .ok (.aload_n 2, 1) := by decide +kernel
theorem dL_law_948 : decode cL_law 948 = .ok (.aload_n 0, 1) := by decide +kernel
theorem dL_law_949 : decode cL_law 949 = .ok (.iload 4, 2) := by decide +kernel
theorem dL_law_951 : decode cL_law 951 = .ok (.iconst 1, 1) := by decide +kernel
theorem dL_law_952 : decode cL_law 952 = .ok (.iadd, 1) := by decide +kernel
theorem dL_law_953 : decode cL_law 953 = .ok (.iaload, 1) := by decide +kernel
theorem dL_law_954 : decode cL_law 954 = .ok (.aload_n 0, 1) := by decide +kernel
theorem dL_law_955 : decode cL_law 955 = .ok (.iload 4, 2) := by decide +kernel
theorem dL_law_957 : decode cL_law 957 = .ok (.iconst 2, 1) := by decide +kernel
theorem dL_law_958 : decode cL_law 958 = .ok (.iadd, 1) := by decide +kernel
theorem dL_law_959 : decode cL_law 959 = .ok (.iaload, 1) := by decide +kernel
theorem dL_law_960 : decode cL_law 960 = .ok (.invokevirtual 128, 3) := by decide +kernel
theorem dL_law_963 : decode cL_law 963 = .ok (.if_icmp .eq 74, 3) := by decide +kernel
theorem dL_law_966 : decode cL_law 966 = .ok (.iconst 0, 1) := by decide +kernel
theorem dL_law_967 : decode cL_law 967 = .ok (.ireturn, 1) := by decide +kernel
theorem dL_law_968 : decode cL_law 968 = .ok (.aload_n 1, 1) := by decide +kernel
theorem dL_law_969 : decode cL_law 969 = .ok (.aload_n 3, 1) := by decide +kernel
theorem dL_law_970 : decode cL_law 970 = .ok (.invokestatic 129, 3) := by decide +kernel
theorem dL_law_973 : decode cL_law 973 = .ok (.istore 5, 2) := by decide +kernel
theorem dL_law_975 : decode cL_law 975 = .ok (.aload_n 2, 1) := by decide +kernel
theorem dL_law_976 : decode cL_law 976 = .ok (.invokevirtual 131, 3) := by decide +kernel
theorem dL_law_979 : decode cL_law 979 = .ok (.istore 6, 2) := by decide +kernel
theorem dL_law_981 : decode cL_law 981 = .ok (.aload_n 2, 1) := by decide +kernel
theorem dL_law_982 : decode cL_law 982 = .ok (.invokevirtual 69, 3) := by decide +kernel
theorem dL_law_985 : decode cL_law 985 = .ok (.iload 5, 2) := by decide +kernel
theorem dL_law_987 : decode cL_law 987 = .ok (.if_icmp .eq 5, 3) := by decide +kernel
theorem dL_law_990 : decode cL_law 990 = .ok (.iconst 0, 1) := by decide +kernel
theorem dL_law_991 : decode cL_law 991 = .ok (.ireturn, 1) := by decide +kernel
theorem dL_law_992 : decode cL_law 992 = .ok (.iload 5, 2) := by decide +kernel
theorem dL_law_994 : decode cL_law 994 = .ok (.ifCond .ne 15, 3) := by decide +kernel
theorem dL_law_997 : decode cL_law 997 = .ok (.aload_n 3, 1) := by decide +kernel
theorem dL_law_998 : decode cL_law 998 = .ok (.iconst 0, 1) := by decide +kernel
theorem dL_law_999 : decode cL_law 999 = .ok (.laload, 1) := by decide +kernel
theorem dL_law_1000 : decode cL_law 1000 = .ok (.iload 6, 2) := by decide +kernel
theorem dL_law_1002 : decode cL_law 1002 = .ok (.i2l, 1) := by decide +kernel
theorem dL_law_1003 : decode cL_law 1003 = .ok (.lcmp, 1) := by decide +kernel
theorem dL_law_1004 : decode cL_law 1004 = .ok (.ifCond .eq 5, 3) := by decide +kernel
theorem dL_law_1007 : decode cL_law 1007 = .ok (.iconst 0, 1) := by decide +kernel
theorem dL_law_1008 : decode cL_law 1008 = .ok (.ireturn, 1) := by decide +kernel
theorem dL_law_1009 : decode cL_law 1009 = .ok (.goto 28, 3) := by decide +kernel
theorem dL_law_1012 : decode cL_law 1012 = .ok (.aload_n 1, 1) := by decide +kernel
theorem dL_law_1013 : decode cL_law 1013 = .ok (.aload_n 0, 1) := by decide +kernel
theorem dL_law_1014 : decode cL_law 1014 = .ok (.iload 4, 2) := by decide +kernel
theorem dL_law_1016 : decode cL_law 1016 = .ok (.iconst 1, 1) := by decide +kernel
theorem dL_law_1017 : decode cL_law 1017 = .ok (.iadd, 1) := by decide +kernel
theorem dL_law_1018 : decode cL_law 1018 = .ok (.iaload, 1) := by decide +kernel
theorem dL_law_1019 : decode cL_law 1019 = .ok (.invokevirtual 132, 3) := by decide +kernel
theorem dL_law_1022 : decode cL_law 1022 = .ok (.aload_n 2, 1) := by decide +kernel
theorem dL_law_1023 : decode cL_law 1023 = .ok (.aload_n 0, 1) := by decide +kernel
theorem dL_law_1024 : decode cL_law 1024 = .ok (.iload 4, 2) := by decide +kernel
theorem dL_law_1026 : decode cL_law 1026 = .ok (.iconst 1, 1) := by decide +kernel
theorem dL_law_1027 : decode cL_law 1027 = .ok (.iadd, 1) := by decide +kernel
theorem dL_law_1028 : decode cL_law 1028 = .ok (.iaload, 1) := by decide +kernel
theorem dL_law_1029 : decode cL_law 1029 = .ok (.invokevirtual 135, 3) := by decide +kernel
theorem dL_law_1032 : decode cL_law 1032 = .ok (.if_icmp .eq 5, 3) := by decide +kernel
theorem dL_law_1035 : decode cL_law 1035 = .ok (.iconst 0, 1) := by decide +kernel
theorem dL_law_1036 : decode cL_law 1036 = .ok (.ireturn, 1) := by decide +kernel
theorem dL_law_1037 : decode cL_law 1037 = .ok (.iinc 4 6, 3) := by decide +kernel
theorem dL_law_1040 : decode cL_law 1040 = .ok (.goto (-1017), 3) := by decide +kernel
theorem dL_law_1043 : decode cL_law 1043 = .ok (.iconst 1, 1) := by decide +kernel
theorem dL_law_1044 : decode cL_law 1044 = .ok (.ireturn, 1) := by decide +kernel
def L_law_b1037 (xs : Nat → Int32) (L : Nat) (k23 : Nat → Nat → Nat → Int32 → M Int32)  (a1 : Nat) (a2 : Nat) (a3 : Nat) (i4 : Int32) : M Int32 := k23 a1 a2 a3 (i4 + 6)
def L_law_b317 (xs : Nat → Int32) (L : Nat) (k23 : Nat → Nat → Nat → Int32 → M Int32)  (a1 : Nat) (a2 : Nat) (a3 : Nat) (i4 : Int32) : M Int32 := L_law_b1037 xs L k23  a1 a2 a3 i4
def L_law_b373 (xs : Nat → Int32) (L : Nat) (k23 : Nat → Nat → Nat → Int32 → M Int32)  (a1 : Nat) (a2 : Nat) (a3 : Nat) (i4 : Int32) : M Int32 := L_law_b1037 xs L k23  a1 a2 a3 i4
def L_law_b424 (xs : Nat → Int32) (L : Nat) (k23 : Nat → Nat → Nat → Int32 → M Int32)  (a1 : Nat) (a2 : Nat) (a3 : Nat) (i4 : Int32) : M Int32 := L_law_b1037 xs L k23  a1 a2 a3 i4
def L_law_b418 (xs : Nat → Int32) (L : Nat) (k23 : Nat → Nat → Nat → Int32 → M Int32)  (a1 : Nat) (a2 : Nat) (a3 : Nat) (i4 : Int32) (s0 : Int64) (s1 : Int64) : M Int32 := it ((lg_cmp s1 s0) = 0) (L_law_b424 xs L k23  a1 a2 a3 i4) (pu 0)
def L_law_b468 (xs : Nat → Int32) (L : Nat) (k23 : Nat → Nat → Nat → Int32 → M Int32)  (a1 : Nat) (a2 : Nat) (a3 : Nat) (i4 : Int32) : M Int32 := L_law_b1037 xs L k23  a1 a2 a3 i4
def L_law_b537 (xs : Nat → Int32) (L : Nat) (k23 : Nat → Nat → Nat → Int32 → M Int32)  (a1 : Nat) (a2 : Nat) (a3 : Nat) (i4 : Int32) : M Int32 := L_law_b1037 xs L k23  a1 a2 a3 i4
def L_law_b593 (xs : Nat → Int32) (L : Nat) (k23 : Nat → Nat → Nat → Int32 → M Int32)  (a1 : Nat) (a2 : Nat) (a3 : Nat) (i4 : Int32) : M Int32 := L_law_b1037 xs L k23  a1 a2 a3 i4
def L_law_b637 (xs : Nat → Int32) (L : Nat) (k23 : Nat → Nat → Nat → Int32 → M Int32)  (a1 : Nat) (a2 : Nat) (a3 : Nat) (i4 : Int32) : M Int32 := L_law_b1037 xs L k23  a1 a2 a3 i4
def L_law_b681 (xs : Nat → Int32) (L : Nat) (k23 : Nat → Nat → Nat → Int32 → M Int32)  (a1 : Nat) (a2 : Nat) (a3 : Nat) (i4 : Int32) : M Int32 := L_law_b1037 xs L k23  a1 a2 a3 i4
def L_law_b737 (xs : Nat → Int32) (L : Nat) (k23 : Nat → Nat → Nat → Int32 → M Int32)  (a1 : Nat) (a2 : Nat) (a3 : Nat) (i4 : Int32) : M Int32 := L_law_b1037 xs L k23  a1 a2 a3 i4
def L_law_b817 (xs : Nat → Int32) (L : Nat) (k23 : Nat → Nat → Nat → Int32 → M Int32)  (a1 : Nat) (a2 : Nat) (a3 : Nat) (i4 : Int32) : M Int32 := L_law_b1037 xs L k23  a1 a2 a3 i4
def L_law_b1009 (xs : Nat → Int32) (L : Nat) (k23 : Nat → Nat → Nat → Int32 → M Int32)  (a1 : Nat) (a2 : Nat) (a3 : Nat) (i4 : Int32) : M Int32 := L_law_b1037 xs L k23  a1 a2 a3 i4
def L_law_b23b (xs : Nat → Int32) (L : Nat)  (k23 : Nat → Nat → Nat → Int32 → M Int32) (a1 : Nat) (a2 : Nat) (a3 : Nat) (i4 : Int32) : M Int32 := it (((nI L) - 6) < i4) (pu 1) (bd (sx xs L i4) (fun x1 => it ((x1 &&& 31) = 0) (bd (sx xs L (i4 + 1)) (fun x2 => bd (sx xs L (i4 + 2)) (fun x3 => bd (L_format a1 x2 x3) (fun x4 => bd (sx xs L (i4 + 1)) (fun x5 => bd (sx xs L (i4 + 2)) (fun x6 => bd (ck 12 a2) (fun _ => bd (X9_format a2 x5 x6) (fun _ => bd (ck 12 a2) (fun _ => bd (X9_thrown a2) (fun x7 => it (x7 = x4) (L_law_b1037 xs L k23  a1 a2 a3 i4) (pu 0))))))))))) (it ((x1 &&& 31) = 1) (bd (sx xs L (i4 + 1)) (fun x8 => bd (sx xs L (i4 + 2)) (fun x9 => bd (sx xs L (i4 + 3)) (fun x10 => bd (sx xs L (i4 + 4)) (fun x11 => bd (sx xs L (i4 + 5)) (fun x12 => bd (L_feed a1 x8 ((((x9 : Int32).toInt64) <<< ((32 : Int32).toInt64 &&& 63)) ||| (((x10 : Int32).toInt64) &&& 4294967295)) ((((x11 : Int32).toInt64) <<< ((32 : Int32).toInt64 &&& 63)) ||| (((x12 : Int32).toInt64) &&& 4294967295)) a3) (fun x13 => bd (sx xs L (i4 + 1)) (fun x14 => bd (sx xs L (i4 + 2)) (fun x15 => bd (sx xs L (i4 + 3)) (fun x16 => bd (sx xs L (i4 + 4)) (fun x17 => bd (sx xs L (i4 + 5)) (fun x18 => bd (ck 12 a2) (fun _ => bd (X9_feed a2 x14 ((((x15 : Int32).toInt64) <<< ((32 : Int32).toInt64 &&& 63)) ||| (((x16 : Int32).toInt64) &&& 4294967295)) ((((x17 : Int32).toInt64) <<< ((32 : Int32).toInt64 &&& 63)) ||| (((x18 : Int32).toInt64) &&& 4294967295))) (fun x19 => bd (ck 12 a2) (fun _ => bd (X9_thrown a2) (fun x20 => it (x20 = x13) (it (¬ x13 = 0) (L_law_b317 xs L k23  a1 a2 a3 i4) (bd (ll a3 0) (fun x21 => it ((lg_cmp x21 ((x19 : Int32).toInt64)) = 0) (L_law_b317 xs L k23  a1 a2 a3 i4) (pu 0)))) (pu 0))))))))))))))))) (it ((x1 &&& 31) = 2) (bd (sx xs L (i4 + 1)) (fun x22 => bd (L_put a1 x22 a3) (fun x23 => bd (sx xs L (i4 + 1)) (fun x24 => bd (ck 12 a2) (fun _ => bd (X9_put a2 x24) (fun x25 => bd (ck 12 a2) (fun _ => bd (X9_thrown a2) (fun x26 => it (x26 = x23) (it (¬ x23 = 0) (L_law_b373 xs L k23  a1 a2 a3 i4) (bd (ll a3 0) (fun x27 => it ((lg_cmp x27 ((x25 : Int32).toInt64)) = 0) (L_law_b373 xs L k23  a1 a2 a3 i4) (pu 0)))) (pu 0))))))))) (it ((x1 &&& 31) = 3) (bd (L_remove a1 a3) (fun x28 => bd (ck 12 a2) (fun _ => bd (X9_remove a2) (fun x29 => bd (ck 12 a2) (fun _ => bd (X9_thrown a2) (fun x30 => it (x30 = x28) (it (¬ x28 = 0) (L_law_b424 xs L k23  a1 a2 a3 i4) (bd (ll a3 0) (fun x31 => it (x29 = 0) (L_law_b418 xs L k23  a1 a2 a3 i4 0 x31) (L_law_b418 xs L k23  a1 a2 a3 i4 1 x31)))) (pu 0))))))) (it ((x1 &&& 31) = 4) (bd (L_get a1 a3) (fun x32 => bd (ck 12 a2) (fun _ => bd (X9_get a2) (fun x33 => bd (ck 12 a2) (fun _ => bd (X9_thrown a2) (fun x34 => it (x34 = x32) (it (¬ x32 = 0) (L_law_b468 xs L k23  a1 a2 a3 i4) (bd (ll a3 0) (fun x35 => it ((lg_cmp x35 ((x33 : Int32).toInt64)) = 0) (L_law_b468 xs L k23  a1 a2 a3 i4) (pu 0)))) (pu 0))))))) (it ((x1 &&& 31) = 5) (bd (sx xs L (i4 + 1)) (fun x36 => bd (ck 11 a1) (fun _ => bd (X8_answer a1 x36) (fun x37 => bd (sx xs L (i4 + 1)) (fun x38 => bd (ck 12 a2) (fun _ => bd (X9_answer a2 x38) (fun x39 => it (x37 = x39) (L_law_b1037 xs L k23  a1 a2 a3 i4) (pu 0)))))))) (it ((x1 &&& 31) = 6) (bd (L_sync a1 a3) (fun x40 => bd (ck 12 a2) (fun _ => bd (X9_sync a2) (fun x41 => bd (ck 12 a2) (fun _ => bd (X9_thrown a2) (fun x42 => it (x42 = x40) (it (¬ x40 = 0) (L_law_b537 xs L k23  a1 a2 a3 i4) (bd (ll a3 0) (fun x43 => it ((lg_cmp x43 ((x41 : Int32).toInt64)) = 0) (L_law_b537 xs L k23  a1 a2 a3 i4) (pu 0)))) (pu 0))))))) (it ((x1 &&& 31) = 7) (bd (sx xs L (i4 + 1)) (fun x44 => bd (L_crash a1 x44 a3) (fun x45 => bd (sx xs L (i4 + 1)) (fun x46 => bd (ck 12 a2) (fun _ => bd (X9_crash a2 x46) (fun x47 => bd (ck 12 a2) (fun _ => bd (X9_thrown a2) (fun x48 => it (x48 = x45) (it (¬ x45 = 0) (L_law_b593 xs L k23  a1 a2 a3 i4) (bd (ll a3 0) (fun x49 => it ((lg_cmp x49 ((x47 : Int32).toInt64)) = 0) (L_law_b593 xs L k23  a1 a2 a3 i4) (pu 0)))) (pu 0))))))))) (it ((x1 &&& 31) = 8) (bd (L_open a1 a3) (fun x50 => bd (ck 12 a2) (fun _ => bd (X9_open a2) (fun x51 => bd (ck 12 a2) (fun _ => bd (X9_thrown a2) (fun x52 => it (x52 = x50) (it (¬ x50 = 0) (L_law_b637 xs L k23  a1 a2 a3 i4) (bd (ll a3 0) (fun x53 => it ((lg_cmp x53 ((x51 : Int32).toInt64)) = 0) (L_law_b637 xs L k23  a1 a2 a3 i4) (pu 0)))) (pu 0))))))) (it ((x1 &&& 31) = 9) (bd (L_mergeBegin a1 a3) (fun x54 => bd (ck 12 a2) (fun _ => bd (X9_mergeBegin a2) (fun x55 => bd (ck 12 a2) (fun _ => bd (X9_thrown a2) (fun x56 => it (x56 = x54) (it (¬ x54 = 0) (L_law_b681 xs L k23  a1 a2 a3 i4) (bd (ll a3 0) (fun x57 => it ((lg_cmp x57 ((x55 : Int32).toInt64)) = 0) (L_law_b681 xs L k23  a1 a2 a3 i4) (pu 0)))) (pu 0))))))) (it ((x1 &&& 31) = 10) (bd (sx xs L (i4 + 1)) (fun x58 => bd (L_mergeStep a1 x58 a3) (fun x59 => bd (sx xs L (i4 + 1)) (fun x60 => bd (ck 12 a2) (fun _ => bd (X9_mergeStep a2 x60) (fun x61 => bd (ck 12 a2) (fun _ => bd (X9_thrown a2) (fun x62 => it (x62 = x59) (it (¬ x59 = 0) (L_law_b737 xs L k23  a1 a2 a3 i4) (bd (ll a3 0) (fun x63 => it ((lg_cmp x63 ((x61 : Int32).toInt64)) = 0) (L_law_b737 xs L k23  a1 a2 a3 i4) (pu 0)))) (pu 0))))))))) (it ((x1 &&& 31) = 11) (bd (sx xs L (i4 + 1)) (fun x64 => bd (sx xs L (i4 + 2)) (fun x65 => bd (sx xs L (i4 + 3)) (fun x66 => bd (L_patch a1 x64 x65 x66 a3) (fun x67 => bd (sx xs L (i4 + 1)) (fun x68 => bd (sx xs L (i4 + 2)) (fun x69 => bd (sx xs L (i4 + 3)) (fun x70 => bd (ck 12 a2) (fun _ => bd (X9_patch a2 x68 x69 x70) (fun x71 => bd (ck 12 a2) (fun _ => bd (X9_thrown a2) (fun x72 => it (x72 = x67) (it (¬ x67 = 0) (L_law_b817 xs L k23  a1 a2 a3 i4) (bd (ll a3 0) (fun x73 => it ((lg_cmp x73 ((x71 : Int32).toInt64)) = 0) (L_law_b817 xs L k23  a1 a2 a3 i4) (pu 0)))) (pu 0))))))))))))) (it ((x1 &&& 31) = 12) (bd (sx xs L (i4 + 1)) (fun x74 => bd (sx xs L (i4 + 2)) (fun x75 => bd (ck 11 a1) (fun _ => bd (X8_file a1 x74 x75) (fun x76 => bd (sx xs L (i4 + 1)) (fun x77 => bd (sx xs L (i4 + 2)) (fun x78 => bd (ck 12 a2) (fun _ => bd (X9_file a2 x77 x78) (fun x79 => it (x76 = x79) (L_law_b1037 xs L k23  a1 a2 a3 i4) (pu 0)))))))))) (it ((x1 &&& 31) = 13) (bd (sx xs L (i4 + 1)) (fun x80 => bd (sx xs L (i4 + 2)) (fun x81 => bd (ck 11 a1) (fun _ => bd (X8_byteOf a1 x80 x81) (fun x82 => bd (sx xs L (i4 + 1)) (fun x83 => bd (sx xs L (i4 + 2)) (fun x84 => bd (ck 12 a2) (fun _ => bd (X9_byteOf a2 x83 x84) (fun x85 => it (x82 = x85) (L_law_b1037 xs L k23  a1 a2 a3 i4) (pu 0)))))))))) (it ((x1 &&& 31) = 14) (bd (sx xs L (i4 + 1)) (fun x86 => bd (sx xs L (i4 + 2)) (fun x87 => bd (ck 11 a1) (fun _ => bd (X8_entry a1 x86 x87) (fun x88 => bd (sx xs L (i4 + 1)) (fun x89 => bd (sx xs L (i4 + 2)) (fun x90 => bd (ck 12 a2) (fun _ => bd (X9_entry a2 x89 x90) (fun x91 => it (x88 = x91) (L_law_b1037 xs L k23  a1 a2 a3 i4) (pu 0)))))))))) (it ((x1 &&& 31) = 15) (bd (sx xs L (i4 + 1)) (fun x92 => bd (sx xs L (i4 + 2)) (fun x93 => bd (ck 11 a1) (fun _ => bd (X8_key a1 x92 x93) (fun x94 => bd (sx xs L (i4 + 1)) (fun x95 => bd (sx xs L (i4 + 2)) (fun x96 => bd (ck 12 a2) (fun _ => bd (X9_key a2 x95 x96) (fun x97 => it (x94 = x97) (L_law_b1037 xs L k23  a1 a2 a3 i4) (pu 0)))))))))) (it ((x1 &&& 31) = 16) (bd (L_bad a1 a3) (fun x98 => bd (ck 12 a2) (fun _ => bd (X9_bad a2) (fun x99 => bd (ck 12 a2) (fun _ => bd (X9_thrown a2) (fun x100 => it (x100 = x98) (it (¬ x98 = 0) (L_law_b1009 xs L k23  a1 a2 a3 i4) (bd (ll a3 0) (fun x101 => it ((lg_cmp x101 ((x99 : Int32).toInt64)) = 0) (L_law_b1009 xs L k23  a1 a2 a3 i4) (pu 0)))) (pu 0))))))) (it ((x1 &&& 31) = 17) (bd (sx xs L (i4 + 1)) (fun x102 => bd (ck 11 a1) (fun _ => bd (X8_look a1 x102) (fun x103 => bd (sx xs L (i4 + 1)) (fun x104 => bd (ck 12 a2) (fun _ => bd (X9_look a2 x104) (fun x105 => it (x103 = x105) (L_law_b1037 xs L k23  a1 a2 a3 i4) (pu 0)))))))) (L_law_b1037 xs L k23  a1 a2 a3 i4))))))))))))))))))))
def L_law_b23 (xs : Nat → Int32) (L : Nat)  : Nat → Nat → Nat → Nat → Int32 → M Int32
  | 0 => fun _ _ _ _ => fl
  | n + 1 => fun a1 a2 a3 i4 => L_law_b23b xs L  (L_law_b23 xs L  n) a1 a2 a3 i4
def L_law (xs : Nat → Int32) (L : Nat)  : M Int32 := bd (nw 11 11) (fun y1 => bd (X8_init y1) (fun _ => bd (nw 12 54) (fun y2 => bd (X9_init y2) (fun _ => bd (na 23 1) (fun y3 => L_law_b23 xs L  FU y1 y2 y3 0)))))
section
variable {G : Gx} {p : Program} {l : Launch} {e : Env} {R : Room} {s : State} {m : MethodId} {args : Array Value} {below : List Frame} {meth : Method} {c : Code} {h0 : Hp} {r : Int32} {h' : Hp}
set_option maxRecDepth 20000 in
theorem L_law_b1037_s {b : Nat} {xs : Nat → Int32} {L : Nat} (C : Cx G p R s m args meth c cL_law 7 RL h0 h') (hF : R.frames = 2048) (hO : R.locals = 84000) (hr : LawR G R args meth s r h0 h') (S : SX G s) (X : va_X b L xs s (gH G)) (hb9 : b < (gH G).size) (hl0 : l.stackTraces = false) {k23 : Nat → Nat → Nat → Int32 → M Int32} (hk23 : ∀ (a1 : Nat) (a2 : Nat) (a3 : Nat) (i4 : Int32), Sm G (lw_Z below args s) p l e R s m args below meth c 7 h0 r h' 23 [(0, .ref b), (1, .ref a1), (2, .ref a2), (3, .ref a3), (4, .int i4)] [] (k23 a1 a2 a3 i4))  (a1 : Nat) (a2 : Nat) (a3 : Nat) (i4 : Int32) : Sm G (lw_Z below args s) p l e R s m args below meth c 7 h0 r h' 1037 [(0, .ref b), (1, .ref a1), (2, .ref a2), (3, .ref a3), (4, .int i4)] [] (L_law_b1037 xs L k23  a1 a2 a3 i4) := by
  refine s_iincK (lv' := [(4, .int (i4 + 6)), (0, .ref b), (1, .ref a1), (2, .ref a2), (3, .ref a3)]) (w := 6) C 4 dL_law_1037 rfl (by decide) (by decide) rfl ?_
  refine s_goto (tgt := 23) C dL_law_1040 (by decide) ?_
  refine s_sub [1, 2, 3, 4, 0] rfl ?_
  exact hk23 a1 a2 a3 (i4 + 6)
set_option maxRecDepth 20000 in
theorem L_law_b317_s {b : Nat} {xs : Nat → Int32} {L : Nat} (C : Cx G p R s m args meth c cL_law 7 RL h0 h') (hF : R.frames = 2048) (hO : R.locals = 84000) (hr : LawR G R args meth s r h0 h') (S : SX G s) (X : va_X b L xs s (gH G)) (hb9 : b < (gH G).size) (hl0 : l.stackTraces = false) {k23 : Nat → Nat → Nat → Int32 → M Int32} (hk23 : ∀ (a1 : Nat) (a2 : Nat) (a3 : Nat) (i4 : Int32), Sm G (lw_Z below args s) p l e R s m args below meth c 7 h0 r h' 23 [(0, .ref b), (1, .ref a1), (2, .ref a2), (3, .ref a3), (4, .int i4)] [] (k23 a1 a2 a3 i4))  (a1 : Nat) (a2 : Nat) (a3 : Nat) (i4 : Int32) : Sm G (lw_Z below args s) p l e R s m args below meth c 7 h0 r h' 317 [(0, .ref b), (1, .ref a1), (2, .ref a2), (3, .ref a3), (4, .int i4)] [] (L_law_b317 xs L k23  a1 a2 a3 i4) := by
  refine s_goto (tgt := 1037) C dL_law_317 (by decide) ?_
  exact L_law_b1037_s C hF hO hr S X hb9 hl0 hk23  a1 a2 a3 i4
set_option maxRecDepth 20000 in
theorem L_law_b373_s {b : Nat} {xs : Nat → Int32} {L : Nat} (C : Cx G p R s m args meth c cL_law 7 RL h0 h') (hF : R.frames = 2048) (hO : R.locals = 84000) (hr : LawR G R args meth s r h0 h') (S : SX G s) (X : va_X b L xs s (gH G)) (hb9 : b < (gH G).size) (hl0 : l.stackTraces = false) {k23 : Nat → Nat → Nat → Int32 → M Int32} (hk23 : ∀ (a1 : Nat) (a2 : Nat) (a3 : Nat) (i4 : Int32), Sm G (lw_Z below args s) p l e R s m args below meth c 7 h0 r h' 23 [(0, .ref b), (1, .ref a1), (2, .ref a2), (3, .ref a3), (4, .int i4)] [] (k23 a1 a2 a3 i4))  (a1 : Nat) (a2 : Nat) (a3 : Nat) (i4 : Int32) : Sm G (lw_Z below args s) p l e R s m args below meth c 7 h0 r h' 373 [(0, .ref b), (1, .ref a1), (2, .ref a2), (3, .ref a3), (4, .int i4)] [] (L_law_b373 xs L k23  a1 a2 a3 i4) := by
  refine s_goto (tgt := 1037) C dL_law_373 (by decide) ?_
  exact L_law_b1037_s C hF hO hr S X hb9 hl0 hk23  a1 a2 a3 i4
set_option maxRecDepth 20000 in
theorem L_law_b424_s {b : Nat} {xs : Nat → Int32} {L : Nat} (C : Cx G p R s m args meth c cL_law 7 RL h0 h') (hF : R.frames = 2048) (hO : R.locals = 84000) (hr : LawR G R args meth s r h0 h') (S : SX G s) (X : va_X b L xs s (gH G)) (hb9 : b < (gH G).size) (hl0 : l.stackTraces = false) {k23 : Nat → Nat → Nat → Int32 → M Int32} (hk23 : ∀ (a1 : Nat) (a2 : Nat) (a3 : Nat) (i4 : Int32), Sm G (lw_Z below args s) p l e R s m args below meth c 7 h0 r h' 23 [(0, .ref b), (1, .ref a1), (2, .ref a2), (3, .ref a3), (4, .int i4)] [] (k23 a1 a2 a3 i4))  (a1 : Nat) (a2 : Nat) (a3 : Nat) (i4 : Int32) : Sm G (lw_Z below args s) p l e R s m args below meth c 7 h0 r h' 424 [(0, .ref b), (1, .ref a1), (2, .ref a2), (3, .ref a3), (4, .int i4)] [] (L_law_b424 xs L k23  a1 a2 a3 i4) := by
  refine s_goto (tgt := 1037) C dL_law_424 (by decide) ?_
  exact L_law_b1037_s C hF hO hr S X hb9 hl0 hk23  a1 a2 a3 i4
set_option maxRecDepth 20000 in
theorem L_law_b418_s {b : Nat} {xs : Nat → Int32} {L : Nat} (C : Cx G p R s m args meth c cL_law 7 RL h0 h') (hF : R.frames = 2048) (hO : R.locals = 84000) (hr : LawR G R args meth s r h0 h') (S : SX G s) (X : va_X b L xs s (gH G)) (hb9 : b < (gH G).size) (hl0 : l.stackTraces = false) {k23 : Nat → Nat → Nat → Int32 → M Int32} (hk23 : ∀ (a1 : Nat) (a2 : Nat) (a3 : Nat) (i4 : Int32), Sm G (lw_Z below args s) p l e R s m args below meth c 7 h0 r h' 23 [(0, .ref b), (1, .ref a1), (2, .ref a2), (3, .ref a3), (4, .int i4)] [] (k23 a1 a2 a3 i4))  (a1 : Nat) (a2 : Nat) (a3 : Nat) (i4 : Int32) (s0 : Int64) (s1 : Int64) : Sm G (lw_Z below args s) p l e R s m args below meth c 7 h0 r h' 418 [(0, .ref b), (1, .ref a1), (2, .ref a2), (3, .ref a3), (4, .int i4)] [.long s0, .long s1] (L_law_b418 xs L k23  a1 a2 a3 i4 s0 s1) := by
  refine s_lcmp C dL_law_418 ?_
  refine s_if_eq (tgt := 424) C dL_law_419 (by decide) ?_ ?_
  · exact L_law_b424_s C hF hO hr S X hb9 hl0 hk23  a1 a2 a3 i4
  refine s_iconst (v := 0) C dL_law_422 (by decide) ?_
  exact s_lawret C hr dL_law_423
set_option maxRecDepth 20000 in
theorem L_law_b468_s {b : Nat} {xs : Nat → Int32} {L : Nat} (C : Cx G p R s m args meth c cL_law 7 RL h0 h') (hF : R.frames = 2048) (hO : R.locals = 84000) (hr : LawR G R args meth s r h0 h') (S : SX G s) (X : va_X b L xs s (gH G)) (hb9 : b < (gH G).size) (hl0 : l.stackTraces = false) {k23 : Nat → Nat → Nat → Int32 → M Int32} (hk23 : ∀ (a1 : Nat) (a2 : Nat) (a3 : Nat) (i4 : Int32), Sm G (lw_Z below args s) p l e R s m args below meth c 7 h0 r h' 23 [(0, .ref b), (1, .ref a1), (2, .ref a2), (3, .ref a3), (4, .int i4)] [] (k23 a1 a2 a3 i4))  (a1 : Nat) (a2 : Nat) (a3 : Nat) (i4 : Int32) : Sm G (lw_Z below args s) p l e R s m args below meth c 7 h0 r h' 468 [(0, .ref b), (1, .ref a1), (2, .ref a2), (3, .ref a3), (4, .int i4)] [] (L_law_b468 xs L k23  a1 a2 a3 i4) := by
  refine s_goto (tgt := 1037) C dL_law_468 (by decide) ?_
  exact L_law_b1037_s C hF hO hr S X hb9 hl0 hk23  a1 a2 a3 i4
set_option maxRecDepth 20000 in
theorem L_law_b537_s {b : Nat} {xs : Nat → Int32} {L : Nat} (C : Cx G p R s m args meth c cL_law 7 RL h0 h') (hF : R.frames = 2048) (hO : R.locals = 84000) (hr : LawR G R args meth s r h0 h') (S : SX G s) (X : va_X b L xs s (gH G)) (hb9 : b < (gH G).size) (hl0 : l.stackTraces = false) {k23 : Nat → Nat → Nat → Int32 → M Int32} (hk23 : ∀ (a1 : Nat) (a2 : Nat) (a3 : Nat) (i4 : Int32), Sm G (lw_Z below args s) p l e R s m args below meth c 7 h0 r h' 23 [(0, .ref b), (1, .ref a1), (2, .ref a2), (3, .ref a3), (4, .int i4)] [] (k23 a1 a2 a3 i4))  (a1 : Nat) (a2 : Nat) (a3 : Nat) (i4 : Int32) : Sm G (lw_Z below args s) p l e R s m args below meth c 7 h0 r h' 537 [(0, .ref b), (1, .ref a1), (2, .ref a2), (3, .ref a3), (4, .int i4)] [] (L_law_b537 xs L k23  a1 a2 a3 i4) := by
  refine s_goto (tgt := 1037) C dL_law_537 (by decide) ?_
  exact L_law_b1037_s C hF hO hr S X hb9 hl0 hk23  a1 a2 a3 i4
set_option maxRecDepth 20000 in
theorem L_law_b593_s {b : Nat} {xs : Nat → Int32} {L : Nat} (C : Cx G p R s m args meth c cL_law 7 RL h0 h') (hF : R.frames = 2048) (hO : R.locals = 84000) (hr : LawR G R args meth s r h0 h') (S : SX G s) (X : va_X b L xs s (gH G)) (hb9 : b < (gH G).size) (hl0 : l.stackTraces = false) {k23 : Nat → Nat → Nat → Int32 → M Int32} (hk23 : ∀ (a1 : Nat) (a2 : Nat) (a3 : Nat) (i4 : Int32), Sm G (lw_Z below args s) p l e R s m args below meth c 7 h0 r h' 23 [(0, .ref b), (1, .ref a1), (2, .ref a2), (3, .ref a3), (4, .int i4)] [] (k23 a1 a2 a3 i4))  (a1 : Nat) (a2 : Nat) (a3 : Nat) (i4 : Int32) : Sm G (lw_Z below args s) p l e R s m args below meth c 7 h0 r h' 593 [(0, .ref b), (1, .ref a1), (2, .ref a2), (3, .ref a3), (4, .int i4)] [] (L_law_b593 xs L k23  a1 a2 a3 i4) := by
  refine s_goto (tgt := 1037) C dL_law_593 (by decide) ?_
  exact L_law_b1037_s C hF hO hr S X hb9 hl0 hk23  a1 a2 a3 i4
set_option maxRecDepth 20000 in
theorem L_law_b637_s {b : Nat} {xs : Nat → Int32} {L : Nat} (C : Cx G p R s m args meth c cL_law 7 RL h0 h') (hF : R.frames = 2048) (hO : R.locals = 84000) (hr : LawR G R args meth s r h0 h') (S : SX G s) (X : va_X b L xs s (gH G)) (hb9 : b < (gH G).size) (hl0 : l.stackTraces = false) {k23 : Nat → Nat → Nat → Int32 → M Int32} (hk23 : ∀ (a1 : Nat) (a2 : Nat) (a3 : Nat) (i4 : Int32), Sm G (lw_Z below args s) p l e R s m args below meth c 7 h0 r h' 23 [(0, .ref b), (1, .ref a1), (2, .ref a2), (3, .ref a3), (4, .int i4)] [] (k23 a1 a2 a3 i4))  (a1 : Nat) (a2 : Nat) (a3 : Nat) (i4 : Int32) : Sm G (lw_Z below args s) p l e R s m args below meth c 7 h0 r h' 637 [(0, .ref b), (1, .ref a1), (2, .ref a2), (3, .ref a3), (4, .int i4)] [] (L_law_b637 xs L k23  a1 a2 a3 i4) := by
  refine s_goto (tgt := 1037) C dL_law_637 (by decide) ?_
  exact L_law_b1037_s C hF hO hr S X hb9 hl0 hk23  a1 a2 a3 i4
set_option maxRecDepth 20000 in
theorem L_law_b681_s {b : Nat} {xs : Nat → Int32} {L : Nat} (C : Cx G p R s m args meth c cL_law 7 RL h0 h') (hF : R.frames = 2048) (hO : R.locals = 84000) (hr : LawR G R args meth s r h0 h') (S : SX G s) (X : va_X b L xs s (gH G)) (hb9 : b < (gH G).size) (hl0 : l.stackTraces = false) {k23 : Nat → Nat → Nat → Int32 → M Int32} (hk23 : ∀ (a1 : Nat) (a2 : Nat) (a3 : Nat) (i4 : Int32), Sm G (lw_Z below args s) p l e R s m args below meth c 7 h0 r h' 23 [(0, .ref b), (1, .ref a1), (2, .ref a2), (3, .ref a3), (4, .int i4)] [] (k23 a1 a2 a3 i4))  (a1 : Nat) (a2 : Nat) (a3 : Nat) (i4 : Int32) : Sm G (lw_Z below args s) p l e R s m args below meth c 7 h0 r h' 681 [(0, .ref b), (1, .ref a1), (2, .ref a2), (3, .ref a3), (4, .int i4)] [] (L_law_b681 xs L k23  a1 a2 a3 i4) := by
  refine s_goto (tgt := 1037) C dL_law_681 (by decide) ?_
  exact L_law_b1037_s C hF hO hr S X hb9 hl0 hk23  a1 a2 a3 i4
set_option maxRecDepth 20000 in
theorem L_law_b737_s {b : Nat} {xs : Nat → Int32} {L : Nat} (C : Cx G p R s m args meth c cL_law 7 RL h0 h') (hF : R.frames = 2048) (hO : R.locals = 84000) (hr : LawR G R args meth s r h0 h') (S : SX G s) (X : va_X b L xs s (gH G)) (hb9 : b < (gH G).size) (hl0 : l.stackTraces = false) {k23 : Nat → Nat → Nat → Int32 → M Int32} (hk23 : ∀ (a1 : Nat) (a2 : Nat) (a3 : Nat) (i4 : Int32), Sm G (lw_Z below args s) p l e R s m args below meth c 7 h0 r h' 23 [(0, .ref b), (1, .ref a1), (2, .ref a2), (3, .ref a3), (4, .int i4)] [] (k23 a1 a2 a3 i4))  (a1 : Nat) (a2 : Nat) (a3 : Nat) (i4 : Int32) : Sm G (lw_Z below args s) p l e R s m args below meth c 7 h0 r h' 737 [(0, .ref b), (1, .ref a1), (2, .ref a2), (3, .ref a3), (4, .int i4)] [] (L_law_b737 xs L k23  a1 a2 a3 i4) := by
  refine s_goto (tgt := 1037) C dL_law_737 (by decide) ?_
  exact L_law_b1037_s C hF hO hr S X hb9 hl0 hk23  a1 a2 a3 i4
set_option maxRecDepth 20000 in
theorem L_law_b817_s {b : Nat} {xs : Nat → Int32} {L : Nat} (C : Cx G p R s m args meth c cL_law 7 RL h0 h') (hF : R.frames = 2048) (hO : R.locals = 84000) (hr : LawR G R args meth s r h0 h') (S : SX G s) (X : va_X b L xs s (gH G)) (hb9 : b < (gH G).size) (hl0 : l.stackTraces = false) {k23 : Nat → Nat → Nat → Int32 → M Int32} (hk23 : ∀ (a1 : Nat) (a2 : Nat) (a3 : Nat) (i4 : Int32), Sm G (lw_Z below args s) p l e R s m args below meth c 7 h0 r h' 23 [(0, .ref b), (1, .ref a1), (2, .ref a2), (3, .ref a3), (4, .int i4)] [] (k23 a1 a2 a3 i4))  (a1 : Nat) (a2 : Nat) (a3 : Nat) (i4 : Int32) : Sm G (lw_Z below args s) p l e R s m args below meth c 7 h0 r h' 817 [(0, .ref b), (1, .ref a1), (2, .ref a2), (3, .ref a3), (4, .int i4)] [] (L_law_b817 xs L k23  a1 a2 a3 i4) := by
  refine s_goto (tgt := 1037) C dL_law_817 (by decide) ?_
  exact L_law_b1037_s C hF hO hr S X hb9 hl0 hk23  a1 a2 a3 i4
set_option maxRecDepth 20000 in
theorem L_law_b1009_s {b : Nat} {xs : Nat → Int32} {L : Nat} (C : Cx G p R s m args meth c cL_law 7 RL h0 h') (hF : R.frames = 2048) (hO : R.locals = 84000) (hr : LawR G R args meth s r h0 h') (S : SX G s) (X : va_X b L xs s (gH G)) (hb9 : b < (gH G).size) (hl0 : l.stackTraces = false) {k23 : Nat → Nat → Nat → Int32 → M Int32} (hk23 : ∀ (a1 : Nat) (a2 : Nat) (a3 : Nat) (i4 : Int32), Sm G (lw_Z below args s) p l e R s m args below meth c 7 h0 r h' 23 [(0, .ref b), (1, .ref a1), (2, .ref a2), (3, .ref a3), (4, .int i4)] [] (k23 a1 a2 a3 i4))  (a1 : Nat) (a2 : Nat) (a3 : Nat) (i4 : Int32) : Sm G (lw_Z below args s) p l e R s m args below meth c 7 h0 r h' 1009 [(0, .ref b), (1, .ref a1), (2, .ref a2), (3, .ref a3), (4, .int i4)] [] (L_law_b1009 xs L k23  a1 a2 a3 i4) := by
  refine s_goto (tgt := 1037) C dL_law_1009 (by decide) ?_
  exact L_law_b1037_s C hF hO hr S X hb9 hl0 hk23  a1 a2 a3 i4
set_option maxRecDepth 20000 in
theorem L_law_b23b_s {b : Nat} {xs : Nat → Int32} {L : Nat} (C : Cx G p R s m args meth c cL_law 7 RL h0 h') (hF : R.frames = 2048) (hO : R.locals = 84000) (hr : LawR G R args meth s r h0 h') (S : SX G s) (X : va_X b L xs s (gH G)) (hb9 : b < (gH G).size) (hl0 : l.stackTraces = false)  {k23 : Nat → Nat → Nat → Int32 → M Int32} (hk23 : ∀ (a1 : Nat) (a2 : Nat) (a3 : Nat) (i4 : Int32), Sm G (lw_Z below args s) p l e R s m args below meth c 7 h0 r h' 23 [(0, .ref b), (1, .ref a1), (2, .ref a2), (3, .ref a3), (4, .int i4)] [] (k23 a1 a2 a3 i4)) (a1 : Nat) (a2 : Nat) (a3 : Nat) (i4 : Int32) : Sm G (lw_Z below args s) p l e R s m args below meth c 7 h0 r h' 23 [(0, .ref b), (1, .ref a1), (2, .ref a2), (3, .ref a3), (4, .int i4)] [] (L_law_b23b xs L  k23 a1 a2 a3 i4) := by
  refine s_iload C 4 dL_law_23 rfl ?_
  refine s_aload_n C 0 dL_law_25 rfl rfl ?_
  refine s_sy C X hb9 dL_law_26 ?_
  refine s_bipush (v := 6) C dL_law_27 (by decide) ?_
  refine s_isub C dL_law_29 ?_
  refine s_icmp_gt (tgt := 1043) C dL_law_30 (by decide) ?_ ?_
  · refine s_iconst (v := 1) C dL_law_1043 (by decide) ?_
    exact s_lawret C hr dL_law_1044
  refine s_aload_n C 0 dL_law_33 rfl rfl ?_
  refine s_iload C 4 dL_law_34 rfl ?_
  refine s_sx C X hb9 dL_law_36 (fun x1 => ?_)
  refine s_bipush (v := 31) C dL_law_37 (by decide) ?_
  refine s_iand C dL_law_39 ?_
  refine s_tableIn (v := 0) (q := 0) (off := 88) (tgt := 128) C dL_law_40 (by decide) (by decide) (by decide) (by decide) (by decide) ?_ (fun hx0 => ?_)
  · refine s_aload_n C 1 dL_law_128 rfl rfl ?_
    refine s_aload_n C 0 dL_law_129 rfl rfl ?_
    refine s_iload C 4 dL_law_130 rfl ?_
    refine s_iconst (v := 1) C dL_law_132 (by decide) ?_
    refine s_iadd C dL_law_133 ?_
    refine s_sx C X hb9 dL_law_134 (fun x2 => ?_)
    refine s_aload_n C 0 dL_law_135 rfl rfl ?_
    refine s_iload C 4 dL_law_136 rfl ?_
    refine s_iconst (v := 2) C dL_law_138 (by decide) ?_
    refine s_iadd C dL_law_139 ?_
    refine s_sx C X hb9 dL_law_140 (fun x3 => ?_)
    refine s_invSH C S cy_L_format wd_2_221 wd_2_222 (con_L_format l G hl0 a1 x2 x3) rfl rfl (Nat.le_of_ble_eq_true rfl) (by rw [hF]; decide) (by rw [hO]; exact Nat.le_of_ble_eq_true rfl) dL_law_141 (fun x4 => ?_)
    refine s_istore (lv' := [(5, .int x4), (0, .ref b), (1, .ref a1), (2, .ref a2), (3, .ref a3), (4, .int i4)]) C dL_law_144 (by decide) rfl ?_
    refine s_aload_n C 3 dL_law_146 rfl rfl ?_
    refine s_aload_n C 1 dL_law_147 rfl rfl ?_
    refine s_iload C 5 dL_law_148 rfl ?_
    refine s_iconst (v := 1) C dL_law_150 (by decide) ?_
    refine s_iadd C dL_law_151 ?_
    refine s_sx C X hb9 dL_law_152 (fun x5 => ?_)
    refine s_aload_n C 1 dL_law_153 rfl rfl ?_
    refine s_iload C 5 dL_law_154 rfl ?_
    refine s_iconst (v := 2) C dL_law_156 (by decide) ?_
    refine s_iadd C dL_law_157 ?_
    refine s_sx C X hb9 dL_law_158 (fun x6 => ?_)
    refine s_invV_u C ci12 cy_X9_format (Or.inl wd_7_43) rfl wd_7_44 wd_7_45 (con_X9_format l G a2 x5 x6) rfl rfl (Nat.le_of_ble_eq_true rfl) (by rw [hF]; decide) (by rw [hO]; exact Nat.le_of_ble_eq_true rfl) dL_law_159 ?_
    refine s_aload_n C 3 dL_law_162 rfl rfl ?_
    refine s_invV_i C ci12 cy_X9_thrown (Or.inl wd_7_39) rfl wd_7_40 wd_7_41 (con_X9_thrown l G a2) rfl rfl (Nat.le_of_ble_eq_true rfl) (by rw [hF]; decide) (by rw [hO]; exact Nat.le_of_ble_eq_true rfl) dL_law_163 (fun x7 => ?_)
    refine s_iload C 0 dL_law_166 rfl ?_
    refine s_icmp_eq (tgt := 173) C dL_law_168 (by decide) ?_ ?_
    · refine s_goto (tgt := 1037) C dL_law_173 (by decide) ?_
      refine s_sub [1, 2, 3, 4, 5] rfl ?_
      exact L_law_b1037_s C hF hO hr S X hb9 hl0 hk23  a1 a2 a3 i4
    refine s_iconst (v := 0) C dL_law_171 (by decide) ?_
    exact s_lawret C hr dL_law_172
  refine s_tableIn (v := 1) (q := 1) (off := 136) (tgt := 176) C dL_law_40 (by decide) (by decide) (by decide) (by decide) (by decide) ?_ (fun hx1 => ?_)
  · refine s_aload_n C 1 dL_law_176 rfl rfl ?_
    refine s_aload_n C 0 dL_law_177 rfl rfl ?_
    refine s_iload C 4 dL_law_178 rfl ?_
    refine s_iconst (v := 1) C dL_law_180 (by decide) ?_
    refine s_iadd C dL_law_181 ?_
    refine s_sx C X hb9 dL_law_182 (fun x8 => ?_)
    refine s_aload_n C 0 dL_law_183 rfl rfl ?_
    refine s_iload C 4 dL_law_184 rfl ?_
    refine s_iconst (v := 2) C dL_law_186 (by decide) ?_
    refine s_iadd C dL_law_187 ?_
    refine s_sx C X hb9 dL_law_188 (fun x9 => ?_)
    refine s_i2l C dL_law_189 ?_
    refine s_bipush (v := 32) C dL_law_190 (by decide) ?_
    refine s_lshl C dL_law_192 ?_
    refine s_aload_n C 0 dL_law_193 rfl rfl ?_
    refine s_iload C 4 dL_law_194 rfl ?_
    refine s_iconst (v := 3) C dL_law_196 (by decide) ?_
    refine s_iadd C dL_law_197 ?_
    refine s_sx C X hb9 dL_law_198 (fun x10 => ?_)
    refine s_i2l C dL_law_199 ?_
    refine s_ldc2 C dL_law_200 wd_8_63 ?_
    refine s_land C dL_law_203 ?_
    refine s_lor C dL_law_204 ?_
    refine s_aload_n C 0 dL_law_205 rfl rfl ?_
    refine s_iload C 4 dL_law_206 rfl ?_
    refine s_iconst (v := 4) C dL_law_208 (by decide) ?_
    refine s_iadd C dL_law_209 ?_
    refine s_sx C X hb9 dL_law_210 (fun x11 => ?_)
    refine s_i2l C dL_law_211 ?_
    refine s_bipush (v := 32) C dL_law_212 (by decide) ?_
    refine s_lshl C dL_law_214 ?_
    refine s_aload_n C 0 dL_law_215 rfl rfl ?_
    refine s_iload C 4 dL_law_216 rfl ?_
    refine s_iconst (v := 5) C dL_law_218 (by decide) ?_
    refine s_iadd C dL_law_219 ?_
    refine s_sx C X hb9 dL_law_220 (fun x12 => ?_)
    refine s_i2l C dL_law_221 ?_
    refine s_ldc2 C dL_law_222 wd_8_63 ?_
    refine s_land C dL_law_225 ?_
    refine s_lor C dL_law_226 ?_
    refine s_aload_n C 3 dL_law_227 rfl rfl ?_
    refine s_invSH C S cy_L_feed wd_3_58 wd_3_59 (con_L_feed l G hl0 a1 x8 ((((x9 : Int32).toInt64) <<< ((32 : Int32).toInt64 &&& 63)) ||| (((x10 : Int32).toInt64) &&& 4294967295)) ((((x11 : Int32).toInt64) <<< ((32 : Int32).toInt64 &&& 63)) ||| (((x12 : Int32).toInt64) &&& 4294967295)) a3) rfl rfl (Nat.le_of_ble_eq_true rfl) (by rw [hF]; decide) (by rw [hO]; exact Nat.le_of_ble_eq_true rfl) dL_law_228 (fun x13 => ?_)
    refine s_istore (lv' := [(5, .int x13), (0, .ref b), (1, .ref a1), (2, .ref a2), (3, .ref a3), (4, .int i4)]) C dL_law_231 (by decide) rfl ?_
    refine s_aload_n C 3 dL_law_233 rfl rfl ?_
    refine s_aload_n C 1 dL_law_234 rfl rfl ?_
    refine s_iload C 5 dL_law_235 rfl ?_
    refine s_iconst (v := 1) C dL_law_237 (by decide) ?_
    refine s_iadd C dL_law_238 ?_
    refine s_sx C X hb9 dL_law_239 (fun x14 => ?_)
    refine s_aload_n C 1 dL_law_240 rfl rfl ?_
    refine s_iload C 5 dL_law_241 rfl ?_
    refine s_iconst (v := 2) C dL_law_243 (by decide) ?_
    refine s_iadd C dL_law_244 ?_
    refine s_sx C X hb9 dL_law_245 (fun x15 => ?_)
    refine s_i2l C dL_law_246 ?_
    refine s_bipush (v := 32) C dL_law_247 (by decide) ?_
    refine s_lshl C dL_law_249 ?_
    refine s_aload_n C 1 dL_law_250 rfl rfl ?_
    refine s_iload C 5 dL_law_251 rfl ?_
    refine s_iconst (v := 3) C dL_law_253 (by decide) ?_
    refine s_iadd C dL_law_254 ?_
    refine s_sx C X hb9 dL_law_255 (fun x16 => ?_)
    refine s_i2l C dL_law_256 ?_
    refine s_ldc2 C dL_law_257 wd_8_63 ?_
    refine s_land C dL_law_260 ?_
    refine s_lor C dL_law_261 ?_
    refine s_aload_n C 1 dL_law_262 rfl rfl ?_
    refine s_iload C 5 dL_law_263 rfl ?_
    refine s_iconst (v := 4) C dL_law_265 (by decide) ?_
    refine s_iadd C dL_law_266 ?_
    refine s_sx C X hb9 dL_law_267 (fun x17 => ?_)
    refine s_i2l C dL_law_268 ?_
    refine s_bipush (v := 32) C dL_law_269 (by decide) ?_
    refine s_lshl C dL_law_271 ?_
    refine s_aload_n C 1 dL_law_272 rfl rfl ?_
    refine s_iload C 5 dL_law_273 rfl ?_
    refine s_iconst (v := 5) C dL_law_275 (by decide) ?_
    refine s_iadd C dL_law_276 ?_
    refine s_sx C X hb9 dL_law_277 (fun x18 => ?_)
    refine s_i2l C dL_law_278 ?_
    refine s_ldc2 C dL_law_279 wd_8_63 ?_
    refine s_land C dL_law_282 ?_
    refine s_lor C dL_law_283 ?_
    refine s_invV_i C ci12 cy_X9_feed (Or.inl wd_7_47) rfl wd_7_48 wd_7_49 (con_X9_feed l G a2 x14 ((((x15 : Int32).toInt64) <<< ((32 : Int32).toInt64 &&& 63)) ||| (((x16 : Int32).toInt64) &&& 4294967295)) ((((x17 : Int32).toInt64) <<< ((32 : Int32).toInt64 &&& 63)) ||| (((x18 : Int32).toInt64) &&& 4294967295))) rfl rfl (Nat.le_of_ble_eq_true rfl) (by rw [hF]; decide) (by rw [hO]; exact Nat.le_of_ble_eq_true rfl) dL_law_284 (fun x19 => ?_)
    refine s_istore (lv' := [(6, .int x19), (5, .int x13), (0, .ref b), (1, .ref a1), (2, .ref a2), (3, .ref a3), (4, .int i4)]) C dL_law_287 (by decide) rfl ?_
    refine s_aload_n C 4 dL_law_289 rfl rfl ?_
    refine s_invV_i C ci12 cy_X9_thrown (Or.inl wd_7_39) rfl wd_7_40 wd_7_41 (con_X9_thrown l G a2) rfl rfl (Nat.le_of_ble_eq_true rfl) (by rw [hF]; decide) (by rw [hO]; exact Nat.le_of_ble_eq_true rfl) dL_law_290 (fun x20 => ?_)
    refine s_iload C 1 dL_law_293 rfl ?_
    refine s_icmp_eq (tgt := 300) C dL_law_295 (by decide) ?_ ?_
    · refine s_iload C 1 dL_law_300 rfl ?_
      refine s_if_ne (tgt := 317) C dL_law_302 (by decide) ?_ ?_
      · refine s_sub [2, 3, 4, 5, 6] rfl ?_
        exact L_law_b317_s C hF hO hr S X hb9 hl0 hk23  a1 a2 a3 i4
      refine s_aload_n C 5 dL_law_305 rfl rfl ?_
      refine s_iconst (v := 0) C dL_law_306 (by decide) ?_
      refine s_ll C dL_law_307 (fun x21 => ?_)
      refine s_iload C 0 dL_law_308 rfl ?_
      refine s_i2l C dL_law_310 ?_
      refine s_lcmp C dL_law_311 ?_
      refine s_if_eq (tgt := 317) C dL_law_312 (by decide) ?_ ?_
      · refine s_sub [2, 3, 4, 5, 6] rfl ?_
        exact L_law_b317_s C hF hO hr S X hb9 hl0 hk23  a1 a2 a3 i4
      refine s_iconst (v := 0) C dL_law_315 (by decide) ?_
      exact s_lawret C hr dL_law_316
    refine s_iconst (v := 0) C dL_law_298 (by decide) ?_
    exact s_lawret C hr dL_law_299
  refine s_tableIn (v := 2) (q := 2) (off := 280) (tgt := 320) C dL_law_40 (by decide) (by decide) (by decide) (by decide) (by decide) ?_ (fun hx2 => ?_)
  · refine s_aload_n C 1 dL_law_320 rfl rfl ?_
    refine s_aload_n C 0 dL_law_321 rfl rfl ?_
    refine s_iload C 4 dL_law_322 rfl ?_
    refine s_iconst (v := 1) C dL_law_324 (by decide) ?_
    refine s_iadd C dL_law_325 ?_
    refine s_sx C X hb9 dL_law_326 (fun x22 => ?_)
    refine s_aload_n C 3 dL_law_327 rfl rfl ?_
    refine s_invSH C S cy_L_put wd_3_102 wd_3_103 (con_L_put l G hl0 a1 x22 a3) rfl rfl (Nat.le_of_ble_eq_true rfl) (by rw [hF]; decide) (by rw [hO]; exact Nat.le_of_ble_eq_true rfl) dL_law_328 (fun x23 => ?_)
    refine s_istore (lv' := [(5, .int x23), (0, .ref b), (1, .ref a1), (2, .ref a2), (3, .ref a3), (4, .int i4)]) C dL_law_331 (by decide) rfl ?_
    refine s_aload_n C 3 dL_law_333 rfl rfl ?_
    refine s_aload_n C 1 dL_law_334 rfl rfl ?_
    refine s_iload C 5 dL_law_335 rfl ?_
    refine s_iconst (v := 1) C dL_law_337 (by decide) ?_
    refine s_iadd C dL_law_338 ?_
    refine s_sx C X hb9 dL_law_339 (fun x24 => ?_)
    refine s_invV_i C ci12 cy_X9_put (Or.inl wd_7_51) rfl wd_7_52 wd_7_53 (con_X9_put l G a2 x24) rfl rfl (Nat.le_of_ble_eq_true rfl) (by rw [hF]; decide) (by rw [hO]; exact Nat.le_of_ble_eq_true rfl) dL_law_340 (fun x25 => ?_)
    refine s_istore (lv' := [(6, .int x25), (5, .int x23), (0, .ref b), (1, .ref a1), (2, .ref a2), (3, .ref a3), (4, .int i4)]) C dL_law_343 (by decide) rfl ?_
    refine s_aload_n C 4 dL_law_345 rfl rfl ?_
    refine s_invV_i C ci12 cy_X9_thrown (Or.inl wd_7_39) rfl wd_7_40 wd_7_41 (con_X9_thrown l G a2) rfl rfl (Nat.le_of_ble_eq_true rfl) (by rw [hF]; decide) (by rw [hO]; exact Nat.le_of_ble_eq_true rfl) dL_law_346 (fun x26 => ?_)
    refine s_iload C 1 dL_law_349 rfl ?_
    refine s_icmp_eq (tgt := 356) C dL_law_351 (by decide) ?_ ?_
    · refine s_iload C 1 dL_law_356 rfl ?_
      refine s_if_ne (tgt := 373) C dL_law_358 (by decide) ?_ ?_
      · refine s_sub [2, 3, 4, 5, 6] rfl ?_
        exact L_law_b373_s C hF hO hr S X hb9 hl0 hk23  a1 a2 a3 i4
      refine s_aload_n C 5 dL_law_361 rfl rfl ?_
      refine s_iconst (v := 0) C dL_law_362 (by decide) ?_
      refine s_ll C dL_law_363 (fun x27 => ?_)
      refine s_iload C 0 dL_law_364 rfl ?_
      refine s_i2l C dL_law_366 ?_
      refine s_lcmp C dL_law_367 ?_
      refine s_if_eq (tgt := 373) C dL_law_368 (by decide) ?_ ?_
      · refine s_sub [2, 3, 4, 5, 6] rfl ?_
        exact L_law_b373_s C hF hO hr S X hb9 hl0 hk23  a1 a2 a3 i4
      refine s_iconst (v := 0) C dL_law_371 (by decide) ?_
      exact s_lawret C hr dL_law_372
    refine s_iconst (v := 0) C dL_law_354 (by decide) ?_
    exact s_lawret C hr dL_law_355
  refine s_tableIn (v := 3) (q := 3) (off := 336) (tgt := 376) C dL_law_40 (by decide) (by decide) (by decide) (by decide) (by decide) ?_ (fun hx3 => ?_)
  · refine s_aload_n C 1 dL_law_376 rfl rfl ?_
    refine s_aload_n C 3 dL_law_377 rfl rfl ?_
    refine s_invSH C S cy_L_remove wd_5_90 wd_5_91 (con_L_remove l G hl0 a1 a3) rfl rfl (Nat.le_of_ble_eq_true rfl) (by rw [hF]; decide) (by rw [hO]; exact Nat.le_of_ble_eq_true rfl) dL_law_378 (fun x28 => ?_)
    refine s_istore (lv' := [(5, .int x28), (0, .ref b), (1, .ref a1), (2, .ref a2), (3, .ref a3), (4, .int i4)]) C dL_law_381 (by decide) rfl ?_
    refine s_aload_n C 3 dL_law_383 rfl rfl ?_
    refine s_invV_i C ci12 cy_X9_remove (Or.inl wd_7_123) rfl wd_7_124 wd_7_125 (con_X9_remove l G a2) rfl rfl (Nat.le_of_ble_eq_true rfl) (by rw [hF]; decide) (by rw [hO]; exact Nat.le_of_ble_eq_true rfl) dL_law_384 (fun x29 => ?_)
    refine s_istore (lv' := [(6, .int x29), (5, .int x28), (0, .ref b), (1, .ref a1), (2, .ref a2), (3, .ref a3), (4, .int i4)]) C dL_law_387 (by decide) rfl ?_
    refine s_aload_n C 4 dL_law_389 rfl rfl ?_
    refine s_invV_i C ci12 cy_X9_thrown (Or.inl wd_7_39) rfl wd_7_40 wd_7_41 (con_X9_thrown l G a2) rfl rfl (Nat.le_of_ble_eq_true rfl) (by rw [hF]; decide) (by rw [hO]; exact Nat.le_of_ble_eq_true rfl) dL_law_390 (fun x30 => ?_)
    refine s_iload C 1 dL_law_393 rfl ?_
    refine s_icmp_eq (tgt := 400) C dL_law_395 (by decide) ?_ ?_
    · refine s_iload C 1 dL_law_400 rfl ?_
      refine s_if_ne (tgt := 424) C dL_law_402 (by decide) ?_ ?_
      · refine s_sub [2, 3, 4, 5, 6] rfl ?_
        exact L_law_b424_s C hF hO hr S X hb9 hl0 hk23  a1 a2 a3 i4
      refine s_aload_n C 5 dL_law_405 rfl rfl ?_
      refine s_iconst (v := 0) C dL_law_406 (by decide) ?_
      refine s_ll C dL_law_407 (fun x31 => ?_)
      refine s_iload C 0 dL_law_408 rfl ?_
      refine s_if_eq (tgt := 417) C dL_law_410 (by decide) ?_ ?_
      · refine s_lconst (v := 0) C dL_law_417 (by decide) ?_
        refine s_sub [2, 3, 4, 5, 6] rfl ?_
        exact L_law_b418_s C hF hO hr S X hb9 hl0 hk23  a1 a2 a3 i4 0 x31
      refine s_lconst (v := 1) C dL_law_413 (by decide) ?_
      refine s_goto (tgt := 418) C dL_law_414 (by decide) ?_
      refine s_sub [2, 3, 4, 5, 6] rfl ?_
      exact L_law_b418_s C hF hO hr S X hb9 hl0 hk23  a1 a2 a3 i4 1 x31
    refine s_iconst (v := 0) C dL_law_398 (by decide) ?_
    exact s_lawret C hr dL_law_399
  refine s_tableIn (v := 4) (q := 4) (off := 387) (tgt := 427) C dL_law_40 (by decide) (by decide) (by decide) (by decide) (by decide) ?_ (fun hx4 => ?_)
  · refine s_aload_n C 1 dL_law_427 rfl rfl ?_
    refine s_aload_n C 3 dL_law_428 rfl rfl ?_
    refine s_invSH C S cy_L_get wd_5_100 wd_5_101 (con_L_get l G hl0 a1 a3) rfl rfl (Nat.le_of_ble_eq_true rfl) (by rw [hF]; decide) (by rw [hO]; exact Nat.le_of_ble_eq_true rfl) dL_law_429 (fun x32 => ?_)
    refine s_istore (lv' := [(5, .int x32), (0, .ref b), (1, .ref a1), (2, .ref a2), (3, .ref a3), (4, .int i4)]) C dL_law_432 (by decide) rfl ?_
    refine s_aload_n C 3 dL_law_434 rfl rfl ?_
    refine s_invV_i C ci12 cy_X9_get (Or.inl wd_7_127) rfl wd_7_128 wd_7_129 (con_X9_get l G a2) rfl rfl (Nat.le_of_ble_eq_true rfl) (by rw [hF]; decide) (by rw [hO]; exact Nat.le_of_ble_eq_true rfl) dL_law_435 (fun x33 => ?_)
    refine s_istore (lv' := [(6, .int x33), (5, .int x32), (0, .ref b), (1, .ref a1), (2, .ref a2), (3, .ref a3), (4, .int i4)]) C dL_law_438 (by decide) rfl ?_
    refine s_aload_n C 4 dL_law_440 rfl rfl ?_
    refine s_invV_i C ci12 cy_X9_thrown (Or.inl wd_7_39) rfl wd_7_40 wd_7_41 (con_X9_thrown l G a2) rfl rfl (Nat.le_of_ble_eq_true rfl) (by rw [hF]; decide) (by rw [hO]; exact Nat.le_of_ble_eq_true rfl) dL_law_441 (fun x34 => ?_)
    refine s_iload C 1 dL_law_444 rfl ?_
    refine s_icmp_eq (tgt := 451) C dL_law_446 (by decide) ?_ ?_
    · refine s_iload C 1 dL_law_451 rfl ?_
      refine s_if_ne (tgt := 468) C dL_law_453 (by decide) ?_ ?_
      · refine s_sub [2, 3, 4, 5, 6] rfl ?_
        exact L_law_b468_s C hF hO hr S X hb9 hl0 hk23  a1 a2 a3 i4
      refine s_aload_n C 5 dL_law_456 rfl rfl ?_
      refine s_iconst (v := 0) C dL_law_457 (by decide) ?_
      refine s_ll C dL_law_458 (fun x35 => ?_)
      refine s_iload C 0 dL_law_459 rfl ?_
      refine s_i2l C dL_law_461 ?_
      refine s_lcmp C dL_law_462 ?_
      refine s_if_eq (tgt := 468) C dL_law_463 (by decide) ?_ ?_
      · refine s_sub [2, 3, 4, 5, 6] rfl ?_
        exact L_law_b468_s C hF hO hr S X hb9 hl0 hk23  a1 a2 a3 i4
      refine s_iconst (v := 0) C dL_law_466 (by decide) ?_
      exact s_lawret C hr dL_law_467
    refine s_iconst (v := 0) C dL_law_449 (by decide) ?_
    exact s_lawret C hr dL_law_450
  refine s_tableIn (v := 5) (q := 5) (off := 431) (tgt := 471) C dL_law_40 (by decide) (by decide) (by decide) (by decide) (by decide) ?_ (fun hx5 => ?_)
  · refine s_aload_n C 1 dL_law_471 rfl rfl ?_
    refine s_aload_n C 0 dL_law_472 rfl rfl ?_
    refine s_iload C 4 dL_law_473 rfl ?_
    refine s_iconst (v := 1) C dL_law_475 (by decide) ?_
    refine s_iadd C dL_law_476 ?_
    refine s_sx C X hb9 dL_law_477 (fun x36 => ?_)
    refine s_invV_i C ci11 cy_X8_answer (Or.inl wd_2_122) rfl wd_2_123 wd_2_124 (con_X8_answer l G a1 x36) rfl rfl (Nat.le_of_ble_eq_true rfl) (by rw [hF]; decide) (by rw [hO]; exact Nat.le_of_ble_eq_true rfl) dL_law_478 (fun x37 => ?_)
    refine s_aload_n C 2 dL_law_481 rfl rfl ?_
    refine s_aload_n C 0 dL_law_482 rfl rfl ?_
    refine s_iload C 4 dL_law_483 rfl ?_
    refine s_iconst (v := 1) C dL_law_485 (by decide) ?_
    refine s_iadd C dL_law_486 ?_
    refine s_sx C X hb9 dL_law_487 (fun x38 => ?_)
    refine s_invV_i C ci12 cy_X9_answer (Or.inl wd_7_149) rfl wd_7_150 wd_7_151 (con_X9_answer l G a2 x38) rfl rfl (Nat.le_of_ble_eq_true rfl) (by rw [hF]; decide) (by rw [hO]; exact Nat.le_of_ble_eq_true rfl) dL_law_488 (fun x39 => ?_)
    refine s_icmp_eq (tgt := 1037) C dL_law_491 (by decide) ?_ ?_
    · exact L_law_b1037_s C hF hO hr S X hb9 hl0 hk23  a1 a2 a3 i4
    refine s_iconst (v := 0) C dL_law_494 (by decide) ?_
    exact s_lawret C hr dL_law_495
  refine s_tableIn (v := 6) (q := 6) (off := 456) (tgt := 496) C dL_law_40 (by decide) (by decide) (by decide) (by decide) (by decide) ?_ (fun hx6 => ?_)
  · refine s_aload_n C 1 dL_law_496 rfl rfl ?_
    refine s_aload_n C 3 dL_law_497 rfl rfl ?_
    refine s_invSH C S cy_L_sync wd_5_122 wd_5_123 (con_L_sync l G hl0 a1 a3) rfl rfl (Nat.le_of_ble_eq_true rfl) (by rw [hF]; decide) (by rw [hO]; exact Nat.le_of_ble_eq_true rfl) dL_law_498 (fun x40 => ?_)
    refine s_istore (lv' := [(5, .int x40), (0, .ref b), (1, .ref a1), (2, .ref a2), (3, .ref a3), (4, .int i4)]) C dL_law_501 (by decide) rfl ?_
    refine s_aload_n C 3 dL_law_503 rfl rfl ?_
    refine s_invV_i C ci12 cy_X9_sync (Or.inl wd_7_153) rfl wd_7_154 wd_7_155 (con_X9_sync l G a2) rfl rfl (Nat.le_of_ble_eq_true rfl) (by rw [hF]; decide) (by rw [hO]; exact Nat.le_of_ble_eq_true rfl) dL_law_504 (fun x41 => ?_)
    refine s_istore (lv' := [(6, .int x41), (5, .int x40), (0, .ref b), (1, .ref a1), (2, .ref a2), (3, .ref a3), (4, .int i4)]) C dL_law_507 (by decide) rfl ?_
    refine s_aload_n C 4 dL_law_509 rfl rfl ?_
    refine s_invV_i C ci12 cy_X9_thrown (Or.inl wd_7_39) rfl wd_7_40 wd_7_41 (con_X9_thrown l G a2) rfl rfl (Nat.le_of_ble_eq_true rfl) (by rw [hF]; decide) (by rw [hO]; exact Nat.le_of_ble_eq_true rfl) dL_law_510 (fun x42 => ?_)
    refine s_iload C 1 dL_law_513 rfl ?_
    refine s_icmp_eq (tgt := 520) C dL_law_515 (by decide) ?_ ?_
    · refine s_iload C 1 dL_law_520 rfl ?_
      refine s_if_ne (tgt := 537) C dL_law_522 (by decide) ?_ ?_
      · refine s_sub [2, 3, 4, 5, 6] rfl ?_
        exact L_law_b537_s C hF hO hr S X hb9 hl0 hk23  a1 a2 a3 i4
      refine s_aload_n C 5 dL_law_525 rfl rfl ?_
      refine s_iconst (v := 0) C dL_law_526 (by decide) ?_
      refine s_ll C dL_law_527 (fun x43 => ?_)
      refine s_iload C 0 dL_law_528 rfl ?_
      refine s_i2l C dL_law_530 ?_
      refine s_lcmp C dL_law_531 ?_
      refine s_if_eq (tgt := 537) C dL_law_532 (by decide) ?_ ?_
      · refine s_sub [2, 3, 4, 5, 6] rfl ?_
        exact L_law_b537_s C hF hO hr S X hb9 hl0 hk23  a1 a2 a3 i4
      refine s_iconst (v := 0) C dL_law_535 (by decide) ?_
      exact s_lawret C hr dL_law_536
    refine s_iconst (v := 0) C dL_law_518 (by decide) ?_
    exact s_lawret C hr dL_law_519
  refine s_tableIn (v := 7) (q := 7) (off := 500) (tgt := 540) C dL_law_40 (by decide) (by decide) (by decide) (by decide) (by decide) ?_ (fun hx7 => ?_)
  · refine s_aload_n C 1 dL_law_540 rfl rfl ?_
    refine s_aload_n C 0 dL_law_541 rfl rfl ?_
    refine s_iload C 4 dL_law_542 rfl ?_
    refine s_iconst (v := 1) C dL_law_544 (by decide) ?_
    refine s_iadd C dL_law_545 ?_
    refine s_sx C X hb9 dL_law_546 (fun x44 => ?_)
    refine s_aload_n C 3 dL_law_547 rfl rfl ?_
    refine s_invSH C S cy_L_crash wd_5_133 wd_5_134 (con_L_crash l G hl0 a1 x44 a3) rfl rfl (Nat.le_of_ble_eq_true rfl) (by rw [hF]; decide) (by rw [hO]; exact Nat.le_of_ble_eq_true rfl) dL_law_548 (fun x45 => ?_)
    refine s_istore (lv' := [(5, .int x45), (0, .ref b), (1, .ref a1), (2, .ref a2), (3, .ref a3), (4, .int i4)]) C dL_law_551 (by decide) rfl ?_
    refine s_aload_n C 3 dL_law_553 rfl rfl ?_
    refine s_aload_n C 1 dL_law_554 rfl rfl ?_
    refine s_iload C 5 dL_law_555 rfl ?_
    refine s_iconst (v := 1) C dL_law_557 (by decide) ?_
    refine s_iadd C dL_law_558 ?_
    refine s_sx C X hb9 dL_law_559 (fun x46 => ?_)
    refine s_invV_i C ci12 cy_X9_crash (Or.inl wd_7_161) rfl wd_7_162 wd_7_163 (con_X9_crash l G a2 x46) rfl rfl (Nat.le_of_ble_eq_true rfl) (by rw [hF]; decide) (by rw [hO]; exact Nat.le_of_ble_eq_true rfl) dL_law_560 (fun x47 => ?_)
    refine s_istore (lv' := [(6, .int x47), (5, .int x45), (0, .ref b), (1, .ref a1), (2, .ref a2), (3, .ref a3), (4, .int i4)]) C dL_law_563 (by decide) rfl ?_
    refine s_aload_n C 4 dL_law_565 rfl rfl ?_
    refine s_invV_i C ci12 cy_X9_thrown (Or.inl wd_7_39) rfl wd_7_40 wd_7_41 (con_X9_thrown l G a2) rfl rfl (Nat.le_of_ble_eq_true rfl) (by rw [hF]; decide) (by rw [hO]; exact Nat.le_of_ble_eq_true rfl) dL_law_566 (fun x48 => ?_)
    refine s_iload C 1 dL_law_569 rfl ?_
    refine s_icmp_eq (tgt := 576) C dL_law_571 (by decide) ?_ ?_
    · refine s_iload C 1 dL_law_576 rfl ?_
      refine s_if_ne (tgt := 593) C dL_law_578 (by decide) ?_ ?_
      · refine s_sub [2, 3, 4, 5, 6] rfl ?_
        exact L_law_b593_s C hF hO hr S X hb9 hl0 hk23  a1 a2 a3 i4
      refine s_aload_n C 5 dL_law_581 rfl rfl ?_
      refine s_iconst (v := 0) C dL_law_582 (by decide) ?_
      refine s_ll C dL_law_583 (fun x49 => ?_)
      refine s_iload C 0 dL_law_584 rfl ?_
      refine s_i2l C dL_law_586 ?_
      refine s_lcmp C dL_law_587 ?_
      refine s_if_eq (tgt := 593) C dL_law_588 (by decide) ?_ ?_
      · refine s_sub [2, 3, 4, 5, 6] rfl ?_
        exact L_law_b593_s C hF hO hr S X hb9 hl0 hk23  a1 a2 a3 i4
      refine s_iconst (v := 0) C dL_law_591 (by decide) ?_
      exact s_lawret C hr dL_law_592
    refine s_iconst (v := 0) C dL_law_574 (by decide) ?_
    exact s_lawret C hr dL_law_575
  refine s_tableIn (v := 8) (q := 8) (off := 556) (tgt := 596) C dL_law_40 (by decide) (by decide) (by decide) (by decide) (by decide) ?_ (fun hx8 => ?_)
  · refine s_aload_n C 1 dL_law_596 rfl rfl ?_
    refine s_aload_n C 3 dL_law_597 rfl rfl ?_
    refine s_invSH C S cy_L_open wd_5_155 wd_5_156 (con_L_open l G hl0 a1 a3) rfl rfl (Nat.le_of_ble_eq_true rfl) (by rw [hF]; decide) (by rw [hO]; exact Nat.le_of_ble_eq_true rfl) dL_law_598 (fun x50 => ?_)
    refine s_istore (lv' := [(5, .int x50), (0, .ref b), (1, .ref a1), (2, .ref a2), (3, .ref a3), (4, .int i4)]) C dL_law_601 (by decide) rfl ?_
    refine s_aload_n C 3 dL_law_603 rfl rfl ?_
    refine s_invV_i C ci12 cy_X9_open (Or.inl wd_7_170) rfl wd_7_171 wd_7_172 (con_X9_open l G a2) rfl rfl (Nat.le_of_ble_eq_true rfl) (by rw [hF]; decide) (by rw [hO]; exact Nat.le_of_ble_eq_true rfl) dL_law_604 (fun x51 => ?_)
    refine s_istore (lv' := [(6, .int x51), (5, .int x50), (0, .ref b), (1, .ref a1), (2, .ref a2), (3, .ref a3), (4, .int i4)]) C dL_law_607 (by decide) rfl ?_
    refine s_aload_n C 4 dL_law_609 rfl rfl ?_
    refine s_invV_i C ci12 cy_X9_thrown (Or.inl wd_7_39) rfl wd_7_40 wd_7_41 (con_X9_thrown l G a2) rfl rfl (Nat.le_of_ble_eq_true rfl) (by rw [hF]; decide) (by rw [hO]; exact Nat.le_of_ble_eq_true rfl) dL_law_610 (fun x52 => ?_)
    refine s_iload C 1 dL_law_613 rfl ?_
    refine s_icmp_eq (tgt := 620) C dL_law_615 (by decide) ?_ ?_
    · refine s_iload C 1 dL_law_620 rfl ?_
      refine s_if_ne (tgt := 637) C dL_law_622 (by decide) ?_ ?_
      · refine s_sub [2, 3, 4, 5, 6] rfl ?_
        exact L_law_b637_s C hF hO hr S X hb9 hl0 hk23  a1 a2 a3 i4
      refine s_aload_n C 5 dL_law_625 rfl rfl ?_
      refine s_iconst (v := 0) C dL_law_626 (by decide) ?_
      refine s_ll C dL_law_627 (fun x53 => ?_)
      refine s_iload C 0 dL_law_628 rfl ?_
      refine s_i2l C dL_law_630 ?_
      refine s_lcmp C dL_law_631 ?_
      refine s_if_eq (tgt := 637) C dL_law_632 (by decide) ?_ ?_
      · refine s_sub [2, 3, 4, 5, 6] rfl ?_
        exact L_law_b637_s C hF hO hr S X hb9 hl0 hk23  a1 a2 a3 i4
      refine s_iconst (v := 0) C dL_law_635 (by decide) ?_
      exact s_lawret C hr dL_law_636
    refine s_iconst (v := 0) C dL_law_618 (by decide) ?_
    exact s_lawret C hr dL_law_619
  refine s_tableIn (v := 9) (q := 9) (off := 600) (tgt := 640) C dL_law_40 (by decide) (by decide) (by decide) (by decide) (by decide) ?_ (fun hx9 => ?_)
  · refine s_aload_n C 1 dL_law_640 rfl rfl ?_
    refine s_aload_n C 3 dL_law_641 rfl rfl ?_
    refine s_invSH C S cy_L_mergeBegin wd_6_0 wd_6_1 (con_L_mergeBegin l G hl0 a1 a3) rfl rfl (Nat.le_of_ble_eq_true rfl) (by rw [hF]; decide) (by rw [hO]; exact Nat.le_of_ble_eq_true rfl) dL_law_642 (fun x54 => ?_)
    refine s_istore (lv' := [(5, .int x54), (0, .ref b), (1, .ref a1), (2, .ref a2), (3, .ref a3), (4, .int i4)]) C dL_law_645 (by decide) rfl ?_
    refine s_aload_n C 3 dL_law_647 rfl rfl ?_
    refine s_invV_i C ci12 cy_X9_mergeBegin (Or.inl wd_7_215) rfl wd_7_216 wd_7_217 (con_X9_mergeBegin l G a2) rfl rfl (Nat.le_of_ble_eq_true rfl) (by rw [hF]; decide) (by rw [hO]; exact Nat.le_of_ble_eq_true rfl) dL_law_648 (fun x55 => ?_)
    refine s_istore (lv' := [(6, .int x55), (5, .int x54), (0, .ref b), (1, .ref a1), (2, .ref a2), (3, .ref a3), (4, .int i4)]) C dL_law_651 (by decide) rfl ?_
    refine s_aload_n C 4 dL_law_653 rfl rfl ?_
    refine s_invV_i C ci12 cy_X9_thrown (Or.inl wd_7_39) rfl wd_7_40 wd_7_41 (con_X9_thrown l G a2) rfl rfl (Nat.le_of_ble_eq_true rfl) (by rw [hF]; decide) (by rw [hO]; exact Nat.le_of_ble_eq_true rfl) dL_law_654 (fun x56 => ?_)
    refine s_iload C 1 dL_law_657 rfl ?_
    refine s_icmp_eq (tgt := 664) C dL_law_659 (by decide) ?_ ?_
    · refine s_iload C 1 dL_law_664 rfl ?_
      refine s_if_ne (tgt := 681) C dL_law_666 (by decide) ?_ ?_
      · refine s_sub [2, 3, 4, 5, 6] rfl ?_
        exact L_law_b681_s C hF hO hr S X hb9 hl0 hk23  a1 a2 a3 i4
      refine s_aload_n C 5 dL_law_669 rfl rfl ?_
      refine s_iconst (v := 0) C dL_law_670 (by decide) ?_
      refine s_ll C dL_law_671 (fun x57 => ?_)
      refine s_iload C 0 dL_law_672 rfl ?_
      refine s_i2l C dL_law_674 ?_
      refine s_lcmp C dL_law_675 ?_
      refine s_if_eq (tgt := 681) C dL_law_676 (by decide) ?_ ?_
      · refine s_sub [2, 3, 4, 5, 6] rfl ?_
        exact L_law_b681_s C hF hO hr S X hb9 hl0 hk23  a1 a2 a3 i4
      refine s_iconst (v := 0) C dL_law_679 (by decide) ?_
      exact s_lawret C hr dL_law_680
    refine s_iconst (v := 0) C dL_law_662 (by decide) ?_
    exact s_lawret C hr dL_law_663
  refine s_tableIn (v := 10) (q := 10) (off := 644) (tgt := 684) C dL_law_40 (by decide) (by decide) (by decide) (by decide) (by decide) ?_ (fun hx10 => ?_)
  · refine s_aload_n C 1 dL_law_684 rfl rfl ?_
    refine s_aload_n C 0 dL_law_685 rfl rfl ?_
    refine s_iload C 4 dL_law_686 rfl ?_
    refine s_iconst (v := 1) C dL_law_688 (by decide) ?_
    refine s_iadd C dL_law_689 ?_
    refine s_sx C X hb9 dL_law_690 (fun x58 => ?_)
    refine s_aload_n C 3 dL_law_691 rfl rfl ?_
    refine s_invSH C S cy_L_mergeStep wd_6_35 wd_6_36 (con_L_mergeStep l G hl0 a1 x58 a3) rfl rfl (Nat.le_of_ble_eq_true rfl) (by rw [hF]; decide) (by rw [hO]; exact Nat.le_of_ble_eq_true rfl) dL_law_692 (fun x59 => ?_)
    refine s_istore (lv' := [(5, .int x59), (0, .ref b), (1, .ref a1), (2, .ref a2), (3, .ref a3), (4, .int i4)]) C dL_law_695 (by decide) rfl ?_
    refine s_aload_n C 3 dL_law_697 rfl rfl ?_
    refine s_aload_n C 1 dL_law_698 rfl rfl ?_
    refine s_iload C 5 dL_law_699 rfl ?_
    refine s_iconst (v := 1) C dL_law_701 (by decide) ?_
    refine s_iadd C dL_law_702 ?_
    refine s_sx C X hb9 dL_law_703 (fun x60 => ?_)
    refine s_invV_i C ci12 cy_X9_mergeStep (Or.inl wd_8_3) rfl wd_8_4 wd_8_5 (con_X9_mergeStep l G a2 x60) rfl rfl (Nat.le_of_ble_eq_true rfl) (by rw [hF]; decide) (by rw [hO]; exact Nat.le_of_ble_eq_true rfl) dL_law_704 (fun x61 => ?_)
    refine s_istore (lv' := [(6, .int x61), (5, .int x59), (0, .ref b), (1, .ref a1), (2, .ref a2), (3, .ref a3), (4, .int i4)]) C dL_law_707 (by decide) rfl ?_
    refine s_aload_n C 4 dL_law_709 rfl rfl ?_
    refine s_invV_i C ci12 cy_X9_thrown (Or.inl wd_7_39) rfl wd_7_40 wd_7_41 (con_X9_thrown l G a2) rfl rfl (Nat.le_of_ble_eq_true rfl) (by rw [hF]; decide) (by rw [hO]; exact Nat.le_of_ble_eq_true rfl) dL_law_710 (fun x62 => ?_)
    refine s_iload C 1 dL_law_713 rfl ?_
    refine s_icmp_eq (tgt := 720) C dL_law_715 (by decide) ?_ ?_
    · refine s_iload C 1 dL_law_720 rfl ?_
      refine s_if_ne (tgt := 737) C dL_law_722 (by decide) ?_ ?_
      · refine s_sub [2, 3, 4, 5, 6] rfl ?_
        exact L_law_b737_s C hF hO hr S X hb9 hl0 hk23  a1 a2 a3 i4
      refine s_aload_n C 5 dL_law_725 rfl rfl ?_
      refine s_iconst (v := 0) C dL_law_726 (by decide) ?_
      refine s_ll C dL_law_727 (fun x63 => ?_)
      refine s_iload C 0 dL_law_728 rfl ?_
      refine s_i2l C dL_law_730 ?_
      refine s_lcmp C dL_law_731 ?_
      refine s_if_eq (tgt := 737) C dL_law_732 (by decide) ?_ ?_
      · refine s_sub [2, 3, 4, 5, 6] rfl ?_
        exact L_law_b737_s C hF hO hr S X hb9 hl0 hk23  a1 a2 a3 i4
      refine s_iconst (v := 0) C dL_law_735 (by decide) ?_
      exact s_lawret C hr dL_law_736
    refine s_iconst (v := 0) C dL_law_718 (by decide) ?_
    exact s_lawret C hr dL_law_719
  refine s_tableIn (v := 11) (q := 11) (off := 700) (tgt := 740) C dL_law_40 (by decide) (by decide) (by decide) (by decide) (by decide) ?_ (fun hx11 => ?_)
  · refine s_aload_n C 1 dL_law_740 rfl rfl ?_
    refine s_aload_n C 0 dL_law_741 rfl rfl ?_
    refine s_iload C 4 dL_law_742 rfl ?_
    refine s_iconst (v := 1) C dL_law_744 (by decide) ?_
    refine s_iadd C dL_law_745 ?_
    refine s_sx C X hb9 dL_law_746 (fun x64 => ?_)
    refine s_aload_n C 0 dL_law_747 rfl rfl ?_
    refine s_iload C 4 dL_law_748 rfl ?_
    refine s_iconst (v := 2) C dL_law_750 (by decide) ?_
    refine s_iadd C dL_law_751 ?_
    refine s_sx C X hb9 dL_law_752 (fun x65 => ?_)
    refine s_aload_n C 0 dL_law_753 rfl rfl ?_
    refine s_iload C 4 dL_law_754 rfl ?_
    refine s_iconst (v := 3) C dL_law_756 (by decide) ?_
    refine s_iadd C dL_law_757 ?_
    refine s_sx C X hb9 dL_law_758 (fun x66 => ?_)
    refine s_aload_n C 3 dL_law_759 rfl rfl ?_
    refine s_invSH C S cy_L_patch wd_6_86 wd_6_87 (con_L_patch l G hl0 a1 x64 x65 x66 a3) rfl rfl (Nat.le_of_ble_eq_true rfl) (by rw [hF]; decide) (by rw [hO]; exact Nat.le_of_ble_eq_true rfl) dL_law_760 (fun x67 => ?_)
    refine s_istore (lv' := [(5, .int x67), (0, .ref b), (1, .ref a1), (2, .ref a2), (3, .ref a3), (4, .int i4)]) C dL_law_763 (by decide) rfl ?_
    refine s_aload_n C 3 dL_law_765 rfl rfl ?_
    refine s_aload_n C 1 dL_law_766 rfl rfl ?_
    refine s_iload C 5 dL_law_767 rfl ?_
    refine s_iconst (v := 1) C dL_law_769 (by decide) ?_
    refine s_iadd C dL_law_770 ?_
    refine s_sx C X hb9 dL_law_771 (fun x68 => ?_)
    refine s_aload_n C 1 dL_law_772 rfl rfl ?_
    refine s_iload C 5 dL_law_773 rfl ?_
    refine s_iconst (v := 2) C dL_law_775 (by decide) ?_
    refine s_iadd C dL_law_776 ?_
    refine s_sx C X hb9 dL_law_777 (fun x69 => ?_)
    refine s_aload_n C 1 dL_law_778 rfl rfl ?_
    refine s_iload C 5 dL_law_779 rfl ?_
    refine s_iconst (v := 3) C dL_law_781 (by decide) ?_
    refine s_iadd C dL_law_782 ?_
    refine s_sx C X hb9 dL_law_783 (fun x70 => ?_)
    refine s_invV_i C ci12 cy_X9_patch (Or.inl wd_8_27) rfl wd_8_28 wd_8_29 (con_X9_patch l G a2 x68 x69 x70) rfl rfl (Nat.le_of_ble_eq_true rfl) (by rw [hF]; decide) (by rw [hO]; exact Nat.le_of_ble_eq_true rfl) dL_law_784 (fun x71 => ?_)
    refine s_istore (lv' := [(6, .int x71), (5, .int x67), (0, .ref b), (1, .ref a1), (2, .ref a2), (3, .ref a3), (4, .int i4)]) C dL_law_787 (by decide) rfl ?_
    refine s_aload_n C 4 dL_law_789 rfl rfl ?_
    refine s_invV_i C ci12 cy_X9_thrown (Or.inl wd_7_39) rfl wd_7_40 wd_7_41 (con_X9_thrown l G a2) rfl rfl (Nat.le_of_ble_eq_true rfl) (by rw [hF]; decide) (by rw [hO]; exact Nat.le_of_ble_eq_true rfl) dL_law_790 (fun x72 => ?_)
    refine s_iload C 1 dL_law_793 rfl ?_
    refine s_icmp_eq (tgt := 800) C dL_law_795 (by decide) ?_ ?_
    · refine s_iload C 1 dL_law_800 rfl ?_
      refine s_if_ne (tgt := 817) C dL_law_802 (by decide) ?_ ?_
      · refine s_sub [2, 3, 4, 5, 6] rfl ?_
        exact L_law_b817_s C hF hO hr S X hb9 hl0 hk23  a1 a2 a3 i4
      refine s_aload_n C 5 dL_law_805 rfl rfl ?_
      refine s_iconst (v := 0) C dL_law_806 (by decide) ?_
      refine s_ll C dL_law_807 (fun x73 => ?_)
      refine s_iload C 0 dL_law_808 rfl ?_
      refine s_i2l C dL_law_810 ?_
      refine s_lcmp C dL_law_811 ?_
      refine s_if_eq (tgt := 817) C dL_law_812 (by decide) ?_ ?_
      · refine s_sub [2, 3, 4, 5, 6] rfl ?_
        exact L_law_b817_s C hF hO hr S X hb9 hl0 hk23  a1 a2 a3 i4
      refine s_iconst (v := 0) C dL_law_815 (by decide) ?_
      exact s_lawret C hr dL_law_816
    refine s_iconst (v := 0) C dL_law_798 (by decide) ?_
    exact s_lawret C hr dL_law_799
  refine s_tableIn (v := 12) (q := 12) (off := 780) (tgt := 820) C dL_law_40 (by decide) (by decide) (by decide) (by decide) (by decide) ?_ (fun hx12 => ?_)
  · refine s_aload_n C 1 dL_law_820 rfl rfl ?_
    refine s_aload_n C 0 dL_law_821 rfl rfl ?_
    refine s_iload C 4 dL_law_822 rfl ?_
    refine s_iconst (v := 1) C dL_law_824 (by decide) ?_
    refine s_iadd C dL_law_825 ?_
    refine s_sx C X hb9 dL_law_826 (fun x74 => ?_)
    refine s_aload_n C 0 dL_law_827 rfl rfl ?_
    refine s_iload C 4 dL_law_828 rfl ?_
    refine s_iconst (v := 2) C dL_law_830 (by decide) ?_
    refine s_iadd C dL_law_831 ?_
    refine s_sx C X hb9 dL_law_832 (fun x75 => ?_)
    refine s_invV_i C ci11 cy_X8_file (Or.inl wd_2_130) rfl wd_2_131 wd_2_132 (con_X8_file l G a1 x74 x75) rfl rfl (Nat.le_of_ble_eq_true rfl) (by rw [hF]; decide) (by rw [hO]; exact Nat.le_of_ble_eq_true rfl) dL_law_833 (fun x76 => ?_)
    refine s_aload_n C 2 dL_law_836 rfl rfl ?_
    refine s_aload_n C 0 dL_law_837 rfl rfl ?_
    refine s_iload C 4 dL_law_838 rfl ?_
    refine s_iconst (v := 1) C dL_law_840 (by decide) ?_
    refine s_iadd C dL_law_841 ?_
    refine s_sx C X hb9 dL_law_842 (fun x77 => ?_)
    refine s_aload_n C 0 dL_law_843 rfl rfl ?_
    refine s_iload C 4 dL_law_844 rfl ?_
    refine s_iconst (v := 2) C dL_law_846 (by decide) ?_
    refine s_iadd C dL_law_847 ?_
    refine s_sx C X hb9 dL_law_848 (fun x78 => ?_)
    refine s_invV_i C ci12 cy_X9_file (Or.inl wd_8_31) rfl wd_8_32 wd_8_33 (con_X9_file l G a2 x77 x78) rfl rfl (Nat.le_of_ble_eq_true rfl) (by rw [hF]; decide) (by rw [hO]; exact Nat.le_of_ble_eq_true rfl) dL_law_849 (fun x79 => ?_)
    refine s_icmp_eq (tgt := 1037) C dL_law_852 (by decide) ?_ ?_
    · exact L_law_b1037_s C hF hO hr S X hb9 hl0 hk23  a1 a2 a3 i4
    refine s_iconst (v := 0) C dL_law_855 (by decide) ?_
    exact s_lawret C hr dL_law_856
  refine s_tableIn (v := 13) (q := 13) (off := 817) (tgt := 857) C dL_law_40 (by decide) (by decide) (by decide) (by decide) (by decide) ?_ (fun hx13 => ?_)
  · refine s_aload_n C 1 dL_law_857 rfl rfl ?_
    refine s_aload_n C 0 dL_law_858 rfl rfl ?_
    refine s_iload C 4 dL_law_859 rfl ?_
    refine s_iconst (v := 1) C dL_law_861 (by decide) ?_
    refine s_iadd C dL_law_862 ?_
    refine s_sx C X hb9 dL_law_863 (fun x80 => ?_)
    refine s_aload_n C 0 dL_law_864 rfl rfl ?_
    refine s_iload C 4 dL_law_865 rfl ?_
    refine s_iconst (v := 2) C dL_law_867 (by decide) ?_
    refine s_iadd C dL_law_868 ?_
    refine s_sx C X hb9 dL_law_869 (fun x81 => ?_)
    refine s_invV_i C ci11 cy_X8_byteOf (Or.inl wd_2_150) rfl wd_2_151 wd_2_152 (con_X8_byteOf l G a1 x80 x81) rfl rfl (Nat.le_of_ble_eq_true rfl) (by rw [hF]; decide) (by rw [hO]; exact Nat.le_of_ble_eq_true rfl) dL_law_870 (fun x82 => ?_)
    refine s_aload_n C 2 dL_law_873 rfl rfl ?_
    refine s_aload_n C 0 dL_law_874 rfl rfl ?_
    refine s_iload C 4 dL_law_875 rfl ?_
    refine s_iconst (v := 1) C dL_law_877 (by decide) ?_
    refine s_iadd C dL_law_878 ?_
    refine s_sx C X hb9 dL_law_879 (fun x83 => ?_)
    refine s_aload_n C 0 dL_law_880 rfl rfl ?_
    refine s_iload C 4 dL_law_881 rfl ?_
    refine s_iconst (v := 2) C dL_law_883 (by decide) ?_
    refine s_iadd C dL_law_884 ?_
    refine s_sx C X hb9 dL_law_885 (fun x84 => ?_)
    refine s_invV_i C ci12 cy_X9_byteOf (Or.inl wd_8_35) rfl wd_8_36 wd_8_37 (con_X9_byteOf l G a2 x83 x84) rfl rfl (Nat.le_of_ble_eq_true rfl) (by rw [hF]; decide) (by rw [hO]; exact Nat.le_of_ble_eq_true rfl) dL_law_886 (fun x85 => ?_)
    refine s_icmp_eq (tgt := 1037) C dL_law_889 (by decide) ?_ ?_
    · exact L_law_b1037_s C hF hO hr S X hb9 hl0 hk23  a1 a2 a3 i4
    refine s_iconst (v := 0) C dL_law_892 (by decide) ?_
    exact s_lawret C hr dL_law_893
  refine s_tableIn (v := 14) (q := 14) (off := 854) (tgt := 894) C dL_law_40 (by decide) (by decide) (by decide) (by decide) (by decide) ?_ (fun hx14 => ?_)
  · refine s_aload_n C 1 dL_law_894 rfl rfl ?_
    refine s_aload_n C 0 dL_law_895 rfl rfl ?_
    refine s_iload C 4 dL_law_896 rfl ?_
    refine s_iconst (v := 1) C dL_law_898 (by decide) ?_
    refine s_iadd C dL_law_899 ?_
    refine s_sx C X hb9 dL_law_900 (fun x86 => ?_)
    refine s_aload_n C 0 dL_law_901 rfl rfl ?_
    refine s_iload C 4 dL_law_902 rfl ?_
    refine s_iconst (v := 2) C dL_law_904 (by decide) ?_
    refine s_iadd C dL_law_905 ?_
    refine s_sx C X hb9 dL_law_906 (fun x87 => ?_)
    refine s_invV_i C ci11 cy_X8_entry (Or.inl wd_2_154) rfl wd_2_155 wd_2_156 (con_X8_entry l G a1 x86 x87) rfl rfl (Nat.le_of_ble_eq_true rfl) (by rw [hF]; decide) (by rw [hO]; exact Nat.le_of_ble_eq_true rfl) dL_law_907 (fun x88 => ?_)
    refine s_aload_n C 2 dL_law_910 rfl rfl ?_
    refine s_aload_n C 0 dL_law_911 rfl rfl ?_
    refine s_iload C 4 dL_law_912 rfl ?_
    refine s_iconst (v := 1) C dL_law_914 (by decide) ?_
    refine s_iadd C dL_law_915 ?_
    refine s_sx C X hb9 dL_law_916 (fun x89 => ?_)
    refine s_aload_n C 0 dL_law_917 rfl rfl ?_
    refine s_iload C 4 dL_law_918 rfl ?_
    refine s_iconst (v := 2) C dL_law_920 (by decide) ?_
    refine s_iadd C dL_law_921 ?_
    refine s_sx C X hb9 dL_law_922 (fun x90 => ?_)
    refine s_invV_i C ci12 cy_X9_entry (Or.inl wd_8_39) rfl wd_8_40 wd_8_41 (con_X9_entry l G a2 x89 x90) rfl rfl (Nat.le_of_ble_eq_true rfl) (by rw [hF]; decide) (by rw [hO]; exact Nat.le_of_ble_eq_true rfl) dL_law_923 (fun x91 => ?_)
    refine s_icmp_eq (tgt := 1037) C dL_law_926 (by decide) ?_ ?_
    · exact L_law_b1037_s C hF hO hr S X hb9 hl0 hk23  a1 a2 a3 i4
    refine s_iconst (v := 0) C dL_law_929 (by decide) ?_
    exact s_lawret C hr dL_law_930
  refine s_tableIn (v := 15) (q := 15) (off := 891) (tgt := 931) C dL_law_40 (by decide) (by decide) (by decide) (by decide) (by decide) ?_ (fun hx15 => ?_)
  · refine s_aload_n C 1 dL_law_931 rfl rfl ?_
    refine s_aload_n C 0 dL_law_932 rfl rfl ?_
    refine s_iload C 4 dL_law_933 rfl ?_
    refine s_iconst (v := 1) C dL_law_935 (by decide) ?_
    refine s_iadd C dL_law_936 ?_
    refine s_sx C X hb9 dL_law_937 (fun x92 => ?_)
    refine s_aload_n C 0 dL_law_938 rfl rfl ?_
    refine s_iload C 4 dL_law_939 rfl ?_
    refine s_iconst (v := 2) C dL_law_941 (by decide) ?_
    refine s_iadd C dL_law_942 ?_
    refine s_sx C X hb9 dL_law_943 (fun x93 => ?_)
    refine s_invV_i C ci11 cy_X8_key (Or.inl wd_2_163) rfl wd_2_164 wd_2_165 (con_X8_key l G a1 x92 x93) rfl rfl (Nat.le_of_ble_eq_true rfl) (by rw [hF]; decide) (by rw [hO]; exact Nat.le_of_ble_eq_true rfl) dL_law_944 (fun x94 => ?_)
    refine s_aload_n C 2 dL_law_947 rfl rfl ?_
    refine s_aload_n C 0 dL_law_948 rfl rfl ?_
    refine s_iload C 4 dL_law_949 rfl ?_
    refine s_iconst (v := 1) C dL_law_951 (by decide) ?_
    refine s_iadd C dL_law_952 ?_
    refine s_sx C X hb9 dL_law_953 (fun x95 => ?_)
    refine s_aload_n C 0 dL_law_954 rfl rfl ?_
    refine s_iload C 4 dL_law_955 rfl ?_
    refine s_iconst (v := 2) C dL_law_957 (by decide) ?_
    refine s_iadd C dL_law_958 ?_
    refine s_sx C X hb9 dL_law_959 (fun x96 => ?_)
    refine s_invV_i C ci12 cy_X9_key (Or.inl wd_8_43) rfl wd_8_44 wd_8_45 (con_X9_key l G a2 x95 x96) rfl rfl (Nat.le_of_ble_eq_true rfl) (by rw [hF]; decide) (by rw [hO]; exact Nat.le_of_ble_eq_true rfl) dL_law_960 (fun x97 => ?_)
    refine s_icmp_eq (tgt := 1037) C dL_law_963 (by decide) ?_ ?_
    · exact L_law_b1037_s C hF hO hr S X hb9 hl0 hk23  a1 a2 a3 i4
    refine s_iconst (v := 0) C dL_law_966 (by decide) ?_
    exact s_lawret C hr dL_law_967
  refine s_tableIn (v := 16) (q := 16) (off := 928) (tgt := 968) C dL_law_40 (by decide) (by decide) (by decide) (by decide) (by decide) ?_ (fun hx16 => ?_)
  · refine s_aload_n C 1 dL_law_968 rfl rfl ?_
    refine s_aload_n C 3 dL_law_969 rfl rfl ?_
    refine s_invSH C S cy_L_bad wd_6_98 wd_6_99 (con_L_bad l G hl0 a1 a3) rfl rfl (Nat.le_of_ble_eq_true rfl) (by rw [hF]; decide) (by rw [hO]; exact Nat.le_of_ble_eq_true rfl) dL_law_970 (fun x98 => ?_)
    refine s_istore (lv' := [(5, .int x98), (0, .ref b), (1, .ref a1), (2, .ref a2), (3, .ref a3), (4, .int i4)]) C dL_law_973 (by decide) rfl ?_
    refine s_aload_n C 3 dL_law_975 rfl rfl ?_
    refine s_invV_i C ci12 cy_X9_bad (Or.inl wd_8_47) rfl wd_8_48 wd_8_49 (con_X9_bad l G a2) rfl rfl (Nat.le_of_ble_eq_true rfl) (by rw [hF]; decide) (by rw [hO]; exact Nat.le_of_ble_eq_true rfl) dL_law_976 (fun x99 => ?_)
    refine s_istore (lv' := [(6, .int x99), (5, .int x98), (0, .ref b), (1, .ref a1), (2, .ref a2), (3, .ref a3), (4, .int i4)]) C dL_law_979 (by decide) rfl ?_
    refine s_aload_n C 4 dL_law_981 rfl rfl ?_
    refine s_invV_i C ci12 cy_X9_thrown (Or.inl wd_7_39) rfl wd_7_40 wd_7_41 (con_X9_thrown l G a2) rfl rfl (Nat.le_of_ble_eq_true rfl) (by rw [hF]; decide) (by rw [hO]; exact Nat.le_of_ble_eq_true rfl) dL_law_982 (fun x100 => ?_)
    refine s_iload C 1 dL_law_985 rfl ?_
    refine s_icmp_eq (tgt := 992) C dL_law_987 (by decide) ?_ ?_
    · refine s_iload C 1 dL_law_992 rfl ?_
      refine s_if_ne (tgt := 1009) C dL_law_994 (by decide) ?_ ?_
      · refine s_sub [2, 3, 4, 5, 6] rfl ?_
        exact L_law_b1009_s C hF hO hr S X hb9 hl0 hk23  a1 a2 a3 i4
      refine s_aload_n C 5 dL_law_997 rfl rfl ?_
      refine s_iconst (v := 0) C dL_law_998 (by decide) ?_
      refine s_ll C dL_law_999 (fun x101 => ?_)
      refine s_iload C 0 dL_law_1000 rfl ?_
      refine s_i2l C dL_law_1002 ?_
      refine s_lcmp C dL_law_1003 ?_
      refine s_if_eq (tgt := 1009) C dL_law_1004 (by decide) ?_ ?_
      · refine s_sub [2, 3, 4, 5, 6] rfl ?_
        exact L_law_b1009_s C hF hO hr S X hb9 hl0 hk23  a1 a2 a3 i4
      refine s_iconst (v := 0) C dL_law_1007 (by decide) ?_
      exact s_lawret C hr dL_law_1008
    refine s_iconst (v := 0) C dL_law_990 (by decide) ?_
    exact s_lawret C hr dL_law_991
  refine s_tableIn (v := 17) (q := 17) (off := 972) (tgt := 1012) C dL_law_40 (by decide) (by decide) (by decide) (by decide) (by decide) ?_ (fun hx17 => ?_)
  · refine s_aload_n C 1 dL_law_1012 rfl rfl ?_
    refine s_aload_n C 0 dL_law_1013 rfl rfl ?_
    refine s_iload C 4 dL_law_1014 rfl ?_
    refine s_iconst (v := 1) C dL_law_1016 (by decide) ?_
    refine s_iadd C dL_law_1017 ?_
    refine s_sx C X hb9 dL_law_1018 (fun x102 => ?_)
    refine s_invV_i C ci11 cy_X8_look (Or.inl wd_2_167) rfl wd_2_168 wd_2_169 (con_X8_look l G a1 x102) rfl rfl (Nat.le_of_ble_eq_true rfl) (by rw [hF]; decide) (by rw [hO]; exact Nat.le_of_ble_eq_true rfl) dL_law_1019 (fun x103 => ?_)
    refine s_aload_n C 2 dL_law_1022 rfl rfl ?_
    refine s_aload_n C 0 dL_law_1023 rfl rfl ?_
    refine s_iload C 4 dL_law_1024 rfl ?_
    refine s_iconst (v := 1) C dL_law_1026 (by decide) ?_
    refine s_iadd C dL_law_1027 ?_
    refine s_sx C X hb9 dL_law_1028 (fun x104 => ?_)
    refine s_invV_i C ci12 cy_X9_look (Or.inl wd_8_51) rfl wd_8_52 wd_8_53 (con_X9_look l G a2 x104) rfl rfl (Nat.le_of_ble_eq_true rfl) (by rw [hF]; decide) (by rw [hO]; exact Nat.le_of_ble_eq_true rfl) dL_law_1029 (fun x105 => ?_)
    refine s_icmp_eq (tgt := 1037) C dL_law_1032 (by decide) ?_ ?_
    · exact L_law_b1037_s C hF hO hr S X hb9 hl0 hk23  a1 a2 a3 i4
    refine s_iconst (v := 0) C dL_law_1035 (by decide) ?_
    exact s_lawret C hr dL_law_1036
  refine s_tableOut (tgt := 1037) C dL_law_40 (by have q0 : (x1 &&& 31).toInt ≠ 0 := fun q => hx0 (Int32.toInt_inj.mp q); have q1 : (x1 &&& 31).toInt ≠ 1 := fun q => hx1 (Int32.toInt_inj.mp q); have q2 : (x1 &&& 31).toInt ≠ 2 := fun q => hx2 (Int32.toInt_inj.mp q); have q3 : (x1 &&& 31).toInt ≠ 3 := fun q => hx3 (Int32.toInt_inj.mp q); have q4 : (x1 &&& 31).toInt ≠ 4 := fun q => hx4 (Int32.toInt_inj.mp q); have q5 : (x1 &&& 31).toInt ≠ 5 := fun q => hx5 (Int32.toInt_inj.mp q); have q6 : (x1 &&& 31).toInt ≠ 6 := fun q => hx6 (Int32.toInt_inj.mp q); have q7 : (x1 &&& 31).toInt ≠ 7 := fun q => hx7 (Int32.toInt_inj.mp q); have q8 : (x1 &&& 31).toInt ≠ 8 := fun q => hx8 (Int32.toInt_inj.mp q); have q9 : (x1 &&& 31).toInt ≠ 9 := fun q => hx9 (Int32.toInt_inj.mp q); have q10 : (x1 &&& 31).toInt ≠ 10 := fun q => hx10 (Int32.toInt_inj.mp q); have q11 : (x1 &&& 31).toInt ≠ 11 := fun q => hx11 (Int32.toInt_inj.mp q); have q12 : (x1 &&& 31).toInt ≠ 12 := fun q => hx12 (Int32.toInt_inj.mp q); have q13 : (x1 &&& 31).toInt ≠ 13 := fun q => hx13 (Int32.toInt_inj.mp q); have q14 : (x1 &&& 31).toInt ≠ 14 := fun q => hx14 (Int32.toInt_inj.mp q); have q15 : (x1 &&& 31).toInt ≠ 15 := fun q => hx15 (Int32.toInt_inj.mp q); have q16 : (x1 &&& 31).toInt ≠ 16 := fun q => hx16 (Int32.toInt_inj.mp q); have q17 : (x1 &&& 31).toInt ≠ 17 := fun q => hx17 (Int32.toInt_inj.mp q); omega) (by decide) ?_
  exact L_law_b1037_s C hF hO hr S X hb9 hl0 hk23  a1 a2 a3 i4
set_option maxRecDepth 20000 in
theorem L_law_b23_s {b : Nat} {xs : Nat → Int32} {L : Nat} (C : Cx G p R s m args meth c cL_law 7 RL h0 h') (hF : R.frames = 2048) (hO : R.locals = 84000) (hr : LawR G R args meth s r h0 h') (S : SX G s) (X : va_X b L xs s (gH G)) (hb9 : b < (gH G).size) (hl0 : l.stackTraces = false)  (n : Nat) : ∀ (a1 : Nat) (a2 : Nat) (a3 : Nat) (i4 : Int32), Sm G (lw_Z below args s) p l e R s m args below meth c 7 h0 r h' 23 [(0, .ref b), (1, .ref a1), (2, .ref a2), (3, .ref a3), (4, .int i4)] [] (L_law_b23 xs L  n a1 a2 a3 i4) := by
  induction n with
  | zero => intro a1 a2 a3 i4; exact s_fl
  | succ n ih => intro a1 a2 a3 i4; exact L_law_b23b_s C hF hO hr S X hb9 hl0  ih a1 a2 a3 i4
end
set_option maxRecDepth 20000 in
theorem law_s {G : Gx} {p : Program} {l : Launch} {e : Env} {R : Room} {s : State} {m : MethodId} {args : Array Value} {below : List Frame} {meth : Method} {c : Code} {h0 : Hp} {r : Int32} {h' : Hp} {b : Nat} {xs : Nat → Int32} {L : Nat} (C : Cx G p R s m args meth c cL_law 7 RL h0 h') (hF : R.frames = 2048) (hO : R.locals = 84000) (hr : LawR G R args meth s r h0 h') (S : SX G s) (X : va_X b L xs s (gH G)) (hb9 : b < (gH G).size) (hl0 : l.stackTraces = false) : Sm G (lw_Z below args s) p l e R s m args below meth c 7 h0 r h' 0 [(0, .ref b)] [] (L_law xs L) := by
  refine s_nw C ci11 wd_1_33 wd_1_34 wd_1_1 dL_law_0 (fun y1 => ?_)
  refine s_dup C dL_law_3 rfl ?_
  refine s_invI_u C cy_X8_init (Or.inl wd_1_35) rfl wd_1_36 (con_X8_init l G y1) rfl rfl (Nat.le_of_ble_eq_true rfl) (by rw [hF]; decide) (by rw [hO]; exact Nat.le_of_ble_eq_true rfl) dL_law_4 ?_
  refine s_astore_n (lv' := [(1, .ref y1), (0, .ref b)]) C dL_law_7 rfl (by decide) rfl ?_
  refine s_nw C ci12 wd_6_105 wd_6_106 wd_1_16 dL_law_8 (fun y2 => ?_)
  refine s_dup C dL_law_11 rfl ?_
  refine s_invI_u C cy_X9_init (Or.inl wd_6_107) rfl wd_6_108 (con_X9_init l G y2) rfl rfl (Nat.le_of_ble_eq_true rfl) (by rw [hF]; decide) (by rw [hO]; exact Nat.le_of_ble_eq_true rfl) dL_law_12 ?_
  refine s_astore_n (lv' := [(2, .ref y2), (1, .ref y1), (0, .ref b)]) C dL_law_15 rfl (by decide) rfl ?_
  refine s_iconst (v := 1) C dL_law_16 (by decide) ?_
  refine s_na23 C wd_8_64 dL_law_17 (fun y3 => ?_)
  refine s_astore_n (lv' := [(3, .ref y3), (2, .ref y2), (1, .ref y1), (0, .ref b)]) C dL_law_19 rfl (by decide) rfl ?_
  refine s_iconst (v := 0) C dL_law_20 (by decide) ?_
  refine s_istore (lv' := [(4, .int 0), (3, .ref y3), (2, .ref y2), (1, .ref y1), (0, .ref b)]) C dL_law_21 (by decide) rfl ?_
  refine s_sub [4, 3, 2, 1, 0] rfl ?_
  exact L_law_b23_s C hF hO hr S X hb9 hl0  FU y1 y2 y3 0
