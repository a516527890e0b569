/-! THE LAW: its instructions -/
theorem d_law_0 : decode code 0 = .ok (.new 7, 3) := by decide +kernel
theorem d_law_3 : decode code 3 = .ok (.dup, 1) := by decide +kernel
theorem d_law_4 : decode code 4 = .ok (.invokespecial 9, 3) := by decide +kernel
theorem d_law_7 : decode code 7 = .ok (.astore_n 1, 1) := by decide +kernel
theorem d_law_8 : decode code 8 = .ok (.new 10, 3) := by decide +kernel
theorem d_law_11 : decode code 11 = .ok (.dup, 1) := by decide +kernel
theorem d_law_12 : decode code 12 = .ok (.invokespecial 12, 3) := by decide +kernel
theorem d_law_15 : decode code 15 = .ok (.astore_n 2, 1) := by decide +kernel
theorem d_law_16 : decode code 16 = .ok (.iconst 0, 1) := by decide +kernel
theorem d_law_17 : decode code 17 = .ok (.istore_n 3, 1) := by decide +kernel
theorem d_law_18 : decode code 18 = .ok (.iload_n 3, 1) := by decide +kernel
theorem d_law_19 : decode code 19 = .ok (.aload_n 0, 1) := by decide +kernel
theorem d_law_20 : decode code 20 = .ok (.arraylength, 1) := by decide +kernel
theorem d_law_21 : decode code 21 = .ok (.iconst 5, 1) := by decide +kernel
theorem d_law_22 : decode code 22 = .ok (.isub, 1) := by decide +kernel
theorem d_law_23 : decode code 23 = .ok (.if_icmp .gt (837), 3) := by decide +kernel
theorem d_law_26 : decode code 26 = .ok (.aload_n 0, 1) := by decide +kernel
theorem d_law_27 : decode code 27 = .ok (.iload_n 3, 1) := by decide +kernel
theorem d_law_28 : decode code 28 = .ok (.iaload, 1) := by decide +kernel
theorem d_law_29 : decode code 29 = .ok (.bipush 31, 2) := by decide +kernel
theorem d_law_31 : decode code 31 = .ok (.iand, 1) := by decide +kernel
theorem d_law_32 : decode code 32 = .ok (.tableswitch (822) (0) (24) #[116, 179, 192, 205, 228, 251, 274, 297, 310, 333, 356, 389, 432, 475, 528, 561, 594, 627, 640, 663, 716, 739, 762, 785, 808], 116) := by decide +kernel
theorem d_law_148 : decode code 148 = .ok (.aload_n 1, 1) := by decide +kernel
theorem d_law_149 : decode code 149 = .ok (.aload_n 0, 1) := by decide +kernel
theorem d_law_150 : decode code 150 = .ok (.iload_n 3, 1) := by decide +kernel
theorem d_law_151 : decode code 151 = .ok (.iconst 1, 1) := by decide +kernel
theorem d_law_152 : decode code 152 = .ok (.iadd, 1) := by decide +kernel
theorem d_law_153 : decode code 153 = .ok (.iaload, 1) := by decide +kernel
theorem d_law_154 : decode code 154 = .ok (.i2l, 1) := by decide +kernel
theorem d_law_155 : decode code 155 = .ok (.bipush 32, 2) := by decide +kernel
theorem d_law_157 : decode code 157 = .ok (.lshl, 1) := by decide +kernel
theorem d_law_158 : decode code 158 = .ok (.aload_n 0, 1) := by decide +kernel
theorem d_law_159 : decode code 159 = .ok (.iload_n 3, 1) := by decide +kernel
theorem d_law_160 : decode code 160 = .ok (.iconst 2, 1) := by decide +kernel
theorem d_law_161 : decode code 161 = .ok (.iadd, 1) := by decide +kernel
theorem d_law_162 : decode code 162 = .ok (.iaload, 1) := by decide +kernel
theorem d_law_163 : decode code 163 = .ok (.i2l, 1) := by decide +kernel
theorem d_law_164 : decode code 164 = .ok (.ldc2_w 13, 3) := by decide +kernel
theorem d_law_167 : decode code 167 = .ok (.land, 1) := by decide +kernel
theorem d_law_168 : decode code 168 = .ok (.lor, 1) := by decide +kernel
theorem d_law_169 : decode code 169 = .ok (.aload_n 0, 1) := by decide +kernel
theorem d_law_170 : decode code 170 = .ok (.iload_n 3, 1) := by decide +kernel
theorem d_law_171 : decode code 171 = .ok (.iconst 3, 1) := by decide +kernel
theorem d_law_172 : decode code 172 = .ok (.iadd, 1) := by decide +kernel
theorem d_law_173 : decode code 173 = .ok (.iaload, 1) := by decide +kernel
theorem d_law_174 : decode code 174 = .ok (.invokevirtual 15, 3) := by decide +kernel
theorem d_law_177 : decode code 177 = .ok (.aload_n 2, 1) := by decide +kernel
theorem d_law_178 : decode code 178 = .ok (.aload_n 0, 1) := by decide +kernel
theorem d_law_179 : decode code 179 = .ok (.iload_n 3, 1) := by decide +kernel
theorem d_law_180 : decode code 180 = .ok (.iconst 1, 1) := by decide +kernel
theorem d_law_181 : decode code 181 = .ok (.iadd, 1) := by decide +kernel
theorem d_law_182 : decode code 182 = .ok (.iaload, 1) := by decide +kernel
theorem d_law_183 : decode code 183 = .ok (.i2l, 1) := by decide +kernel
theorem d_law_184 : decode code 184 = .ok (.bipush 32, 2) := by decide +kernel
theorem d_law_186 : decode code 186 = .ok (.lshl, 1) := by decide +kernel
theorem d_law_187 : decode code 187 = .ok (.aload_n 0, 1) := by decide +kernel
theorem d_law_188 : decode code 188 = .ok (.iload_n 3, 1) := by decide +kernel
theorem d_law_189 : decode code 189 = .ok (.iconst 2, 1) := by decide +kernel
theorem d_law_190 : decode code 190 = .ok (.iadd, 1) := by decide +kernel
theorem d_law_191 : decode code 191 = .ok (.iaload, 1) := by decide +kernel
theorem d_law_192 : decode code 192 = .ok (.i2l, 1) := by decide +kernel
theorem d_law_193 : decode code 193 = .ok (.ldc2_w 13, 3) := by decide +kernel
theorem d_law_196 : decode code 196 = .ok (.land, 1) := by decide +kernel
theorem d_law_197 : decode code 197 = .ok (.lor, 1) := by decide +kernel
theorem d_law_198 : decode code 198 = .ok (.aload_n 0, 1) := by decide +kernel
theorem d_law_199 : decode code 199 = .ok (.iload_n 3, 1) := by decide +kernel
theorem d_law_200 : decode code 200 = .ok (.iconst 3, 1) := by decide +kernel
theorem d_law_201 : decode code 201 = .ok (.iadd, 1) := by decide +kernel
theorem d_law_202 : decode code 202 = .ok (.iaload, 1) := by decide +kernel
theorem d_law_203 : decode code 203 = .ok (.invokevirtual 19, 3) := by decide +kernel
theorem d_law_206 : decode code 206 = .ok (.if_icmp .eq (648), 3) := by decide +kernel
theorem d_law_209 : decode code 209 = .ok (.iconst 0, 1) := by decide +kernel
theorem d_law_210 : decode code 210 = .ok (.ireturn, 1) := by decide +kernel
theorem d_law_211 : decode code 211 = .ok (.aload_n 1, 1) := by decide +kernel
theorem d_law_212 : decode code 212 = .ok (.invokevirtual 20, 3) := by decide +kernel
theorem d_law_215 : decode code 215 = .ok (.aload_n 2, 1) := by decide +kernel
theorem d_law_216 : decode code 216 = .ok (.invokevirtual 24, 3) := by decide +kernel
theorem d_law_219 : decode code 219 = .ok (.if_icmp .eq (635), 3) := by decide +kernel
theorem d_law_222 : decode code 222 = .ok (.iconst 0, 1) := by decide +kernel
theorem d_law_223 : decode code 223 = .ok (.ireturn, 1) := by decide +kernel
theorem d_law_224 : decode code 224 = .ok (.aload_n 1, 1) := by decide +kernel
theorem d_law_225 : decode code 225 = .ok (.invokevirtual 25, 3) := by decide +kernel
theorem d_law_228 : decode code 228 = .ok (.aload_n 2, 1) := by decide +kernel
theorem d_law_229 : decode code 229 = .ok (.invokevirtual 28, 3) := by decide +kernel
theorem d_law_232 : decode code 232 = .ok (.if_icmp .eq (622), 3) := by decide +kernel
theorem d_law_235 : decode code 235 = .ok (.iconst 0, 1) := by decide +kernel
theorem d_law_236 : decode code 236 = .ok (.ireturn, 1) := by decide +kernel
theorem d_law_237 : decode code 237 = .ok (.aload_n 1, 1) := by decide +kernel
theorem d_law_238 : decode code 238 = .ok (.aload_n 0, 1) := by decide +kernel
theorem d_law_239 : decode code 239 = .ok (.iload_n 3, 1) := by decide +kernel
theorem d_law_240 : decode code 240 = .ok (.iconst 1, 1) := by decide +kernel
theorem d_law_241 : decode code 241 = .ok (.iadd, 1) := by decide +kernel
theorem d_law_242 : decode code 242 = .ok (.iaload, 1) := by decide +kernel
theorem d_law_243 : decode code 243 = .ok (.invokevirtual 29, 3) := by decide +kernel
theorem d_law_246 : decode code 246 = .ok (.aload_n 2, 1) := by decide +kernel
theorem d_law_247 : decode code 247 = .ok (.aload_n 0, 1) := by decide +kernel
theorem d_law_248 : decode code 248 = .ok (.iload_n 3, 1) := by decide +kernel
theorem d_law_249 : decode code 249 = .ok (.iconst 1, 1) := by decide +kernel
theorem d_law_250 : decode code 250 = .ok (.iadd, 1) := by decide +kernel
theorem d_law_251 : decode code 251 = .ok (.iaload, 1) := by decide +kernel
theorem d_law_252 : decode code 252 = .ok (.invokevirtual 33, 3) := by decide +kernel
theorem d_law_255 : decode code 255 = .ok (.if_icmp .eq (599), 3) := by decide +kernel
theorem d_law_258 : decode code 258 = .ok (.iconst 0, 1) := by decide +kernel
theorem d_law_259 : decode code 259 = .ok (.ireturn, 1) := by decide +kernel
theorem d_law_260 : decode code 260 = .ok (.aload_n 1, 1) := by decide +kernel
theorem d_law_261 : decode code 261 = .ok (.aload_n 0, 1) := by decide +kernel
theorem d_law_262 : decode code 262 = .ok (.iload_n 3, 1) := by decide +kernel
theorem d_law_263 : decode code 263 = .ok (.iconst 1, 1) := by decide +kernel
theorem d_law_264 : decode code 264 = .ok (.iadd, 1) := by decide +kernel
theorem d_law_265 : decode code 265 = .ok (.iaload, 1) := by decide +kernel
theorem d_law_266 : decode code 266 = .ok (.invokevirtual 34, 3) := by decide +kernel
theorem d_law_269 : decode code 269 = .ok (.aload_n 2, 1) := by decide +kernel
theorem d_law_270 : decode code 270 = .ok (.aload_n 0, 1) := by decide +kernel
theorem d_law_271 : decode code 271 = .ok (.iload_n 3, 1) := by decide +kernel
theorem d_law_272 : decode code 272 = .ok (.iconst 1, 1) := by decide +kernel
theorem d_law_273 : decode code 273 = .ok (.iadd, 1) := by decide +kernel
theorem d_law_274 : decode code 274 = .ok (.iaload, 1) := by decide +kernel
theorem d_law_275 : decode code 275 = .ok (.invokevirtual 37, 3) := by decide +kernel
theorem d_law_278 : decode code 278 = .ok (.if_icmp .eq (576), 3) := by decide +kernel
theorem d_law_281 : decode code 281 = .ok (.iconst 0, 1) := by decide +kernel
theorem d_law_282 : decode code 282 = .ok (.ireturn, 1) := by decide +kernel
theorem d_law_283 : decode code 283 = .ok (.aload_n 1, 1) := by decide +kernel
theorem d_law_284 : decode code 284 = .ok (.aload_n 0, 1) := by decide +kernel
theorem d_law_285 : decode code 285 = .ok (.iload_n 3, 1) := by decide +kernel
theorem d_law_286 : decode code 286 = .ok (.iconst 1, 1) := by decide +kernel
theorem d_law_287 : decode code 287 = .ok (.iadd, 1) := by decide +kernel
theorem d_law_288 : decode code 288 = .ok (.iaload, 1) := by decide +kernel
theorem d_law_289 : decode code 289 = .ok (.invokevirtual 38, 3) := by decide +kernel
theorem d_law_292 : decode code 292 = .ok (.aload_n 2, 1) := by decide +kernel
theorem d_law_293 : decode code 293 = .ok (.aload_n 0, 1) := by decide +kernel
theorem d_law_294 : decode code 294 = .ok (.iload_n 3, 1) := by decide +kernel
theorem d_law_295 : decode code 295 = .ok (.iconst 1, 1) := by decide +kernel
theorem d_law_296 : decode code 296 = .ok (.iadd, 1) := by decide +kernel
theorem d_law_297 : decode code 297 = .ok (.iaload, 1) := by decide +kernel
theorem d_law_298 : decode code 298 = .ok (.invokevirtual 41, 3) := by decide +kernel
theorem d_law_301 : decode code 301 = .ok (.if_icmp .eq (553), 3) := by decide +kernel
theorem d_law_304 : decode code 304 = .ok (.iconst 0, 1) := by decide +kernel
theorem d_law_305 : decode code 305 = .ok (.ireturn, 1) := by decide +kernel
theorem d_law_306 : decode code 306 = .ok (.aload_n 1, 1) := by decide +kernel
theorem d_law_307 : decode code 307 = .ok (.aload_n 0, 1) := by decide +kernel
theorem d_law_308 : decode code 308 = .ok (.iload_n 3, 1) := by decide +kernel
theorem d_law_309 : decode code 309 = .ok (.iconst 1, 1) := by decide +kernel
theorem d_law_310 : decode code 310 = .ok (.iadd, 1) := by decide +kernel
theorem d_law_311 : decode code 311 = .ok (.iaload, 1) := by decide +kernel
theorem d_law_312 : decode code 312 = .ok (.invokevirtual 42, 3) := by decide +kernel
theorem d_law_315 : decode code 315 = .ok (.aload_n 2, 1) := by decide +kernel
theorem d_law_316 : decode code 316 = .ok (.aload_n 0, 1) := by decide +kernel
theorem d_law_317 : decode code 317 = .ok (.iload_n 3, 1) := by decide +kernel
theorem d_law_318 : decode code 318 = .ok (.iconst 1, 1) := by decide +kernel
theorem d_law_319 : decode code 319 = .ok (.iadd, 1) := by decide +kernel
theorem d_law_320 : decode code 320 = .ok (.iaload, 1) := by decide +kernel
theorem d_law_321 : decode code 321 = .ok (.invokevirtual 45, 3) := by decide +kernel
theorem d_law_324 : decode code 324 = .ok (.if_icmp .eq (530), 3) := by decide +kernel
theorem d_law_327 : decode code 327 = .ok (.iconst 0, 1) := by decide +kernel
theorem d_law_328 : decode code 328 = .ok (.ireturn, 1) := by decide +kernel
theorem d_law_329 : decode code 329 = .ok (.aload_n 1, 1) := by decide +kernel
theorem d_law_330 : decode code 330 = .ok (.invokevirtual 46, 3) := by decide +kernel
theorem d_law_333 : decode code 333 = .ok (.aload_n 2, 1) := by decide +kernel
theorem d_law_334 : decode code 334 = .ok (.invokevirtual 49, 3) := by decide +kernel
theorem d_law_337 : decode code 337 = .ok (.if_icmp .eq (517), 3) := by decide +kernel
theorem d_law_340 : decode code 340 = .ok (.iconst 0, 1) := by decide +kernel
theorem d_law_341 : decode code 341 = .ok (.ireturn, 1) := by decide +kernel
theorem d_law_342 : decode code 342 = .ok (.aload_n 1, 1) := by decide +kernel
theorem d_law_343 : decode code 343 = .ok (.aload_n 0, 1) := by decide +kernel
theorem d_law_344 : decode code 344 = .ok (.iload_n 3, 1) := by decide +kernel
theorem d_law_345 : decode code 345 = .ok (.iconst 1, 1) := by decide +kernel
theorem d_law_346 : decode code 346 = .ok (.iadd, 1) := by decide +kernel
theorem d_law_347 : decode code 347 = .ok (.iaload, 1) := by decide +kernel
theorem d_law_348 : decode code 348 = .ok (.invokevirtual 50, 3) := by decide +kernel
theorem d_law_351 : decode code 351 = .ok (.aload_n 2, 1) := by decide +kernel
theorem d_law_352 : decode code 352 = .ok (.aload_n 0, 1) := by decide +kernel
theorem d_law_353 : decode code 353 = .ok (.iload_n 3, 1) := by decide +kernel
theorem d_law_354 : decode code 354 = .ok (.iconst 1, 1) := by decide +kernel
theorem d_law_355 : decode code 355 = .ok (.iadd, 1) := by decide +kernel
theorem d_law_356 : decode code 356 = .ok (.iaload, 1) := by decide +kernel
theorem d_law_357 : decode code 357 = .ok (.invokevirtual 53, 3) := by decide +kernel
theorem d_law_360 : decode code 360 = .ok (.if_icmp .eq (494), 3) := by decide +kernel
theorem d_law_363 : decode code 363 = .ok (.iconst 0, 1) := by decide +kernel
theorem d_law_364 : decode code 364 = .ok (.ireturn, 1) := by decide +kernel
theorem d_law_365 : decode code 365 = .ok (.aload_n 1, 1) := by decide +kernel
theorem d_law_366 : decode code 366 = .ok (.aload_n 0, 1) := by decide +kernel
theorem d_law_367 : decode code 367 = .ok (.iload_n 3, 1) := by decide +kernel
theorem d_law_368 : decode code 368 = .ok (.iconst 1, 1) := by decide +kernel
theorem d_law_369 : decode code 369 = .ok (.iadd, 1) := by decide +kernel
theorem d_law_370 : decode code 370 = .ok (.iaload, 1) := by decide +kernel
theorem d_law_371 : decode code 371 = .ok (.invokevirtual 54, 3) := by decide +kernel
theorem d_law_374 : decode code 374 = .ok (.aload_n 2, 1) := by decide +kernel
theorem d_law_375 : decode code 375 = .ok (.aload_n 0, 1) := by decide +kernel
theorem d_law_376 : decode code 376 = .ok (.iload_n 3, 1) := by decide +kernel
theorem d_law_377 : decode code 377 = .ok (.iconst 1, 1) := by decide +kernel
theorem d_law_378 : decode code 378 = .ok (.iadd, 1) := by decide +kernel
theorem d_law_379 : decode code 379 = .ok (.iaload, 1) := by decide +kernel
theorem d_law_380 : decode code 380 = .ok (.invokevirtual 57, 3) := by decide +kernel
theorem d_law_383 : decode code 383 = .ok (.if_icmp .eq (471), 3) := by decide +kernel
theorem d_law_386 : decode code 386 = .ok (.iconst 0, 1) := by decide +kernel
theorem d_law_387 : decode code 387 = .ok (.ireturn, 1) := by decide +kernel
theorem d_law_388 : decode code 388 = .ok (.aload_n 1, 1) := by decide +kernel
theorem d_law_389 : decode code 389 = .ok (.aload_n 0, 1) := by decide +kernel
theorem d_law_390 : decode code 390 = .ok (.iload_n 3, 1) := by decide +kernel
theorem d_law_391 : decode code 391 = .ok (.iconst 1, 1) := by decide +kernel
theorem d_law_392 : decode code 392 = .ok (.iadd, 1) := by decide +kernel
theorem d_law_393 : decode code 393 = .ok (.iaload, 1) := by decide +kernel
theorem d_law_394 : decode code 394 = .ok (.aload_n 0, 1) := by decide +kernel
theorem d_law_395 : decode code 395 = .ok (.iload_n 3, 1) := by decide +kernel
theorem d_law_396 : decode code 396 = .ok (.iconst 2, 1) := by decide +kernel
theorem d_law_397 : decode code 397 = .ok (.iadd, 1) := by decide +kernel
theorem d_law_398 : decode code 398 = .ok (.iaload, 1) := by decide +kernel
theorem d_law_399 : decode code 399 = .ok (.invokevirtual 58, 3) := by decide +kernel
theorem d_law_402 : decode code 402 = .ok (.aload_n 2, 1) := by decide +kernel
theorem d_law_403 : decode code 403 = .ok (.aload_n 0, 1) := by decide +kernel
theorem d_law_404 : decode code 404 = .ok (.iload_n 3, 1) := by decide +kernel
theorem d_law_405 : decode code 405 = .ok (.iconst 1, 1) := by decide +kernel
theorem d_law_406 : decode code 406 = .ok (.iadd, 1) := by decide +kernel
theorem d_law_407 : decode code 407 = .ok (.iaload, 1) := by decide +kernel
theorem d_law_408 : decode code 408 = .ok (.aload_n 0, 1) := by decide +kernel
theorem d_law_409 : decode code 409 = .ok (.iload_n 3, 1) := by decide +kernel
theorem d_law_410 : decode code 410 = .ok (.iconst 2, 1) := by decide +kernel
theorem d_law_411 : decode code 411 = .ok (.iadd, 1) := by decide +kernel
theorem d_law_412 : decode code 412 = .ok (.iaload, 1) := by decide +kernel
theorem d_law_413 : decode code 413 = .ok (.invokevirtual 62, 3) := by decide +kernel
theorem d_law_416 : decode code 416 = .ok (.if_icmp .eq (438), 3) := by decide +kernel
theorem d_law_419 : decode code 419 = .ok (.iconst 0, 1) := by decide +kernel
theorem d_law_420 : decode code 420 = .ok (.ireturn, 1) := by decide +kernel
theorem d_law_421 : decode code 421 = .ok (.aload_n 1, 1) := by decide +kernel
theorem d_law_422 : decode code 422 = .ok (.aload_n 0, 1) := by decide +kernel
theorem d_law_423 : decode code 423 = .ok (.iload_n 3, 1) := by decide +kernel
theorem d_law_424 : decode code 424 = .ok (.iconst 1, 1) := by decide +kernel
theorem d_law_425 : decode code 425 = .ok (.iadd, 1) := by decide +kernel
theorem d_law_426 : decode code 426 = .ok (.iaload, 1) := by decide +kernel
theorem d_law_427 : decode code 427 = .ok (.aload_n 0, 1) := by decide +kernel
theorem d_law_428 : decode code 428 = .ok (.iload_n 3, 1) := by decide +kernel
theorem d_law_429 : decode code 429 = .ok (.iconst 2, 1) := by decide +kernel
theorem d_law_430 : decode code 430 = .ok (.iadd, 1) := by decide +kernel
theorem d_law_431 : decode code 431 = .ok (.iaload, 1) := by decide +kernel
theorem d_law_432 : decode code 432 = .ok (.aload_n 0, 1) := by decide +kernel
theorem d_law_433 : decode code 433 = .ok (.iload_n 3, 1) := by decide +kernel
theorem d_law_434 : decode code 434 = .ok (.iconst 3, 1) := by decide +kernel
theorem d_law_435 : decode code 435 = .ok (.iadd, 1) := by decide +kernel
theorem d_law_436 : decode code 436 = .ok (.iaload, 1) := by decide +kernel
theorem d_law_437 : decode code 437 = .ok (.invokevirtual 63, 3) := by decide +kernel
theorem d_law_440 : decode code 440 = .ok (.aload_n 2, 1) := by decide +kernel
theorem d_law_441 : decode code 441 = .ok (.aload_n 0, 1) := by decide +kernel
theorem d_law_442 : decode code 442 = .ok (.iload_n 3, 1) := by decide +kernel
theorem d_law_443 : decode code 443 = .ok (.iconst 1, 1) := by decide +kernel
theorem d_law_444 : decode code 444 = .ok (.iadd, 1) := by decide +kernel
theorem d_law_445 : decode code 445 = .ok (.iaload, 1) := by decide +kernel
theorem d_law_446 : decode code 446 = .ok (.aload_n 0, 1) := by decide +kernel
theorem d_law_447 : decode code 447 = .ok (.iload_n 3, 1) := by decide +kernel
theorem d_law_448 : decode code 448 = .ok (.iconst 2, 1) := by decide +kernel
theorem d_law_449 : decode code 449 = .ok (.iadd, 1) := by decide +kernel
theorem d_law_450 : decode code 450 = .ok (.iaload, 1) := by decide +kernel
theorem d_law_451 : decode code 451 = .ok (.aload_n 0, 1) := by decide +kernel
theorem d_law_452 : decode code 452 = .ok (.iload_n 3, 1) := by decide +kernel
theorem d_law_453 : decode code 453 = .ok (.iconst 3, 1) := by decide +kernel
theorem d_law_454 : decode code 454 = .ok (.iadd, 1) := by decide +kernel
theorem d_law_455 : decode code 455 = .ok (.iaload, 1) := by decide +kernel
theorem d_law_456 : decode code 456 = .ok (.invokevirtual 67, 3) := by decide +kernel
theorem d_law_459 : decode code 459 = .ok (.if_icmp .eq (395), 3) := by decide +kernel
theorem d_law_462 : decode code 462 = .ok (.iconst 0, 1) := by decide +kernel
theorem d_law_463 : decode code 463 = .ok (.ireturn, 1) := by decide +kernel
theorem d_law_464 : decode code 464 = .ok (.aload_n 1, 1) := by decide +kernel
theorem d_law_465 : decode code 465 = .ok (.aload_n 0, 1) := by decide +kernel
theorem d_law_466 : decode code 466 = .ok (.iload_n 3, 1) := by decide +kernel
theorem d_law_467 : decode code 467 = .ok (.iconst 1, 1) := by decide +kernel
theorem d_law_468 : decode code 468 = .ok (.iadd, 1) := by decide +kernel
theorem d_law_469 : decode code 469 = .ok (.iaload, 1) := by decide +kernel
theorem d_law_470 : decode code 470 = .ok (.aload_n 0, 1) := by decide +kernel
theorem d_law_471 : decode code 471 = .ok (.iload_n 3, 1) := by decide +kernel
theorem d_law_472 : decode code 472 = .ok (.iconst 2, 1) := by decide +kernel
theorem d_law_473 : decode code 473 = .ok (.iadd, 1) := by decide +kernel
theorem d_law_474 : decode code 474 = .ok (.iaload, 1) := by decide +kernel
theorem d_law_475 : decode code 475 = .ok (.aload_n 0, 1) := by decide +kernel
theorem d_law_476 : decode code 476 = .ok (.iload_n 3, 1) := by decide +kernel
theorem d_law_477 : decode code 477 = .ok (.iconst 3, 1) := by decide +kernel
theorem d_law_478 : decode code 478 = .ok (.iadd, 1) := by decide +kernel
theorem d_law_479 : decode code 479 = .ok (.iaload, 1) := by decide +kernel
theorem d_law_480 : decode code 480 = .ok (.invokevirtual 68, 3) := by decide +kernel
theorem d_law_483 : decode code 483 = .ok (.aload_n 2, 1) := by decide +kernel
theorem d_law_484 : decode code 484 = .ok (.aload_n 0, 1) := by decide +kernel
theorem d_law_485 : decode code 485 = .ok (.iload_n 3, 1) := by decide +kernel
theorem d_law_486 : decode code 486 = .ok (.iconst 1, 1) := by decide +kernel
theorem d_law_487 : decode code 487 = .ok (.iadd, 1) := by decide +kernel
theorem d_law_488 : decode code 488 = .ok (.iaload, 1) := by decide +kernel
theorem d_law_489 : decode code 489 = .ok (.aload_n 0, 1) := by decide +kernel
theorem d_law_490 : decode code 490 = .ok (.iload_n 3, 1) := by decide +kernel
theorem d_law_491 : decode code 491 = .ok (.iconst 2, 1) := by decide +kernel
theorem d_law_492 : decode code 492 = .ok (.iadd, 1) := by decide +kernel
theorem d_law_493 : decode code 493 = .ok (.iaload, 1) := by decide +kernel
theorem d_law_494 : decode code 494 = .ok (.aload_n 0, 1) := by decide +kernel
theorem d_law_495 : decode code 495 = .ok (.iload_n 3, 1) := by decide +kernel
theorem d_law_496 : decode code 496 = .ok (.iconst 3, 1) := by decide +kernel
theorem d_law_497 : decode code 497 = .ok (.iadd, 1) := by decide +kernel
theorem d_law_498 : decode code 498 = .ok (.iaload, 1) := by decide +kernel
theorem d_law_499 : decode code 499 = .ok (.invokevirtual 71, 3) := by decide +kernel
theorem d_law_502 : decode code 502 = .ok (.if_icmp .eq (352), 3) := by decide +kernel
theorem d_law_505 : decode code 505 = .ok (.iconst 0, 1) := by decide +kernel
theorem d_law_506 : decode code 506 = .ok (.ireturn, 1) := by decide +kernel
theorem d_law_507 : decode code 507 = .ok (.aload_n 1, 1) := by decide +kernel
theorem d_law_508 : decode code 508 = .ok (.aload_n 0, 1) := by decide +kernel
theorem d_law_509 : decode code 509 = .ok (.iload_n 3, 1) := by decide +kernel
theorem d_law_510 : decode code 510 = .ok (.iconst 1, 1) := by decide +kernel
theorem d_law_511 : decode code 511 = .ok (.iadd, 1) := by decide +kernel
theorem d_law_512 : decode code 512 = .ok (.iaload, 1) := by decide +kernel
theorem d_law_513 : decode code 513 = .ok (.aload_n 0, 1) := by decide +kernel
theorem d_law_514 : decode code 514 = .ok (.iload_n 3, 1) := by decide +kernel
theorem d_law_515 : decode code 515 = .ok (.iconst 2, 1) := by decide +kernel
theorem d_law_516 : decode code 516 = .ok (.iadd, 1) := by decide +kernel
theorem d_law_517 : decode code 517 = .ok (.iaload, 1) := by decide +kernel
theorem d_law_518 : decode code 518 = .ok (.aload_n 0, 1) := by decide +kernel
theorem d_law_519 : decode code 519 = .ok (.iload_n 3, 1) := by decide +kernel
theorem d_law_520 : decode code 520 = .ok (.iconst 3, 1) := by decide +kernel
theorem d_law_521 : decode code 521 = .ok (.iadd, 1) := by decide +kernel
theorem d_law_522 : decode code 522 = .ok (.iaload, 1) := by decide +kernel
theorem d_law_523 : decode code 523 = .ok (.aload_n 0, 1) := by decide +kernel
theorem d_law_524 : decode code 524 = .ok (.iload_n 3, 1) := by decide +kernel
theorem d_law_525 : decode code 525 = .ok (.iconst 4, 1) := by decide +kernel
theorem d_law_526 : decode code 526 = .ok (.iadd, 1) := by decide +kernel
theorem d_law_527 : decode code 527 = .ok (.iaload, 1) := by decide +kernel
theorem d_law_528 : decode code 528 = .ok (.invokevirtual 72, 3) := by decide +kernel
theorem d_law_531 : decode code 531 = .ok (.aload_n 2, 1) := by decide +kernel
theorem d_law_532 : decode code 532 = .ok (.aload_n 0, 1) := by decide +kernel
theorem d_law_533 : decode code 533 = .ok (.iload_n 3, 1) := by decide +kernel
theorem d_law_534 : decode code 534 = .ok (.iconst 1, 1) := by decide +kernel
theorem d_law_535 : decode code 535 = .ok (.iadd, 1) := by decide +kernel
theorem d_law_536 : decode code 536 = .ok (.iaload, 1) := by decide +kernel
theorem d_law_537 : decode code 537 = .ok (.aload_n 0, 1) := by decide +kernel
theorem d_law_538 : decode code 538 = .ok (.iload_n 3, 1) := by decide +kernel
theorem d_law_539 : decode code 539 = .ok (.iconst 2, 1) := by decide +kernel
theorem d_law_540 : decode code 540 = .ok (.iadd, 1) := by decide +kernel
theorem d_law_541 : decode code 541 = .ok (.iaload, 1) := by decide +kernel
theorem d_law_542 : decode code 542 = .ok (.aload_n 0, 1) := by decide +kernel
theorem d_law_543 : decode code 543 = .ok (.iload_n 3, 1) := by decide +kernel
theorem d_law_544 : decode code 544 = .ok (.iconst 3, 1) := by decide +kernel
theorem d_law_545 : decode code 545 = .ok (.iadd, 1) := by decide +kernel
theorem d_law_546 : decode code 546 = .ok (.iaload, 1) := by decide +kernel
theorem d_law_547 : decode code 547 = .ok (.aload_n 0, 1) := by decide +kernel
theorem d_law_548 : decode code 548 = .ok (.iload_n 3, 1) := by decide +kernel
theorem d_law_549 : decode code 549 = .ok (.iconst 4, 1) := by decide +kernel
theorem d_law_550 : decode code 550 = .ok (.iadd, 1) := by decide +kernel
theorem d_law_551 : decode code 551 = .ok (.iaload, 1) := by decide +kernel
theorem d_law_552 : decode code 552 = .ok (.invokevirtual 76, 3) := by decide +kernel
theorem d_law_555 : decode code 555 = .ok (.if_icmp .eq (299), 3) := by decide +kernel
theorem d_law_558 : decode code 558 = .ok (.iconst 0, 1) := by decide +kernel
theorem d_law_559 : decode code 559 = .ok (.ireturn, 1) := by decide +kernel
theorem d_law_560 : decode code 560 = .ok (.aload_n 1, 1) := by decide +kernel
theorem d_law_561 : decode code 561 = .ok (.aload_n 0, 1) := by decide +kernel
theorem d_law_562 : decode code 562 = .ok (.iload_n 3, 1) := by decide +kernel
theorem d_law_563 : decode code 563 = .ok (.iconst 1, 1) := by decide +kernel
theorem d_law_564 : decode code 564 = .ok (.iadd, 1) := by decide +kernel
theorem d_law_565 : decode code 565 = .ok (.iaload, 1) := by decide +kernel
theorem d_law_566 : decode code 566 = .ok (.aload_n 0, 1) := by decide +kernel
theorem d_law_567 : decode code 567 = .ok (.iload_n 3, 1) := by decide +kernel
theorem d_law_568 : decode code 568 = .ok (.iconst 2, 1) := by decide +kernel
theorem d_law_569 : decode code 569 = .ok (.iadd, 1) := by decide +kernel
theorem d_law_570 : decode code 570 = .ok (.iaload, 1) := by decide +kernel
theorem d_law_571 : decode code 571 = .ok (.invokevirtual 77, 3) := by decide +kernel
theorem d_law_574 : decode code 574 = .ok (.aload_n 2, 1) := by decide +kernel
theorem d_law_575 : decode code 575 = .ok (.aload_n 0, 1) := by decide +kernel
theorem d_law_576 : decode code 576 = .ok (.iload_n 3, 1) := by decide +kernel
theorem d_law_577 : decode code 577 = .ok (.iconst 1, 1) := by decide +kernel
theorem d_law_578 : decode code 578 = .ok (.iadd, 1) := by decide +kernel
theorem d_law_579 : decode code 579 = .ok (.iaload, 1) := by decide +kernel
theorem d_law_580 : decode code 580 = .ok (.aload_n 0, 1) := by decide +kernel
theorem d_law_581 : decode code 581 = .ok (.iload_n 3, 1) := by decide +kernel
theorem d_law_582 : decode code 582 = .ok (.iconst 2, 1) := by decide +kernel
theorem d_law_583 : decode code 583 = .ok (.iadd, 1) := by decide +kernel
theorem d_law_584 : decode code 584 = .ok (.iaload, 1) := by decide +kernel
theorem d_law_585 : decode code 585 = .ok (.invokevirtual 80, 3) := by decide +kernel
theorem d_law_588 : decode code 588 = .ok (.if_icmp .eq (266), 3) := by decide +kernel
theorem d_law_591 : decode code 591 = .ok (.iconst 0, 1) := by decide +kernel
theorem d_law_592 : decode code 592 = .ok (.ireturn, 1) := by decide +kernel
theorem d_law_593 : decode code 593 = .ok (.aload_n 1, 1) := by decide +kernel
theorem d_law_594 : decode code 594 = .ok (.aload_n 0, 1) := by decide +kernel
theorem d_law_595 : decode code 595 = .ok (.iload_n 3, 1) := by decide +kernel
theorem d_law_596 : decode code 596 = .ok (.iconst 1, 1) := by decide +kernel
theorem d_law_597 : decode code 597 = .ok (.iadd, 1) := by decide +kernel
theorem d_law_598 : decode code 598 = .ok (.iaload, 1) := by decide +kernel
theorem d_law_599 : decode code 599 = .ok (.aload_n 0, 1) := by decide +kernel
theorem d_law_600 : decode code 600 = .ok (.iload_n 3, 1) := by decide +kernel
theorem d_law_601 : decode code 601 = .ok (.iconst 2, 1) := by decide +kernel
theorem d_law_602 : decode code 602 = .ok (.iadd, 1) := by decide +kernel
theorem d_law_603 : decode code 603 = .ok (.iaload, 1) := by decide +kernel
theorem d_law_604 : decode code 604 = .ok (.invokevirtual 81, 3) := by decide +kernel
theorem d_law_607 : decode code 607 = .ok (.aload_n 2, 1) := by decide +kernel
theorem d_law_608 : decode code 608 = .ok (.aload_n 0, 1) := by decide +kernel
theorem d_law_609 : decode code 609 = .ok (.iload_n 3, 1) := by decide +kernel
theorem d_law_610 : decode code 610 = .ok (.iconst 1, 1) := by decide +kernel
theorem d_law_611 : decode code 611 = .ok (.iadd, 1) := by decide +kernel
theorem d_law_612 : decode code 612 = .ok (.iaload, 1) := by decide +kernel
theorem d_law_613 : decode code 613 = .ok (.aload_n 0, 1) := by decide +kernel
theorem d_law_614 : decode code 614 = .ok (.iload_n 3, 1) := by decide +kernel
theorem d_law_615 : decode code 615 = .ok (.iconst 2, 1) := by decide +kernel
theorem d_law_616 : decode code 616 = .ok (.iadd, 1) := by decide +kernel
theorem d_law_617 : decode code 617 = .ok (.iaload, 1) := by decide +kernel
theorem d_law_618 : decode code 618 = .ok (.invokevirtual 84, 3) := by decide +kernel
theorem d_law_621 : decode code 621 = .ok (.if_icmp .eq (233), 3) := by decide +kernel
theorem d_law_624 : decode code 624 = .ok (.iconst 0, 1) := by decide +kernel
theorem d_law_625 : decode code 625 = .ok (.ireturn, 1) := by decide +kernel
theorem d_law_626 : decode code 626 = .ok (.aload_n 1, 1) := by decide +kernel
theorem d_law_627 : decode code 627 = .ok (.aload_n 0, 1) := by decide +kernel
theorem d_law_628 : decode code 628 = .ok (.iload_n 3, 1) := by decide +kernel
theorem d_law_629 : decode code 629 = .ok (.iconst 1, 1) := by decide +kernel
theorem d_law_630 : decode code 630 = .ok (.iadd, 1) := by decide +kernel
theorem d_law_631 : decode code 631 = .ok (.iaload, 1) := by decide +kernel
theorem d_law_632 : decode code 632 = .ok (.aload_n 0, 1) := by decide +kernel
theorem d_law_633 : decode code 633 = .ok (.iload_n 3, 1) := by decide +kernel
theorem d_law_634 : decode code 634 = .ok (.iconst 2, 1) := by decide +kernel
theorem d_law_635 : decode code 635 = .ok (.iadd, 1) := by decide +kernel
theorem d_law_636 : decode code 636 = .ok (.iaload, 1) := by decide +kernel
theorem d_law_637 : decode code 637 = .ok (.invokevirtual 85, 3) := by decide +kernel
theorem d_law_640 : decode code 640 = .ok (.aload_n 2, 1) := by decide +kernel
theorem d_law_641 : decode code 641 = .ok (.aload_n 0, 1) := by decide +kernel
theorem d_law_642 : decode code 642 = .ok (.iload_n 3, 1) := by decide +kernel
theorem d_law_643 : decode code 643 = .ok (.iconst 1, 1) := by decide +kernel
theorem d_law_644 : decode code 644 = .ok (.iadd, 1) := by decide +kernel
theorem d_law_645 : decode code 645 = .ok (.iaload, 1) := by decide +kernel
theorem d_law_646 : decode code 646 = .ok (.aload_n 0, 1) := by decide +kernel
theorem d_law_647 : decode code 647 = .ok (.iload_n 3, 1) := by decide +kernel
theorem d_law_648 : decode code 648 = .ok (.iconst 2, 1) := by decide +kernel
theorem d_law_649 : decode code 649 = .ok (.iadd, 1) := by decide +kernel
theorem d_law_650 : decode code 650 = .ok (.iaload, 1) := by decide +kernel
theorem d_law_651 : decode code 651 = .ok (.invokevirtual 88, 3) := by decide +kernel
theorem d_law_654 : decode code 654 = .ok (.if_icmp .eq (200), 3) := by decide +kernel
theorem d_law_657 : decode code 657 = .ok (.iconst 0, 1) := by decide +kernel
theorem d_law_658 : decode code 658 = .ok (.ireturn, 1) := by decide +kernel
theorem d_law_659 : decode code 659 = .ok (.aload_n 1, 1) := by decide +kernel
theorem d_law_660 : decode code 660 = .ok (.invokevirtual 89, 3) := by decide +kernel
theorem d_law_663 : decode code 663 = .ok (.aload_n 2, 1) := by decide +kernel
theorem d_law_664 : decode code 664 = .ok (.invokevirtual 92, 3) := by decide +kernel
theorem d_law_667 : decode code 667 = .ok (.if_icmp .eq (187), 3) := by decide +kernel
theorem d_law_670 : decode code 670 = .ok (.iconst 0, 1) := by decide +kernel
theorem d_law_671 : decode code 671 = .ok (.ireturn, 1) := by decide +kernel
theorem d_law_672 : decode code 672 = .ok (.aload_n 1, 1) := by decide +kernel
theorem d_law_673 : decode code 673 = .ok (.aload_n 0, 1) := by decide +kernel
theorem d_law_674 : decode code 674 = .ok (.iload_n 3, 1) := by decide +kernel
theorem d_law_675 : decode code 675 = .ok (.iconst 1, 1) := by decide +kernel
theorem d_law_676 : decode code 676 = .ok (.iadd, 1) := by decide +kernel
theorem d_law_677 : decode code 677 = .ok (.iaload, 1) := by decide +kernel
theorem d_law_678 : decode code 678 = .ok (.invokevirtual 93, 3) := by decide +kernel
theorem d_law_681 : decode code 681 = .ok (.aload_n 2, 1) := by decide +kernel
theorem d_law_682 : decode code 682 = .ok (.aload_n 0, 1) := by decide +kernel
theorem d_law_683 : decode code 683 = .ok (.iload_n 3, 1) := by decide +kernel
theorem d_law_684 : decode code 684 = .ok (.iconst 1, 1) := by decide +kernel
theorem d_law_685 : decode code 685 = .ok (.iadd, 1) := by decide +kernel
theorem d_law_686 : decode code 686 = .ok (.iaload, 1) := by decide +kernel
theorem d_law_687 : decode code 687 = .ok (.invokevirtual 96, 3) := by decide +kernel
theorem d_law_690 : decode code 690 = .ok (.if_icmp .eq (164), 3) := by decide +kernel
theorem d_law_693 : decode code 693 = .ok (.iconst 0, 1) := by decide +kernel
theorem d_law_694 : decode code 694 = .ok (.ireturn, 1) := by decide +kernel
theorem d_law_695 : decode code 695 = .ok (.aload_n 1, 1) := by decide +kernel
theorem d_law_696 : decode code 696 = .ok (.aload_n 0, 1) := by decide +kernel
theorem d_law_697 : decode code 697 = .ok (.iload_n 3, 1) := by decide +kernel
theorem d_law_698 : decode code 698 = .ok (.iconst 1, 1) := by decide +kernel
theorem d_law_699 : decode code 699 = .ok (.iadd, 1) := by decide +kernel
theorem d_law_700 : decode code 700 = .ok (.iaload, 1) := by decide +kernel
theorem d_law_701 : decode code 701 = .ok (.aload_n 0, 1) := by decide +kernel
theorem d_law_702 : decode code 702 = .ok (.iload_n 3, 1) := by decide +kernel
theorem d_law_703 : decode code 703 = .ok (.iconst 2, 1) := by decide +kernel
theorem d_law_704 : decode code 704 = .ok (.iadd, 1) := by decide +kernel
theorem d_law_705 : decode code 705 = .ok (.iaload, 1) := by decide +kernel
theorem d_law_706 : decode code 706 = .ok (.aload_n 0, 1) := by decide +kernel
theorem d_law_707 : decode code 707 = .ok (.iload_n 3, 1) := by decide +kernel
theorem d_law_708 : decode code 708 = .ok (.iconst 3, 1) := by decide +kernel
theorem d_law_709 : decode code 709 = .ok (.iadd, 1) := by decide +kernel
theorem d_law_710 : decode code 710 = .ok (.iaload, 1) := by decide +kernel
theorem d_law_711 : decode code 711 = .ok (.aload_n 0, 1) := by decide +kernel
theorem d_law_712 : decode code 712 = .ok (.iload_n 3, 1) := by decide +kernel
theorem d_law_713 : decode code 713 = .ok (.iconst 4, 1) := by decide +kernel
theorem d_law_714 : decode code 714 = .ok (.iadd, 1) := by decide +kernel
theorem d_law_715 : decode code 715 = .ok (.iaload, 1) := by decide +kernel
theorem d_law_716 : decode code 716 = .ok (.invokevirtual 97, 3) := by decide +kernel
theorem d_law_719 : decode code 719 = .ok (.aload_n 2, 1) := by decide +kernel
theorem d_law_720 : decode code 720 = .ok (.aload_n 0, 1) := by decide +kernel
theorem d_law_721 : decode code 721 = .ok (.iload_n 3, 1) := by decide +kernel
theorem d_law_722 : decode code 722 = .ok (.iconst 1, 1) := by decide +kernel
theorem d_law_723 : decode code 723 = .ok (.iadd, 1) := by decide +kernel
theorem d_law_724 : decode code 724 = .ok (.iaload, 1) := by decide +kernel
theorem d_law_725 : decode code 725 = .ok (.aload_n 0, 1) := by decide +kernel
theorem d_law_726 : decode code 726 = .ok (.iload_n 3, 1) := by decide +kernel
theorem d_law_727 : decode code 727 = .ok (.iconst 2, 1) := by decide +kernel
theorem d_law_728 : decode code 728 = .ok (.iadd, 1) := by decide +kernel
theorem d_law_729 : decode code 729 = .ok (.iaload, 1) := by decide +kernel
theorem d_law_730 : decode code 730 = .ok (.aload_n 0, 1) := by decide +kernel
theorem d_law_731 : decode code 731 = .ok (.iload_n 3, 1) := by decide +kernel
theorem d_law_732 : decode code 732 = .ok (.iconst 3, 1) := by decide +kernel
theorem d_law_733 : decode code 733 = .ok (.iadd, 1) := by decide +kernel
theorem d_law_734 : decode code 734 = .ok (.iaload, 1) := by decide +kernel
theorem d_law_735 : decode code 735 = .ok (.aload_n 0, 1) := by decide +kernel
theorem d_law_736 : decode code 736 = .ok (.iload_n 3, 1) := by decide +kernel
theorem d_law_737 : decode code 737 = .ok (.iconst 4, 1) := by decide +kernel
theorem d_law_738 : decode code 738 = .ok (.iadd, 1) := by decide +kernel
theorem d_law_739 : decode code 739 = .ok (.iaload, 1) := by decide +kernel
theorem d_law_740 : decode code 740 = .ok (.invokevirtual 100, 3) := by decide +kernel
theorem d_law_743 : decode code 743 = .ok (.if_icmp .eq (111), 3) := by decide +kernel
theorem d_law_746 : decode code 746 = .ok (.iconst 0, 1) := by decide +kernel
theorem d_law_747 : decode code 747 = .ok (.ireturn, 1) := by decide +kernel
theorem d_law_748 : decode code 748 = .ok (.aload_n 1, 1) := by decide +kernel
theorem d_law_749 : decode code 749 = .ok (.aload_n 0, 1) := by decide +kernel
theorem d_law_750 : decode code 750 = .ok (.iload_n 3, 1) := by decide +kernel
theorem d_law_751 : decode code 751 = .ok (.iconst 1, 1) := by decide +kernel
theorem d_law_752 : decode code 752 = .ok (.iadd, 1) := by decide +kernel
theorem d_law_753 : decode code 753 = .ok (.iaload, 1) := by decide +kernel
theorem d_law_754 : decode code 754 = .ok (.invokevirtual 101, 3) := by decide +kernel
theorem d_law_757 : decode code 757 = .ok (.aload_n 2, 1) := by decide +kernel
theorem d_law_758 : decode code 758 = .ok (.aload_n 0, 1) := by decide +kernel
theorem d_law_759 : decode code 759 = .ok (.iload_n 3, 1) := by decide +kernel
theorem d_law_760 : decode code 760 = .ok (.iconst 1, 1) := by decide +kernel
theorem d_law_761 : decode code 761 = .ok (.iadd, 1) := by decide +kernel
theorem d_law_762 : decode code 762 = .ok (.iaload, 1) := by decide +kernel
theorem d_law_763 : decode code 763 = .ok (.invokevirtual 104, 3) := by decide +kernel
theorem d_law_766 : decode code 766 = .ok (.if_icmp .eq (88), 3) := by decide +kernel
theorem d_law_769 : decode code 769 = .ok (.iconst 0, 1) := by decide +kernel
theorem d_law_770 : decode code 770 = .ok (.ireturn, 1) := by decide +kernel
theorem d_law_771 : decode code 771 = .ok (.aload_n 1, 1) := by decide +kernel
theorem d_law_772 : decode code 772 = .ok (.aload_n 0, 1) := by decide +kernel
theorem d_law_773 : decode code 773 = .ok (.iload_n 3, 1) := by decide +kernel
theorem d_law_774 : decode code 774 = .ok (.iconst 1, 1) := by decide +kernel
theorem d_law_775 : decode code 775 = .ok (.iadd, 1) := by decide +kernel
theorem d_law_776 : decode code 776 = .ok (.iaload, 1) := by decide +kernel
theorem d_law_777 : decode code 777 = .ok (.invokevirtual 105, 3) := by decide +kernel
theorem d_law_780 : decode code 780 = .ok (.aload_n 2, 1) := by decide +kernel
theorem d_law_781 : decode code 781 = .ok (.aload_n 0, 1) := by decide +kernel
theorem d_law_782 : decode code 782 = .ok (.iload_n 3, 1) := by decide +kernel
theorem d_law_783 : decode code 783 = .ok (.iconst 1, 1) := by decide +kernel
theorem d_law_784 : decode code 784 = .ok (.iadd, 1) := by decide +kernel
theorem d_law_785 : decode code 785 = .ok (.iaload, 1) := by decide +kernel
theorem d_law_786 : decode code 786 = .ok (.invokevirtual 108, 3) := by decide +kernel
theorem d_law_789 : decode code 789 = .ok (.if_icmp .eq (65), 3) := by decide +kernel
theorem d_law_792 : decode code 792 = .ok (.iconst 0, 1) := by decide +kernel
theorem d_law_793 : decode code 793 = .ok (.ireturn, 1) := by decide +kernel
theorem d_law_794 : decode code 794 = .ok (.aload_n 1, 1) := by decide +kernel
theorem d_law_795 : decode code 795 = .ok (.aload_n 0, 1) := by decide +kernel
theorem d_law_796 : decode code 796 = .ok (.iload_n 3, 1) := by decide +kernel
theorem d_law_797 : decode code 797 = .ok (.iconst 1, 1) := by decide +kernel
theorem d_law_798 : decode code 798 = .ok (.iadd, 1) := by decide +kernel
theorem d_law_799 : decode code 799 = .ok (.iaload, 1) := by decide +kernel
theorem d_law_800 : decode code 800 = .ok (.invokevirtual 109, 3) := by decide +kernel
theorem d_law_803 : decode code 803 = .ok (.aload_n 2, 1) := by decide +kernel
theorem d_law_804 : decode code 804 = .ok (.aload_n 0, 1) := by decide +kernel
theorem d_law_805 : decode code 805 = .ok (.iload_n 3, 1) := by decide +kernel
theorem d_law_806 : decode code 806 = .ok (.iconst 1, 1) := by decide +kernel
theorem d_law_807 : decode code 807 = .ok (.iadd, 1) := by decide +kernel
theorem d_law_808 : decode code 808 = .ok (.iaload, 1) := by decide +kernel
theorem d_law_809 : decode code 809 = .ok (.invokevirtual 112, 3) := by decide +kernel
theorem d_law_812 : decode code 812 = .ok (.if_icmp .eq (42), 3) := by decide +kernel
theorem d_law_815 : decode code 815 = .ok (.iconst 0, 1) := by decide +kernel
theorem d_law_816 : decode code 816 = .ok (.ireturn, 1) := by decide +kernel
theorem d_law_817 : decode code 817 = .ok (.aload_n 1, 1) := by decide +kernel
theorem d_law_818 : decode code 818 = .ok (.aload_n 0, 1) := by decide +kernel
theorem d_law_819 : decode code 819 = .ok (.iload_n 3, 1) := by decide +kernel
theorem d_law_820 : decode code 820 = .ok (.iconst 1, 1) := by decide +kernel
theorem d_law_821 : decode code 821 = .ok (.iadd, 1) := by decide +kernel
theorem d_law_822 : decode code 822 = .ok (.iaload, 1) := by decide +kernel
theorem d_law_823 : decode code 823 = .ok (.invokevirtual 113, 3) := by decide +kernel
theorem d_law_826 : decode code 826 = .ok (.aload_n 2, 1) := by decide +kernel
theorem d_law_827 : decode code 827 = .ok (.aload_n 0, 1) := by decide +kernel
theorem d_law_828 : decode code 828 = .ok (.iload_n 3, 1) := by decide +kernel
theorem d_law_829 : decode code 829 = .ok (.iconst 1, 1) := by decide +kernel
theorem d_law_830 : decode code 830 = .ok (.iadd, 1) := by decide +kernel
theorem d_law_831 : decode code 831 = .ok (.iaload, 1) := by decide +kernel
theorem d_law_832 : decode code 832 = .ok (.invokevirtual 116, 3) := by decide +kernel
theorem d_law_835 : decode code 835 = .ok (.if_icmp .eq (19), 3) := by decide +kernel
theorem d_law_838 : decode code 838 = .ok (.iconst 0, 1) := by decide +kernel
theorem d_law_839 : decode code 839 = .ok (.ireturn, 1) := by decide +kernel
theorem d_law_840 : decode code 840 = .ok (.aload_n 1, 1) := by decide +kernel
theorem d_law_841 : decode code 841 = .ok (.invokevirtual 117, 3) := by decide +kernel
theorem d_law_844 : decode code 844 = .ok (.aload_n 2, 1) := by decide +kernel
theorem d_law_845 : decode code 845 = .ok (.invokevirtual 121, 3) := by decide +kernel
theorem d_law_848 : decode code 848 = .ok (.lcmp, 1) := by decide +kernel
theorem d_law_849 : decode code 849 = .ok (.ifCond .eq (5), 3) := by decide +kernel
theorem d_law_852 : decode code 852 = .ok (.iconst 0, 1) := by decide +kernel
theorem d_law_853 : decode code 853 = .ok (.ireturn, 1) := by decide +kernel
theorem d_law_854 : decode code 854 = .ok (.iinc 3 5, 3) := by decide +kernel
theorem d_law_857 : decode code 857 = .ok (.goto (-839), 3) := by decide +kernel
theorem d_law_860 : decode code 860 = .ok (.iconst 1, 1) := by decide +kernel
theorem d_law_861 : decode code 861 = .ok (.ireturn, 1) := by decide +kernel
theorem lk1_15 : Cond.methodLink R_law 15 ⟨"StraightTax", "type", "(JI)I"⟩ ∈ q_tbl := q_wi_in (by decide +kernel)
theorem lk2_15 : Cond.instanceMethod ⟨"StraightTax", "type", "(JI)I"⟩ ∈ q_tbl := q_wi_in (by decide +kernel)
theorem lk3_15 : Cond.selects "StraightTax" ⟨"StraightTax", "type", "(JI)I"⟩ ⟨"StraightTax", "type", "(JI)I"⟩ ∈ q_tbl := q_wi_in (by decide +kernel)
theorem lk1_19 : Cond.methodLink R_law 19 ⟨"StraightTaxModel", "type", "(JI)I"⟩ ∈ q_tbl := q_wi_in (by decide +kernel)
theorem lk2_19 : Cond.instanceMethod ⟨"StraightTaxModel", "type", "(JI)I"⟩ ∈ q_tbl := q_wi_in (by decide +kernel)
theorem lk3_19 : Cond.selects "StraightTaxModel" ⟨"StraightTaxModel", "type", "(JI)I"⟩ ⟨"StraightTaxModel", "type", "(JI)I"⟩ ∈ q_tbl := q_wi_in (by decide +kernel)
theorem lk1_20 : Cond.methodLink R_law 20 ⟨"StraightTax", "clear", "()I"⟩ ∈ q_tbl := q_wi_in (by decide +kernel)
theorem lk2_20 : Cond.instanceMethod ⟨"StraightTax", "clear", "()I"⟩ ∈ q_tbl := q_wi_in (by decide +kernel)
theorem lk3_20 : Cond.selects "StraightTax" ⟨"StraightTax", "clear", "()I"⟩ ⟨"StraightTax", "clear", "()I"⟩ ∈ q_tbl := q_wi_in (by decide +kernel)
theorem lk1_24 : Cond.methodLink R_law 24 ⟨"StraightTaxModel", "clear", "()I"⟩ ∈ q_tbl := q_wi_in (by decide +kernel)
theorem lk2_24 : Cond.instanceMethod ⟨"StraightTaxModel", "clear", "()I"⟩ ∈ q_tbl := q_wi_in (by decide +kernel)
theorem lk3_24 : Cond.selects "StraightTaxModel" ⟨"StraightTaxModel", "clear", "()I"⟩ ⟨"StraightTaxModel", "clear", "()I"⟩ ∈ q_tbl := q_wi_in (by decide +kernel)
theorem lk1_25 : Cond.methodLink R_law 25 ⟨"StraightTax", "town", "()I"⟩ ∈ q_tbl := q_wi_in (by decide +kernel)
theorem lk2_25 : Cond.instanceMethod ⟨"StraightTax", "town", "()I"⟩ ∈ q_tbl := q_wi_in (by decide +kernel)
theorem lk3_25 : Cond.selects "StraightTax" ⟨"StraightTax", "town", "()I"⟩ ⟨"StraightTax", "town", "()I"⟩ ∈ q_tbl := q_wi_in (by decide +kernel)
theorem lk1_28 : Cond.methodLink R_law 28 ⟨"StraightTaxModel", "town", "()I"⟩ ∈ q_tbl := q_wi_in (by decide +kernel)
theorem lk2_28 : Cond.instanceMethod ⟨"StraightTaxModel", "town", "()I"⟩ ∈ q_tbl := q_wi_in (by decide +kernel)
theorem lk3_28 : Cond.selects "StraightTaxModel" ⟨"StraightTaxModel", "town", "()I"⟩ ⟨"StraightTaxModel", "town", "()I"⟩ ∈ q_tbl := q_wi_in (by decide +kernel)
theorem lk1_29 : Cond.methodLink R_law 29 ⟨"StraightTax", "square", "(I)I"⟩ ∈ q_tbl := q_wi_in (by decide +kernel)
theorem lk2_29 : Cond.instanceMethod ⟨"StraightTax", "square", "(I)I"⟩ ∈ q_tbl := q_wi_in (by decide +kernel)
theorem lk3_29 : Cond.selects "StraightTax" ⟨"StraightTax", "square", "(I)I"⟩ ⟨"StraightTax", "square", "(I)I"⟩ ∈ q_tbl := q_wi_in (by decide +kernel)
theorem lk1_33 : Cond.methodLink R_law 33 ⟨"StraightTaxModel", "square", "(I)I"⟩ ∈ q_tbl := q_wi_in (by decide +kernel)
theorem lk2_33 : Cond.instanceMethod ⟨"StraightTaxModel", "square", "(I)I"⟩ ∈ q_tbl := q_wi_in (by decide +kernel)
theorem lk3_33 : Cond.selects "StraightTaxModel" ⟨"StraightTaxModel", "square", "(I)I"⟩ ⟨"StraightTaxModel", "square", "(I)I"⟩ ∈ q_tbl := q_wi_in (by decide +kernel)
theorem lk1_34 : Cond.methodLink R_law 34 ⟨"StraightTax", "law", "(I)I"⟩ ∈ q_tbl := q_wi_in (by decide +kernel)
theorem lk2_34 : Cond.instanceMethod ⟨"StraightTax", "law", "(I)I"⟩ ∈ q_tbl := q_wi_in (by decide +kernel)
theorem lk3_34 : Cond.selects "StraightTax" ⟨"StraightTax", "law", "(I)I"⟩ ⟨"StraightTax", "law", "(I)I"⟩ ∈ q_tbl := q_wi_in (by decide +kernel)
theorem lk1_37 : Cond.methodLink R_law 37 ⟨"StraightTaxModel", "law", "(I)I"⟩ ∈ q_tbl := q_wi_in (by decide +kernel)
theorem lk2_37 : Cond.instanceMethod ⟨"StraightTaxModel", "law", "(I)I"⟩ ∈ q_tbl := q_wi_in (by decide +kernel)
theorem lk3_37 : Cond.selects "StraightTaxModel" ⟨"StraightTaxModel", "law", "(I)I"⟩ ⟨"StraightTaxModel", "law", "(I)I"⟩ ∈ q_tbl := q_wi_in (by decide +kernel)
theorem lk1_38 : Cond.methodLink R_law 38 ⟨"StraightTax", "stand", "(I)I"⟩ ∈ q_tbl := q_wi_in (by decide +kernel)
theorem lk2_38 : Cond.instanceMethod ⟨"StraightTax", "stand", "(I)I"⟩ ∈ q_tbl := q_wi_in (by decide +kernel)
theorem lk3_38 : Cond.selects "StraightTax" ⟨"StraightTax", "stand", "(I)I"⟩ ⟨"StraightTax", "stand", "(I)I"⟩ ∈ q_tbl := q_wi_in (by decide +kernel)
theorem lk1_41 : Cond.methodLink R_law 41 ⟨"StraightTaxModel", "stand", "(I)I"⟩ ∈ q_tbl := q_wi_in (by decide +kernel)
theorem lk2_41 : Cond.instanceMethod ⟨"StraightTaxModel", "stand", "(I)I"⟩ ∈ q_tbl := q_wi_in (by decide +kernel)
theorem lk3_41 : Cond.selects "StraightTaxModel" ⟨"StraightTaxModel", "stand", "(I)I"⟩ ⟨"StraightTaxModel", "stand", "(I)I"⟩ ∈ q_tbl := q_wi_in (by decide +kernel)
theorem lk1_42 : Cond.methodLink R_law 42 ⟨"StraightTax", "step", "(I)I"⟩ ∈ q_tbl := q_wi_in (by decide +kernel)
theorem lk2_42 : Cond.instanceMethod ⟨"StraightTax", "step", "(I)I"⟩ ∈ q_tbl := q_wi_in (by decide +kernel)
theorem lk3_42 : Cond.selects "StraightTax" ⟨"StraightTax", "step", "(I)I"⟩ ⟨"StraightTax", "step", "(I)I"⟩ ∈ q_tbl := q_wi_in (by decide +kernel)
theorem lk1_45 : Cond.methodLink R_law 45 ⟨"StraightTaxModel", "step", "(I)I"⟩ ∈ q_tbl := q_wi_in (by decide +kernel)
theorem lk2_45 : Cond.instanceMethod ⟨"StraightTaxModel", "step", "(I)I"⟩ ∈ q_tbl := q_wi_in (by decide +kernel)
theorem lk3_45 : Cond.selects "StraightTaxModel" ⟨"StraightTaxModel", "step", "(I)I"⟩ ⟨"StraightTaxModel", "step", "(I)I"⟩ ∈ q_tbl := q_wi_in (by decide +kernel)
theorem lk1_46 : Cond.methodLink R_law 46 ⟨"StraightTax", "undo", "()I"⟩ ∈ q_tbl := q_wi_in (by decide +kernel)
theorem lk2_46 : Cond.instanceMethod ⟨"StraightTax", "undo", "()I"⟩ ∈ q_tbl := q_wi_in (by decide +kernel)
theorem lk3_46 : Cond.selects "StraightTax" ⟨"StraightTax", "undo", "()I"⟩ ⟨"StraightTax", "undo", "()I"⟩ ∈ q_tbl := q_wi_in (by decide +kernel)
theorem lk1_49 : Cond.methodLink R_law 49 ⟨"StraightTaxModel", "undo", "()I"⟩ ∈ q_tbl := q_wi_in (by decide +kernel)
theorem lk2_49 : Cond.instanceMethod ⟨"StraightTaxModel", "undo", "()I"⟩ ∈ q_tbl := q_wi_in (by decide +kernel)
theorem lk3_49 : Cond.selects "StraightTaxModel" ⟨"StraightTaxModel", "undo", "()I"⟩ ⟨"StraightTaxModel", "undo", "()I"⟩ ∈ q_tbl := q_wi_in (by decide +kernel)
theorem lk1_50 : Cond.methodLink R_law 50 ⟨"StraightTax", "one", "(I)I"⟩ ∈ q_tbl := q_wi_in (by decide +kernel)
theorem lk2_50 : Cond.instanceMethod ⟨"StraightTax", "one", "(I)I"⟩ ∈ q_tbl := q_wi_in (by decide +kernel)
theorem lk3_50 : Cond.selects "StraightTax" ⟨"StraightTax", "one", "(I)I"⟩ ⟨"StraightTax", "one", "(I)I"⟩ ∈ q_tbl := q_wi_in (by decide +kernel)
theorem lk1_53 : Cond.methodLink R_law 53 ⟨"StraightTaxModel", "one", "(I)I"⟩ ∈ q_tbl := q_wi_in (by decide +kernel)
theorem lk2_53 : Cond.instanceMethod ⟨"StraightTaxModel", "one", "(I)I"⟩ ∈ q_tbl := q_wi_in (by decide +kernel)
theorem lk3_53 : Cond.selects "StraightTaxModel" ⟨"StraightTaxModel", "one", "(I)I"⟩ ⟨"StraightTaxModel", "one", "(I)I"⟩ ∈ q_tbl := q_wi_in (by decide +kernel)
theorem lk1_54 : Cond.methodLink R_law 54 ⟨"StraightTax", "dusk", "(I)I"⟩ ∈ q_tbl := q_wi_in (by decide +kernel)
theorem lk2_54 : Cond.instanceMethod ⟨"StraightTax", "dusk", "(I)I"⟩ ∈ q_tbl := q_wi_in (by decide +kernel)
theorem lk3_54 : Cond.selects "StraightTax" ⟨"StraightTax", "dusk", "(I)I"⟩ ⟨"StraightTax", "dusk", "(I)I"⟩ ∈ q_tbl := q_wi_in (by decide +kernel)
theorem lk1_57 : Cond.methodLink R_law 57 ⟨"StraightTaxModel", "dusk", "(I)I"⟩ ∈ q_tbl := q_wi_in (by decide +kernel)
theorem lk2_57 : Cond.instanceMethod ⟨"StraightTaxModel", "dusk", "(I)I"⟩ ∈ q_tbl := q_wi_in (by decide +kernel)
theorem lk3_57 : Cond.selects "StraightTaxModel" ⟨"StraightTaxModel", "dusk", "(I)I"⟩ ⟨"StraightTaxModel", "dusk", "(I)I"⟩ ∈ q_tbl := q_wi_in (by decide +kernel)
theorem lk1_58 : Cond.methodLink R_law 58 ⟨"StraightTax", "cost", "(II)I"⟩ ∈ q_tbl := q_wi_in (by decide +kernel)
theorem lk2_58 : Cond.instanceMethod ⟨"StraightTax", "cost", "(II)I"⟩ ∈ q_tbl := q_wi_in (by decide +kernel)
theorem lk3_58 : Cond.selects "StraightTax" ⟨"StraightTax", "cost", "(II)I"⟩ ⟨"StraightTax", "cost", "(II)I"⟩ ∈ q_tbl := q_wi_in (by decide +kernel)
theorem lk1_62 : Cond.methodLink R_law 62 ⟨"StraightTaxModel", "cost", "(II)I"⟩ ∈ q_tbl := q_wi_in (by decide +kernel)
theorem lk2_62 : Cond.instanceMethod ⟨"StraightTaxModel", "cost", "(II)I"⟩ ∈ q_tbl := q_wi_in (by decide +kernel)
theorem lk3_62 : Cond.selects "StraightTaxModel" ⟨"StraightTaxModel", "cost", "(II)I"⟩ ⟨"StraightTaxModel", "cost", "(II)I"⟩ ∈ q_tbl := q_wi_in (by decide +kernel)
theorem lk1_63 : Cond.methodLink R_law 63 ⟨"StraightTax", "cheapest", "(III)I"⟩ ∈ q_tbl := q_wi_in (by decide +kernel)
theorem lk2_63 : Cond.instanceMethod ⟨"StraightTax", "cheapest", "(III)I"⟩ ∈ q_tbl := q_wi_in (by decide +kernel)
theorem lk3_63 : Cond.selects "StraightTax" ⟨"StraightTax", "cheapest", "(III)I"⟩ ⟨"StraightTax", "cheapest", "(III)I"⟩ ∈ q_tbl := q_wi_in (by decide +kernel)
theorem lk1_67 : Cond.methodLink R_law 67 ⟨"StraightTaxModel", "cheapest", "(III)I"⟩ ∈ q_tbl := q_wi_in (by decide +kernel)
theorem lk2_67 : Cond.instanceMethod ⟨"StraightTaxModel", "cheapest", "(III)I"⟩ ∈ q_tbl := q_wi_in (by decide +kernel)
theorem lk3_67 : Cond.selects "StraightTaxModel" ⟨"StraightTaxModel", "cheapest", "(III)I"⟩ ⟨"StraightTaxModel", "cheapest", "(III)I"⟩ ∈ q_tbl := q_wi_in (by decide +kernel)
theorem lk1_68 : Cond.methodLink R_law 68 ⟨"StraightTax", "quickest", "(III)I"⟩ ∈ q_tbl := q_wi_in (by decide +kernel)
theorem lk2_68 : Cond.instanceMethod ⟨"StraightTax", "quickest", "(III)I"⟩ ∈ q_tbl := q_wi_in (by decide +kernel)
theorem lk3_68 : Cond.selects "StraightTax" ⟨"StraightTax", "quickest", "(III)I"⟩ ⟨"StraightTax", "quickest", "(III)I"⟩ ∈ q_tbl := q_wi_in (by decide +kernel)
theorem lk1_71 : Cond.methodLink R_law 71 ⟨"StraightTaxModel", "quickest", "(III)I"⟩ ∈ q_tbl := q_wi_in (by decide +kernel)
theorem lk2_71 : Cond.instanceMethod ⟨"StraightTaxModel", "quickest", "(III)I"⟩ ∈ q_tbl := q_wi_in (by decide +kernel)
theorem lk3_71 : Cond.selects "StraightTaxModel" ⟨"StraightTaxModel", "quickest", "(III)I"⟩ ⟨"StraightTaxModel", "quickest", "(III)I"⟩ ∈ q_tbl := q_wi_in (by decide +kernel)
theorem lk1_72 : Cond.methodLink R_law 72 ⟨"StraightTax", "line", "(IIII)I"⟩ ∈ q_tbl := q_wi_in (by decide +kernel)
theorem lk2_72 : Cond.instanceMethod ⟨"StraightTax", "line", "(IIII)I"⟩ ∈ q_tbl := q_wi_in (by decide +kernel)
theorem lk3_72 : Cond.selects "StraightTax" ⟨"StraightTax", "line", "(IIII)I"⟩ ⟨"StraightTax", "line", "(IIII)I"⟩ ∈ q_tbl := q_wi_in (by decide +kernel)
theorem lk1_76 : Cond.methodLink R_law 76 ⟨"StraightTaxModel", "line", "(IIII)I"⟩ ∈ q_tbl := q_wi_in (by decide +kernel)
theorem lk2_76 : Cond.instanceMethod ⟨"StraightTaxModel", "line", "(IIII)I"⟩ ∈ q_tbl := q_wi_in (by decide +kernel)
theorem lk3_76 : Cond.selects "StraightTaxModel" ⟨"StraightTaxModel", "line", "(IIII)I"⟩ ⟨"StraightTaxModel", "line", "(IIII)I"⟩ ∈ q_tbl := q_wi_in (by decide +kernel)
theorem lk1_77 : Cond.methodLink R_law 77 ⟨"StraightTax", "fewTurns", "(II)I"⟩ ∈ q_tbl := q_wi_in (by decide +kernel)
theorem lk2_77 : Cond.instanceMethod ⟨"StraightTax", "fewTurns", "(II)I"⟩ ∈ q_tbl := q_wi_in (by decide +kernel)
theorem lk3_77 : Cond.selects "StraightTax" ⟨"StraightTax", "fewTurns", "(II)I"⟩ ⟨"StraightTax", "fewTurns", "(II)I"⟩ ∈ q_tbl := q_wi_in (by decide +kernel)
theorem lk1_80 : Cond.methodLink R_law 80 ⟨"StraightTaxModel", "fewTurns", "(II)I"⟩ ∈ q_tbl := q_wi_in (by decide +kernel)
theorem lk2_80 : Cond.instanceMethod ⟨"StraightTaxModel", "fewTurns", "(II)I"⟩ ∈ q_tbl := q_wi_in (by decide +kernel)
theorem lk3_80 : Cond.selects "StraightTaxModel" ⟨"StraightTaxModel", "fewTurns", "(II)I"⟩ ⟨"StraightTaxModel", "fewTurns", "(II)I"⟩ ∈ q_tbl := q_wi_in (by decide +kernel)
theorem lk1_81 : Cond.methodLink R_law 81 ⟨"StraightTax", "round", "(II)I"⟩ ∈ q_tbl := q_wi_in (by decide +kernel)
theorem lk2_81 : Cond.instanceMethod ⟨"StraightTax", "round", "(II)I"⟩ ∈ q_tbl := q_wi_in (by decide +kernel)
theorem lk3_81 : Cond.selects "StraightTax" ⟨"StraightTax", "round", "(II)I"⟩ ⟨"StraightTax", "round", "(II)I"⟩ ∈ q_tbl := q_wi_in (by decide +kernel)
theorem lk1_84 : Cond.methodLink R_law 84 ⟨"StraightTaxModel", "round", "(II)I"⟩ ∈ q_tbl := q_wi_in (by decide +kernel)
theorem lk2_84 : Cond.instanceMethod ⟨"StraightTaxModel", "round", "(II)I"⟩ ∈ q_tbl := q_wi_in (by decide +kernel)
theorem lk3_84 : Cond.selects "StraightTaxModel" ⟨"StraightTaxModel", "round", "(II)I"⟩ ⟨"StraightTaxModel", "round", "(II)I"⟩ ∈ q_tbl := q_wi_in (by decide +kernel)
theorem lk1_85 : Cond.methodLink R_law 85 ⟨"StraightTax", "errand", "(II)I"⟩ ∈ q_tbl := q_wi_in (by decide +kernel)
theorem lk2_85 : Cond.instanceMethod ⟨"StraightTax", "errand", "(II)I"⟩ ∈ q_tbl := q_wi_in (by decide +kernel)
theorem lk3_85 : Cond.selects "StraightTax" ⟨"StraightTax", "errand", "(II)I"⟩ ⟨"StraightTax", "errand", "(II)I"⟩ ∈ q_tbl := q_wi_in (by decide +kernel)
theorem lk1_88 : Cond.methodLink R_law 88 ⟨"StraightTaxModel", "errand", "(II)I"⟩ ∈ q_tbl := q_wi_in (by decide +kernel)
theorem lk2_88 : Cond.instanceMethod ⟨"StraightTaxModel", "errand", "(II)I"⟩ ∈ q_tbl := q_wi_in (by decide +kernel)
theorem lk3_88 : Cond.selects "StraightTaxModel" ⟨"StraightTaxModel", "errand", "(II)I"⟩ ⟨"StraightTaxModel", "errand", "(II)I"⟩ ∈ q_tbl := q_wi_in (by decide +kernel)
theorem lk1_89 : Cond.methodLink R_law 89 ⟨"StraightTax", "home", "()I"⟩ ∈ q_tbl := q_wi_in (by decide +kernel)
theorem lk2_89 : Cond.instanceMethod ⟨"StraightTax", "home", "()I"⟩ ∈ q_tbl := q_wi_in (by decide +kernel)
theorem lk3_89 : Cond.selects "StraightTax" ⟨"StraightTax", "home", "()I"⟩ ⟨"StraightTax", "home", "()I"⟩ ∈ q_tbl := q_wi_in (by decide +kernel)
theorem lk1_92 : Cond.methodLink R_law 92 ⟨"StraightTaxModel", "home", "()I"⟩ ∈ q_tbl := q_wi_in (by decide +kernel)
theorem lk2_92 : Cond.instanceMethod ⟨"StraightTaxModel", "home", "()I"⟩ ∈ q_tbl := q_wi_in (by decide +kernel)
theorem lk3_92 : Cond.selects "StraightTaxModel" ⟨"StraightTaxModel", "home", "()I"⟩ ⟨"StraightTaxModel", "home", "()I"⟩ ∈ q_tbl := q_wi_in (by decide +kernel)
theorem lk1_93 : Cond.methodLink R_law 93 ⟨"StraightTax", "help", "(I)I"⟩ ∈ q_tbl := q_wi_in (by decide +kernel)
theorem lk2_93 : Cond.instanceMethod ⟨"StraightTax", "help", "(I)I"⟩ ∈ q_tbl := q_wi_in (by decide +kernel)
theorem lk3_93 : Cond.selects "StraightTax" ⟨"StraightTax", "help", "(I)I"⟩ ⟨"StraightTax", "help", "(I)I"⟩ ∈ q_tbl := q_wi_in (by decide +kernel)
theorem lk1_96 : Cond.methodLink R_law 96 ⟨"StraightTaxModel", "help", "(I)I"⟩ ∈ q_tbl := q_wi_in (by decide +kernel)
theorem lk2_96 : Cond.instanceMethod ⟨"StraightTaxModel", "help", "(I)I"⟩ ∈ q_tbl := q_wi_in (by decide +kernel)
theorem lk3_96 : Cond.selects "StraightTaxModel" ⟨"StraightTaxModel", "help", "(I)I"⟩ ⟨"StraightTaxModel", "help", "(I)I"⟩ ∈ q_tbl := q_wi_in (by decide +kernel)
theorem lk1_97 : Cond.methodLink R_law 97 ⟨"StraightTax", "fits", "(IIII)I"⟩ ∈ q_tbl := q_wi_in (by decide +kernel)
theorem lk2_97 : Cond.instanceMethod ⟨"StraightTax", "fits", "(IIII)I"⟩ ∈ q_tbl := q_wi_in (by decide +kernel)
theorem lk3_97 : Cond.selects "StraightTax" ⟨"StraightTax", "fits", "(IIII)I"⟩ ⟨"StraightTax", "fits", "(IIII)I"⟩ ∈ q_tbl := q_wi_in (by decide +kernel)
theorem lk1_100 : Cond.methodLink R_law 100 ⟨"StraightTaxModel", "fits", "(IIII)I"⟩ ∈ q_tbl := q_wi_in (by decide +kernel)
theorem lk2_100 : Cond.instanceMethod ⟨"StraightTaxModel", "fits", "(IIII)I"⟩ ∈ q_tbl := q_wi_in (by decide +kernel)
theorem lk3_100 : Cond.selects "StraightTaxModel" ⟨"StraightTaxModel", "fits", "(IIII)I"⟩ ⟨"StraightTaxModel", "fits", "(IIII)I"⟩ ∈ q_tbl := q_wi_in (by decide +kernel)
theorem lk1_101 : Cond.methodLink R_law 101 ⟨"StraightTax", "rating", "(I)I"⟩ ∈ q_tbl := q_wi_in (by decide +kernel)
theorem lk2_101 : Cond.instanceMethod ⟨"StraightTax", "rating", "(I)I"⟩ ∈ q_tbl := q_wi_in (by decide +kernel)
theorem lk3_101 : Cond.selects "StraightTax" ⟨"StraightTax", "rating", "(I)I"⟩ ⟨"StraightTax", "rating", "(I)I"⟩ ∈ q_tbl := q_wi_in (by decide +kernel)
theorem lk1_104 : Cond.methodLink R_law 104 ⟨"StraightTaxModel", "rating", "(I)I"⟩ ∈ q_tbl := q_wi_in (by decide +kernel)
theorem lk2_104 : Cond.instanceMethod ⟨"StraightTaxModel", "rating", "(I)I"⟩ ∈ q_tbl := q_wi_in (by decide +kernel)
theorem lk3_104 : Cond.selects "StraightTaxModel" ⟨"StraightTaxModel", "rating", "(I)I"⟩ ⟨"StraightTaxModel", "rating", "(I)I"⟩ ∈ q_tbl := q_wi_in (by decide +kernel)
theorem lk1_105 : Cond.methodLink R_law 105 ⟨"StraightTax", "keep", "(I)I"⟩ ∈ q_tbl := q_wi_in (by decide +kernel)
theorem lk2_105 : Cond.instanceMethod ⟨"StraightTax", "keep", "(I)I"⟩ ∈ q_tbl := q_wi_in (by decide +kernel)
theorem lk3_105 : Cond.selects "StraightTax" ⟨"StraightTax", "keep", "(I)I"⟩ ⟨"StraightTax", "keep", "(I)I"⟩ ∈ q_tbl := q_wi_in (by decide +kernel)
theorem lk1_108 : Cond.methodLink R_law 108 ⟨"StraightTaxModel", "keep", "(I)I"⟩ ∈ q_tbl := q_wi_in (by decide +kernel)
theorem lk2_108 : Cond.instanceMethod ⟨"StraightTaxModel", "keep", "(I)I"⟩ ∈ q_tbl := q_wi_in (by decide +kernel)
theorem lk3_108 : Cond.selects "StraightTaxModel" ⟨"StraightTaxModel", "keep", "(I)I"⟩ ⟨"StraightTaxModel", "keep", "(I)I"⟩ ∈ q_tbl := q_wi_in (by decide +kernel)
theorem lk1_109 : Cond.methodLink R_law 109 ⟨"StraightTax", "back", "(I)I"⟩ ∈ q_tbl := q_wi_in (by decide +kernel)
theorem lk2_109 : Cond.instanceMethod ⟨"StraightTax", "back", "(I)I"⟩ ∈ q_tbl := q_wi_in (by decide +kernel)
theorem lk3_109 : Cond.selects "StraightTax" ⟨"StraightTax", "back", "(I)I"⟩ ⟨"StraightTax", "back", "(I)I"⟩ ∈ q_tbl := q_wi_in (by decide +kernel)
theorem lk1_112 : Cond.methodLink R_law 112 ⟨"StraightTaxModel", "back", "(I)I"⟩ ∈ q_tbl := q_wi_in (by decide +kernel)
theorem lk2_112 : Cond.instanceMethod ⟨"StraightTaxModel", "back", "(I)I"⟩ ∈ q_tbl := q_wi_in (by decide +kernel)
theorem lk3_112 : Cond.selects "StraightTaxModel" ⟨"StraightTaxModel", "back", "(I)I"⟩ ⟨"StraightTaxModel", "back", "(I)I"⟩ ∈ q_tbl := q_wi_in (by decide +kernel)
theorem lk1_113 : Cond.methodLink R_law 113 ⟨"StraightTax", "count", "(I)I"⟩ ∈ q_tbl := q_wi_in (by decide +kernel)
theorem lk2_113 : Cond.instanceMethod ⟨"StraightTax", "count", "(I)I"⟩ ∈ q_tbl := q_wi_in (by decide +kernel)
theorem lk3_113 : Cond.selects "StraightTax" ⟨"StraightTax", "count", "(I)I"⟩ ⟨"StraightTax", "count", "(I)I"⟩ ∈ q_tbl := q_wi_in (by decide +kernel)
theorem lk1_116 : Cond.methodLink R_law 116 ⟨"StraightTaxModel", "count", "(I)I"⟩ ∈ q_tbl := q_wi_in (by decide +kernel)
theorem lk2_116 : Cond.instanceMethod ⟨"StraightTaxModel", "count", "(I)I"⟩ ∈ q_tbl := q_wi_in (by decide +kernel)
theorem lk3_116 : Cond.selects "StraightTaxModel" ⟨"StraightTaxModel", "count", "(I)I"⟩ ⟨"StraightTaxModel", "count", "(I)I"⟩ ∈ q_tbl := q_wi_in (by decide +kernel)
theorem lk1_117 : Cond.methodLink R_law 117 ⟨"StraightTax", "trace", "()J"⟩ ∈ q_tbl := q_wi_in (by decide +kernel)
theorem lk2_117 : Cond.instanceMethod ⟨"StraightTax", "trace", "()J"⟩ ∈ q_tbl := q_wi_in (by decide +kernel)
theorem lk3_117 : Cond.selects "StraightTax" ⟨"StraightTax", "trace", "()J"⟩ ⟨"StraightTax", "trace", "()J"⟩ ∈ q_tbl := q_wi_in (by decide +kernel)
theorem lk1_121 : Cond.methodLink R_law 121 ⟨"StraightTaxModel", "trace", "()J"⟩ ∈ q_tbl := q_wi_in (by decide +kernel)
theorem lk2_121 : Cond.instanceMethod ⟨"StraightTaxModel", "trace", "()J"⟩ ∈ q_tbl := q_wi_in (by decide +kernel)
theorem lk3_121 : Cond.selects "StraightTaxModel" ⟨"StraightTaxModel", "trace", "()J"⟩ ⟨"StraightTaxModel", "trace", "()J"⟩ ∈ q_tbl := q_wi_in (by decide +kernel)
