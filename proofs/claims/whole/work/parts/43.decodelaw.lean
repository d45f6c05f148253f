/-! decode rows of the law (printed) -/
theorem d_Lw_law_0 : decode code 0 = .ok (.new 7, 3) := by decide +kernel
theorem d_Lw_law_3 : decode code 3 = .ok (.dup, 1) := by decide +kernel
theorem d_Lw_law_4 : decode code 4 = .ok (.invokespecial 9, 3) := by decide +kernel
theorem d_Lw_law_7 : decode code 7 = .ok (.astore_n 1, 1) := by decide +kernel
theorem d_Lw_law_8 : decode code 8 = .ok (.new 10, 3) := by decide +kernel
theorem d_Lw_law_11 : decode code 11 = .ok (.dup, 1) := by decide +kernel
theorem d_Lw_law_12 : decode code 12 = .ok (.invokespecial 12, 3) := by decide +kernel
theorem d_Lw_law_15 : decode code 15 = .ok (.astore_n 2, 1) := by decide +kernel
theorem d_Lw_law_16 : decode code 16 = .ok (.iconst 0, 1) := by decide +kernel
theorem d_Lw_law_17 : decode code 17 = .ok (.istore_n 3, 1) := by decide +kernel
theorem d_Lw_law_18 : decode code 18 = .ok (.iload_n 3, 1) := by decide +kernel
theorem d_Lw_law_19 : decode code 19 = .ok (.aload_n 0, 1) := by decide +kernel
theorem d_Lw_law_20 : decode code 20 = .ok (.arraylength, 1) := by decide +kernel
theorem d_Lw_law_21 : decode code 21 = .ok (.bipush 6, 2) := by decide +kernel
theorem d_Lw_law_23 : decode code 23 = .ok (.isub, 1) := by decide +kernel
theorem d_Lw_law_24 : decode code 24 = .ok (.if_icmp .gt 1167, 3) := by decide +kernel
theorem d_Lw_law_27 : decode code 27 = .ok (.aload_n 0, 1) := by decide +kernel
theorem d_Lw_law_28 : decode code 28 = .ok (.iload_n 3, 1) := by decide +kernel
theorem d_Lw_law_29 : decode code 29 = .ok (.iaload, 1) := by decide +kernel
theorem d_Lw_law_30 : decode code 30 = .ok (.bipush 63, 2) := by decide +kernel
theorem d_Lw_law_32 : decode code 32 = .ok (.iand, 1) := by decide +kernel
theorem d_Lw_law_33 : decode code 33 = .ok (.tableswitch 1152 0 34 #[155, 188, 211, 234, 257, 290, 323, 356, 369, 392, 435, 448, 461, 484, 497, 510, 523, 556, 589, 622, 645, 688, 701, 714, 747, 770, 814, 857, 900, 923, 976, 1019, 1082, 1115, 1138], 155) := by decide +kernel
theorem d_Lw_law_188 : decode code 188 = .ok (.aload_n 1, 1) := by decide +kernel
theorem d_Lw_law_189 : decode code 189 = .ok (.aload_n 0, 1) := by decide +kernel
theorem d_Lw_law_190 : decode code 190 = .ok (.iload_n 3, 1) := by decide +kernel
theorem d_Lw_law_191 : decode code 191 = .ok (.iconst 1, 1) := by decide +kernel
theorem d_Lw_law_192 : decode code 192 = .ok (.iadd, 1) := by decide +kernel
theorem d_Lw_law_193 : decode code 193 = .ok (.iaload, 1) := by decide +kernel
theorem d_Lw_law_194 : decode code 194 = .ok (.aload_n 0, 1) := by decide +kernel
theorem d_Lw_law_195 : decode code 195 = .ok (.iload_n 3, 1) := by decide +kernel
theorem d_Lw_law_196 : decode code 196 = .ok (.iconst 2, 1) := by decide +kernel
theorem d_Lw_law_197 : decode code 197 = .ok (.iadd, 1) := by decide +kernel
theorem d_Lw_law_198 : decode code 198 = .ok (.iaload, 1) := by decide +kernel
theorem d_Lw_law_199 : decode code 199 = .ok (.invokevirtual 13, 3) := by decide +kernel
theorem d_Lw_law_202 : decode code 202 = .ok (.aload_n 2, 1) := by decide +kernel
theorem d_Lw_law_203 : decode code 203 = .ok (.aload_n 0, 1) := by decide +kernel
theorem d_Lw_law_204 : decode code 204 = .ok (.iload_n 3, 1) := by decide +kernel
theorem d_Lw_law_205 : decode code 205 = .ok (.iconst 1, 1) := by decide +kernel
theorem d_Lw_law_206 : decode code 206 = .ok (.iadd, 1) := by decide +kernel
theorem d_Lw_law_207 : decode code 207 = .ok (.iaload, 1) := by decide +kernel
theorem d_Lw_law_208 : decode code 208 = .ok (.aload_n 0, 1) := by decide +kernel
theorem d_Lw_law_209 : decode code 209 = .ok (.iload_n 3, 1) := by decide +kernel
theorem d_Lw_law_210 : decode code 210 = .ok (.iconst 2, 1) := by decide +kernel
theorem d_Lw_law_211 : decode code 211 = .ok (.iadd, 1) := by decide +kernel
theorem d_Lw_law_212 : decode code 212 = .ok (.iaload, 1) := by decide +kernel
theorem d_Lw_law_213 : decode code 213 = .ok (.invokevirtual 17, 3) := by decide +kernel
theorem d_Lw_law_216 : decode code 216 = .ok (.if_icmp .eq 969, 3) := by decide +kernel
theorem d_Lw_law_219 : decode code 219 = .ok (.iconst 0, 1) := by decide +kernel
theorem d_Lw_law_220 : decode code 220 = .ok (.ireturn, 1) := by decide +kernel
theorem d_Lw_law_221 : decode code 221 = .ok (.aload_n 1, 1) := by decide +kernel
theorem d_Lw_law_222 : decode code 222 = .ok (.aload_n 0, 1) := by decide +kernel
theorem d_Lw_law_223 : decode code 223 = .ok (.iload_n 3, 1) := by decide +kernel
theorem d_Lw_law_224 : decode code 224 = .ok (.iconst 1, 1) := by decide +kernel
theorem d_Lw_law_225 : decode code 225 = .ok (.iadd, 1) := by decide +kernel
theorem d_Lw_law_226 : decode code 226 = .ok (.iaload, 1) := by decide +kernel
theorem d_Lw_law_227 : decode code 227 = .ok (.invokevirtual 18, 3) := by decide +kernel
theorem d_Lw_law_230 : decode code 230 = .ok (.aload_n 2, 1) := by decide +kernel
theorem d_Lw_law_231 : decode code 231 = .ok (.aload_n 0, 1) := by decide +kernel
theorem d_Lw_law_232 : decode code 232 = .ok (.iload_n 3, 1) := by decide +kernel
theorem d_Lw_law_233 : decode code 233 = .ok (.iconst 1, 1) := by decide +kernel
theorem d_Lw_law_234 : decode code 234 = .ok (.iadd, 1) := by decide +kernel
theorem d_Lw_law_235 : decode code 235 = .ok (.iaload, 1) := by decide +kernel
theorem d_Lw_law_236 : decode code 236 = .ok (.invokevirtual 22, 3) := by decide +kernel
theorem d_Lw_law_239 : decode code 239 = .ok (.if_icmp .eq 946, 3) := by decide +kernel
theorem d_Lw_law_242 : decode code 242 = .ok (.iconst 0, 1) := by decide +kernel
theorem d_Lw_law_243 : decode code 243 = .ok (.ireturn, 1) := by decide +kernel
theorem d_Lw_law_244 : decode code 244 = .ok (.aload_n 1, 1) := by decide +kernel
theorem d_Lw_law_245 : decode code 245 = .ok (.aload_n 0, 1) := by decide +kernel
theorem d_Lw_law_246 : decode code 246 = .ok (.iload_n 3, 1) := by decide +kernel
theorem d_Lw_law_247 : decode code 247 = .ok (.iconst 1, 1) := by decide +kernel
theorem d_Lw_law_248 : decode code 248 = .ok (.iadd, 1) := by decide +kernel
theorem d_Lw_law_249 : decode code 249 = .ok (.iaload, 1) := by decide +kernel
theorem d_Lw_law_250 : decode code 250 = .ok (.invokevirtual 23, 3) := by decide +kernel
theorem d_Lw_law_253 : decode code 253 = .ok (.aload_n 2, 1) := by decide +kernel
theorem d_Lw_law_254 : decode code 254 = .ok (.aload_n 0, 1) := by decide +kernel
theorem d_Lw_law_255 : decode code 255 = .ok (.iload_n 3, 1) := by decide +kernel
theorem d_Lw_law_256 : decode code 256 = .ok (.iconst 1, 1) := by decide +kernel
theorem d_Lw_law_257 : decode code 257 = .ok (.iadd, 1) := by decide +kernel
theorem d_Lw_law_258 : decode code 258 = .ok (.iaload, 1) := by decide +kernel
theorem d_Lw_law_259 : decode code 259 = .ok (.invokevirtual 26, 3) := by decide +kernel
theorem d_Lw_law_262 : decode code 262 = .ok (.if_icmp .eq 923, 3) := by decide +kernel
theorem d_Lw_law_265 : decode code 265 = .ok (.iconst 0, 1) := by decide +kernel
theorem d_Lw_law_266 : decode code 266 = .ok (.ireturn, 1) := by decide +kernel
theorem d_Lw_law_267 : decode code 267 = .ok (.aload_n 1, 1) := by decide +kernel
theorem d_Lw_law_268 : decode code 268 = .ok (.aload_n 0, 1) := by decide +kernel
theorem d_Lw_law_269 : decode code 269 = .ok (.iload_n 3, 1) := by decide +kernel
theorem d_Lw_law_270 : decode code 270 = .ok (.iconst 1, 1) := by decide +kernel
theorem d_Lw_law_271 : decode code 271 = .ok (.iadd, 1) := by decide +kernel
theorem d_Lw_law_272 : decode code 272 = .ok (.iaload, 1) := by decide +kernel
theorem d_Lw_law_273 : decode code 273 = .ok (.invokevirtual 27, 3) := by decide +kernel
theorem d_Lw_law_276 : decode code 276 = .ok (.aload_n 2, 1) := by decide +kernel
theorem d_Lw_law_277 : decode code 277 = .ok (.aload_n 0, 1) := by decide +kernel
theorem d_Lw_law_278 : decode code 278 = .ok (.iload_n 3, 1) := by decide +kernel
theorem d_Lw_law_279 : decode code 279 = .ok (.iconst 1, 1) := by decide +kernel
theorem d_Lw_law_280 : decode code 280 = .ok (.iadd, 1) := by decide +kernel
theorem d_Lw_law_281 : decode code 281 = .ok (.iaload, 1) := by decide +kernel
theorem d_Lw_law_282 : decode code 282 = .ok (.invokevirtual 30, 3) := by decide +kernel
theorem d_Lw_law_285 : decode code 285 = .ok (.if_icmp .eq 900, 3) := by decide +kernel
theorem d_Lw_law_288 : decode code 288 = .ok (.iconst 0, 1) := by decide +kernel
theorem d_Lw_law_289 : decode code 289 = .ok (.ireturn, 1) := by decide +kernel
theorem d_Lw_law_290 : decode code 290 = .ok (.aload_n 1, 1) := by decide +kernel
theorem d_Lw_law_291 : decode code 291 = .ok (.aload_n 0, 1) := by decide +kernel
theorem d_Lw_law_292 : decode code 292 = .ok (.iload_n 3, 1) := by decide +kernel
theorem d_Lw_law_293 : decode code 293 = .ok (.iconst 1, 1) := by decide +kernel
theorem d_Lw_law_294 : decode code 294 = .ok (.iadd, 1) := by decide +kernel
theorem d_Lw_law_295 : decode code 295 = .ok (.iaload, 1) := by decide +kernel
theorem d_Lw_law_296 : decode code 296 = .ok (.aload_n 0, 1) := by decide +kernel
theorem d_Lw_law_297 : decode code 297 = .ok (.iload_n 3, 1) := by decide +kernel
theorem d_Lw_law_298 : decode code 298 = .ok (.iconst 2, 1) := by decide +kernel
theorem d_Lw_law_299 : decode code 299 = .ok (.iadd, 1) := by decide +kernel
theorem d_Lw_law_300 : decode code 300 = .ok (.iaload, 1) := by decide +kernel
theorem d_Lw_law_301 : decode code 301 = .ok (.invokevirtual 31, 3) := by decide +kernel
theorem d_Lw_law_304 : decode code 304 = .ok (.aload_n 2, 1) := by decide +kernel
theorem d_Lw_law_305 : decode code 305 = .ok (.aload_n 0, 1) := by decide +kernel
theorem d_Lw_law_306 : decode code 306 = .ok (.iload_n 3, 1) := by decide +kernel
theorem d_Lw_law_307 : decode code 307 = .ok (.iconst 1, 1) := by decide +kernel
theorem d_Lw_law_308 : decode code 308 = .ok (.iadd, 1) := by decide +kernel
theorem d_Lw_law_309 : decode code 309 = .ok (.iaload, 1) := by decide +kernel
theorem d_Lw_law_310 : decode code 310 = .ok (.aload_n 0, 1) := by decide +kernel
theorem d_Lw_law_311 : decode code 311 = .ok (.iload_n 3, 1) := by decide +kernel
theorem d_Lw_law_312 : decode code 312 = .ok (.iconst 2, 1) := by decide +kernel
theorem d_Lw_law_313 : decode code 313 = .ok (.iadd, 1) := by decide +kernel
theorem d_Lw_law_314 : decode code 314 = .ok (.iaload, 1) := by decide +kernel
theorem d_Lw_law_315 : decode code 315 = .ok (.invokevirtual 34, 3) := by decide +kernel
theorem d_Lw_law_318 : decode code 318 = .ok (.if_icmp .eq 867, 3) := by decide +kernel
theorem d_Lw_law_321 : decode code 321 = .ok (.iconst 0, 1) := by decide +kernel
theorem d_Lw_law_322 : decode code 322 = .ok (.ireturn, 1) := by decide +kernel
theorem d_Lw_law_323 : decode code 323 = .ok (.aload_n 1, 1) := by decide +kernel
theorem d_Lw_law_324 : decode code 324 = .ok (.aload_n 0, 1) := by decide +kernel
theorem d_Lw_law_325 : decode code 325 = .ok (.iload_n 3, 1) := by decide +kernel
theorem d_Lw_law_326 : decode code 326 = .ok (.iconst 1, 1) := by decide +kernel
theorem d_Lw_law_327 : decode code 327 = .ok (.iadd, 1) := by decide +kernel
theorem d_Lw_law_328 : decode code 328 = .ok (.iaload, 1) := by decide +kernel
theorem d_Lw_law_329 : decode code 329 = .ok (.aload_n 0, 1) := by decide +kernel
theorem d_Lw_law_330 : decode code 330 = .ok (.iload_n 3, 1) := by decide +kernel
theorem d_Lw_law_331 : decode code 331 = .ok (.iconst 2, 1) := by decide +kernel
theorem d_Lw_law_332 : decode code 332 = .ok (.iadd, 1) := by decide +kernel
theorem d_Lw_law_333 : decode code 333 = .ok (.iaload, 1) := by decide +kernel
theorem d_Lw_law_334 : decode code 334 = .ok (.invokevirtual 35, 3) := by decide +kernel
theorem d_Lw_law_337 : decode code 337 = .ok (.aload_n 2, 1) := by decide +kernel
theorem d_Lw_law_338 : decode code 338 = .ok (.aload_n 0, 1) := by decide +kernel
theorem d_Lw_law_339 : decode code 339 = .ok (.iload_n 3, 1) := by decide +kernel
theorem d_Lw_law_340 : decode code 340 = .ok (.iconst 1, 1) := by decide +kernel
theorem d_Lw_law_341 : decode code 341 = .ok (.iadd, 1) := by decide +kernel
theorem d_Lw_law_342 : decode code 342 = .ok (.iaload, 1) := by decide +kernel
theorem d_Lw_law_343 : decode code 343 = .ok (.aload_n 0, 1) := by decide +kernel
theorem d_Lw_law_344 : decode code 344 = .ok (.iload_n 3, 1) := by decide +kernel
theorem d_Lw_law_345 : decode code 345 = .ok (.iconst 2, 1) := by decide +kernel
theorem d_Lw_law_346 : decode code 346 = .ok (.iadd, 1) := by decide +kernel
theorem d_Lw_law_347 : decode code 347 = .ok (.iaload, 1) := by decide +kernel
theorem d_Lw_law_348 : decode code 348 = .ok (.invokevirtual 38, 3) := by decide +kernel
theorem d_Lw_law_351 : decode code 351 = .ok (.if_icmp .eq 834, 3) := by decide +kernel
theorem d_Lw_law_354 : decode code 354 = .ok (.iconst 0, 1) := by decide +kernel
theorem d_Lw_law_355 : decode code 355 = .ok (.ireturn, 1) := by decide +kernel
theorem d_Lw_law_356 : decode code 356 = .ok (.aload_n 1, 1) := by decide +kernel
theorem d_Lw_law_357 : decode code 357 = .ok (.aload_n 0, 1) := by decide +kernel
theorem d_Lw_law_358 : decode code 358 = .ok (.iload_n 3, 1) := by decide +kernel
theorem d_Lw_law_359 : decode code 359 = .ok (.iconst 1, 1) := by decide +kernel
theorem d_Lw_law_360 : decode code 360 = .ok (.iadd, 1) := by decide +kernel
theorem d_Lw_law_361 : decode code 361 = .ok (.iaload, 1) := by decide +kernel
theorem d_Lw_law_362 : decode code 362 = .ok (.aload_n 0, 1) := by decide +kernel
theorem d_Lw_law_363 : decode code 363 = .ok (.iload_n 3, 1) := by decide +kernel
theorem d_Lw_law_364 : decode code 364 = .ok (.iconst 2, 1) := by decide +kernel
theorem d_Lw_law_365 : decode code 365 = .ok (.iadd, 1) := by decide +kernel
theorem d_Lw_law_366 : decode code 366 = .ok (.iaload, 1) := by decide +kernel
theorem d_Lw_law_367 : decode code 367 = .ok (.invokevirtual 39, 3) := by decide +kernel
theorem d_Lw_law_370 : decode code 370 = .ok (.aload_n 2, 1) := by decide +kernel
theorem d_Lw_law_371 : decode code 371 = .ok (.aload_n 0, 1) := by decide +kernel
theorem d_Lw_law_372 : decode code 372 = .ok (.iload_n 3, 1) := by decide +kernel
theorem d_Lw_law_373 : decode code 373 = .ok (.iconst 1, 1) := by decide +kernel
theorem d_Lw_law_374 : decode code 374 = .ok (.iadd, 1) := by decide +kernel
theorem d_Lw_law_375 : decode code 375 = .ok (.iaload, 1) := by decide +kernel
theorem d_Lw_law_376 : decode code 376 = .ok (.aload_n 0, 1) := by decide +kernel
theorem d_Lw_law_377 : decode code 377 = .ok (.iload_n 3, 1) := by decide +kernel
theorem d_Lw_law_378 : decode code 378 = .ok (.iconst 2, 1) := by decide +kernel
theorem d_Lw_law_379 : decode code 379 = .ok (.iadd, 1) := by decide +kernel
theorem d_Lw_law_380 : decode code 380 = .ok (.iaload, 1) := by decide +kernel
theorem d_Lw_law_381 : decode code 381 = .ok (.invokevirtual 42, 3) := by decide +kernel
theorem d_Lw_law_384 : decode code 384 = .ok (.if_icmp .eq 801, 3) := by decide +kernel
theorem d_Lw_law_387 : decode code 387 = .ok (.iconst 0, 1) := by decide +kernel
theorem d_Lw_law_388 : decode code 388 = .ok (.ireturn, 1) := by decide +kernel
theorem d_Lw_law_389 : decode code 389 = .ok (.aload_n 1, 1) := by decide +kernel
theorem d_Lw_law_390 : decode code 390 = .ok (.invokevirtual 43, 3) := by decide +kernel
theorem d_Lw_law_393 : decode code 393 = .ok (.aload_n 2, 1) := by decide +kernel
theorem d_Lw_law_394 : decode code 394 = .ok (.invokevirtual 47, 3) := by decide +kernel
theorem d_Lw_law_397 : decode code 397 = .ok (.if_icmp .eq 788, 3) := by decide +kernel
theorem d_Lw_law_400 : decode code 400 = .ok (.iconst 0, 1) := by decide +kernel
theorem d_Lw_law_401 : decode code 401 = .ok (.ireturn, 1) := by decide +kernel
theorem d_Lw_law_402 : decode code 402 = .ok (.aload_n 1, 1) := by decide +kernel
theorem d_Lw_law_403 : decode code 403 = .ok (.aload_n 0, 1) := by decide +kernel
theorem d_Lw_law_404 : decode code 404 = .ok (.iload_n 3, 1) := by decide +kernel
theorem d_Lw_law_405 : decode code 405 = .ok (.iconst 1, 1) := by decide +kernel
theorem d_Lw_law_406 : decode code 406 = .ok (.iadd, 1) := by decide +kernel
theorem d_Lw_law_407 : decode code 407 = .ok (.iaload, 1) := by decide +kernel
theorem d_Lw_law_408 : decode code 408 = .ok (.invokevirtual 48, 3) := by decide +kernel
theorem d_Lw_law_411 : decode code 411 = .ok (.aload_n 2, 1) := by decide +kernel
theorem d_Lw_law_412 : decode code 412 = .ok (.aload_n 0, 1) := by decide +kernel
theorem d_Lw_law_413 : decode code 413 = .ok (.iload_n 3, 1) := by decide +kernel
theorem d_Lw_law_414 : decode code 414 = .ok (.iconst 1, 1) := by decide +kernel
theorem d_Lw_law_415 : decode code 415 = .ok (.iadd, 1) := by decide +kernel
theorem d_Lw_law_416 : decode code 416 = .ok (.iaload, 1) := by decide +kernel
theorem d_Lw_law_417 : decode code 417 = .ok (.invokevirtual 51, 3) := by decide +kernel
theorem d_Lw_law_420 : decode code 420 = .ok (.if_icmp .eq 765, 3) := by decide +kernel
theorem d_Lw_law_423 : decode code 423 = .ok (.iconst 0, 1) := by decide +kernel
theorem d_Lw_law_424 : decode code 424 = .ok (.ireturn, 1) := by decide +kernel
theorem d_Lw_law_425 : decode code 425 = .ok (.aload_n 1, 1) := by decide +kernel
theorem d_Lw_law_426 : decode code 426 = .ok (.aload_n 0, 1) := by decide +kernel
theorem d_Lw_law_427 : decode code 427 = .ok (.iload_n 3, 1) := by decide +kernel
theorem d_Lw_law_428 : decode code 428 = .ok (.iconst 1, 1) := by decide +kernel
theorem d_Lw_law_429 : decode code 429 = .ok (.iadd, 1) := by decide +kernel
theorem d_Lw_law_430 : decode code 430 = .ok (.iaload, 1) := by decide +kernel
theorem d_Lw_law_431 : decode code 431 = .ok (.aload_n 0, 1) := by decide +kernel
theorem d_Lw_law_432 : decode code 432 = .ok (.iload_n 3, 1) := by decide +kernel
theorem d_Lw_law_433 : decode code 433 = .ok (.iconst 2, 1) := by decide +kernel
theorem d_Lw_law_434 : decode code 434 = .ok (.iadd, 1) := by decide +kernel
theorem d_Lw_law_435 : decode code 435 = .ok (.iaload, 1) := by decide +kernel
theorem d_Lw_law_436 : decode code 436 = .ok (.aload_n 0, 1) := by decide +kernel
theorem d_Lw_law_437 : decode code 437 = .ok (.iload_n 3, 1) := by decide +kernel
theorem d_Lw_law_438 : decode code 438 = .ok (.iconst 3, 1) := by decide +kernel
theorem d_Lw_law_439 : decode code 439 = .ok (.iadd, 1) := by decide +kernel
theorem d_Lw_law_440 : decode code 440 = .ok (.iaload, 1) := by decide +kernel
theorem d_Lw_law_441 : decode code 441 = .ok (.invokevirtual 52, 3) := by decide +kernel
theorem d_Lw_law_444 : decode code 444 = .ok (.aload_n 2, 1) := by decide +kernel
theorem d_Lw_law_445 : decode code 445 = .ok (.aload_n 0, 1) := by decide +kernel
theorem d_Lw_law_446 : decode code 446 = .ok (.iload_n 3, 1) := by decide +kernel
theorem d_Lw_law_447 : decode code 447 = .ok (.iconst 1, 1) := by decide +kernel
theorem d_Lw_law_448 : decode code 448 = .ok (.iadd, 1) := by decide +kernel
theorem d_Lw_law_449 : decode code 449 = .ok (.iaload, 1) := by decide +kernel
theorem d_Lw_law_450 : decode code 450 = .ok (.aload_n 0, 1) := by decide +kernel
theorem d_Lw_law_451 : decode code 451 = .ok (.iload_n 3, 1) := by decide +kernel
theorem d_Lw_law_452 : decode code 452 = .ok (.iconst 2, 1) := by decide +kernel
theorem d_Lw_law_453 : decode code 453 = .ok (.iadd, 1) := by decide +kernel
theorem d_Lw_law_454 : decode code 454 = .ok (.iaload, 1) := by decide +kernel
theorem d_Lw_law_455 : decode code 455 = .ok (.aload_n 0, 1) := by decide +kernel
theorem d_Lw_law_456 : decode code 456 = .ok (.iload_n 3, 1) := by decide +kernel
theorem d_Lw_law_457 : decode code 457 = .ok (.iconst 3, 1) := by decide +kernel
theorem d_Lw_law_458 : decode code 458 = .ok (.iadd, 1) := by decide +kernel
theorem d_Lw_law_459 : decode code 459 = .ok (.iaload, 1) := by decide +kernel
theorem d_Lw_law_460 : decode code 460 = .ok (.invokevirtual 56, 3) := by decide +kernel
theorem d_Lw_law_463 : decode code 463 = .ok (.if_icmp .eq 722, 3) := by decide +kernel
theorem d_Lw_law_466 : decode code 466 = .ok (.iconst 0, 1) := by decide +kernel
theorem d_Lw_law_467 : decode code 467 = .ok (.ireturn, 1) := by decide +kernel
theorem d_Lw_law_468 : decode code 468 = .ok (.aload_n 1, 1) := by decide +kernel
theorem d_Lw_law_469 : decode code 469 = .ok (.invokevirtual 57, 3) := by decide +kernel
theorem d_Lw_law_472 : decode code 472 = .ok (.aload_n 2, 1) := by decide +kernel
theorem d_Lw_law_473 : decode code 473 = .ok (.invokevirtual 60, 3) := by decide +kernel
theorem d_Lw_law_476 : decode code 476 = .ok (.if_icmp .eq 709, 3) := by decide +kernel
theorem d_Lw_law_479 : decode code 479 = .ok (.iconst 0, 1) := by decide +kernel
theorem d_Lw_law_480 : decode code 480 = .ok (.ireturn, 1) := by decide +kernel
theorem d_Lw_law_481 : decode code 481 = .ok (.aload_n 1, 1) := by decide +kernel
theorem d_Lw_law_482 : decode code 482 = .ok (.invokevirtual 61, 3) := by decide +kernel
theorem d_Lw_law_485 : decode code 485 = .ok (.aload_n 2, 1) := by decide +kernel
theorem d_Lw_law_486 : decode code 486 = .ok (.invokevirtual 64, 3) := by decide +kernel
theorem d_Lw_law_489 : decode code 489 = .ok (.if_icmp .eq 696, 3) := by decide +kernel
theorem d_Lw_law_492 : decode code 492 = .ok (.iconst 0, 1) := by decide +kernel
theorem d_Lw_law_493 : decode code 493 = .ok (.ireturn, 1) := by decide +kernel
theorem d_Lw_law_494 : decode code 494 = .ok (.aload_n 1, 1) := by decide +kernel
theorem d_Lw_law_495 : decode code 495 = .ok (.aload_n 0, 1) := by decide +kernel
theorem d_Lw_law_496 : decode code 496 = .ok (.iload_n 3, 1) := by decide +kernel
theorem d_Lw_law_497 : decode code 497 = .ok (.iconst 1, 1) := by decide +kernel
theorem d_Lw_law_498 : decode code 498 = .ok (.iadd, 1) := by decide +kernel
theorem d_Lw_law_499 : decode code 499 = .ok (.iaload, 1) := by decide +kernel
theorem d_Lw_law_500 : decode code 500 = .ok (.invokevirtual 65, 3) := by decide +kernel
theorem d_Lw_law_503 : decode code 503 = .ok (.aload_n 2, 1) := by decide +kernel
theorem d_Lw_law_504 : decode code 504 = .ok (.aload_n 0, 1) := by decide +kernel
theorem d_Lw_law_505 : decode code 505 = .ok (.iload_n 3, 1) := by decide +kernel
theorem d_Lw_law_506 : decode code 506 = .ok (.iconst 1, 1) := by decide +kernel
theorem d_Lw_law_507 : decode code 507 = .ok (.iadd, 1) := by decide +kernel
theorem d_Lw_law_508 : decode code 508 = .ok (.iaload, 1) := by decide +kernel
theorem d_Lw_law_509 : decode code 509 = .ok (.invokevirtual 68, 3) := by decide +kernel
theorem d_Lw_law_512 : decode code 512 = .ok (.if_icmp .eq 673, 3) := by decide +kernel
theorem d_Lw_law_515 : decode code 515 = .ok (.iconst 0, 1) := by decide +kernel
theorem d_Lw_law_516 : decode code 516 = .ok (.ireturn, 1) := by decide +kernel
theorem d_Lw_law_517 : decode code 517 = .ok (.aload_n 1, 1) := by decide +kernel
theorem d_Lw_law_518 : decode code 518 = .ok (.invokevirtual 69, 3) := by decide +kernel
theorem d_Lw_law_521 : decode code 521 = .ok (.aload_n 2, 1) := by decide +kernel
theorem d_Lw_law_522 : decode code 522 = .ok (.invokevirtual 72, 3) := by decide +kernel
theorem d_Lw_law_525 : decode code 525 = .ok (.if_icmp .eq 660, 3) := by decide +kernel
theorem d_Lw_law_528 : decode code 528 = .ok (.iconst 0, 1) := by decide +kernel
theorem d_Lw_law_529 : decode code 529 = .ok (.ireturn, 1) := by decide +kernel
