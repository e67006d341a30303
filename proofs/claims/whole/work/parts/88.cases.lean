/-! The cases of the law (by program, law.py). -/
theorem dL_law_0 : decode cL_law 0 = .ok (.new 7, 3) := by decide +kernel
theorem dL_law_3 : decode cL_law 3 = .ok (.dup, 1) := by decide +kernel
theorem dL_law_4 : decode cL_law 4 = .ok (.invokespecial 9, 3) := by decide +kernel
theorem dL_law_7 : decode cL_law 7 = .ok (.astore_n 1, 1) := by decide +kernel
theorem dL_law_8 : decode cL_law 8 = .ok (.new 10, 3) := by decide +kernel
theorem dL_law_11 : decode cL_law 11 = .ok (.dup, 1) := by decide +kernel
theorem dL_law_12 : decode cL_law 12 = .ok (.invokespecial 12, 3) := by decide +kernel
theorem dL_law_15 : decode cL_law 15 = .ok (.astore_n 2, 1) := by decide +kernel
theorem dL_law_16 : decode cL_law 16 = .ok (.iconst 0, 1) := by decide +kernel
theorem dL_law_17 : decode cL_law 17 = .ok (.istore_n 3, 1) := by decide +kernel
theorem dL_law_18 : decode cL_law 18 = .ok (.iload_n 3, 1) := by decide +kernel
theorem dL_law_19 : decode cL_law 19 = .ok (.aload_n 0, 1) := by decide +kernel
theorem dL_law_20 : decode cL_law 20 = .ok (.arraylength, 1) := by decide +kernel
theorem dL_law_21 : decode cL_law 21 = .ok (.bipush 6, 2) := by decide +kernel
theorem dL_law_23 : decode cL_law 23 = .ok (.isub, 1) := by decide +kernel
theorem dL_law_24 : decode cL_law 24 = .ok (.if_icmp .gt 1396, 3) := by decide +kernel
theorem dL_law_27 : decode cL_law 27 = .ok (.aload_n 0, 1) := by decide +kernel
theorem dL_law_28 : decode cL_law 28 = .ok (.iload_n 3, 1) := by decide +kernel
theorem dL_law_29 : decode cL_law 29 = .ok (.iaload, 1) := by decide +kernel
theorem dL_law_30 : decode cL_law 30 = .ok (.bipush 63, 2) := by decide +kernel
theorem dL_law_32 : decode cL_law 32 = .ok (.iand, 1) := by decide +kernel
theorem dL_law_33 : decode cL_law 33 = .ok (.tableswitch 1381 0 34 #[155, 178, 211, 254, 267, 290, 313, 336, 379, 422, 445, 468, 501, 524, 567, 610, 633, 656, 669, 722, 765, 818, 841, 894, 947, 980, 1013, 1056, 1079, 1112, 1155, 1228, 1262, 1325, 1358], 155) := by decide +kernel
theorem dL_law_188 : decode cL_law 188 = .ok (.aload_n 1, 1) := by decide +kernel
theorem dL_law_189 : decode cL_law 189 = .ok (.aload_n 0, 1) := by decide +kernel
theorem dL_law_190 : decode cL_law 190 = .ok (.iload_n 3, 1) := by decide +kernel
theorem dL_law_191 : decode cL_law 191 = .ok (.iconst 1, 1) := by decide +kernel
theorem dL_law_192 : decode cL_law 192 = .ok (.iadd, 1) := by decide +kernel
theorem dL_law_193 : decode cL_law 193 = .ok (.iaload, 1) := by decide +kernel
theorem dL_law_194 : decode cL_law 194 = .ok (.invokevirtual 13, 3) := by decide +kernel
theorem dL_law_197 : decode cL_law 197 = .ok (.aload_n 2, 1) := by decide +kernel
theorem dL_law_198 : decode cL_law 198 = .ok (.aload_n 0, 1) := by decide +kernel
theorem dL_law_199 : decode cL_law 199 = .ok (.iload_n 3, 1) := by decide +kernel
theorem dL_law_200 : decode cL_law 200 = .ok (.iconst 1, 1) := by decide +kernel
theorem dL_law_201 : decode cL_law 201 = .ok (.iadd, 1) := by decide +kernel
theorem dL_law_202 : decode cL_law 202 = .ok (.iaload, 1) := by decide +kernel
theorem dL_law_203 : decode cL_law 203 = .ok (.invokevirtual 17, 3) := by decide +kernel
theorem dL_law_206 : decode cL_law 206 = .ok (.if_icmp .eq 1208, 3) := by decide +kernel
theorem dL_law_209 : decode cL_law 209 = .ok (.iconst 0, 1) := by decide +kernel
theorem dL_law_210 : decode cL_law 210 = .ok (.ireturn, 1) := by decide +kernel
theorem dL_law_211 : decode cL_law 211 = .ok (.aload_n 1, 1) := by decide +kernel
theorem dL_law_212 : decode cL_law 212 = .ok (.aload_n 0, 1) := by decide +kernel
theorem dL_law_213 : decode cL_law 213 = .ok (.iload_n 3, 1) := by decide +kernel
theorem dL_law_214 : decode cL_law 214 = .ok (.iconst 1, 1) := by decide +kernel
theorem dL_law_215 : decode cL_law 215 = .ok (.iadd, 1) := by decide +kernel
theorem dL_law_216 : decode cL_law 216 = .ok (.iaload, 1) := by decide +kernel
theorem dL_law_217 : decode cL_law 217 = .ok (.aload_n 0, 1) := by decide +kernel
theorem dL_law_218 : decode cL_law 218 = .ok (.iload_n 3, 1) := by decide +kernel
theorem dL_law_219 : decode cL_law 219 = .ok (.iconst 2, 1) := by decide +kernel
theorem dL_law_220 : decode cL_law 220 = .ok (.iadd, 1) := by decide +kernel
theorem dL_law_221 : decode cL_law 221 = .ok (.iaload, 1) := by decide +kernel
theorem dL_law_222 : decode cL_law 222 = .ok (.invokevirtual 18, 3) := by decide +kernel
theorem dL_law_225 : decode cL_law 225 = .ok (.aload_n 2, 1) := by decide +kernel
theorem dL_law_226 : decode cL_law 226 = .ok (.aload_n 0, 1) := by decide +kernel
theorem dL_law_227 : decode cL_law 227 = .ok (.iload_n 3, 1) := by decide +kernel
theorem dL_law_228 : decode cL_law 228 = .ok (.iconst 1, 1) := by decide +kernel
theorem dL_law_229 : decode cL_law 229 = .ok (.iadd, 1) := by decide +kernel
theorem dL_law_230 : decode cL_law 230 = .ok (.iaload, 1) := by decide +kernel
theorem dL_law_231 : decode cL_law 231 = .ok (.aload_n 0, 1) := by decide +kernel
theorem dL_law_232 : decode cL_law 232 = .ok (.iload_n 3, 1) := by decide +kernel
theorem dL_law_233 : decode cL_law 233 = .ok (.iconst 2, 1) := by decide +kernel
theorem dL_law_234 : decode cL_law 234 = .ok (.iadd, 1) := by decide +kernel
theorem dL_law_235 : decode cL_law 235 = .ok (.iaload, 1) := by decide +kernel
theorem dL_law_236 : decode cL_law 236 = .ok (.invokevirtual 22, 3) := by decide +kernel
theorem dL_law_239 : decode cL_law 239 = .ok (.if_icmp .eq 1175, 3) := by decide +kernel
theorem dL_law_242 : decode cL_law 242 = .ok (.iconst 0, 1) := by decide +kernel
theorem dL_law_243 : decode cL_law 243 = .ok (.ireturn, 1) := by decide +kernel
theorem dL_law_244 : decode cL_law 244 = .ok (.aload_n 1, 1) := by decide +kernel
theorem dL_law_245 : decode cL_law 245 = .ok (.aload_n 0, 1) := by decide +kernel
theorem dL_law_246 : decode cL_law 246 = .ok (.iload_n 3, 1) := by decide +kernel
theorem dL_law_247 : decode cL_law 247 = .ok (.iconst 1, 1) := by decide +kernel
theorem dL_law_248 : decode cL_law 248 = .ok (.iadd, 1) := by decide +kernel
theorem dL_law_249 : decode cL_law 249 = .ok (.iaload, 1) := by decide +kernel
theorem dL_law_250 : decode cL_law 250 = .ok (.aload_n 0, 1) := by decide +kernel
theorem dL_law_251 : decode cL_law 251 = .ok (.iload_n 3, 1) := by decide +kernel
theorem dL_law_252 : decode cL_law 252 = .ok (.iconst 2, 1) := by decide +kernel
theorem dL_law_253 : decode cL_law 253 = .ok (.iadd, 1) := by decide +kernel
theorem dL_law_254 : decode cL_law 254 = .ok (.iaload, 1) := by decide +kernel
theorem dL_law_255 : decode cL_law 255 = .ok (.aload_n 0, 1) := by decide +kernel
theorem dL_law_256 : decode cL_law 256 = .ok (.iload_n 3, 1) := by decide +kernel
theorem dL_law_257 : decode cL_law 257 = .ok (.iconst 3, 1) := by decide +kernel
theorem dL_law_258 : decode cL_law 258 = .ok (.iadd, 1) := by decide +kernel
theorem dL_law_259 : decode cL_law 259 = .ok (.iaload, 1) := by decide +kernel
theorem dL_law_260 : decode cL_law 260 = .ok (.invokevirtual 23, 3) := by decide +kernel
theorem dL_law_263 : decode cL_law 263 = .ok (.aload_n 2, 1) := by decide +kernel
theorem dL_law_264 : decode cL_law 264 = .ok (.aload_n 0, 1) := by decide +kernel
theorem dL_law_265 : decode cL_law 265 = .ok (.iload_n 3, 1) := by decide +kernel
theorem dL_law_266 : decode cL_law 266 = .ok (.iconst 1, 1) := by decide +kernel
theorem dL_law_267 : decode cL_law 267 = .ok (.iadd, 1) := by decide +kernel
theorem dL_law_268 : decode cL_law 268 = .ok (.iaload, 1) := by decide +kernel
theorem dL_law_269 : decode cL_law 269 = .ok (.aload_n 0, 1) := by decide +kernel
theorem dL_law_270 : decode cL_law 270 = .ok (.iload_n 3, 1) := by decide +kernel
theorem dL_law_271 : decode cL_law 271 = .ok (.iconst 2, 1) := by decide +kernel
theorem dL_law_272 : decode cL_law 272 = .ok (.iadd, 1) := by decide +kernel
theorem dL_law_273 : decode cL_law 273 = .ok (.iaload, 1) := by decide +kernel
theorem dL_law_274 : decode cL_law 274 = .ok (.aload_n 0, 1) := by decide +kernel
theorem dL_law_275 : decode cL_law 275 = .ok (.iload_n 3, 1) := by decide +kernel
theorem dL_law_276 : decode cL_law 276 = .ok (.iconst 3, 1) := by decide +kernel
theorem dL_law_277 : decode cL_law 277 = .ok (.iadd, 1) := by decide +kernel
theorem dL_law_278 : decode cL_law 278 = .ok (.iaload, 1) := by decide +kernel
theorem dL_law_279 : decode cL_law 279 = .ok (.invokevirtual 27, 3) := by decide +kernel
theorem dL_law_282 : decode cL_law 282 = .ok (.if_icmp .eq 1132, 3) := by decide +kernel
theorem dL_law_285 : decode cL_law 285 = .ok (.iconst 0, 1) := by decide +kernel
theorem dL_law_286 : decode cL_law 286 = .ok (.ireturn, 1) := by decide +kernel
theorem dL_law_287 : decode cL_law 287 = .ok (.aload_n 1, 1) := by decide +kernel
theorem dL_law_288 : decode cL_law 288 = .ok (.invokevirtual 28, 3) := by decide +kernel
theorem dL_law_291 : decode cL_law 291 = .ok (.aload_n 2, 1) := by decide +kernel
theorem dL_law_292 : decode cL_law 292 = .ok (.invokevirtual 32, 3) := by decide +kernel
theorem dL_law_295 : decode cL_law 295 = .ok (.if_icmp .eq 1119, 3) := by decide +kernel
theorem dL_law_298 : decode cL_law 298 = .ok (.iconst 0, 1) := by decide +kernel
theorem dL_law_299 : decode cL_law 299 = .ok (.ireturn, 1) := by decide +kernel
theorem dL_law_300 : decode cL_law 300 = .ok (.aload_n 1, 1) := by decide +kernel
theorem dL_law_301 : decode cL_law 301 = .ok (.aload_n 0, 1) := by decide +kernel
theorem dL_law_302 : decode cL_law 302 = .ok (.iload_n 3, 1) := by decide +kernel
theorem dL_law_303 : decode cL_law 303 = .ok (.iconst 1, 1) := by decide +kernel
theorem dL_law_304 : decode cL_law 304 = .ok (.iadd, 1) := by decide +kernel
theorem dL_law_305 : decode cL_law 305 = .ok (.iaload, 1) := by decide +kernel
theorem dL_law_306 : decode cL_law 306 = .ok (.invokevirtual 33, 3) := by decide +kernel
theorem dL_law_309 : decode cL_law 309 = .ok (.aload_n 2, 1) := by decide +kernel
theorem dL_law_310 : decode cL_law 310 = .ok (.aload_n 0, 1) := by decide +kernel
theorem dL_law_311 : decode cL_law 311 = .ok (.iload_n 3, 1) := by decide +kernel
theorem dL_law_312 : decode cL_law 312 = .ok (.iconst 1, 1) := by decide +kernel
theorem dL_law_313 : decode cL_law 313 = .ok (.iadd, 1) := by decide +kernel
theorem dL_law_314 : decode cL_law 314 = .ok (.iaload, 1) := by decide +kernel
theorem dL_law_315 : decode cL_law 315 = .ok (.invokevirtual 36, 3) := by decide +kernel
theorem dL_law_318 : decode cL_law 318 = .ok (.if_icmp .eq 1096, 3) := by decide +kernel
theorem dL_law_321 : decode cL_law 321 = .ok (.iconst 0, 1) := by decide +kernel
theorem dL_law_322 : decode cL_law 322 = .ok (.ireturn, 1) := by decide +kernel
theorem dL_law_323 : decode cL_law 323 = .ok (.aload_n 1, 1) := by decide +kernel
theorem dL_law_324 : decode cL_law 324 = .ok (.aload_n 0, 1) := by decide +kernel
theorem dL_law_325 : decode cL_law 325 = .ok (.iload_n 3, 1) := by decide +kernel
theorem dL_law_326 : decode cL_law 326 = .ok (.iconst 1, 1) := by decide +kernel
theorem dL_law_327 : decode cL_law 327 = .ok (.iadd, 1) := by decide +kernel
theorem dL_law_328 : decode cL_law 328 = .ok (.iaload, 1) := by decide +kernel
theorem dL_law_329 : decode cL_law 329 = .ok (.invokevirtual 37, 3) := by decide +kernel
theorem dL_law_332 : decode cL_law 332 = .ok (.aload_n 2, 1) := by decide +kernel
theorem dL_law_333 : decode cL_law 333 = .ok (.aload_n 0, 1) := by decide +kernel
theorem dL_law_334 : decode cL_law 334 = .ok (.iload_n 3, 1) := by decide +kernel
theorem dL_law_335 : decode cL_law 335 = .ok (.iconst 1, 1) := by decide +kernel
theorem dL_law_336 : decode cL_law 336 = .ok (.iadd, 1) := by decide +kernel
theorem dL_law_337 : decode cL_law 337 = .ok (.iaload, 1) := by decide +kernel
theorem dL_law_338 : decode cL_law 338 = .ok (.invokevirtual 40, 3) := by decide +kernel
theorem dL_law_341 : decode cL_law 341 = .ok (.if_icmp .eq 1073, 3) := by decide +kernel
theorem dL_law_344 : decode cL_law 344 = .ok (.iconst 0, 1) := by decide +kernel
theorem dL_law_345 : decode cL_law 345 = .ok (.ireturn, 1) := by decide +kernel
theorem dL_law_346 : decode cL_law 346 = .ok (.aload_n 1, 1) := by decide +kernel
theorem dL_law_347 : decode cL_law 347 = .ok (.aload_n 0, 1) := by decide +kernel
theorem dL_law_348 : decode cL_law 348 = .ok (.iload_n 3, 1) := by decide +kernel
theorem dL_law_349 : decode cL_law 349 = .ok (.iconst 1, 1) := by decide +kernel
theorem dL_law_350 : decode cL_law 350 = .ok (.iadd, 1) := by decide +kernel
theorem dL_law_351 : decode cL_law 351 = .ok (.iaload, 1) := by decide +kernel
theorem dL_law_352 : decode cL_law 352 = .ok (.invokevirtual 41, 3) := by decide +kernel
theorem dL_law_355 : decode cL_law 355 = .ok (.aload_n 2, 1) := by decide +kernel
theorem dL_law_356 : decode cL_law 356 = .ok (.aload_n 0, 1) := by decide +kernel
theorem dL_law_357 : decode cL_law 357 = .ok (.iload_n 3, 1) := by decide +kernel
theorem dL_law_358 : decode cL_law 358 = .ok (.iconst 1, 1) := by decide +kernel
theorem dL_law_359 : decode cL_law 359 = .ok (.iadd, 1) := by decide +kernel
theorem dL_law_360 : decode cL_law 360 = .ok (.iaload, 1) := by decide +kernel
theorem dL_law_361 : decode cL_law 361 = .ok (.invokevirtual 44, 3) := by decide +kernel
theorem dL_law_364 : decode cL_law 364 = .ok (.if_icmp .eq 1050, 3) := by decide +kernel
theorem dL_law_367 : decode cL_law 367 = .ok (.iconst 0, 1) := by decide +kernel
theorem dL_law_368 : decode cL_law 368 = .ok (.ireturn, 1) := by decide +kernel
theorem dL_law_369 : decode cL_law 369 = .ok (.aload_n 1, 1) := by decide +kernel
theorem dL_law_370 : decode cL_law 370 = .ok (.aload_n 0, 1) := by decide +kernel
theorem dL_law_371 : decode cL_law 371 = .ok (.iload_n 3, 1) := by decide +kernel
theorem dL_law_372 : decode cL_law 372 = .ok (.iconst 1, 1) := by decide +kernel
theorem dL_law_373 : decode cL_law 373 = .ok (.iadd, 1) := by decide +kernel
theorem dL_law_374 : decode cL_law 374 = .ok (.iaload, 1) := by decide +kernel
theorem dL_law_375 : decode cL_law 375 = .ok (.aload_n 0, 1) := by decide +kernel
theorem dL_law_376 : decode cL_law 376 = .ok (.iload_n 3, 1) := by decide +kernel
theorem dL_law_377 : decode cL_law 377 = .ok (.iconst 2, 1) := by decide +kernel
theorem dL_law_378 : decode cL_law 378 = .ok (.iadd, 1) := by decide +kernel
theorem dL_law_379 : decode cL_law 379 = .ok (.iaload, 1) := by decide +kernel
theorem dL_law_380 : decode cL_law 380 = .ok (.aload_n 0, 1) := by decide +kernel
theorem dL_law_381 : decode cL_law 381 = .ok (.iload_n 3, 1) := by decide +kernel
theorem dL_law_382 : decode cL_law 382 = .ok (.iconst 3, 1) := by decide +kernel
theorem dL_law_383 : decode cL_law 383 = .ok (.iadd, 1) := by decide +kernel
theorem dL_law_384 : decode cL_law 384 = .ok (.iaload, 1) := by decide +kernel
theorem dL_law_385 : decode cL_law 385 = .ok (.invokevirtual 45, 3) := by decide +kernel
theorem dL_law_388 : decode cL_law 388 = .ok (.aload_n 2, 1) := by decide +kernel
theorem dL_law_389 : decode cL_law 389 = .ok (.aload_n 0, 1) := by decide +kernel
theorem dL_law_390 : decode cL_law 390 = .ok (.iload_n 3, 1) := by decide +kernel
theorem dL_law_391 : decode cL_law 391 = .ok (.iconst 1, 1) := by decide +kernel
theorem dL_law_392 : decode cL_law 392 = .ok (.iadd, 1) := by decide +kernel
theorem dL_law_393 : decode cL_law 393 = .ok (.iaload, 1) := by decide +kernel
theorem dL_law_394 : decode cL_law 394 = .ok (.aload_n 0, 1) := by decide +kernel
theorem dL_law_395 : decode cL_law 395 = .ok (.iload_n 3, 1) := by decide +kernel
theorem dL_law_396 : decode cL_law 396 = .ok (.iconst 2, 1) := by decide +kernel
theorem dL_law_397 : decode cL_law 397 = .ok (.iadd, 1) := by decide +kernel
theorem dL_law_398 : decode cL_law 398 = .ok (.iaload, 1) := by decide +kernel
theorem dL_law_399 : decode cL_law 399 = .ok (.aload_n 0, 1) := by decide +kernel
theorem dL_law_400 : decode cL_law 400 = .ok (.iload_n 3, 1) := by decide +kernel
theorem dL_law_401 : decode cL_law 401 = .ok (.iconst 3, 1) := by decide +kernel
theorem dL_law_402 : decode cL_law 402 = .ok (.iadd, 1) := by decide +kernel
theorem dL_law_403 : decode cL_law 403 = .ok (.iaload, 1) := by decide +kernel
theorem dL_law_404 : decode cL_law 404 = .ok (.invokevirtual 48, 3) := by decide +kernel
theorem dL_law_407 : decode cL_law 407 = .ok (.if_icmp .eq 1007, 3) := by decide +kernel
theorem dL_law_410 : decode cL_law 410 = .ok (.iconst 0, 1) := by decide +kernel
theorem dL_law_411 : decode cL_law 411 = .ok (.ireturn, 1) := by decide +kernel
theorem dL_law_412 : decode cL_law 412 = .ok (.aload_n 1, 1) := by decide +kernel
theorem dL_law_413 : decode cL_law 413 = .ok (.aload_n 0, 1) := by decide +kernel
theorem dL_law_414 : decode cL_law 414 = .ok (.iload_n 3, 1) := by decide +kernel
theorem dL_law_415 : decode cL_law 415 = .ok (.iconst 1, 1) := by decide +kernel
theorem dL_law_416 : decode cL_law 416 = .ok (.iadd, 1) := by decide +kernel
theorem dL_law_417 : decode cL_law 417 = .ok (.iaload, 1) := by decide +kernel
theorem dL_law_418 : decode cL_law 418 = .ok (.aload_n 0, 1) := by decide +kernel
theorem dL_law_419 : decode cL_law 419 = .ok (.iload_n 3, 1) := by decide +kernel
theorem dL_law_420 : decode cL_law 420 = .ok (.iconst 2, 1) := by decide +kernel
theorem dL_law_421 : decode cL_law 421 = .ok (.iadd, 1) := by decide +kernel
theorem dL_law_422 : decode cL_law 422 = .ok (.iaload, 1) := by decide +kernel
theorem dL_law_423 : decode cL_law 423 = .ok (.aload_n 0, 1) := by decide +kernel
theorem dL_law_424 : decode cL_law 424 = .ok (.iload_n 3, 1) := by decide +kernel
theorem dL_law_425 : decode cL_law 425 = .ok (.iconst 3, 1) := by decide +kernel
theorem dL_law_426 : decode cL_law 426 = .ok (.iadd, 1) := by decide +kernel
theorem dL_law_427 : decode cL_law 427 = .ok (.iaload, 1) := by decide +kernel
theorem dL_law_428 : decode cL_law 428 = .ok (.invokevirtual 49, 3) := by decide +kernel
theorem dL_law_431 : decode cL_law 431 = .ok (.aload_n 2, 1) := by decide +kernel
theorem dL_law_432 : decode cL_law 432 = .ok (.aload_n 0, 1) := by decide +kernel
theorem dL_law_433 : decode cL_law 433 = .ok (.iload_n 3, 1) := by decide +kernel
theorem dL_law_434 : decode cL_law 434 = .ok (.iconst 1, 1) := by decide +kernel
theorem dL_law_435 : decode cL_law 435 = .ok (.iadd, 1) := by decide +kernel
theorem dL_law_436 : decode cL_law 436 = .ok (.iaload, 1) := by decide +kernel
theorem dL_law_437 : decode cL_law 437 = .ok (.aload_n 0, 1) := by decide +kernel
theorem dL_law_438 : decode cL_law 438 = .ok (.iload_n 3, 1) := by decide +kernel
theorem dL_law_439 : decode cL_law 439 = .ok (.iconst 2, 1) := by decide +kernel
theorem dL_law_440 : decode cL_law 440 = .ok (.iadd, 1) := by decide +kernel
theorem dL_law_441 : decode cL_law 441 = .ok (.iaload, 1) := by decide +kernel
theorem dL_law_442 : decode cL_law 442 = .ok (.aload_n 0, 1) := by decide +kernel
theorem dL_law_443 : decode cL_law 443 = .ok (.iload_n 3, 1) := by decide +kernel
theorem dL_law_444 : decode cL_law 444 = .ok (.iconst 3, 1) := by decide +kernel
theorem dL_law_445 : decode cL_law 445 = .ok (.iadd, 1) := by decide +kernel
theorem dL_law_446 : decode cL_law 446 = .ok (.iaload, 1) := by decide +kernel
theorem dL_law_447 : decode cL_law 447 = .ok (.invokevirtual 52, 3) := by decide +kernel
theorem dL_law_450 : decode cL_law 450 = .ok (.if_icmp .eq 964, 3) := by decide +kernel
theorem dL_law_453 : decode cL_law 453 = .ok (.iconst 0, 1) := by decide +kernel
theorem dL_law_454 : decode cL_law 454 = .ok (.ireturn, 1) := by decide +kernel
theorem dL_law_455 : decode cL_law 455 = .ok (.aload_n 1, 1) := by decide +kernel
theorem dL_law_456 : decode cL_law 456 = .ok (.aload_n 0, 1) := by decide +kernel
theorem dL_law_457 : decode cL_law 457 = .ok (.iload_n 3, 1) := by decide +kernel
theorem dL_law_458 : decode cL_law 458 = .ok (.iconst 1, 1) := by decide +kernel
theorem dL_law_459 : decode cL_law 459 = .ok (.iadd, 1) := by decide +kernel
theorem dL_law_460 : decode cL_law 460 = .ok (.iaload, 1) := by decide +kernel
theorem dL_law_461 : decode cL_law 461 = .ok (.invokevirtual 53, 3) := by decide +kernel
theorem dL_law_464 : decode cL_law 464 = .ok (.aload_n 2, 1) := by decide +kernel
theorem dL_law_465 : decode cL_law 465 = .ok (.aload_n 0, 1) := by decide +kernel
theorem dL_law_466 : decode cL_law 466 = .ok (.iload_n 3, 1) := by decide +kernel
theorem dL_law_467 : decode cL_law 467 = .ok (.iconst 1, 1) := by decide +kernel
theorem dL_law_468 : decode cL_law 468 = .ok (.iadd, 1) := by decide +kernel
theorem dL_law_469 : decode cL_law 469 = .ok (.iaload, 1) := by decide +kernel
theorem dL_law_470 : decode cL_law 470 = .ok (.invokevirtual 56, 3) := by decide +kernel
theorem dL_law_473 : decode cL_law 473 = .ok (.if_icmp .eq 941, 3) := by decide +kernel
theorem dL_law_476 : decode cL_law 476 = .ok (.iconst 0, 1) := by decide +kernel
theorem dL_law_477 : decode cL_law 477 = .ok (.ireturn, 1) := by decide +kernel
theorem dL_law_478 : decode cL_law 478 = .ok (.aload_n 1, 1) := by decide +kernel
theorem dL_law_479 : decode cL_law 479 = .ok (.aload_n 0, 1) := by decide +kernel
theorem dL_law_480 : decode cL_law 480 = .ok (.iload_n 3, 1) := by decide +kernel
theorem dL_law_481 : decode cL_law 481 = .ok (.iconst 1, 1) := by decide +kernel
theorem dL_law_482 : decode cL_law 482 = .ok (.iadd, 1) := by decide +kernel
theorem dL_law_483 : decode cL_law 483 = .ok (.iaload, 1) := by decide +kernel
theorem dL_law_484 : decode cL_law 484 = .ok (.invokevirtual 57, 3) := by decide +kernel
theorem dL_law_487 : decode cL_law 487 = .ok (.aload_n 2, 1) := by decide +kernel
theorem dL_law_488 : decode cL_law 488 = .ok (.aload_n 0, 1) := by decide +kernel
theorem dL_law_489 : decode cL_law 489 = .ok (.iload_n 3, 1) := by decide +kernel
theorem dL_law_490 : decode cL_law 490 = .ok (.iconst 1, 1) := by decide +kernel
theorem dL_law_491 : decode cL_law 491 = .ok (.iadd, 1) := by decide +kernel
theorem dL_law_492 : decode cL_law 492 = .ok (.iaload, 1) := by decide +kernel
theorem dL_law_493 : decode cL_law 493 = .ok (.invokevirtual 60, 3) := by decide +kernel
theorem dL_law_496 : decode cL_law 496 = .ok (.if_icmp .eq 918, 3) := by decide +kernel
theorem dL_law_499 : decode cL_law 499 = .ok (.iconst 0, 1) := by decide +kernel
theorem dL_law_500 : decode cL_law 500 = .ok (.ireturn, 1) := by decide +kernel
theorem dL_law_501 : decode cL_law 501 = .ok (.aload_n 1, 1) := by decide +kernel
theorem dL_law_502 : decode cL_law 502 = .ok (.aload_n 0, 1) := by decide +kernel
theorem dL_law_503 : decode cL_law 503 = .ok (.iload_n 3, 1) := by decide +kernel
theorem dL_law_504 : decode cL_law 504 = .ok (.iconst 1, 1) := by decide +kernel
theorem dL_law_505 : decode cL_law 505 = .ok (.iadd, 1) := by decide +kernel
theorem dL_law_506 : decode cL_law 506 = .ok (.iaload, 1) := by decide +kernel
theorem dL_law_507 : decode cL_law 507 = .ok (.aload_n 0, 1) := by decide +kernel
theorem dL_law_508 : decode cL_law 508 = .ok (.iload_n 3, 1) := by decide +kernel
theorem dL_law_509 : decode cL_law 509 = .ok (.iconst 2, 1) := by decide +kernel
theorem dL_law_510 : decode cL_law 510 = .ok (.iadd, 1) := by decide +kernel
theorem dL_law_511 : decode cL_law 511 = .ok (.iaload, 1) := by decide +kernel
theorem dL_law_512 : decode cL_law 512 = .ok (.invokevirtual 61, 3) := by decide +kernel
theorem dL_law_515 : decode cL_law 515 = .ok (.aload_n 2, 1) := by decide +kernel
theorem dL_law_516 : decode cL_law 516 = .ok (.aload_n 0, 1) := by decide +kernel
theorem dL_law_517 : decode cL_law 517 = .ok (.iload_n 3, 1) := by decide +kernel
theorem dL_law_518 : decode cL_law 518 = .ok (.iconst 1, 1) := by decide +kernel
theorem dL_law_519 : decode cL_law 519 = .ok (.iadd, 1) := by decide +kernel
theorem dL_law_520 : decode cL_law 520 = .ok (.iaload, 1) := by decide +kernel
theorem dL_law_521 : decode cL_law 521 = .ok (.aload_n 0, 1) := by decide +kernel
theorem dL_law_522 : decode cL_law 522 = .ok (.iload_n 3, 1) := by decide +kernel
theorem dL_law_523 : decode cL_law 523 = .ok (.iconst 2, 1) := by decide +kernel
theorem dL_law_524 : decode cL_law 524 = .ok (.iadd, 1) := by decide +kernel
theorem dL_law_525 : decode cL_law 525 = .ok (.iaload, 1) := by decide +kernel
theorem dL_law_526 : decode cL_law 526 = .ok (.invokevirtual 64, 3) := by decide +kernel
theorem dL_law_529 : decode cL_law 529 = .ok (.if_icmp .eq 885, 3) := by decide +kernel
theorem dL_law_532 : decode cL_law 532 = .ok (.iconst 0, 1) := by decide +kernel
theorem dL_law_533 : decode cL_law 533 = .ok (.ireturn, 1) := by decide +kernel
theorem dL_law_534 : decode cL_law 534 = .ok (.aload_n 1, 1) := by decide +kernel
theorem dL_law_535 : decode cL_law 535 = .ok (.aload_n 0, 1) := by decide +kernel
theorem dL_law_536 : decode cL_law 536 = .ok (.iload_n 3, 1) := by decide +kernel
theorem dL_law_537 : decode cL_law 537 = .ok (.iconst 1, 1) := by decide +kernel
theorem dL_law_538 : decode cL_law 538 = .ok (.iadd, 1) := by decide +kernel
theorem dL_law_539 : decode cL_law 539 = .ok (.iaload, 1) := by decide +kernel
theorem dL_law_540 : decode cL_law 540 = .ok (.invokevirtual 65, 3) := by decide +kernel
theorem dL_law_543 : decode cL_law 543 = .ok (.aload_n 2, 1) := by decide +kernel
theorem dL_law_544 : decode cL_law 544 = .ok (.aload_n 0, 1) := by decide +kernel
theorem dL_law_545 : decode cL_law 545 = .ok (.iload_n 3, 1) := by decide +kernel
theorem dL_law_546 : decode cL_law 546 = .ok (.iconst 1, 1) := by decide +kernel
theorem dL_law_547 : decode cL_law 547 = .ok (.iadd, 1) := by decide +kernel
theorem dL_law_548 : decode cL_law 548 = .ok (.iaload, 1) := by decide +kernel
theorem dL_law_549 : decode cL_law 549 = .ok (.invokevirtual 68, 3) := by decide +kernel
theorem dL_law_552 : decode cL_law 552 = .ok (.if_icmp .eq 862, 3) := by decide +kernel
theorem dL_law_555 : decode cL_law 555 = .ok (.iconst 0, 1) := by decide +kernel
theorem dL_law_556 : decode cL_law 556 = .ok (.ireturn, 1) := by decide +kernel
theorem dL_law_557 : decode cL_law 557 = .ok (.aload_n 1, 1) := by decide +kernel
theorem dL_law_558 : decode cL_law 558 = .ok (.aload_n 0, 1) := by decide +kernel
theorem dL_law_559 : decode cL_law 559 = .ok (.iload_n 3, 1) := by decide +kernel
theorem dL_law_560 : decode cL_law 560 = .ok (.iconst 1, 1) := by decide +kernel
theorem dL_law_561 : decode cL_law 561 = .ok (.iadd, 1) := by decide +kernel
theorem dL_law_562 : decode cL_law 562 = .ok (.iaload, 1) := by decide +kernel
theorem dL_law_563 : decode cL_law 563 = .ok (.aload_n 0, 1) := by decide +kernel
theorem dL_law_564 : decode cL_law 564 = .ok (.iload_n 3, 1) := by decide +kernel
theorem dL_law_565 : decode cL_law 565 = .ok (.iconst 2, 1) := by decide +kernel
theorem dL_law_566 : decode cL_law 566 = .ok (.iadd, 1) := by decide +kernel
theorem dL_law_567 : decode cL_law 567 = .ok (.iaload, 1) := by decide +kernel
theorem dL_law_568 : decode cL_law 568 = .ok (.aload_n 0, 1) := by decide +kernel
theorem dL_law_569 : decode cL_law 569 = .ok (.iload_n 3, 1) := by decide +kernel
theorem dL_law_570 : decode cL_law 570 = .ok (.iconst 3, 1) := by decide +kernel
theorem dL_law_571 : decode cL_law 571 = .ok (.iadd, 1) := by decide +kernel
theorem dL_law_572 : decode cL_law 572 = .ok (.iaload, 1) := by decide +kernel
theorem dL_law_573 : decode cL_law 573 = .ok (.invokevirtual 69, 3) := by decide +kernel
theorem dL_law_576 : decode cL_law 576 = .ok (.aload_n 2, 1) := by decide +kernel
theorem dL_law_577 : decode cL_law 577 = .ok (.aload_n 0, 1) := by decide +kernel
theorem dL_law_578 : decode cL_law 578 = .ok (.iload_n 3, 1) := by decide +kernel
theorem dL_law_579 : decode cL_law 579 = .ok (.iconst 1, 1) := by decide +kernel
theorem dL_law_580 : decode cL_law 580 = .ok (.iadd, 1) := by decide +kernel
theorem dL_law_581 : decode cL_law 581 = .ok (.iaload, 1) := by decide +kernel
theorem dL_law_582 : decode cL_law 582 = .ok (.aload_n 0, 1) := by decide +kernel
theorem dL_law_583 : decode cL_law 583 = .ok (.iload_n 3, 1) := by decide +kernel
theorem dL_law_584 : decode cL_law 584 = .ok (.iconst 2, 1) := by decide +kernel
theorem dL_law_585 : decode cL_law 585 = .ok (.iadd, 1) := by decide +kernel
theorem dL_law_586 : decode cL_law 586 = .ok (.iaload, 1) := by decide +kernel
theorem dL_law_587 : decode cL_law 587 = .ok (.aload_n 0, 1) := by decide +kernel
theorem dL_law_588 : decode cL_law 588 = .ok (.iload_n 3, 1) := by decide +kernel
theorem dL_law_589 : decode cL_law 589 = .ok (.iconst 3, 1) := by decide +kernel
theorem dL_law_590 : decode cL_law 590 = .ok (.iadd, 1) := by decide +kernel
theorem dL_law_591 : decode cL_law 591 = .ok (.iaload, 1) := by decide +kernel
theorem dL_law_592 : decode cL_law 592 = .ok (.invokevirtual 72, 3) := by decide +kernel
theorem dL_law_595 : decode cL_law 595 = .ok (.if_icmp .eq 819, 3) := by decide +kernel
theorem dL_law_598 : decode cL_law 598 = .ok (.iconst 0, 1) := by decide +kernel
theorem dL_law_599 : decode cL_law 599 = .ok (.ireturn, 1) := by decide +kernel
theorem dL_law_600 : decode cL_law 600 = .ok (.aload_n 1, 1) := by decide +kernel
theorem dL_law_601 : decode cL_law 601 = .ok (.aload_n 0, 1) := by decide +kernel
theorem dL_law_602 : decode cL_law 602 = .ok (.iload_n 3, 1) := by decide +kernel
theorem dL_law_603 : decode cL_law 603 = .ok (.iconst 1, 1) := by decide +kernel
theorem dL_law_604 : decode cL_law 604 = .ok (.iadd, 1) := by decide +kernel
theorem dL_law_605 : decode cL_law 605 = .ok (.iaload, 1) := by decide +kernel
theorem dL_law_606 : decode cL_law 606 = .ok (.aload_n 0, 1) := by decide +kernel
theorem dL_law_607 : decode cL_law 607 = .ok (.iload_n 3, 1) := by decide +kernel
theorem dL_law_608 : decode cL_law 608 = .ok (.iconst 2, 1) := by decide +kernel
theorem dL_law_609 : decode cL_law 609 = .ok (.iadd, 1) := by decide +kernel
theorem dL_law_610 : decode cL_law 610 = .ok (.iaload, 1) := by decide +kernel
theorem dL_law_611 : decode cL_law 611 = .ok (.aload_n 0, 1) := by decide +kernel
theorem dL_law_612 : decode cL_law 612 = .ok (.iload_n 3, 1) := by decide +kernel
theorem dL_law_613 : decode cL_law 613 = .ok (.iconst 3, 1) := by decide +kernel
theorem dL_law_614 : decode cL_law 614 = .ok (.iadd, 1) := by decide +kernel
theorem dL_law_615 : decode cL_law 615 = .ok (.iaload, 1) := by decide +kernel
theorem dL_law_616 : decode cL_law 616 = .ok (.invokevirtual 73, 3) := by decide +kernel
theorem dL_law_619 : decode cL_law 619 = .ok (.aload_n 2, 1) := by decide +kernel
theorem dL_law_620 : decode cL_law 620 = .ok (.aload_n 0, 1) := by decide +kernel
theorem dL_law_621 : decode cL_law 621 = .ok (.iload_n 3, 1) := by decide +kernel
theorem dL_law_622 : decode cL_law 622 = .ok (.iconst 1, 1) := by decide +kernel
theorem dL_law_623 : decode cL_law 623 = .ok (.iadd, 1) := by decide +kernel
theorem dL_law_624 : decode cL_law 624 = .ok (.iaload, 1) := by decide +kernel
theorem dL_law_625 : decode cL_law 625 = .ok (.aload_n 0, 1) := by decide +kernel
theorem dL_law_626 : decode cL_law 626 = .ok (.iload_n 3, 1) := by decide +kernel
theorem dL_law_627 : decode cL_law 627 = .ok (.iconst 2, 1) := by decide +kernel
theorem dL_law_628 : decode cL_law 628 = .ok (.iadd, 1) := by decide +kernel
theorem dL_law_629 : decode cL_law 629 = .ok (.iaload, 1) := by decide +kernel
theorem dL_law_630 : decode cL_law 630 = .ok (.aload_n 0, 1) := by decide +kernel
theorem dL_law_631 : decode cL_law 631 = .ok (.iload_n 3, 1) := by decide +kernel
theorem dL_law_632 : decode cL_law 632 = .ok (.iconst 3, 1) := by decide +kernel
theorem dL_law_633 : decode cL_law 633 = .ok (.iadd, 1) := by decide +kernel
theorem dL_law_634 : decode cL_law 634 = .ok (.iaload, 1) := by decide +kernel
theorem dL_law_635 : decode cL_law 635 = .ok (.invokevirtual 76, 3) := by decide +kernel
theorem dL_law_638 : decode cL_law 638 = .ok (.if_icmp .eq 776, 3) := by decide +kernel
theorem dL_law_641 : decode cL_law 641 = .ok (.iconst 0, 1) := by decide +kernel
theorem dL_law_642 : decode cL_law 642 = .ok (.ireturn, 1) := by decide +kernel
theorem dL_law_643 : decode cL_law 643 = .ok (.aload_n 1, 1) := by decide +kernel
theorem dL_law_644 : decode cL_law 644 = .ok (.aload_n 0, 1) := by decide +kernel
theorem dL_law_645 : decode cL_law 645 = .ok (.iload_n 3, 1) := by decide +kernel
theorem dL_law_646 : decode cL_law 646 = .ok (.iconst 1, 1) := by decide +kernel
theorem dL_law_647 : decode cL_law 647 = .ok (.iadd, 1) := by decide +kernel
theorem dL_law_648 : decode cL_law 648 = .ok (.iaload, 1) := by decide +kernel
theorem dL_law_649 : decode cL_law 649 = .ok (.invokevirtual 77, 3) := by decide +kernel
theorem dL_law_652 : decode cL_law 652 = .ok (.aload_n 2, 1) := by decide +kernel
theorem dL_law_653 : decode cL_law 653 = .ok (.aload_n 0, 1) := by decide +kernel
theorem dL_law_654 : decode cL_law 654 = .ok (.iload_n 3, 1) := by decide +kernel
theorem dL_law_655 : decode cL_law 655 = .ok (.iconst 1, 1) := by decide +kernel
theorem dL_law_656 : decode cL_law 656 = .ok (.iadd, 1) := by decide +kernel
theorem dL_law_657 : decode cL_law 657 = .ok (.iaload, 1) := by decide +kernel
theorem dL_law_658 : decode cL_law 658 = .ok (.invokevirtual 80, 3) := by decide +kernel
theorem dL_law_661 : decode cL_law 661 = .ok (.if_icmp .eq 753, 3) := by decide +kernel
theorem dL_law_664 : decode cL_law 664 = .ok (.iconst 0, 1) := by decide +kernel
theorem dL_law_665 : decode cL_law 665 = .ok (.ireturn, 1) := by decide +kernel
theorem dL_law_666 : decode cL_law 666 = .ok (.aload_n 1, 1) := by decide +kernel
theorem dL_law_667 : decode cL_law 667 = .ok (.aload_n 0, 1) := by decide +kernel
theorem dL_law_668 : decode cL_law 668 = .ok (.iload_n 3, 1) := by decide +kernel
theorem dL_law_669 : decode cL_law 669 = .ok (.iconst 1, 1) := by decide +kernel
theorem dL_law_670 : decode cL_law 670 = .ok (.iadd, 1) := by decide +kernel
theorem dL_law_671 : decode cL_law 671 = .ok (.iaload, 1) := by decide +kernel
theorem dL_law_672 : decode cL_law 672 = .ok (.invokevirtual 81, 3) := by decide +kernel
theorem dL_law_675 : decode cL_law 675 = .ok (.aload_n 2, 1) := by decide +kernel
theorem dL_law_676 : decode cL_law 676 = .ok (.aload_n 0, 1) := by decide +kernel
theorem dL_law_677 : decode cL_law 677 = .ok (.iload_n 3, 1) := by decide +kernel
theorem dL_law_678 : decode cL_law 678 = .ok (.iconst 1, 1) := by decide +kernel
theorem dL_law_679 : decode cL_law 679 = .ok (.iadd, 1) := by decide +kernel
theorem dL_law_680 : decode cL_law 680 = .ok (.iaload, 1) := by decide +kernel
theorem dL_law_681 : decode cL_law 681 = .ok (.invokevirtual 84, 3) := by decide +kernel
theorem dL_law_684 : decode cL_law 684 = .ok (.if_icmp .eq 730, 3) := by decide +kernel
theorem dL_law_687 : decode cL_law 687 = .ok (.iconst 0, 1) := by decide +kernel
theorem dL_law_688 : decode cL_law 688 = .ok (.ireturn, 1) := by decide +kernel
theorem dL_law_689 : decode cL_law 689 = .ok (.aload_n 1, 1) := by decide +kernel
theorem dL_law_690 : decode cL_law 690 = .ok (.invokevirtual 85, 3) := by decide +kernel
theorem dL_law_693 : decode cL_law 693 = .ok (.aload_n 2, 1) := by decide +kernel
theorem dL_law_694 : decode cL_law 694 = .ok (.invokevirtual 88, 3) := by decide +kernel
theorem dL_law_697 : decode cL_law 697 = .ok (.if_icmp .eq 717, 3) := by decide +kernel
theorem dL_law_700 : decode cL_law 700 = .ok (.iconst 0, 1) := by decide +kernel
theorem dL_law_701 : decode cL_law 701 = .ok (.ireturn, 1) := by decide +kernel
theorem dL_law_702 : decode cL_law 702 = .ok (.aload_n 1, 1) := by decide +kernel
theorem dL_law_703 : decode cL_law 703 = .ok (.aload_n 0, 1) := by decide +kernel
theorem dL_law_704 : decode cL_law 704 = .ok (.iload_n 3, 1) := by decide +kernel
theorem dL_law_705 : decode cL_law 705 = .ok (.iconst 1, 1) := by decide +kernel
theorem dL_law_706 : decode cL_law 706 = .ok (.iadd, 1) := by decide +kernel
theorem dL_law_707 : decode cL_law 707 = .ok (.iaload, 1) := by decide +kernel
theorem dL_law_708 : decode cL_law 708 = .ok (.aload_n 0, 1) := by decide +kernel
theorem dL_law_709 : decode cL_law 709 = .ok (.iload_n 3, 1) := by decide +kernel
theorem dL_law_710 : decode cL_law 710 = .ok (.iconst 2, 1) := by decide +kernel
theorem dL_law_711 : decode cL_law 711 = .ok (.iadd, 1) := by decide +kernel
theorem dL_law_712 : decode cL_law 712 = .ok (.iaload, 1) := by decide +kernel
theorem dL_law_713 : decode cL_law 713 = .ok (.aload_n 0, 1) := by decide +kernel
theorem dL_law_714 : decode cL_law 714 = .ok (.iload_n 3, 1) := by decide +kernel
theorem dL_law_715 : decode cL_law 715 = .ok (.iconst 3, 1) := by decide +kernel
theorem dL_law_716 : decode cL_law 716 = .ok (.iadd, 1) := by decide +kernel
theorem dL_law_717 : decode cL_law 717 = .ok (.iaload, 1) := by decide +kernel
theorem dL_law_718 : decode cL_law 718 = .ok (.aload_n 0, 1) := by decide +kernel
theorem dL_law_719 : decode cL_law 719 = .ok (.iload_n 3, 1) := by decide +kernel
theorem dL_law_720 : decode cL_law 720 = .ok (.iconst 4, 1) := by decide +kernel
theorem dL_law_721 : decode cL_law 721 = .ok (.iadd, 1) := by decide +kernel
theorem dL_law_722 : decode cL_law 722 = .ok (.iaload, 1) := by decide +kernel
theorem dL_law_723 : decode cL_law 723 = .ok (.invokevirtual 89, 3) := by decide +kernel
theorem dL_law_726 : decode cL_law 726 = .ok (.aload_n 2, 1) := by decide +kernel
theorem dL_law_727 : decode cL_law 727 = .ok (.aload_n 0, 1) := by decide +kernel
theorem dL_law_728 : decode cL_law 728 = .ok (.iload_n 3, 1) := by decide +kernel
theorem dL_law_729 : decode cL_law 729 = .ok (.iconst 1, 1) := by decide +kernel
theorem dL_law_730 : decode cL_law 730 = .ok (.iadd, 1) := by decide +kernel
theorem dL_law_731 : decode cL_law 731 = .ok (.iaload, 1) := by decide +kernel
theorem dL_law_732 : decode cL_law 732 = .ok (.aload_n 0, 1) := by decide +kernel
theorem dL_law_733 : decode cL_law 733 = .ok (.iload_n 3, 1) := by decide +kernel
theorem dL_law_734 : decode cL_law 734 = .ok (.iconst 2, 1) := by decide +kernel
theorem dL_law_735 : decode cL_law 735 = .ok (.iadd, 1) := by decide +kernel
theorem dL_law_736 : decode cL_law 736 = .ok (.iaload, 1) := by decide +kernel
theorem dL_law_737 : decode cL_law 737 = .ok (.aload_n 0, 1) := by decide +kernel
theorem dL_law_738 : decode cL_law 738 = .ok (.iload_n 3, 1) := by decide +kernel
theorem dL_law_739 : decode cL_law 739 = .ok (.iconst 3, 1) := by decide +kernel
theorem dL_law_740 : decode cL_law 740 = .ok (.iadd, 1) := by decide +kernel
theorem dL_law_741 : decode cL_law 741 = .ok (.iaload, 1) := by decide +kernel
theorem dL_law_742 : decode cL_law 742 = .ok (.aload_n 0, 1) := by decide +kernel
theorem dL_law_743 : decode cL_law 743 = .ok (.iload_n 3, 1) := by decide +kernel
theorem dL_law_744 : decode cL_law 744 = .ok (.iconst 4, 1) := by decide +kernel
theorem dL_law_745 : decode cL_law 745 = .ok (.iadd, 1) := by decide +kernel
theorem dL_law_746 : decode cL_law 746 = .ok (.iaload, 1) := by decide +kernel
theorem dL_law_747 : decode cL_law 747 = .ok (.invokevirtual 93, 3) := by decide +kernel
theorem dL_law_750 : decode cL_law 750 = .ok (.if_icmp .eq 664, 3) := by decide +kernel
theorem dL_law_753 : decode cL_law 753 = .ok (.iconst 0, 1) := by decide +kernel
theorem dL_law_754 : decode cL_law 754 = .ok (.ireturn, 1) := by decide +kernel
theorem dL_law_755 : decode cL_law 755 = .ok (.aload_n 1, 1) := by decide +kernel
theorem dL_law_756 : decode cL_law 756 = .ok (.aload_n 0, 1) := by decide +kernel
theorem dL_law_757 : decode cL_law 757 = .ok (.iload_n 3, 1) := by decide +kernel
theorem dL_law_758 : decode cL_law 758 = .ok (.iconst 1, 1) := by decide +kernel
theorem dL_law_759 : decode cL_law 759 = .ok (.iadd, 1) := by decide +kernel
theorem dL_law_760 : decode cL_law 760 = .ok (.iaload, 1) := by decide +kernel
theorem dL_law_761 : decode cL_law 761 = .ok (.aload_n 0, 1) := by decide +kernel
theorem dL_law_762 : decode cL_law 762 = .ok (.iload_n 3, 1) := by decide +kernel
theorem dL_law_763 : decode cL_law 763 = .ok (.iconst 2, 1) := by decide +kernel
theorem dL_law_764 : decode cL_law 764 = .ok (.iadd, 1) := by decide +kernel
theorem dL_law_765 : decode cL_law 765 = .ok (.iaload, 1) := by decide +kernel
theorem dL_law_766 : decode cL_law 766 = .ok (.aload_n 0, 1) := by decide +kernel
theorem dL_law_767 : decode cL_law 767 = .ok (.iload_n 3, 1) := by decide +kernel
theorem dL_law_768 : decode cL_law 768 = .ok (.iconst 3, 1) := by decide +kernel
theorem dL_law_769 : decode cL_law 769 = .ok (.iadd, 1) := by decide +kernel
theorem dL_law_770 : decode cL_law 770 = .ok (.iaload, 1) := by decide +kernel
theorem dL_law_771 : decode cL_law 771 = .ok (.invokevirtual 94, 3) := by decide +kernel
theorem dL_law_774 : decode cL_law 774 = .ok (.aload_n 2, 1) := by decide +kernel
theorem dL_law_775 : decode cL_law 775 = .ok (.aload_n 0, 1) := by decide +kernel
theorem dL_law_776 : decode cL_law 776 = .ok (.iload_n 3, 1) := by decide +kernel
theorem dL_law_777 : decode cL_law 777 = .ok (.iconst 1, 1) := by decide +kernel
theorem dL_law_778 : decode cL_law 778 = .ok (.iadd, 1) := by decide +kernel
theorem dL_law_779 : decode cL_law 779 = .ok (.iaload, 1) := by decide +kernel
theorem dL_law_780 : decode cL_law 780 = .ok (.aload_n 0, 1) := by decide +kernel
theorem dL_law_781 : decode cL_law 781 = .ok (.iload_n 3, 1) := by decide +kernel
theorem dL_law_782 : decode cL_law 782 = .ok (.iconst 2, 1) := by decide +kernel
theorem dL_law_783 : decode cL_law 783 = .ok (.iadd, 1) := by decide +kernel
theorem dL_law_784 : decode cL_law 784 = .ok (.iaload, 1) := by decide +kernel
theorem dL_law_785 : decode cL_law 785 = .ok (.aload_n 0, 1) := by decide +kernel
theorem dL_law_786 : decode cL_law 786 = .ok (.iload_n 3, 1) := by decide +kernel
theorem dL_law_787 : decode cL_law 787 = .ok (.iconst 3, 1) := by decide +kernel
theorem dL_law_788 : decode cL_law 788 = .ok (.iadd, 1) := by decide +kernel
theorem dL_law_789 : decode cL_law 789 = .ok (.iaload, 1) := by decide +kernel
theorem dL_law_790 : decode cL_law 790 = .ok (.invokevirtual 97, 3) := by decide +kernel
theorem dL_law_793 : decode cL_law 793 = .ok (.if_icmp .eq 621, 3) := by decide +kernel
theorem dL_law_796 : decode cL_law 796 = .ok (.iconst 0, 1) := by decide +kernel
theorem dL_law_797 : decode cL_law 797 = .ok (.ireturn, 1) := by decide +kernel
theorem dL_law_798 : decode cL_law 798 = .ok (.aload_n 1, 1) := by decide +kernel
theorem dL_law_799 : decode cL_law 799 = .ok (.aload_n 0, 1) := by decide +kernel
theorem dL_law_800 : decode cL_law 800 = .ok (.iload_n 3, 1) := by decide +kernel
theorem dL_law_801 : decode cL_law 801 = .ok (.iconst 1, 1) := by decide +kernel
theorem dL_law_802 : decode cL_law 802 = .ok (.iadd, 1) := by decide +kernel
theorem dL_law_803 : decode cL_law 803 = .ok (.iaload, 1) := by decide +kernel
theorem dL_law_804 : decode cL_law 804 = .ok (.aload_n 0, 1) := by decide +kernel
theorem dL_law_805 : decode cL_law 805 = .ok (.iload_n 3, 1) := by decide +kernel
theorem dL_law_806 : decode cL_law 806 = .ok (.iconst 2, 1) := by decide +kernel
theorem dL_law_807 : decode cL_law 807 = .ok (.iadd, 1) := by decide +kernel
theorem dL_law_808 : decode cL_law 808 = .ok (.iaload, 1) := by decide +kernel
theorem dL_law_809 : decode cL_law 809 = .ok (.aload_n 0, 1) := by decide +kernel
theorem dL_law_810 : decode cL_law 810 = .ok (.iload_n 3, 1) := by decide +kernel
theorem dL_law_811 : decode cL_law 811 = .ok (.iconst 3, 1) := by decide +kernel
theorem dL_law_812 : decode cL_law 812 = .ok (.iadd, 1) := by decide +kernel
theorem dL_law_813 : decode cL_law 813 = .ok (.iaload, 1) := by decide +kernel
theorem dL_law_814 : decode cL_law 814 = .ok (.aload_n 0, 1) := by decide +kernel
theorem dL_law_815 : decode cL_law 815 = .ok (.iload_n 3, 1) := by decide +kernel
theorem dL_law_816 : decode cL_law 816 = .ok (.iconst 4, 1) := by decide +kernel
theorem dL_law_817 : decode cL_law 817 = .ok (.iadd, 1) := by decide +kernel
theorem dL_law_818 : decode cL_law 818 = .ok (.iaload, 1) := by decide +kernel
theorem dL_law_819 : decode cL_law 819 = .ok (.invokevirtual 98, 3) := by decide +kernel
theorem dL_law_822 : decode cL_law 822 = .ok (.aload_n 2, 1) := by decide +kernel
theorem dL_law_823 : decode cL_law 823 = .ok (.aload_n 0, 1) := by decide +kernel
theorem dL_law_824 : decode cL_law 824 = .ok (.iload_n 3, 1) := by decide +kernel
theorem dL_law_825 : decode cL_law 825 = .ok (.iconst 1, 1) := by decide +kernel
theorem dL_law_826 : decode cL_law 826 = .ok (.iadd, 1) := by decide +kernel
theorem dL_law_827 : decode cL_law 827 = .ok (.iaload, 1) := by decide +kernel
theorem dL_law_828 : decode cL_law 828 = .ok (.aload_n 0, 1) := by decide +kernel
theorem dL_law_829 : decode cL_law 829 = .ok (.iload_n 3, 1) := by decide +kernel
theorem dL_law_830 : decode cL_law 830 = .ok (.iconst 2, 1) := by decide +kernel
theorem dL_law_831 : decode cL_law 831 = .ok (.iadd, 1) := by decide +kernel
theorem dL_law_832 : decode cL_law 832 = .ok (.iaload, 1) := by decide +kernel
theorem dL_law_833 : decode cL_law 833 = .ok (.aload_n 0, 1) := by decide +kernel
theorem dL_law_834 : decode cL_law 834 = .ok (.iload_n 3, 1) := by decide +kernel
theorem dL_law_835 : decode cL_law 835 = .ok (.iconst 3, 1) := by decide +kernel
theorem dL_law_836 : decode cL_law 836 = .ok (.iadd, 1) := by decide +kernel
theorem dL_law_837 : decode cL_law 837 = .ok (.iaload, 1) := by decide +kernel
theorem dL_law_838 : decode cL_law 838 = .ok (.aload_n 0, 1) := by decide +kernel
theorem dL_law_839 : decode cL_law 839 = .ok (.iload_n 3, 1) := by decide +kernel
theorem dL_law_840 : decode cL_law 840 = .ok (.iconst 4, 1) := by decide +kernel
theorem dL_law_841 : decode cL_law 841 = .ok (.iadd, 1) := by decide +kernel
theorem dL_law_842 : decode cL_law 842 = .ok (.iaload, 1) := by decide +kernel
theorem dL_law_843 : decode cL_law 843 = .ok (.invokevirtual 101, 3) := by decide +kernel
theorem dL_law_846 : decode cL_law 846 = .ok (.if_icmp .eq 568, 3) := by decide +kernel
theorem dL_law_849 : decode cL_law 849 = .ok (.iconst 0, 1) := by decide +kernel
theorem dL_law_850 : decode cL_law 850 = .ok (.ireturn, 1) := by decide +kernel
theorem dL_law_851 : decode cL_law 851 = .ok (.aload_n 1, 1) := by decide +kernel
theorem dL_law_852 : decode cL_law 852 = .ok (.aload_n 0, 1) := by decide +kernel
theorem dL_law_853 : decode cL_law 853 = .ok (.iload_n 3, 1) := by decide +kernel
theorem dL_law_854 : decode cL_law 854 = .ok (.iconst 1, 1) := by decide +kernel
theorem dL_law_855 : decode cL_law 855 = .ok (.iadd, 1) := by decide +kernel
theorem dL_law_856 : decode cL_law 856 = .ok (.iaload, 1) := by decide +kernel
theorem dL_law_857 : decode cL_law 857 = .ok (.invokevirtual 102, 3) := by decide +kernel
theorem dL_law_860 : decode cL_law 860 = .ok (.aload_n 2, 1) := by decide +kernel
theorem dL_law_861 : decode cL_law 861 = .ok (.aload_n 0, 1) := by decide +kernel
theorem dL_law_862 : decode cL_law 862 = .ok (.iload_n 3, 1) := by decide +kernel
theorem dL_law_863 : decode cL_law 863 = .ok (.iconst 1, 1) := by decide +kernel
theorem dL_law_864 : decode cL_law 864 = .ok (.iadd, 1) := by decide +kernel
theorem dL_law_865 : decode cL_law 865 = .ok (.iaload, 1) := by decide +kernel
theorem dL_law_866 : decode cL_law 866 = .ok (.invokevirtual 105, 3) := by decide +kernel
theorem dL_law_869 : decode cL_law 869 = .ok (.if_icmp .eq 545, 3) := by decide +kernel
theorem dL_law_872 : decode cL_law 872 = .ok (.iconst 0, 1) := by decide +kernel
theorem dL_law_873 : decode cL_law 873 = .ok (.ireturn, 1) := by decide +kernel
theorem dL_law_874 : decode cL_law 874 = .ok (.aload_n 1, 1) := by decide +kernel
theorem dL_law_875 : decode cL_law 875 = .ok (.aload_n 0, 1) := by decide +kernel
theorem dL_law_876 : decode cL_law 876 = .ok (.iload_n 3, 1) := by decide +kernel
theorem dL_law_877 : decode cL_law 877 = .ok (.iconst 1, 1) := by decide +kernel
theorem dL_law_878 : decode cL_law 878 = .ok (.iadd, 1) := by decide +kernel
theorem dL_law_879 : decode cL_law 879 = .ok (.iaload, 1) := by decide +kernel
theorem dL_law_880 : decode cL_law 880 = .ok (.aload_n 0, 1) := by decide +kernel
theorem dL_law_881 : decode cL_law 881 = .ok (.iload_n 3, 1) := by decide +kernel
theorem dL_law_882 : decode cL_law 882 = .ok (.iconst 2, 1) := by decide +kernel
theorem dL_law_883 : decode cL_law 883 = .ok (.iadd, 1) := by decide +kernel
theorem dL_law_884 : decode cL_law 884 = .ok (.iaload, 1) := by decide +kernel
theorem dL_law_885 : decode cL_law 885 = .ok (.aload_n 0, 1) := by decide +kernel
theorem dL_law_886 : decode cL_law 886 = .ok (.iload_n 3, 1) := by decide +kernel
theorem dL_law_887 : decode cL_law 887 = .ok (.iconst 3, 1) := by decide +kernel
theorem dL_law_888 : decode cL_law 888 = .ok (.iadd, 1) := by decide +kernel
theorem dL_law_889 : decode cL_law 889 = .ok (.iaload, 1) := by decide +kernel
theorem dL_law_890 : decode cL_law 890 = .ok (.aload_n 0, 1) := by decide +kernel
theorem dL_law_891 : decode cL_law 891 = .ok (.iload_n 3, 1) := by decide +kernel
theorem dL_law_892 : decode cL_law 892 = .ok (.iconst 4, 1) := by decide +kernel
theorem dL_law_893 : decode cL_law 893 = .ok (.iadd, 1) := by decide +kernel
theorem dL_law_894 : decode cL_law 894 = .ok (.iaload, 1) := by decide +kernel
theorem dL_law_895 : decode cL_law 895 = .ok (.invokevirtual 106, 3) := by decide +kernel
theorem dL_law_898 : decode cL_law 898 = .ok (.aload_n 2, 1) := by decide +kernel
theorem dL_law_899 : decode cL_law 899 = .ok (.aload_n 0, 1) := by decide +kernel
theorem dL_law_900 : decode cL_law 900 = .ok (.iload_n 3, 1) := by decide +kernel
theorem dL_law_901 : decode cL_law 901 = .ok (.iconst 1, 1) := by decide +kernel
theorem dL_law_902 : decode cL_law 902 = .ok (.iadd, 1) := by decide +kernel
theorem dL_law_903 : decode cL_law 903 = .ok (.iaload, 1) := by decide +kernel
theorem dL_law_904 : decode cL_law 904 = .ok (.aload_n 0, 1) := by decide +kernel
theorem dL_law_905 : decode cL_law 905 = .ok (.iload_n 3, 1) := by decide +kernel
theorem dL_law_906 : decode cL_law 906 = .ok (.iconst 2, 1) := by decide +kernel
theorem dL_law_907 : decode cL_law 907 = .ok (.iadd, 1) := by decide +kernel
theorem dL_law_908 : decode cL_law 908 = .ok (.iaload, 1) := by decide +kernel
theorem dL_law_909 : decode cL_law 909 = .ok (.aload_n 0, 1) := by decide +kernel
theorem dL_law_910 : decode cL_law 910 = .ok (.iload_n 3, 1) := by decide +kernel
theorem dL_law_911 : decode cL_law 911 = .ok (.iconst 3, 1) := by decide +kernel
theorem dL_law_912 : decode cL_law 912 = .ok (.iadd, 1) := by decide +kernel
theorem dL_law_913 : decode cL_law 913 = .ok (.iaload, 1) := by decide +kernel
theorem dL_law_914 : decode cL_law 914 = .ok (.aload_n 0, 1) := by decide +kernel
theorem dL_law_915 : decode cL_law 915 = .ok (.iload_n 3, 1) := by decide +kernel
theorem dL_law_916 : decode cL_law 916 = .ok (.iconst 4, 1) := by decide +kernel
theorem dL_law_917 : decode cL_law 917 = .ok (.iadd, 1) := by decide +kernel
theorem dL_law_918 : decode cL_law 918 = .ok (.iaload, 1) := by decide +kernel
theorem dL_law_919 : decode cL_law 919 = .ok (.invokevirtual 109, 3) := by decide +kernel
theorem dL_law_922 : decode cL_law 922 = .ok (.if_icmp .eq 492, 3) := by decide +kernel
theorem dL_law_925 : decode cL_law 925 = .ok (.iconst 0, 1) := by decide +kernel
theorem dL_law_926 : decode cL_law 926 = .ok (.ireturn, 1) := by decide +kernel
theorem dL_law_927 : decode cL_law 927 = .ok (.aload_n 1, 1) := by decide +kernel
theorem dL_law_928 : decode cL_law 928 = .ok (.aload_n 0, 1) := by decide +kernel
theorem dL_law_929 : decode cL_law 929 = .ok (.iload_n 3, 1) := by decide +kernel
theorem dL_law_930 : decode cL_law 930 = .ok (.iconst 1, 1) := by decide +kernel
theorem dL_law_931 : decode cL_law 931 = .ok (.iadd, 1) := by decide +kernel
theorem dL_law_932 : decode cL_law 932 = .ok (.iaload, 1) := by decide +kernel
theorem dL_law_933 : decode cL_law 933 = .ok (.aload_n 0, 1) := by decide +kernel
theorem dL_law_934 : decode cL_law 934 = .ok (.iload_n 3, 1) := by decide +kernel
theorem dL_law_935 : decode cL_law 935 = .ok (.iconst 2, 1) := by decide +kernel
theorem dL_law_936 : decode cL_law 936 = .ok (.iadd, 1) := by decide +kernel
theorem dL_law_937 : decode cL_law 937 = .ok (.iaload, 1) := by decide +kernel
theorem dL_law_938 : decode cL_law 938 = .ok (.aload_n 0, 1) := by decide +kernel
theorem dL_law_939 : decode cL_law 939 = .ok (.iload_n 3, 1) := by decide +kernel
theorem dL_law_940 : decode cL_law 940 = .ok (.iconst 3, 1) := by decide +kernel
theorem dL_law_941 : decode cL_law 941 = .ok (.iadd, 1) := by decide +kernel
theorem dL_law_942 : decode cL_law 942 = .ok (.iaload, 1) := by decide +kernel
theorem dL_law_943 : decode cL_law 943 = .ok (.aload_n 0, 1) := by decide +kernel
theorem dL_law_944 : decode cL_law 944 = .ok (.iload_n 3, 1) := by decide +kernel
theorem dL_law_945 : decode cL_law 945 = .ok (.iconst 4, 1) := by decide +kernel
theorem dL_law_946 : decode cL_law 946 = .ok (.iadd, 1) := by decide +kernel
theorem dL_law_947 : decode cL_law 947 = .ok (.iaload, 1) := by decide +kernel
theorem dL_law_948 : decode cL_law 948 = .ok (.invokevirtual 110, 3) := by decide +kernel
theorem dL_law_951 : decode cL_law 951 = .ok (.aload_n 2, 1) := by decide +kernel
theorem dL_law_952 : decode cL_law 952 = .ok (.aload_n 0, 1) := by decide +kernel
theorem dL_law_953 : decode cL_law 953 = .ok (.iload_n 3, 1) := by decide +kernel
theorem dL_law_954 : decode cL_law 954 = .ok (.iconst 1, 1) := by decide +kernel
theorem dL_law_955 : decode cL_law 955 = .ok (.iadd, 1) := by decide +kernel
theorem dL_law_956 : decode cL_law 956 = .ok (.iaload, 1) := by decide +kernel
theorem dL_law_957 : decode cL_law 957 = .ok (.aload_n 0, 1) := by decide +kernel
theorem dL_law_958 : decode cL_law 958 = .ok (.iload_n 3, 1) := by decide +kernel
theorem dL_law_959 : decode cL_law 959 = .ok (.iconst 2, 1) := by decide +kernel
theorem dL_law_960 : decode cL_law 960 = .ok (.iadd, 1) := by decide +kernel
theorem dL_law_961 : decode cL_law 961 = .ok (.iaload, 1) := by decide +kernel
theorem dL_law_962 : decode cL_law 962 = .ok (.aload_n 0, 1) := by decide +kernel
theorem dL_law_963 : decode cL_law 963 = .ok (.iload_n 3, 1) := by decide +kernel
theorem dL_law_964 : decode cL_law 964 = .ok (.iconst 3, 1) := by decide +kernel
theorem dL_law_965 : decode cL_law 965 = .ok (.iadd, 1) := by decide +kernel
theorem dL_law_966 : decode cL_law 966 = .ok (.iaload, 1) := by decide +kernel
theorem dL_law_967 : decode cL_law 967 = .ok (.aload_n 0, 1) := by decide +kernel
theorem dL_law_968 : decode cL_law 968 = .ok (.iload_n 3, 1) := by decide +kernel
theorem dL_law_969 : decode cL_law 969 = .ok (.iconst 4, 1) := by decide +kernel
theorem dL_law_970 : decode cL_law 970 = .ok (.iadd, 1) := by decide +kernel
theorem dL_law_971 : decode cL_law 971 = .ok (.iaload, 1) := by decide +kernel
theorem dL_law_972 : decode cL_law 972 = .ok (.invokevirtual 113, 3) := by decide +kernel
theorem dL_law_975 : decode cL_law 975 = .ok (.if_icmp .eq 439, 3) := by decide +kernel
theorem dL_law_978 : decode cL_law 978 = .ok (.iconst 0, 1) := by decide +kernel
theorem dL_law_979 : decode cL_law 979 = .ok (.ireturn, 1) := by decide +kernel
theorem dL_law_980 : decode cL_law 980 = .ok (.aload_n 1, 1) := by decide +kernel
theorem dL_law_981 : decode cL_law 981 = .ok (.aload_n 0, 1) := by decide +kernel
theorem dL_law_982 : decode cL_law 982 = .ok (.iload_n 3, 1) := by decide +kernel
theorem dL_law_983 : decode cL_law 983 = .ok (.iconst 1, 1) := by decide +kernel
theorem dL_law_984 : decode cL_law 984 = .ok (.iadd, 1) := by decide +kernel
theorem dL_law_985 : decode cL_law 985 = .ok (.iaload, 1) := by decide +kernel
theorem dL_law_986 : decode cL_law 986 = .ok (.aload_n 0, 1) := by decide +kernel
theorem dL_law_987 : decode cL_law 987 = .ok (.iload_n 3, 1) := by decide +kernel
theorem dL_law_988 : decode cL_law 988 = .ok (.iconst 2, 1) := by decide +kernel
theorem dL_law_989 : decode cL_law 989 = .ok (.iadd, 1) := by decide +kernel
theorem dL_law_990 : decode cL_law 990 = .ok (.iaload, 1) := by decide +kernel
theorem dL_law_991 : decode cL_law 991 = .ok (.invokevirtual 114, 3) := by decide +kernel
theorem dL_law_994 : decode cL_law 994 = .ok (.aload_n 2, 1) := by decide +kernel
theorem dL_law_995 : decode cL_law 995 = .ok (.aload_n 0, 1) := by decide +kernel
theorem dL_law_996 : decode cL_law 996 = .ok (.iload_n 3, 1) := by decide +kernel
theorem dL_law_997 : decode cL_law 997 = .ok (.iconst 1, 1) := by decide +kernel
theorem dL_law_998 : decode cL_law 998 = .ok (.iadd, 1) := by decide +kernel
theorem dL_law_999 : decode cL_law 999 = .ok (.iaload, 1) := by decide +kernel
theorem dL_law_1000 : decode cL_law 1000 = .ok (.aload_n 0, 1) := by decide +kernel
theorem dL_law_1001 : decode cL_law 1001 = .ok (.iload_n 3, 1) := by decide +kernel
theorem dL_law_1002 : decode cL_law 1002 = .ok (.iconst 2, 1) := by decide +kernel
theorem dL_law_1003 : decode cL_law 1003 = .ok (.iadd, 1) := by decide +kernel
theorem dL_law_1004 : decode cL_law 1004 = .ok (.iaload, 1) := by decide +kernel
theorem dL_law_1005 : decode cL_law 1005 = .ok (.invokevirtual 117, 3) := by decide +kernel
theorem dL_law_1008 : decode cL_law 1008 = .ok (.if_icmp .eq 406, 3) := by decide +kernel
theorem dL_law_1011 : decode cL_law 1011 = .ok (.iconst 0, 1) := by decide +kernel
theorem dL_law_1012 : decode cL_law 1012 = .ok (.ireturn, 1) := by decide +kernel
theorem dL_law_1013 : decode cL_law 1013 = .ok (.aload_n 1, 1) := by decide +kernel
theorem dL_law_1014 : decode cL_law 1014 = .ok (.aload_n 0, 1) := by decide +kernel
theorem dL_law_1015 : decode cL_law 1015 = .ok (.iload_n 3, 1) := by decide +kernel
theorem dL_law_1016 : decode cL_law 1016 = .ok (.iconst 1, 1) := by decide +kernel
theorem dL_law_1017 : decode cL_law 1017 = .ok (.iadd, 1) := by decide +kernel
theorem dL_law_1018 : decode cL_law 1018 = .ok (.iaload, 1) := by decide +kernel
theorem dL_law_1019 : decode cL_law 1019 = .ok (.aload_n 0, 1) := by decide +kernel
theorem dL_law_1020 : decode cL_law 1020 = .ok (.iload_n 3, 1) := by decide +kernel
theorem dL_law_1021 : decode cL_law 1021 = .ok (.iconst 2, 1) := by decide +kernel
theorem dL_law_1022 : decode cL_law 1022 = .ok (.iadd, 1) := by decide +kernel
theorem dL_law_1023 : decode cL_law 1023 = .ok (.iaload, 1) := by decide +kernel
theorem dL_law_1024 : decode cL_law 1024 = .ok (.invokevirtual 118, 3) := by decide +kernel
theorem dL_law_1027 : decode cL_law 1027 = .ok (.aload_n 2, 1) := by decide +kernel
theorem dL_law_1028 : decode cL_law 1028 = .ok (.aload_n 0, 1) := by decide +kernel
theorem dL_law_1029 : decode cL_law 1029 = .ok (.iload_n 3, 1) := by decide +kernel
theorem dL_law_1030 : decode cL_law 1030 = .ok (.iconst 1, 1) := by decide +kernel
theorem dL_law_1031 : decode cL_law 1031 = .ok (.iadd, 1) := by decide +kernel
theorem dL_law_1032 : decode cL_law 1032 = .ok (.iaload, 1) := by decide +kernel
theorem dL_law_1033 : decode cL_law 1033 = .ok (.aload_n 0, 1) := by decide +kernel
theorem dL_law_1034 : decode cL_law 1034 = .ok (.iload_n 3, 1) := by decide +kernel
theorem dL_law_1035 : decode cL_law 1035 = .ok (.iconst 2, 1) := by decide +kernel
theorem dL_law_1036 : decode cL_law 1036 = .ok (.iadd, 1) := by decide +kernel
theorem dL_law_1037 : decode cL_law 1037 = .ok (.iaload, 1) := by decide +kernel
theorem dL_law_1038 : decode cL_law 1038 = .ok (.invokevirtual 121, 3) := by decide +kernel
theorem dL_law_1041 : decode cL_law 1041 = .ok (.if_icmp .eq 373, 3) := by decide +kernel
theorem dL_law_1044 : decode cL_law 1044 = .ok (.iconst 0, 1) := by decide +kernel
theorem dL_law_1045 : decode cL_law 1045 = .ok (.ireturn, 1) := by decide +kernel
theorem dL_law_1046 : decode cL_law 1046 = .ok (.aload_n 1, 1) := by decide +kernel
theorem dL_law_1047 : decode cL_law 1047 = .ok (.aload_n 0, 1) := by decide +kernel
theorem dL_law_1048 : decode cL_law 1048 = .ok (.iload_n 3, 1) := by decide +kernel
theorem dL_law_1049 : decode cL_law 1049 = .ok (.iconst 1, 1) := by decide +kernel
theorem dL_law_1050 : decode cL_law 1050 = .ok (.iadd, 1) := by decide +kernel
theorem dL_law_1051 : decode cL_law 1051 = .ok (.iaload, 1) := by decide +kernel
theorem dL_law_1052 : decode cL_law 1052 = .ok (.aload_n 0, 1) := by decide +kernel
theorem dL_law_1053 : decode cL_law 1053 = .ok (.iload_n 3, 1) := by decide +kernel
theorem dL_law_1054 : decode cL_law 1054 = .ok (.iconst 2, 1) := by decide +kernel
theorem dL_law_1055 : decode cL_law 1055 = .ok (.iadd, 1) := by decide +kernel
theorem dL_law_1056 : decode cL_law 1056 = .ok (.iaload, 1) := by decide +kernel
theorem dL_law_1057 : decode cL_law 1057 = .ok (.aload_n 0, 1) := by decide +kernel
theorem dL_law_1058 : decode cL_law 1058 = .ok (.iload_n 3, 1) := by decide +kernel
theorem dL_law_1059 : decode cL_law 1059 = .ok (.iconst 3, 1) := by decide +kernel
theorem dL_law_1060 : decode cL_law 1060 = .ok (.iadd, 1) := by decide +kernel
theorem dL_law_1061 : decode cL_law 1061 = .ok (.iaload, 1) := by decide +kernel
theorem dL_law_1062 : decode cL_law 1062 = .ok (.invokevirtual 122, 3) := by decide +kernel
theorem dL_law_1065 : decode cL_law 1065 = .ok (.aload_n 2, 1) := by decide +kernel
theorem dL_law_1066 : decode cL_law 1066 = .ok (.aload_n 0, 1) := by decide +kernel
theorem dL_law_1067 : decode cL_law 1067 = .ok (.iload_n 3, 1) := by decide +kernel
theorem dL_law_1068 : decode cL_law 1068 = .ok (.iconst 1, 1) := by decide +kernel
theorem dL_law_1069 : decode cL_law 1069 = .ok (.iadd, 1) := by decide +kernel
theorem dL_law_1070 : decode cL_law 1070 = .ok (.iaload, 1) := by decide +kernel
theorem dL_law_1071 : decode cL_law 1071 = .ok (.aload_n 0, 1) := by decide +kernel
theorem dL_law_1072 : decode cL_law 1072 = .ok (.iload_n 3, 1) := by decide +kernel
theorem dL_law_1073 : decode cL_law 1073 = .ok (.iconst 2, 1) := by decide +kernel
theorem dL_law_1074 : decode cL_law 1074 = .ok (.iadd, 1) := by decide +kernel
theorem dL_law_1075 : decode cL_law 1075 = .ok (.iaload, 1) := by decide +kernel
theorem dL_law_1076 : decode cL_law 1076 = .ok (.aload_n 0, 1) := by decide +kernel
theorem dL_law_1077 : decode cL_law 1077 = .ok (.iload_n 3, 1) := by decide +kernel
theorem dL_law_1078 : decode cL_law 1078 = .ok (.iconst 3, 1) := by decide +kernel
theorem dL_law_1079 : decode cL_law 1079 = .ok (.iadd, 1) := by decide +kernel
theorem dL_law_1080 : decode cL_law 1080 = .ok (.iaload, 1) := by decide +kernel
theorem dL_law_1081 : decode cL_law 1081 = .ok (.invokevirtual 125, 3) := by decide +kernel
theorem dL_law_1084 : decode cL_law 1084 = .ok (.if_icmp .eq 330, 3) := by decide +kernel
theorem dL_law_1087 : decode cL_law 1087 = .ok (.iconst 0, 1) := by decide +kernel
theorem dL_law_1088 : decode cL_law 1088 = .ok (.ireturn, 1) := by decide +kernel
theorem dL_law_1089 : decode cL_law 1089 = .ok (.aload_n 1, 1) := by decide +kernel
theorem dL_law_1090 : decode cL_law 1090 = .ok (.aload_n 0, 1) := by decide +kernel
theorem dL_law_1091 : decode cL_law 1091 = .ok (.iload_n 3, 1) := by decide +kernel
theorem dL_law_1092 : decode cL_law 1092 = .ok (.iconst 1, 1) := by decide +kernel
theorem dL_law_1093 : decode cL_law 1093 = .ok (.iadd, 1) := by decide +kernel
theorem dL_law_1094 : decode cL_law 1094 = .ok (.iaload, 1) := by decide +kernel
theorem dL_law_1095 : decode cL_law 1095 = .ok (.invokevirtual 126, 3) := by decide +kernel
theorem dL_law_1098 : decode cL_law 1098 = .ok (.aload_n 2, 1) := by decide +kernel
theorem dL_law_1099 : decode cL_law 1099 = .ok (.aload_n 0, 1) := by decide +kernel
theorem dL_law_1100 : decode cL_law 1100 = .ok (.iload_n 3, 1) := by decide +kernel
theorem dL_law_1101 : decode cL_law 1101 = .ok (.iconst 1, 1) := by decide +kernel
theorem dL_law_1102 : decode cL_law 1102 = .ok (.iadd, 1) := by decide +kernel
theorem dL_law_1103 : decode cL_law 1103 = .ok (.iaload, 1) := by decide +kernel
theorem dL_law_1104 : decode cL_law 1104 = .ok (.invokevirtual 129, 3) := by decide +kernel
theorem dL_law_1107 : decode cL_law 1107 = .ok (.if_icmp .eq 307, 3) := by decide +kernel
theorem dL_law_1110 : decode cL_law 1110 = .ok (.iconst 0, 1) := by decide +kernel
theorem dL_law_1111 : decode cL_law 1111 = .ok (.ireturn, 1) := by decide +kernel
theorem dL_law_1112 : decode cL_law 1112 = .ok (.aload_n 1, 1) := by decide +kernel
theorem dL_law_1113 : decode cL_law 1113 = .ok (.aload_n 0, 1) := by decide +kernel
theorem dL_law_1114 : decode cL_law 1114 = .ok (.iload_n 3, 1) := by decide +kernel
theorem dL_law_1115 : decode cL_law 1115 = .ok (.iconst 1, 1) := by decide +kernel
theorem dL_law_1116 : decode cL_law 1116 = .ok (.iadd, 1) := by decide +kernel
theorem dL_law_1117 : decode cL_law 1117 = .ok (.iaload, 1) := by decide +kernel
theorem dL_law_1118 : decode cL_law 1118 = .ok (.aload_n 0, 1) := by decide +kernel
theorem dL_law_1119 : decode cL_law 1119 = .ok (.iload_n 3, 1) := by decide +kernel
theorem dL_law_1120 : decode cL_law 1120 = .ok (.iconst 2, 1) := by decide +kernel
theorem dL_law_1121 : decode cL_law 1121 = .ok (.iadd, 1) := by decide +kernel
theorem dL_law_1122 : decode cL_law 1122 = .ok (.iaload, 1) := by decide +kernel
theorem dL_law_1123 : decode cL_law 1123 = .ok (.invokevirtual 130, 3) := by decide +kernel
theorem dL_law_1126 : decode cL_law 1126 = .ok (.aload_n 2, 1) := by decide +kernel
theorem dL_law_1127 : decode cL_law 1127 = .ok (.aload_n 0, 1) := by decide +kernel
theorem dL_law_1128 : decode cL_law 1128 = .ok (.iload_n 3, 1) := by decide +kernel
theorem dL_law_1129 : decode cL_law 1129 = .ok (.iconst 1, 1) := by decide +kernel
theorem dL_law_1130 : decode cL_law 1130 = .ok (.iadd, 1) := by decide +kernel
theorem dL_law_1131 : decode cL_law 1131 = .ok (.iaload, 1) := by decide +kernel
theorem dL_law_1132 : decode cL_law 1132 = .ok (.aload_n 0, 1) := by decide +kernel
theorem dL_law_1133 : decode cL_law 1133 = .ok (.iload_n 3, 1) := by decide +kernel
theorem dL_law_1134 : decode cL_law 1134 = .ok (.iconst 2, 1) := by decide +kernel
theorem dL_law_1135 : decode cL_law 1135 = .ok (.iadd, 1) := by decide +kernel
theorem dL_law_1136 : decode cL_law 1136 = .ok (.iaload, 1) := by decide +kernel
theorem dL_law_1137 : decode cL_law 1137 = .ok (.invokevirtual 133, 3) := by decide +kernel
theorem dL_law_1140 : decode cL_law 1140 = .ok (.if_icmp .eq 274, 3) := by decide +kernel
theorem dL_law_1143 : decode cL_law 1143 = .ok (.iconst 0, 1) := by decide +kernel
theorem dL_law_1144 : decode cL_law 1144 = .ok (.ireturn, 1) := by decide +kernel
theorem dL_law_1145 : decode cL_law 1145 = .ok (.aload_n 1, 1) := by decide +kernel
theorem dL_law_1146 : decode cL_law 1146 = .ok (.aload_n 0, 1) := by decide +kernel
theorem dL_law_1147 : decode cL_law 1147 = .ok (.iload_n 3, 1) := by decide +kernel
theorem dL_law_1148 : decode cL_law 1148 = .ok (.iconst 1, 1) := by decide +kernel
theorem dL_law_1149 : decode cL_law 1149 = .ok (.iadd, 1) := by decide +kernel
theorem dL_law_1150 : decode cL_law 1150 = .ok (.iaload, 1) := by decide +kernel
theorem dL_law_1151 : decode cL_law 1151 = .ok (.aload_n 0, 1) := by decide +kernel
theorem dL_law_1152 : decode cL_law 1152 = .ok (.iload_n 3, 1) := by decide +kernel
theorem dL_law_1153 : decode cL_law 1153 = .ok (.iconst 2, 1) := by decide +kernel
theorem dL_law_1154 : decode cL_law 1154 = .ok (.iadd, 1) := by decide +kernel
theorem dL_law_1155 : decode cL_law 1155 = .ok (.iaload, 1) := by decide +kernel
theorem dL_law_1156 : decode cL_law 1156 = .ok (.aload_n 0, 1) := by decide +kernel
theorem dL_law_1157 : decode cL_law 1157 = .ok (.iload_n 3, 1) := by decide +kernel
theorem dL_law_1158 : decode cL_law 1158 = .ok (.iconst 3, 1) := by decide +kernel
theorem dL_law_1159 : decode cL_law 1159 = .ok (.iadd, 1) := by decide +kernel
theorem dL_law_1160 : decode cL_law 1160 = .ok (.iaload, 1) := by decide +kernel
theorem dL_law_1161 : decode cL_law 1161 = .ok (.invokevirtual 134, 3) := by decide +kernel
theorem dL_law_1164 : decode cL_law 1164 = .ok (.aload_n 2, 1) := by decide +kernel
theorem dL_law_1165 : decode cL_law 1165 = .ok (.aload_n 0, 1) := by decide +kernel
theorem dL_law_1166 : decode cL_law 1166 = .ok (.iload_n 3, 1) := by decide +kernel
theorem dL_law_1167 : decode cL_law 1167 = .ok (.iconst 1, 1) := by decide +kernel
theorem dL_law_1168 : decode cL_law 1168 = .ok (.iadd, 1) := by decide +kernel
theorem dL_law_1169 : decode cL_law 1169 = .ok (.iaload, 1) := by decide +kernel
theorem dL_law_1170 : decode cL_law 1170 = .ok (.aload_n 0, 1) := by decide +kernel
theorem dL_law_1171 : decode cL_law 1171 = .ok (.iload_n 3, 1) := by decide +kernel
theorem dL_law_1172 : decode cL_law 1172 = .ok (.iconst 2, 1) := by decide +kernel
theorem dL_law_1173 : decode cL_law 1173 = .ok (.iadd, 1) := by decide +kernel
theorem dL_law_1174 : decode cL_law 1174 = .ok (.iaload, 1) := by decide +kernel
theorem dL_law_1175 : decode cL_law 1175 = .ok (.aload_n 0, 1) := by decide +kernel
theorem dL_law_1176 : decode cL_law 1176 = .ok (.iload_n 3, 1) := by decide +kernel
theorem dL_law_1177 : decode cL_law 1177 = .ok (.iconst 3, 1) := by decide +kernel
theorem dL_law_1178 : decode cL_law 1178 = .ok (.iadd, 1) := by decide +kernel
theorem dL_law_1179 : decode cL_law 1179 = .ok (.iaload, 1) := by decide +kernel
theorem dL_law_1180 : decode cL_law 1180 = .ok (.invokevirtual 137, 3) := by decide +kernel
theorem dL_law_1183 : decode cL_law 1183 = .ok (.if_icmp .eq 231, 3) := by decide +kernel
theorem dL_law_1186 : decode cL_law 1186 = .ok (.iconst 0, 1) := by decide +kernel
theorem dL_law_1187 : decode cL_law 1187 = .ok (.ireturn, 1) := by decide +kernel
theorem dL_law_1188 : decode cL_law 1188 = .ok (.aload_n 1, 1) := by decide +kernel
theorem dL_law_1189 : decode cL_law 1189 = .ok (.aload_n 0, 1) := by decide +kernel
theorem dL_law_1190 : decode cL_law 1190 = .ok (.iload_n 3, 1) := by decide +kernel
theorem dL_law_1191 : decode cL_law 1191 = .ok (.iconst 1, 1) := by decide +kernel
theorem dL_law_1192 : decode cL_law 1192 = .ok (.iadd, 1) := by decide +kernel
theorem dL_law_1193 : decode cL_law 1193 = .ok (.iaload, 1) := by decide +kernel
theorem dL_law_1194 : decode cL_law 1194 = .ok (.aload_n 0, 1) := by decide +kernel
theorem dL_law_1195 : decode cL_law 1195 = .ok (.iload_n 3, 1) := by decide +kernel
theorem dL_law_1196 : decode cL_law 1196 = .ok (.iconst 2, 1) := by decide +kernel
theorem dL_law_1197 : decode cL_law 1197 = .ok (.iadd, 1) := by decide +kernel
theorem dL_law_1198 : decode cL_law 1198 = .ok (.iaload, 1) := by decide +kernel
theorem dL_law_1199 : decode cL_law 1199 = .ok (.aload_n 0, 1) := by decide +kernel
theorem dL_law_1200 : decode cL_law 1200 = .ok (.iload_n 3, 1) := by decide +kernel
theorem dL_law_1201 : decode cL_law 1201 = .ok (.iconst 3, 1) := by decide +kernel
theorem dL_law_1202 : decode cL_law 1202 = .ok (.iadd, 1) := by decide +kernel
theorem dL_law_1203 : decode cL_law 1203 = .ok (.iaload, 1) := by decide +kernel
theorem dL_law_1204 : decode cL_law 1204 = .ok (.i2l, 1) := by decide +kernel
theorem dL_law_1205 : decode cL_law 1205 = .ok (.bipush 32, 2) := by decide +kernel
theorem dL_law_1207 : decode cL_law 1207 = .ok (.lshl, 1) := by decide +kernel
theorem dL_law_1208 : decode cL_law 1208 = .ok (.aload_n 0, 1) := by decide +kernel
theorem dL_law_1209 : decode cL_law 1209 = .ok (.iload_n 3, 1) := by decide +kernel
theorem dL_law_1210 : decode cL_law 1210 = .ok (.iconst 4, 1) := by decide +kernel
theorem dL_law_1211 : decode cL_law 1211 = .ok (.iadd, 1) := by decide +kernel
theorem dL_law_1212 : decode cL_law 1212 = .ok (.iaload, 1) := by decide +kernel
theorem dL_law_1213 : decode cL_law 1213 = .ok (.i2l, 1) := by decide +kernel
theorem dL_law_1214 : decode cL_law 1214 = .ok (.ldc2_w 138, 3) := by decide +kernel
theorem dL_law_1217 : decode cL_law 1217 = .ok (.land, 1) := by decide +kernel
theorem dL_law_1218 : decode cL_law 1218 = .ok (.lor, 1) := by decide +kernel
theorem dL_law_1219 : decode cL_law 1219 = .ok (.invokevirtual 140, 3) := by decide +kernel
theorem dL_law_1222 : decode cL_law 1222 = .ok (.aload_n 2, 1) := by decide +kernel
theorem dL_law_1223 : decode cL_law 1223 = .ok (.aload_n 0, 1) := by decide +kernel
theorem dL_law_1224 : decode cL_law 1224 = .ok (.iload_n 3, 1) := by decide +kernel
theorem dL_law_1225 : decode cL_law 1225 = .ok (.iconst 1, 1) := by decide +kernel
theorem dL_law_1226 : decode cL_law 1226 = .ok (.iadd, 1) := by decide +kernel
theorem dL_law_1227 : decode cL_law 1227 = .ok (.iaload, 1) := by decide +kernel
theorem dL_law_1228 : decode cL_law 1228 = .ok (.aload_n 0, 1) := by decide +kernel
theorem dL_law_1229 : decode cL_law 1229 = .ok (.iload_n 3, 1) := by decide +kernel
theorem dL_law_1230 : decode cL_law 1230 = .ok (.iconst 2, 1) := by decide +kernel
theorem dL_law_1231 : decode cL_law 1231 = .ok (.iadd, 1) := by decide +kernel
theorem dL_law_1232 : decode cL_law 1232 = .ok (.iaload, 1) := by decide +kernel
theorem dL_law_1233 : decode cL_law 1233 = .ok (.aload_n 0, 1) := by decide +kernel
theorem dL_law_1234 : decode cL_law 1234 = .ok (.iload_n 3, 1) := by decide +kernel
theorem dL_law_1235 : decode cL_law 1235 = .ok (.iconst 3, 1) := by decide +kernel
theorem dL_law_1236 : decode cL_law 1236 = .ok (.iadd, 1) := by decide +kernel
theorem dL_law_1237 : decode cL_law 1237 = .ok (.iaload, 1) := by decide +kernel
theorem dL_law_1238 : decode cL_law 1238 = .ok (.i2l, 1) := by decide +kernel
theorem dL_law_1239 : decode cL_law 1239 = .ok (.bipush 32, 2) := by decide +kernel
theorem dL_law_1241 : decode cL_law 1241 = .ok (.lshl, 1) := by decide +kernel
theorem dL_law_1242 : decode cL_law 1242 = .ok (.aload_n 0, 1) := by decide +kernel
theorem dL_law_1243 : decode cL_law 1243 = .ok (.iload_n 3, 1) := by decide +kernel
theorem dL_law_1244 : decode cL_law 1244 = .ok (.iconst 4, 1) := by decide +kernel
theorem dL_law_1245 : decode cL_law 1245 = .ok (.iadd, 1) := by decide +kernel
theorem dL_law_1246 : decode cL_law 1246 = .ok (.iaload, 1) := by decide +kernel
theorem dL_law_1247 : decode cL_law 1247 = .ok (.i2l, 1) := by decide +kernel
theorem dL_law_1248 : decode cL_law 1248 = .ok (.ldc2_w 138, 3) := by decide +kernel
theorem dL_law_1251 : decode cL_law 1251 = .ok (.land, 1) := by decide +kernel
theorem dL_law_1252 : decode cL_law 1252 = .ok (.lor, 1) := by decide +kernel
theorem dL_law_1253 : decode cL_law 1253 = .ok (.invokevirtual 144, 3) := by decide +kernel
theorem dL_law_1256 : decode cL_law 1256 = .ok (.if_icmp .eq 158, 3) := by decide +kernel
theorem dL_law_1259 : decode cL_law 1259 = .ok (.iconst 0, 1) := by decide +kernel
theorem dL_law_1260 : decode cL_law 1260 = .ok (.ireturn, 1) := by decide +kernel
theorem dL_law_1261 : decode cL_law 1261 = .ok (.aload_n 1, 1) := by decide +kernel
theorem dL_law_1262 : decode cL_law 1262 = .ok (.aload_n 0, 1) := by decide +kernel
theorem dL_law_1263 : decode cL_law 1263 = .ok (.iload_n 3, 1) := by decide +kernel
theorem dL_law_1264 : decode cL_law 1264 = .ok (.iconst 1, 1) := by decide +kernel
theorem dL_law_1265 : decode cL_law 1265 = .ok (.iadd, 1) := by decide +kernel
theorem dL_law_1266 : decode cL_law 1266 = .ok (.iaload, 1) := by decide +kernel
theorem dL_law_1267 : decode cL_law 1267 = .ok (.aload_n 0, 1) := by decide +kernel
theorem dL_law_1268 : decode cL_law 1268 = .ok (.iload_n 3, 1) := by decide +kernel
theorem dL_law_1269 : decode cL_law 1269 = .ok (.iconst 2, 1) := by decide +kernel
theorem dL_law_1270 : decode cL_law 1270 = .ok (.iadd, 1) := by decide +kernel
theorem dL_law_1271 : decode cL_law 1271 = .ok (.iaload, 1) := by decide +kernel
theorem dL_law_1272 : decode cL_law 1272 = .ok (.invokevirtual 145, 3) := by decide +kernel
theorem dL_law_1275 : decode cL_law 1275 = .ok (.aload_n 2, 1) := by decide +kernel
theorem dL_law_1276 : decode cL_law 1276 = .ok (.aload_n 0, 1) := by decide +kernel
theorem dL_law_1277 : decode cL_law 1277 = .ok (.iload_n 3, 1) := by decide +kernel
theorem dL_law_1278 : decode cL_law 1278 = .ok (.iconst 1, 1) := by decide +kernel
theorem dL_law_1279 : decode cL_law 1279 = .ok (.iadd, 1) := by decide +kernel
theorem dL_law_1280 : decode cL_law 1280 = .ok (.iaload, 1) := by decide +kernel
theorem dL_law_1281 : decode cL_law 1281 = .ok (.aload_n 0, 1) := by decide +kernel
theorem dL_law_1282 : decode cL_law 1282 = .ok (.iload_n 3, 1) := by decide +kernel
theorem dL_law_1283 : decode cL_law 1283 = .ok (.iconst 2, 1) := by decide +kernel
theorem dL_law_1284 : decode cL_law 1284 = .ok (.iadd, 1) := by decide +kernel
theorem dL_law_1285 : decode cL_law 1285 = .ok (.iaload, 1) := by decide +kernel
theorem dL_law_1286 : decode cL_law 1286 = .ok (.invokevirtual 149, 3) := by decide +kernel
theorem dL_law_1289 : decode cL_law 1289 = .ok (.lcmp, 1) := by decide +kernel
theorem dL_law_1290 : decode cL_law 1290 = .ok (.ifCond .eq 124, 3) := by decide +kernel
theorem dL_law_1293 : decode cL_law 1293 = .ok (.iconst 0, 1) := by decide +kernel
theorem dL_law_1294 : decode cL_law 1294 = .ok (.ireturn, 1) := by decide +kernel
theorem dL_law_1295 : decode cL_law 1295 = .ok (.aload_n 1, 1) := by decide +kernel
theorem dL_law_1296 : decode cL_law 1296 = .ok (.aload_n 0, 1) := by decide +kernel
theorem dL_law_1297 : decode cL_law 1297 = .ok (.iload_n 3, 1) := by decide +kernel
theorem dL_law_1298 : decode cL_law 1298 = .ok (.iconst 1, 1) := by decide +kernel
theorem dL_law_1299 : decode cL_law 1299 = .ok (.iadd, 1) := by decide +kernel
theorem dL_law_1300 : decode cL_law 1300 = .ok (.iaload, 1) := by decide +kernel
theorem dL_law_1301 : decode cL_law 1301 = .ok (.aload_n 0, 1) := by decide +kernel
theorem dL_law_1302 : decode cL_law 1302 = .ok (.iload_n 3, 1) := by decide +kernel
theorem dL_law_1303 : decode cL_law 1303 = .ok (.iconst 2, 1) := by decide +kernel
theorem dL_law_1304 : decode cL_law 1304 = .ok (.iadd, 1) := by decide +kernel
theorem dL_law_1305 : decode cL_law 1305 = .ok (.iaload, 1) := by decide +kernel
theorem dL_law_1306 : decode cL_law 1306 = .ok (.aload_n 0, 1) := by decide +kernel
theorem dL_law_1307 : decode cL_law 1307 = .ok (.iload_n 3, 1) := by decide +kernel
theorem dL_law_1308 : decode cL_law 1308 = .ok (.iconst 3, 1) := by decide +kernel
theorem dL_law_1309 : decode cL_law 1309 = .ok (.iadd, 1) := by decide +kernel
theorem dL_law_1310 : decode cL_law 1310 = .ok (.iaload, 1) := by decide +kernel
theorem dL_law_1311 : decode cL_law 1311 = .ok (.aload_n 0, 1) := by decide +kernel
theorem dL_law_1312 : decode cL_law 1312 = .ok (.iload_n 3, 1) := by decide +kernel
theorem dL_law_1313 : decode cL_law 1313 = .ok (.iconst 4, 1) := by decide +kernel
theorem dL_law_1314 : decode cL_law 1314 = .ok (.iadd, 1) := by decide +kernel
theorem dL_law_1315 : decode cL_law 1315 = .ok (.iaload, 1) := by decide +kernel
theorem dL_law_1316 : decode cL_law 1316 = .ok (.aload_n 0, 1) := by decide +kernel
theorem dL_law_1317 : decode cL_law 1317 = .ok (.iload_n 3, 1) := by decide +kernel
theorem dL_law_1318 : decode cL_law 1318 = .ok (.iconst 5, 1) := by decide +kernel
theorem dL_law_1319 : decode cL_law 1319 = .ok (.iadd, 1) := by decide +kernel
theorem dL_law_1320 : decode cL_law 1320 = .ok (.iaload, 1) := by decide +kernel
theorem dL_law_1321 : decode cL_law 1321 = .ok (.invokevirtual 150, 3) := by decide +kernel
theorem dL_law_1324 : decode cL_law 1324 = .ok (.aload_n 2, 1) := by decide +kernel
theorem dL_law_1325 : decode cL_law 1325 = .ok (.aload_n 0, 1) := by decide +kernel
theorem dL_law_1326 : decode cL_law 1326 = .ok (.iload_n 3, 1) := by decide +kernel
theorem dL_law_1327 : decode cL_law 1327 = .ok (.iconst 1, 1) := by decide +kernel
theorem dL_law_1328 : decode cL_law 1328 = .ok (.iadd, 1) := by decide +kernel
theorem dL_law_1329 : decode cL_law 1329 = .ok (.iaload, 1) := by decide +kernel
theorem dL_law_1330 : decode cL_law 1330 = .ok (.aload_n 0, 1) := by decide +kernel
theorem dL_law_1331 : decode cL_law 1331 = .ok (.iload_n 3, 1) := by decide +kernel
theorem dL_law_1332 : decode cL_law 1332 = .ok (.iconst 2, 1) := by decide +kernel
theorem dL_law_1333 : decode cL_law 1333 = .ok (.iadd, 1) := by decide +kernel
theorem dL_law_1334 : decode cL_law 1334 = .ok (.iaload, 1) := by decide +kernel
theorem dL_law_1335 : decode cL_law 1335 = .ok (.aload_n 0, 1) := by decide +kernel
theorem dL_law_1336 : decode cL_law 1336 = .ok (.iload_n 3, 1) := by decide +kernel
theorem dL_law_1337 : decode cL_law 1337 = .ok (.iconst 3, 1) := by decide +kernel
theorem dL_law_1338 : decode cL_law 1338 = .ok (.iadd, 1) := by decide +kernel
theorem dL_law_1339 : decode cL_law 1339 = .ok (.iaload, 1) := by decide +kernel
theorem dL_law_1340 : decode cL_law 1340 = .ok (.aload_n 0, 1) := by decide +kernel
theorem dL_law_1341 : decode cL_law 1341 = .ok (.iload_n 3, 1) := by decide +kernel
theorem dL_law_1342 : decode cL_law 1342 = .ok (.iconst 4, 1) := by decide +kernel
theorem dL_law_1343 : decode cL_law 1343 = .ok (.iadd, 1) := by decide +kernel
theorem dL_law_1344 : decode cL_law 1344 = .ok (.iaload, 1) := by decide +kernel
theorem dL_law_1345 : decode cL_law 1345 = .ok (.aload_n 0, 1) := by decide +kernel
theorem dL_law_1346 : decode cL_law 1346 = .ok (.iload_n 3, 1) := by decide +kernel
theorem dL_law_1347 : decode cL_law 1347 = .ok (.iconst 5, 1) := by decide +kernel
theorem dL_law_1348 : decode cL_law 1348 = .ok (.iadd, 1) := by decide +kernel
theorem dL_law_1349 : decode cL_law 1349 = .ok (.iaload, 1) := by decide +kernel
theorem dL_law_1350 : decode cL_law 1350 = .ok (.invokevirtual 154, 3) := by decide +kernel
theorem dL_law_1353 : decode cL_law 1353 = .ok (.if_icmp .eq 61, 3) := by decide +kernel
theorem dL_law_1356 : decode cL_law 1356 = .ok (.iconst 0, 1) := by decide +kernel
theorem dL_law_1357 : decode cL_law 1357 = .ok (.ireturn, 1) := by decide +kernel
theorem dL_law_1358 : decode cL_law 1358 = .ok (.aload_n 1, 1) := by decide +kernel
theorem dL_law_1359 : decode cL_law 1359 = .ok (.aload_n 0, 1) := by decide +kernel
theorem dL_law_1360 : decode cL_law 1360 = .ok (.iload_n 3, 1) := by decide +kernel
theorem dL_law_1361 : decode cL_law 1361 = .ok (.iconst 1, 1) := by decide +kernel
theorem dL_law_1362 : decode cL_law 1362 = .ok (.iadd, 1) := by decide +kernel
theorem dL_law_1363 : decode cL_law 1363 = .ok (.iaload, 1) := by decide +kernel
theorem dL_law_1364 : decode cL_law 1364 = .ok (.aload_n 0, 1) := by decide +kernel
theorem dL_law_1365 : decode cL_law 1365 = .ok (.iload_n 3, 1) := by decide +kernel
theorem dL_law_1366 : decode cL_law 1366 = .ok (.iconst 2, 1) := by decide +kernel
theorem dL_law_1367 : decode cL_law 1367 = .ok (.iadd, 1) := by decide +kernel
theorem dL_law_1368 : decode cL_law 1368 = .ok (.iaload, 1) := by decide +kernel
theorem dL_law_1369 : decode cL_law 1369 = .ok (.invokevirtual 155, 3) := by decide +kernel
theorem dL_law_1372 : decode cL_law 1372 = .ok (.aload_n 2, 1) := by decide +kernel
theorem dL_law_1373 : decode cL_law 1373 = .ok (.aload_n 0, 1) := by decide +kernel
theorem dL_law_1374 : decode cL_law 1374 = .ok (.iload_n 3, 1) := by decide +kernel
theorem dL_law_1375 : decode cL_law 1375 = .ok (.iconst 1, 1) := by decide +kernel
theorem dL_law_1376 : decode cL_law 1376 = .ok (.iadd, 1) := by decide +kernel
theorem dL_law_1377 : decode cL_law 1377 = .ok (.iaload, 1) := by decide +kernel
theorem dL_law_1378 : decode cL_law 1378 = .ok (.aload_n 0, 1) := by decide +kernel
theorem dL_law_1379 : decode cL_law 1379 = .ok (.iload_n 3, 1) := by decide +kernel
theorem dL_law_1380 : decode cL_law 1380 = .ok (.iconst 2, 1) := by decide +kernel
theorem dL_law_1381 : decode cL_law 1381 = .ok (.iadd, 1) := by decide +kernel
theorem dL_law_1382 : decode cL_law 1382 = .ok (.iaload, 1) := by decide +kernel
theorem dL_law_1383 : decode cL_law 1383 = .ok (.invokevirtual 158, 3) := by decide +kernel
theorem dL_law_1386 : decode cL_law 1386 = .ok (.if_icmp .eq 28, 3) := by decide +kernel
theorem dL_law_1389 : decode cL_law 1389 = .ok (.iconst 0, 1) := by decide +kernel
theorem dL_law_1390 : decode cL_law 1390 = .ok (.ireturn, 1) := by decide +kernel
theorem dL_law_1391 : decode cL_law 1391 = .ok (.aload_n 1, 1) := by decide +kernel
theorem dL_law_1392 : decode cL_law 1392 = .ok (.aload_n 0, 1) := by decide +kernel
theorem dL_law_1393 : decode cL_law 1393 = .ok (.iload_n 3, 1) := by decide +kernel
theorem dL_law_1394 : decode cL_law 1394 = .ok (.iconst 1, 1) := by decide +kernel
theorem dL_law_1395 : decode cL_law 1395 = .ok (.iadd, 1) := by decide +kernel
theorem dL_law_1396 : decode cL_law 1396 = .ok (.iaload, 1) := by decide +kernel
theorem dL_law_1397 : decode cL_law 1397 = .ok (.invokevirtual 159, 3) := by decide +kernel
theorem dL_law_1400 : decode cL_law 1400 = .ok (.aload_n 2, 1) := by decide +kernel
theorem dL_law_1401 : decode cL_law 1401 = .ok (.aload_n 0, 1) := by decide +kernel
theorem dL_law_1402 : decode cL_law 1402 = .ok (.iload_n 3, 1) := by decide +kernel
theorem dL_law_1403 : decode cL_law 1403 = .ok (.iconst 1, 1) := by decide +kernel
theorem dL_law_1404 : decode cL_law 1404 = .ok (.iadd, 1) := by decide +kernel
theorem dL_law_1405 : decode cL_law 1405 = .ok (.iaload, 1) := by decide +kernel
theorem dL_law_1406 : decode cL_law 1406 = .ok (.invokevirtual 162, 3) := by decide +kernel
theorem dL_law_1409 : decode cL_law 1409 = .ok (.if_icmp .eq 5, 3) := by decide +kernel
theorem dL_law_1412 : decode cL_law 1412 = .ok (.iconst 0, 1) := by decide +kernel
theorem dL_law_1413 : decode cL_law 1413 = .ok (.ireturn, 1) := by decide +kernel
theorem dL_law_1414 : decode cL_law 1414 = .ok (.iinc 3 6, 3) := by decide +kernel
theorem dL_law_1417 : decode cL_law 1417 = .ok (.goto (-1399), 3) := by decide +kernel
theorem dL_law_1420 : decode cL_law 1420 = .ok (.iconst 1, 1) := by decide +kernel
theorem dL_law_1421 : decode cL_law 1421 = .ok (.ireturn, 1) := by decide +kernel
abbrev lvI (G : Gm) (b v : Nat) : List (Nat × Value) := [(3, .int (zI v)), (2, .ref (G.2.2.2 + 146)), (1, .ref (G.2.2.2 + 0)), (0, .ref b)]
set_option maxRecDepth 100000 in
theorem llL_13 : Cond.methodLink R_law 13 yX11_language ∈ TT := in2 126 (by rfl) rfl
set_option maxRecDepth 100000 in
theorem llL_17 : Cond.methodLink R_law 17 yX12_language ∈ TT := in6 161 (by rfl) rfl
theorem lk_language {G : Gm} {p : Program} {e : Env} {s : State} {m : MethodId} {below : List Frame} {meth : Method} {c : Code} {b L k n v t K : Nat} {xs : Nat → Int32} {S : St} (hx : Lx G p s m meth c b L xs) (hv : v + 6 ≤ L) (hL3 : L ≤ 3072) (hQ : QA S K) (hK : K + 1000000 < 2147483648) (hk : k + 10 ≤ 600000) (hn : n + 10 ≤ 7302250) (back : ∀ k2 n2 t2 S2 K2, QA S2 K2 → K ≤ K2 → K2 ≤ K + 600000 → k2 ≤ k + 1 → n2 ≤ n + 3 → LW G p e s m below meth c b k2 n2 (MM t2 S2) (lvI G b v) 1414 []) : LW G p e s m below meth c b k n (MM t S) (lvI G b v) 188 [] := by
  obtain ⟨r, S1, S2, K2, a, b2, q, k1, k2⟩ := q_language (N := 100000) (Nat.le_refl _) hQ hK (xs (v + 1))
  refine L_aload (j := 2) hx dL_law_188 rfl rfl ?_
  refine L_arg (d := 1) hx rfl hv hL3 (by omega) dL_law_189 dL_law_190 dL_law_191 dL_law_192 dL_law_193 ?_
  refine L_call (u := (r, S1)) (v := vI r) (M2 := MM t S1) [vI (xs (v + 1))] hx mcX11_language llL_13 rfl (by decide) (sq 0 rfl) (ct11_language G t 100000 (xs (v + 1)) S) a rfl rfl rfl (Nat.le_of_ble_eq_true rfl) (by omega) (Nat.le_of_ble_eq_true rfl) (by omega) (by omega) dL_law_194 ?_
  refine L_aload (j := 1) hx dL_law_197 rfl rfl ?_
  refine L_arg (d := 1) hx rfl hv hL3 (by omega) dL_law_198 dL_law_199 dL_law_200 dL_law_201 dL_law_202 ?_
  refine L_call (u := (r, S2)) (v := vI r) (M2 := MM t S2) [vI (xs (v + 1))] hx mcX12_language llL_17 rfl (by decide) (sq 146 rfl) (ct12_language G t 100000 (xs (v + 1)) S1) b2 rfl rfl rfl (Nat.le_of_ble_eq_true rfl) (by omega) (Nat.le_of_ble_eq_true rfl) (by omega) (by omega) dL_law_203 ?_
  refine L_eq (tgt := 1414) hx dL_law_206 (by decide) ?_
  exact back _ _ _ S2 K2 q k1 k2 (by omega) (by omega)
set_option maxRecDepth 100000 in
theorem llL_18 : Cond.methodLink R_law 18 yX11_of ∈ TT := in2 164 (by rfl) rfl
set_option maxRecDepth 100000 in
theorem llL_22 : Cond.methodLink R_law 22 yX12_of ∈ TT := in6 177 (by rfl) rfl
theorem lk_of {G : Gm} {p : Program} {e : Env} {s : State} {m : MethodId} {below : List Frame} {meth : Method} {c : Code} {b L k n v t K : Nat} {xs : Nat → Int32} {S : St} (hx : Lx G p s m meth c b L xs) (hv : v + 6 ≤ L) (hL3 : L ≤ 3072) (hQ : QA S K) (hK : K + 1000000 < 2147483648) (hk : k + 10 ≤ 600000) (hn : n + 10 ≤ 7302250) (back : ∀ k2 n2 t2 S2 K2, QA S2 K2 → K ≤ K2 → K2 ≤ K + 600000 → k2 ≤ k + 1 → n2 ≤ n + 3 → LW G p e s m below meth c b k2 n2 (MM t2 S2) (lvI G b v) 1414 []) : LW G p e s m below meth c b k n (MM t S) (lvI G b v) 211 [] := by
  obtain ⟨r, S1, S2, K2, a, b2, q, k1, k2⟩ := q_of (N := 100000) (Nat.le_refl _) hQ hK (xs (v + 1)) (xs (v + 2))
  refine L_aload (j := 2) hx dL_law_211 rfl rfl ?_
  refine L_arg (d := 1) hx rfl hv hL3 (by omega) dL_law_212 dL_law_213 dL_law_214 dL_law_215 dL_law_216 ?_
  refine L_arg (d := 2) hx rfl hv hL3 (by omega) dL_law_217 dL_law_218 dL_law_219 dL_law_220 dL_law_221 ?_
  refine L_call (u := (r, S1)) (v := vI r) (M2 := MM t S1) [vI (xs (v + 1)), vI (xs (v + 2))] hx mcX11_of llL_18 rfl (by decide) (sq 0 rfl) (ct11_of G t 100000 (xs (v + 1)) (xs (v + 2)) S) a rfl rfl rfl (Nat.le_of_ble_eq_true rfl) (by omega) (Nat.le_of_ble_eq_true rfl) (by omega) (by omega) dL_law_222 ?_
  refine L_aload (j := 1) hx dL_law_225 rfl rfl ?_
  refine L_arg (d := 1) hx rfl hv hL3 (by omega) dL_law_226 dL_law_227 dL_law_228 dL_law_229 dL_law_230 ?_
  refine L_arg (d := 2) hx rfl hv hL3 (by omega) dL_law_231 dL_law_232 dL_law_233 dL_law_234 dL_law_235 ?_
  refine L_call (u := (r, S2)) (v := vI r) (M2 := MM t S2) [vI (xs (v + 1)), vI (xs (v + 2))] hx mcX12_of llL_22 rfl (by decide) (sq 146 rfl) (ct12_of G t 100000 (xs (v + 1)) (xs (v + 2)) S1) b2 rfl rfl rfl (Nat.le_of_ble_eq_true rfl) (by omega) (Nat.le_of_ble_eq_true rfl) (by omega) (by omega) dL_law_236 ?_
  refine L_eq (tgt := 1414) hx dL_law_239 (by decide) ?_
  exact back _ _ _ S2 K2 q k1 k2 (by omega) (by omega)
set_option maxRecDepth 100000 in
theorem llL_23 : Cond.methodLink R_law 23 yX11_part ∈ TT := in2 189 (by rfl) rfl
set_option maxRecDepth 100000 in
theorem llL_27 : Cond.methodLink R_law 27 yX12_part ∈ TT := in6 193 (by rfl) rfl
theorem lk_part {G : Gm} {p : Program} {e : Env} {s : State} {m : MethodId} {below : List Frame} {meth : Method} {c : Code} {b L k n v t K : Nat} {xs : Nat → Int32} {S : St} (hx : Lx G p s m meth c b L xs) (hv : v + 6 ≤ L) (hL3 : L ≤ 3072) (hQ : QA S K) (hK : K + 1000000 < 2147483648) (hk : k + 10 ≤ 600000) (hn : n + 10 ≤ 7302250) (back : ∀ k2 n2 t2 S2 K2, QA S2 K2 → K ≤ K2 → K2 ≤ K + 600000 → k2 ≤ k + 1 → n2 ≤ n + 3 → LW G p e s m below meth c b k2 n2 (MM t2 S2) (lvI G b v) 1414 []) : LW G p e s m below meth c b k n (MM t S) (lvI G b v) 244 [] := by
  obtain ⟨r, S1, S2, K2, a, b2, q, k1, k2⟩ := q_part (N := 100000) (Nat.le_refl _) hQ hK (xs (v + 1)) (xs (v + 2)) (xs (v + 3))
  refine L_aload (j := 2) hx dL_law_244 rfl rfl ?_
  refine L_arg (d := 1) hx rfl hv hL3 (by omega) dL_law_245 dL_law_246 dL_law_247 dL_law_248 dL_law_249 ?_
  refine L_arg (d := 2) hx rfl hv hL3 (by omega) dL_law_250 dL_law_251 dL_law_252 dL_law_253 dL_law_254 ?_
  refine L_arg (d := 3) hx rfl hv hL3 (by omega) dL_law_255 dL_law_256 dL_law_257 dL_law_258 dL_law_259 ?_
  refine L_call (u := (r, S1)) (v := vI r) (M2 := MM t S1) [vI (xs (v + 1)), vI (xs (v + 2)), vI (xs (v + 3))] hx mcX11_part llL_23 rfl (by decide) (sq 0 rfl) (ct11_part G t (xs (v + 1)) (xs (v + 2)) (xs (v + 3)) S) a rfl rfl rfl (Nat.le_of_ble_eq_true rfl) (by omega) (Nat.le_of_ble_eq_true rfl) (by omega) (by omega) dL_law_260 ?_
  refine L_aload (j := 1) hx dL_law_263 rfl rfl ?_
  refine L_arg (d := 1) hx rfl hv hL3 (by omega) dL_law_264 dL_law_265 dL_law_266 dL_law_267 dL_law_268 ?_
  refine L_arg (d := 2) hx rfl hv hL3 (by omega) dL_law_269 dL_law_270 dL_law_271 dL_law_272 dL_law_273 ?_
  refine L_arg (d := 3) hx rfl hv hL3 (by omega) dL_law_274 dL_law_275 dL_law_276 dL_law_277 dL_law_278 ?_
  refine L_call (u := (r, S2)) (v := vI r) (M2 := MM t S2) [vI (xs (v + 1)), vI (xs (v + 2)), vI (xs (v + 3))] hx mcX12_part llL_27 rfl (by decide) (sq 146 rfl) (ct12_part G t (xs (v + 1)) (xs (v + 2)) (xs (v + 3)) S1) b2 rfl rfl rfl (Nat.le_of_ble_eq_true rfl) (by omega) (Nat.le_of_ble_eq_true rfl) (by omega) (by omega) dL_law_279 ?_
  refine L_eq (tgt := 1414) hx dL_law_282 (by decide) ?_
  exact back _ _ _ S2 K2 q k1 k2 (by omega) (by omega)
set_option maxRecDepth 100000 in
theorem llL_28 : Cond.methodLink R_law 28 yX11_clear ∈ TT := in2 201 (by rfl) rfl
set_option maxRecDepth 100000 in
theorem llL_32 : Cond.methodLink R_law 32 yX12_clear ∈ TT := in6 197 (by rfl) rfl
theorem lk_clear {G : Gm} {p : Program} {e : Env} {s : State} {m : MethodId} {below : List Frame} {meth : Method} {c : Code} {b L k n v t K : Nat} {xs : Nat → Int32} {S : St} (hx : Lx G p s m meth c b L xs) (hv : v + 6 ≤ L) (hL3 : L ≤ 3072) (hQ : QA S K) (hK : K + 1000000 < 2147483648) (hk : k + 10 ≤ 600000) (hn : n + 10 ≤ 7302250) (back : ∀ k2 n2 t2 S2 K2, QA S2 K2 → K ≤ K2 → K2 ≤ K + 600000 → k2 ≤ k + 1 → n2 ≤ n + 3 → LW G p e s m below meth c b k2 n2 (MM t2 S2) (lvI G b v) 1414 []) : LW G p e s m below meth c b k n (MM t S) (lvI G b v) 287 [] := by
  obtain ⟨r, S1, S2, K2, a, b2, q, k1, k2⟩ := q_clear (N := 100000) (Nat.le_refl _) hQ hK 
  refine L_aload (j := 2) hx dL_law_287 rfl rfl ?_
  refine L_call (u := (r, S1)) (v := vI r) (M2 := MM t S1) [] hx mcX11_clear llL_28 rfl (by decide) (sq 0 rfl) (ct11_clear G t S) a rfl rfl rfl (Nat.le_of_ble_eq_true rfl) (by omega) (Nat.le_of_ble_eq_true rfl) (by omega) (by omega) dL_law_288 ?_
  refine L_aload (j := 1) hx dL_law_291 rfl rfl ?_
  refine L_call (u := (r, S2)) (v := vI r) (M2 := MM t S2) [] hx mcX12_clear llL_32 rfl (by decide) (sq 146 rfl) (ct12_clear G t S1) b2 rfl rfl rfl (Nat.le_of_ble_eq_true rfl) (by omega) (Nat.le_of_ble_eq_true rfl) (by omega) (by omega) dL_law_292 ?_
  refine L_eq (tgt := 1414) hx dL_law_295 (by decide) ?_
  exact back _ _ _ S2 K2 q k1 k2 (by omega) (by omega)
set_option maxRecDepth 100000 in
theorem llL_33 : Cond.methodLink R_law 33 yX11_add ∈ TT := in2 213 (by rfl) rfl
set_option maxRecDepth 100000 in
theorem llL_36 : Cond.methodLink R_law 36 yX12_add ∈ TT := in6 201 (by rfl) rfl
theorem lk_add {G : Gm} {p : Program} {e : Env} {s : State} {m : MethodId} {below : List Frame} {meth : Method} {c : Code} {b L k n v t K : Nat} {xs : Nat → Int32} {S : St} (hx : Lx G p s m meth c b L xs) (hv : v + 6 ≤ L) (hL3 : L ≤ 3072) (hQ : QA S K) (hK : K + 1000000 < 2147483648) (hk : k + 10 ≤ 600000) (hn : n + 10 ≤ 7302250) (back : ∀ k2 n2 t2 S2 K2, QA S2 K2 → K ≤ K2 → K2 ≤ K + 600000 → k2 ≤ k + 1 → n2 ≤ n + 3 → LW G p e s m below meth c b k2 n2 (MM t2 S2) (lvI G b v) 1414 []) : LW G p e s m below meth c b k n (MM t S) (lvI G b v) 300 [] := by
  obtain ⟨r, S1, S2, K2, a, b2, q, k1, k2⟩ := q_add (N := 100000) (Nat.le_refl _) hQ hK (xs (v + 1))
  refine L_aload (j := 2) hx dL_law_300 rfl rfl ?_
  refine L_arg (d := 1) hx rfl hv hL3 (by omega) dL_law_301 dL_law_302 dL_law_303 dL_law_304 dL_law_305 ?_
  refine L_call (u := (r, S1)) (v := vI r) (M2 := MM t S1) [vI (xs (v + 1))] hx mcX11_add llL_33 rfl (by decide) (sq 0 rfl) (ct11_add G t (xs (v + 1)) S) a rfl rfl rfl (Nat.le_of_ble_eq_true rfl) (by omega) (Nat.le_of_ble_eq_true rfl) (by omega) (by omega) dL_law_306 ?_
  refine L_aload (j := 1) hx dL_law_309 rfl rfl ?_
  refine L_arg (d := 1) hx rfl hv hL3 (by omega) dL_law_310 dL_law_311 dL_law_312 dL_law_313 dL_law_314 ?_
  refine L_call (u := (r, S2)) (v := vI r) (M2 := MM t S2) [vI (xs (v + 1))] hx mcX12_add llL_36 rfl (by decide) (sq 146 rfl) (ct12_add G t (xs (v + 1)) S1) b2 rfl rfl rfl (Nat.le_of_ble_eq_true rfl) (by omega) (Nat.le_of_ble_eq_true rfl) (by omega) (by omega) dL_law_315 ?_
  refine L_eq (tgt := 1414) hx dL_law_318 (by decide) ?_
  exact back _ _ _ S2 K2 q k1 k2 (by omega) (by omega)
set_option maxRecDepth 100000 in
theorem llL_37 : Cond.methodLink R_law 37 yX11_order ∈ TT := in2 229 (by rfl) rfl
set_option maxRecDepth 100000 in
theorem llL_40 : Cond.methodLink R_law 40 yX12_order ∈ TT := in6 206 (by rfl) rfl
theorem lk_order {G : Gm} {p : Program} {e : Env} {s : State} {m : MethodId} {below : List Frame} {meth : Method} {c : Code} {b L k n v t K : Nat} {xs : Nat → Int32} {S : St} (hx : Lx G p s m meth c b L xs) (hv : v + 6 ≤ L) (hL3 : L ≤ 3072) (hQ : QA S K) (hK : K + 1000000 < 2147483648) (hk : k + 10 ≤ 600000) (hn : n + 10 ≤ 7302250) (back : ∀ k2 n2 t2 S2 K2, QA S2 K2 → K ≤ K2 → K2 ≤ K + 600000 → k2 ≤ k + 1 → n2 ≤ n + 3 → LW G p e s m below meth c b k2 n2 (MM t2 S2) (lvI G b v) 1414 []) : LW G p e s m below meth c b k n (MM t S) (lvI G b v) 323 [] := by
  obtain ⟨r, S1, S2, K2, a, b2, q, k1, k2⟩ := q_order (N := 100000) (Nat.le_refl _) hQ hK (xs (v + 1))
  refine L_aload (j := 2) hx dL_law_323 rfl rfl ?_
  refine L_arg (d := 1) hx rfl hv hL3 (by omega) dL_law_324 dL_law_325 dL_law_326 dL_law_327 dL_law_328 ?_
  refine L_call (u := (r, S1)) (v := vI r) (M2 := MM t S1) [vI (xs (v + 1))] hx mcX11_order llL_37 rfl (by decide) (sq 0 rfl) (ct11_order G t (xs (v + 1)) S) a rfl rfl rfl (Nat.le_of_ble_eq_true rfl) (by omega) (Nat.le_of_ble_eq_true rfl) (by omega) (by omega) dL_law_329 ?_
  refine L_aload (j := 1) hx dL_law_332 rfl rfl ?_
  refine L_arg (d := 1) hx rfl hv hL3 (by omega) dL_law_333 dL_law_334 dL_law_335 dL_law_336 dL_law_337 ?_
  refine L_call (u := (r, S2)) (v := vI r) (M2 := MM t S2) [vI (xs (v + 1))] hx mcX12_order llL_40 rfl (by decide) (sq 146 rfl) (ct12_order G t (xs (v + 1)) S1) b2 rfl rfl rfl (Nat.le_of_ble_eq_true rfl) (by omega) (Nat.le_of_ble_eq_true rfl) (by omega) (by omega) dL_law_338 ?_
  refine L_eq (tgt := 1414) hx dL_law_341 (by decide) ?_
  exact back _ _ _ S2 K2 q k1 k2 (by omega) (by omega)
set_option maxRecDepth 100000 in
theorem llL_41 : Cond.methodLink R_law 41 yX11_size ∈ TT := in2 234 (by rfl) rfl
set_option maxRecDepth 100000 in
theorem llL_44 : Cond.methodLink R_law 44 yX12_size ∈ TT := in6 210 (by rfl) rfl
theorem lk_size {G : Gm} {p : Program} {e : Env} {s : State} {m : MethodId} {below : List Frame} {meth : Method} {c : Code} {b L k n v t K : Nat} {xs : Nat → Int32} {S : St} (hx : Lx G p s m meth c b L xs) (hv : v + 6 ≤ L) (hL3 : L ≤ 3072) (hQ : QA S K) (hK : K + 1000000 < 2147483648) (hk : k + 10 ≤ 600000) (hn : n + 10 ≤ 7302250) (back : ∀ k2 n2 t2 S2 K2, QA S2 K2 → K ≤ K2 → K2 ≤ K + 600000 → k2 ≤ k + 1 → n2 ≤ n + 3 → LW G p e s m below meth c b k2 n2 (MM t2 S2) (lvI G b v) 1414 []) : LW G p e s m below meth c b k n (MM t S) (lvI G b v) 346 [] := by
  obtain ⟨r, S1, S2, K2, a, b2, q, k1, k2⟩ := q_size (N := 100000) (Nat.le_refl _) hQ hK (xs (v + 1))
  refine L_aload (j := 2) hx dL_law_346 rfl rfl ?_
  refine L_arg (d := 1) hx rfl hv hL3 (by omega) dL_law_347 dL_law_348 dL_law_349 dL_law_350 dL_law_351 ?_
  refine L_call (u := (r, S1)) (v := vI r) (M2 := MM t S1) [vI (xs (v + 1))] hx mcX11_size llL_41 rfl (by decide) (sq 0 rfl) (ct11_size G t 100000 (xs (v + 1)) S) a rfl rfl rfl (Nat.le_of_ble_eq_true rfl) (by omega) (Nat.le_of_ble_eq_true rfl) (by omega) (by omega) dL_law_352 ?_
  refine L_aload (j := 1) hx dL_law_355 rfl rfl ?_
  refine L_arg (d := 1) hx rfl hv hL3 (by omega) dL_law_356 dL_law_357 dL_law_358 dL_law_359 dL_law_360 ?_
  refine L_call (u := (r, S2)) (v := vI r) (M2 := MM t S2) [vI (xs (v + 1))] hx mcX12_size llL_44 rfl (by decide) (sq 146 rfl) (ct12_size G t 100000 (xs (v + 1)) S1) b2 rfl rfl rfl (Nat.le_of_ble_eq_true rfl) (by omega) (Nat.le_of_ble_eq_true rfl) (by omega) (by omega) dL_law_361 ?_
  refine L_eq (tgt := 1414) hx dL_law_364 (by decide) ?_
  exact back _ _ _ S2 K2 q k1 k2 (by omega) (by omega)
set_option maxRecDepth 100000 in
theorem llL_45 : Cond.methodLink R_law 45 yX11_read ∈ TT := in3 6 (by rfl) rfl
set_option maxRecDepth 100000 in
theorem llL_48 : Cond.methodLink R_law 48 yX12_read ∈ TT := in8 4 (by rfl) rfl
theorem lk_read {G : Gm} {p : Program} {e : Env} {s : State} {m : MethodId} {below : List Frame} {meth : Method} {c : Code} {b L k n v t K : Nat} {xs : Nat → Int32} {S : St} (hx : Lx G p s m meth c b L xs) (hv : v + 6 ≤ L) (hL3 : L ≤ 3072) (hQ : QA S K) (hK : K + 1000000 < 2147483648) (hk : k + 10 ≤ 600000) (hn : n + 10 ≤ 7302250) (back : ∀ k2 n2 t2 S2 K2, QA S2 K2 → K ≤ K2 → K2 ≤ K + 600000 → k2 ≤ k + 1 → n2 ≤ n + 3 → LW G p e s m below meth c b k2 n2 (MM t2 S2) (lvI G b v) 1414 []) : LW G p e s m below meth c b k n (MM t S) (lvI G b v) 369 [] := by
  obtain ⟨r, S1, S2, K2, a, b2, q, k1, k2⟩ := q_read (N := 100000) (Nat.le_refl _) hQ hK (xs (v + 1)) (xs (v + 2)) (xs (v + 3))
  refine L_aload (j := 2) hx dL_law_369 rfl rfl ?_
  refine L_arg (d := 1) hx rfl hv hL3 (by omega) dL_law_370 dL_law_371 dL_law_372 dL_law_373 dL_law_374 ?_
  refine L_arg (d := 2) hx rfl hv hL3 (by omega) dL_law_375 dL_law_376 dL_law_377 dL_law_378 dL_law_379 ?_
  refine L_arg (d := 3) hx rfl hv hL3 (by omega) dL_law_380 dL_law_381 dL_law_382 dL_law_383 dL_law_384 ?_
  refine L_call (u := (r, S1)) (v := vI r) (M2 := MM t S1) [vI (xs (v + 1)), vI (xs (v + 2)), vI (xs (v + 3))] hx mcX11_read llL_45 rfl (by decide) (sq 0 rfl) (ct11_read G t 100000 (xs (v + 1)) (xs (v + 2)) (xs (v + 3)) S) a rfl rfl rfl (Nat.le_of_ble_eq_true rfl) (by omega) (Nat.le_of_ble_eq_true rfl) (by omega) (by omega) dL_law_385 ?_
  refine L_aload (j := 1) hx dL_law_388 rfl rfl ?_
  refine L_arg (d := 1) hx rfl hv hL3 (by omega) dL_law_389 dL_law_390 dL_law_391 dL_law_392 dL_law_393 ?_
  refine L_arg (d := 2) hx rfl hv hL3 (by omega) dL_law_394 dL_law_395 dL_law_396 dL_law_397 dL_law_398 ?_
  refine L_arg (d := 3) hx rfl hv hL3 (by omega) dL_law_399 dL_law_400 dL_law_401 dL_law_402 dL_law_403 ?_
  refine L_call (u := (r, S2)) (v := vI r) (M2 := MM t S2) [vI (xs (v + 1)), vI (xs (v + 2)), vI (xs (v + 3))] hx mcX12_read llL_48 rfl (by decide) (sq 146 rfl) (ct12_read G t 100000 (xs (v + 1)) (xs (v + 2)) (xs (v + 3)) S1) b2 rfl rfl rfl (Nat.le_of_ble_eq_true rfl) (by omega) (Nat.le_of_ble_eq_true rfl) (by omega) (by omega) dL_law_404 ?_
  refine L_eq (tgt := 1414) hx dL_law_407 (by decide) ?_
  exact back _ _ _ S2 K2 q k1 k2 (by omega) (by omega)
set_option maxRecDepth 100000 in
theorem llL_49 : Cond.methodLink R_law 49 yX11_run ∈ TT := in3 51 (by rfl) rfl
set_option maxRecDepth 100000 in
theorem llL_52 : Cond.methodLink R_law 52 yX12_run ∈ TT := in6 222 (by rfl) rfl
theorem lk_run {G : Gm} {p : Program} {e : Env} {s : State} {m : MethodId} {below : List Frame} {meth : Method} {c : Code} {b L k n v t K : Nat} {xs : Nat → Int32} {S : St} (hx : Lx G p s m meth c b L xs) (hv : v + 6 ≤ L) (hL3 : L ≤ 3072) (hQ : QA S K) (hK : K + 1000000 < 2147483648) (hk : k + 10 ≤ 600000) (hn : n + 10 ≤ 7302250) (back : ∀ k2 n2 t2 S2 K2, QA S2 K2 → K ≤ K2 → K2 ≤ K + 600000 → k2 ≤ k + 1 → n2 ≤ n + 3 → LW G p e s m below meth c b k2 n2 (MM t2 S2) (lvI G b v) 1414 []) : LW G p e s m below meth c b k n (MM t S) (lvI G b v) 412 [] := by
  obtain ⟨r, S1, S2, K2, a, b2, q, k1, k2⟩ := q_run (N := 100000) (Nat.le_refl _) hQ hK (xs (v + 1)) (xs (v + 2)) (xs (v + 3))
  refine L_aload (j := 2) hx dL_law_412 rfl rfl ?_
  refine L_arg (d := 1) hx rfl hv hL3 (by omega) dL_law_413 dL_law_414 dL_law_415 dL_law_416 dL_law_417 ?_
  refine L_arg (d := 2) hx rfl hv hL3 (by omega) dL_law_418 dL_law_419 dL_law_420 dL_law_421 dL_law_422 ?_
  refine L_arg (d := 3) hx rfl hv hL3 (by omega) dL_law_423 dL_law_424 dL_law_425 dL_law_426 dL_law_427 ?_
  refine L_call (u := (r, S1)) (v := vI r) (M2 := MM t S1) [vI (xs (v + 1)), vI (xs (v + 2)), vI (xs (v + 3))] hx mcX11_run llL_49 rfl (by decide) (sq 0 rfl) (ct11_run G t 100000 (xs (v + 1)) (xs (v + 2)) (xs (v + 3)) S) a rfl rfl rfl (Nat.le_of_ble_eq_true rfl) (by omega) (Nat.le_of_ble_eq_true rfl) (by omega) (by omega) dL_law_428 ?_
  refine L_aload (j := 1) hx dL_law_431 rfl rfl ?_
  refine L_arg (d := 1) hx rfl hv hL3 (by omega) dL_law_432 dL_law_433 dL_law_434 dL_law_435 dL_law_436 ?_
  refine L_arg (d := 2) hx rfl hv hL3 (by omega) dL_law_437 dL_law_438 dL_law_439 dL_law_440 dL_law_441 ?_
  refine L_arg (d := 3) hx rfl hv hL3 (by omega) dL_law_442 dL_law_443 dL_law_444 dL_law_445 dL_law_446 ?_
  refine L_call (u := (r, S2)) (v := vI r) (M2 := MM t S2) [vI (xs (v + 1)), vI (xs (v + 2)), vI (xs (v + 3))] hx mcX12_run llL_52 rfl (by decide) (sq 146 rfl) (ct12_run G t 100000 (xs (v + 1)) (xs (v + 2)) (xs (v + 3)) S1) b2 rfl rfl rfl (Nat.le_of_ble_eq_true rfl) (by omega) (Nat.le_of_ble_eq_true rfl) (by omega) (by omega) dL_law_447 ?_
  refine L_eq (tgt := 1414) hx dL_law_450 (by decide) ?_
  exact back _ _ _ S2 K2 q k1 k2 (by omega) (by omega)
set_option maxRecDepth 100000 in
theorem llL_53 : Cond.methodLink R_law 53 yX11_ran ∈ TT := in3 103 (by rfl) rfl
set_option maxRecDepth 100000 in
theorem llL_56 : Cond.methodLink R_law 56 yX12_ran ∈ TT := in7 12 (by rfl) rfl
theorem lk_ran {G : Gm} {p : Program} {e : Env} {s : State} {m : MethodId} {below : List Frame} {meth : Method} {c : Code} {b L k n v t K : Nat} {xs : Nat → Int32} {S : St} (hx : Lx G p s m meth c b L xs) (hv : v + 6 ≤ L) (hL3 : L ≤ 3072) (hQ : QA S K) (hK : K + 1000000 < 2147483648) (hk : k + 10 ≤ 600000) (hn : n + 10 ≤ 7302250) (back : ∀ k2 n2 t2 S2 K2, QA S2 K2 → K ≤ K2 → K2 ≤ K + 600000 → k2 ≤ k + 1 → n2 ≤ n + 3 → LW G p e s m below meth c b k2 n2 (MM t2 S2) (lvI G b v) 1414 []) : LW G p e s m below meth c b k n (MM t S) (lvI G b v) 455 [] := by
  obtain ⟨r, S1, S2, K2, a, b2, q, k1, k2⟩ := q_ran (N := 100000) (Nat.le_refl _) hQ hK (xs (v + 1))
  refine L_aload (j := 2) hx dL_law_455 rfl rfl ?_
  refine L_arg (d := 1) hx rfl hv hL3 (by omega) dL_law_456 dL_law_457 dL_law_458 dL_law_459 dL_law_460 ?_
  refine L_call (u := (r, S1)) (v := vI r) (M2 := MM t S1) [vI (xs (v + 1))] hx mcX11_ran llL_53 rfl (by decide) (sq 0 rfl) (ct11_ran G t (xs (v + 1)) S) a rfl rfl rfl (Nat.le_of_ble_eq_true rfl) (by omega) (Nat.le_of_ble_eq_true rfl) (by omega) (by omega) dL_law_461 ?_
  refine L_aload (j := 1) hx dL_law_464 rfl rfl ?_
  refine L_arg (d := 1) hx rfl hv hL3 (by omega) dL_law_465 dL_law_466 dL_law_467 dL_law_468 dL_law_469 ?_
  refine L_call (u := (r, S2)) (v := vI r) (M2 := MM t S2) [vI (xs (v + 1))] hx mcX12_ran llL_56 rfl (by decide) (sq 146 rfl) (ct12_ran G t (xs (v + 1)) S1) b2 rfl rfl rfl (Nat.le_of_ble_eq_true rfl) (by omega) (Nat.le_of_ble_eq_true rfl) (by omega) (by omega) dL_law_470 ?_
  refine L_eq (tgt := 1414) hx dL_law_473 (by decide) ?_
  exact back _ _ _ S2 K2 q k1 k2 (by omega) (by omega)
set_option maxRecDepth 100000 in
theorem llL_57 : Cond.methodLink R_law 57 yX11_next ∈ TT := in3 107 (by rfl) rfl
set_option maxRecDepth 100000 in
theorem llL_60 : Cond.methodLink R_law 60 yX12_next ∈ TT := in7 16 (by rfl) rfl
theorem lk_next {G : Gm} {p : Program} {e : Env} {s : State} {m : MethodId} {below : List Frame} {meth : Method} {c : Code} {b L k n v t K : Nat} {xs : Nat → Int32} {S : St} (hx : Lx G p s m meth c b L xs) (hv : v + 6 ≤ L) (hL3 : L ≤ 3072) (hQ : QA S K) (hK : K + 1000000 < 2147483648) (hk : k + 10 ≤ 600000) (hn : n + 10 ≤ 7302250) (back : ∀ k2 n2 t2 S2 K2, QA S2 K2 → K ≤ K2 → K2 ≤ K + 600000 → k2 ≤ k + 1 → n2 ≤ n + 3 → LW G p e s m below meth c b k2 n2 (MM t2 S2) (lvI G b v) 1414 []) : LW G p e s m below meth c b k n (MM t S) (lvI G b v) 478 [] := by
  obtain ⟨r, S1, S2, K2, a, b2, q, k1, k2⟩ := q_next (N := 100000) (Nat.le_refl _) hQ hK (xs (v + 1))
  refine L_aload (j := 2) hx dL_law_478 rfl rfl ?_
  refine L_arg (d := 1) hx rfl hv hL3 (by omega) dL_law_479 dL_law_480 dL_law_481 dL_law_482 dL_law_483 ?_
  refine L_call (u := (r, S1)) (v := vI r) (M2 := MM t S1) [vI (xs (v + 1))] hx mcX11_next llL_57 rfl (by decide) (sq 0 rfl) (ct11_next G t 100000 (xs (v + 1)) S) a rfl rfl rfl (Nat.le_of_ble_eq_true rfl) (by omega) (Nat.le_of_ble_eq_true rfl) (by omega) (by omega) dL_law_484 ?_
  refine L_aload (j := 1) hx dL_law_487 rfl rfl ?_
  refine L_arg (d := 1) hx rfl hv hL3 (by omega) dL_law_488 dL_law_489 dL_law_490 dL_law_491 dL_law_492 ?_
  refine L_call (u := (r, S2)) (v := vI r) (M2 := MM t S2) [vI (xs (v + 1))] hx mcX12_next llL_60 rfl (by decide) (sq 146 rfl) (ct12_next G t 100000 (xs (v + 1)) S1) b2 rfl rfl rfl (Nat.le_of_ble_eq_true rfl) (by omega) (Nat.le_of_ble_eq_true rfl) (by omega) (by omega) dL_law_493 ?_
  refine L_eq (tgt := 1414) hx dL_law_496 (by decide) ?_
  exact back _ _ _ S2 K2 q k1 k2 (by omega) (by omega)
set_option maxRecDepth 100000 in
theorem llL_61 : Cond.methodLink R_law 61 yX11_feed ∈ TT := in3 141 (by rfl) rfl
set_option maxRecDepth 100000 in
theorem llL_64 : Cond.methodLink R_law 64 yX12_feed ∈ TT := in7 32 (by rfl) rfl
theorem lk_feed {G : Gm} {p : Program} {e : Env} {s : State} {m : MethodId} {below : List Frame} {meth : Method} {c : Code} {b L k n v t K : Nat} {xs : Nat → Int32} {S : St} (hx : Lx G p s m meth c b L xs) (hv : v + 6 ≤ L) (hL3 : L ≤ 3072) (hQ : QA S K) (hK : K + 1000000 < 2147483648) (hk : k + 10 ≤ 600000) (hn : n + 10 ≤ 7302250) (back : ∀ k2 n2 t2 S2 K2, QA S2 K2 → K ≤ K2 → K2 ≤ K + 600000 → k2 ≤ k + 1 → n2 ≤ n + 3 → LW G p e s m below meth c b k2 n2 (MM t2 S2) (lvI G b v) 1414 []) : LW G p e s m below meth c b k n (MM t S) (lvI G b v) 501 [] := by
  obtain ⟨r, S1, S2, K2, a, b2, q, k1, k2⟩ := q_feed (N := 100000) (Nat.le_refl _) hQ hK (xs (v + 1)) (xs (v + 2))
  refine L_aload (j := 2) hx dL_law_501 rfl rfl ?_
  refine L_arg (d := 1) hx rfl hv hL3 (by omega) dL_law_502 dL_law_503 dL_law_504 dL_law_505 dL_law_506 ?_
  refine L_arg (d := 2) hx rfl hv hL3 (by omega) dL_law_507 dL_law_508 dL_law_509 dL_law_510 dL_law_511 ?_
  refine L_call (u := (r, S1)) (v := vI r) (M2 := MM t S1) [vI (xs (v + 1)), vI (xs (v + 2))] hx mcX11_feed llL_61 rfl (by decide) (sq 0 rfl) (ct11_feed G t 100000 (xs (v + 1)) (xs (v + 2)) S) a rfl rfl rfl (Nat.le_of_ble_eq_true rfl) (by omega) (Nat.le_of_ble_eq_true rfl) (by omega) (by omega) dL_law_512 ?_
  refine L_aload (j := 1) hx dL_law_515 rfl rfl ?_
  refine L_arg (d := 1) hx rfl hv hL3 (by omega) dL_law_516 dL_law_517 dL_law_518 dL_law_519 dL_law_520 ?_
  refine L_arg (d := 2) hx rfl hv hL3 (by omega) dL_law_521 dL_law_522 dL_law_523 dL_law_524 dL_law_525 ?_
  refine L_call (u := (r, S2)) (v := vI r) (M2 := MM t S2) [vI (xs (v + 1)), vI (xs (v + 2))] hx mcX12_feed llL_64 rfl (by decide) (sq 146 rfl) (ct12_feed G t 100000 (xs (v + 1)) (xs (v + 2)) S1) b2 rfl rfl rfl (Nat.le_of_ble_eq_true rfl) (by omega) (Nat.le_of_ble_eq_true rfl) (by omega) (by omega) dL_law_526 ?_
  refine L_eq (tgt := 1414) hx dL_law_529 (by decide) ?_
  exact back _ _ _ S2 K2 q k1 k2 (by omega) (by omega)
set_option maxRecDepth 100000 in
theorem llL_65 : Cond.methodLink R_law 65 yX11_task ∈ TT := in3 153 (by rfl) rfl
set_option maxRecDepth 100000 in
theorem llL_68 : Cond.methodLink R_law 68 yX12_task ∈ TT := in7 37 (by rfl) rfl
theorem lk_task {G : Gm} {p : Program} {e : Env} {s : State} {m : MethodId} {below : List Frame} {meth : Method} {c : Code} {b L k n v t K : Nat} {xs : Nat → Int32} {S : St} (hx : Lx G p s m meth c b L xs) (hv : v + 6 ≤ L) (hL3 : L ≤ 3072) (hQ : QA S K) (hK : K + 1000000 < 2147483648) (hk : k + 10 ≤ 600000) (hn : n + 10 ≤ 7302250) (back : ∀ k2 n2 t2 S2 K2, QA S2 K2 → K ≤ K2 → K2 ≤ K + 600000 → k2 ≤ k + 1 → n2 ≤ n + 3 → LW G p e s m below meth c b k2 n2 (MM t2 S2) (lvI G b v) 1414 []) : LW G p e s m below meth c b k n (MM t S) (lvI G b v) 534 [] := by
  obtain ⟨r, S1, S2, K2, a, b2, q, k1, k2⟩ := q_task (N := 100000) (Nat.le_refl _) hQ hK (xs (v + 1))
  refine L_aload (j := 2) hx dL_law_534 rfl rfl ?_
  refine L_arg (d := 1) hx rfl hv hL3 (by omega) dL_law_535 dL_law_536 dL_law_537 dL_law_538 dL_law_539 ?_
  refine L_call (u := (r, S1)) (v := vI r) (M2 := MM t S1) [vI (xs (v + 1))] hx mcX11_task llL_65 rfl (by decide) (sq 0 rfl) (ct11_task G t 100000 (xs (v + 1)) S) a rfl rfl rfl (Nat.le_of_ble_eq_true rfl) (by omega) (Nat.le_of_ble_eq_true rfl) (by omega) (by omega) dL_law_540 ?_
  refine L_aload (j := 1) hx dL_law_543 rfl rfl ?_
  refine L_arg (d := 1) hx rfl hv hL3 (by omega) dL_law_544 dL_law_545 dL_law_546 dL_law_547 dL_law_548 ?_
  refine L_call (u := (r, S2)) (v := vI r) (M2 := MM t S2) [vI (xs (v + 1))] hx mcX12_task llL_68 rfl (by decide) (sq 146 rfl) (ct12_task G t 100000 (xs (v + 1)) S1) b2 rfl rfl rfl (Nat.le_of_ble_eq_true rfl) (by omega) (Nat.le_of_ble_eq_true rfl) (by omega) (by omega) dL_law_549 ?_
  refine L_eq (tgt := 1414) hx dL_law_552 (by decide) ?_
  exact back _ _ _ S2 K2 q k1 k2 (by omega) (by omega)
set_option maxRecDepth 100000 in
theorem llL_69 : Cond.methodLink R_law 69 yX11_passes ∈ TT := in3 217 (by rfl) rfl
set_option maxRecDepth 100000 in
theorem llL_72 : Cond.methodLink R_law 72 yX12_passes ∈ TT := in7 85 (by rfl) rfl
theorem lk_passes {G : Gm} {p : Program} {e : Env} {s : State} {m : MethodId} {below : List Frame} {meth : Method} {c : Code} {b L k n v t K : Nat} {xs : Nat → Int32} {S : St} (hx : Lx G p s m meth c b L xs) (hv : v + 6 ≤ L) (hL3 : L ≤ 3072) (hQ : QA S K) (hK : K + 1000000 < 2147483648) (hk : k + 10 ≤ 600000) (hn : n + 10 ≤ 7302250) (back : ∀ k2 n2 t2 S2 K2, QA S2 K2 → K ≤ K2 → K2 ≤ K + 600000 → k2 ≤ k + 1 → n2 ≤ n + 3 → LW G p e s m below meth c b k2 n2 (MM t2 S2) (lvI G b v) 1414 []) : LW G p e s m below meth c b k n (MM t S) (lvI G b v) 557 [] := by
  obtain ⟨r, S1, S2, K2, a, b2, q, k1, k2⟩ := q_passes (N := 100000) (Nat.le_refl _) hQ hK (xs (v + 1)) (xs (v + 2)) (xs (v + 3))
  refine L_aload (j := 2) hx dL_law_557 rfl rfl ?_
  refine L_arg (d := 1) hx rfl hv hL3 (by omega) dL_law_558 dL_law_559 dL_law_560 dL_law_561 dL_law_562 ?_
  refine L_arg (d := 2) hx rfl hv hL3 (by omega) dL_law_563 dL_law_564 dL_law_565 dL_law_566 dL_law_567 ?_
  refine L_arg (d := 3) hx rfl hv hL3 (by omega) dL_law_568 dL_law_569 dL_law_570 dL_law_571 dL_law_572 ?_
  refine L_call (u := (r, S1)) (v := vI r) (M2 := MM t S1) [vI (xs (v + 1)), vI (xs (v + 2)), vI (xs (v + 3))] hx mcX11_passes llL_69 rfl (by decide) (sq 0 rfl) (ct11_passes G t 100000 (xs (v + 1)) (xs (v + 2)) (xs (v + 3)) S) a rfl rfl rfl (Nat.le_of_ble_eq_true rfl) (by omega) (Nat.le_of_ble_eq_true rfl) (by omega) (by omega) dL_law_573 ?_
  refine L_aload (j := 1) hx dL_law_576 rfl rfl ?_
  refine L_arg (d := 1) hx rfl hv hL3 (by omega) dL_law_577 dL_law_578 dL_law_579 dL_law_580 dL_law_581 ?_
  refine L_arg (d := 2) hx rfl hv hL3 (by omega) dL_law_582 dL_law_583 dL_law_584 dL_law_585 dL_law_586 ?_
  refine L_arg (d := 3) hx rfl hv hL3 (by omega) dL_law_587 dL_law_588 dL_law_589 dL_law_590 dL_law_591 ?_
  refine L_call (u := (r, S2)) (v := vI r) (M2 := MM t S2) [vI (xs (v + 1)), vI (xs (v + 2)), vI (xs (v + 3))] hx mcX12_passes llL_72 rfl (by decide) (sq 146 rfl) (ct12_passes G t 100000 (xs (v + 1)) (xs (v + 2)) (xs (v + 3)) S1) b2 rfl rfl rfl (Nat.le_of_ble_eq_true rfl) (by omega) (Nat.le_of_ble_eq_true rfl) (by omega) (by omega) dL_law_592 ?_
  refine L_eq (tgt := 1414) hx dL_law_595 (by decide) ?_
  exact back _ _ _ S2 K2 q k1 k2 (by omega) (by omega)
set_option maxRecDepth 100000 in
theorem llL_73 : Cond.methodLink R_law 73 yX11_search ∈ TT := in4 31 (by rfl) rfl
set_option maxRecDepth 100000 in
theorem llL_76 : Cond.methodLink R_law 76 yX12_search ∈ TT := in7 97 (by rfl) rfl
theorem lk_search {G : Gm} {p : Program} {e : Env} {s : State} {m : MethodId} {below : List Frame} {meth : Method} {c : Code} {b L k n v t K : Nat} {xs : Nat → Int32} {S : St} (hx : Lx G p s m meth c b L xs) (hv : v + 6 ≤ L) (hL3 : L ≤ 3072) (hQ : QA S K) (hK : K + 1000000 < 2147483648) (hk : k + 10 ≤ 600000) (hn : n + 10 ≤ 7302250) (back : ∀ k2 n2 t2 S2 K2, QA S2 K2 → K ≤ K2 → K2 ≤ K + 600000 → k2 ≤ k + 1 → n2 ≤ n + 3 → LW G p e s m below meth c b k2 n2 (MM t2 S2) (lvI G b v) 1414 []) : LW G p e s m below meth c b k n (MM t S) (lvI G b v) 600 [] := by
  obtain ⟨r, S1, S2, K2, a, b2, q, k1, k2⟩ := q_search (N := 100000) (Nat.le_refl _) hQ hK (xs (v + 1)) (xs (v + 2)) (xs (v + 3))
  refine L_aload (j := 2) hx dL_law_600 rfl rfl ?_
  refine L_arg (d := 1) hx rfl hv hL3 (by omega) dL_law_601 dL_law_602 dL_law_603 dL_law_604 dL_law_605 ?_
  refine L_arg (d := 2) hx rfl hv hL3 (by omega) dL_law_606 dL_law_607 dL_law_608 dL_law_609 dL_law_610 ?_
  refine L_arg (d := 3) hx rfl hv hL3 (by omega) dL_law_611 dL_law_612 dL_law_613 dL_law_614 dL_law_615 ?_
  refine L_call (u := (r, S1)) (v := vI r) (M2 := MM t S1) [vI (xs (v + 1)), vI (xs (v + 2)), vI (xs (v + 3))] hx mcX11_search llL_73 rfl (by decide) (sq 0 rfl) (ct11_search G t 100000 (xs (v + 1)) (xs (v + 2)) (xs (v + 3)) S) a rfl rfl rfl (Nat.le_of_ble_eq_true rfl) (by omega) (Nat.le_of_ble_eq_true rfl) (by omega) (by omega) dL_law_616 ?_
  refine L_aload (j := 1) hx dL_law_619 rfl rfl ?_
  refine L_arg (d := 1) hx rfl hv hL3 (by omega) dL_law_620 dL_law_621 dL_law_622 dL_law_623 dL_law_624 ?_
  refine L_arg (d := 2) hx rfl hv hL3 (by omega) dL_law_625 dL_law_626 dL_law_627 dL_law_628 dL_law_629 ?_
  refine L_arg (d := 3) hx rfl hv hL3 (by omega) dL_law_630 dL_law_631 dL_law_632 dL_law_633 dL_law_634 ?_
  refine L_call (u := (r, S2)) (v := vI r) (M2 := MM t S2) [vI (xs (v + 1)), vI (xs (v + 2)), vI (xs (v + 3))] hx mcX12_search llL_76 rfl (by decide) (sq 146 rfl) (ct12_search G t 100000 (xs (v + 1)) (xs (v + 2)) (xs (v + 3)) S1) b2 rfl rfl rfl (Nat.le_of_ble_eq_true rfl) (by omega) (Nat.le_of_ble_eq_true rfl) (by omega) (by omega) dL_law_635 ?_
  refine L_eq (tgt := 1414) hx dL_law_638 (by decide) ?_
  exact back _ _ _ S2 K2 q k1 k2 (by omega) (by omega)
set_option maxRecDepth 100000 in
theorem llL_77 : Cond.methodLink R_law 77 yX11_searched ∈ TT := in4 87 (by rfl) rfl
set_option maxRecDepth 100000 in
theorem llL_80 : Cond.methodLink R_law 80 yX12_searched ∈ TT := in7 106 (by rfl) rfl
theorem lk_searched {G : Gm} {p : Program} {e : Env} {s : State} {m : MethodId} {below : List Frame} {meth : Method} {c : Code} {b L k n v t K : Nat} {xs : Nat → Int32} {S : St} (hx : Lx G p s m meth c b L xs) (hv : v + 6 ≤ L) (hL3 : L ≤ 3072) (hQ : QA S K) (hK : K + 1000000 < 2147483648) (hk : k + 10 ≤ 600000) (hn : n + 10 ≤ 7302250) (back : ∀ k2 n2 t2 S2 K2, QA S2 K2 → K ≤ K2 → K2 ≤ K + 600000 → k2 ≤ k + 1 → n2 ≤ n + 3 → LW G p e s m below meth c b k2 n2 (MM t2 S2) (lvI G b v) 1414 []) : LW G p e s m below meth c b k n (MM t S) (lvI G b v) 643 [] := by
  obtain ⟨r, S1, S2, K2, a, b2, q, k1, k2⟩ := q_searched (N := 100000) (Nat.le_refl _) hQ hK (xs (v + 1))
  refine L_aload (j := 2) hx dL_law_643 rfl rfl ?_
  refine L_arg (d := 1) hx rfl hv hL3 (by omega) dL_law_644 dL_law_645 dL_law_646 dL_law_647 dL_law_648 ?_
  refine L_call (u := (r, S1)) (v := vI r) (M2 := MM t S1) [vI (xs (v + 1))] hx mcX11_searched llL_77 rfl (by decide) (sq 0 rfl) (ct11_searched G t (xs (v + 1)) S) a rfl rfl rfl (Nat.le_of_ble_eq_true rfl) (by omega) (Nat.le_of_ble_eq_true rfl) (by omega) (by omega) dL_law_649 ?_
  refine L_aload (j := 1) hx dL_law_652 rfl rfl ?_
  refine L_arg (d := 1) hx rfl hv hL3 (by omega) dL_law_653 dL_law_654 dL_law_655 dL_law_656 dL_law_657 ?_
  refine L_call (u := (r, S2)) (v := vI r) (M2 := MM t S2) [vI (xs (v + 1))] hx mcX12_searched llL_80 rfl (by decide) (sq 146 rfl) (ct12_searched G t (xs (v + 1)) S1) b2 rfl rfl rfl (Nat.le_of_ble_eq_true rfl) (by omega) (Nat.le_of_ble_eq_true rfl) (by omega) (by omega) dL_law_658 ?_
  refine L_eq (tgt := 1414) hx dL_law_661 (by decide) ?_
  exact back _ _ _ S2 K2 q k1 k2 (by omega) (by omega)
set_option maxRecDepth 100000 in
theorem llL_81 : Cond.methodLink R_law 81 yX11_say ∈ TT := in4 111 (by rfl) rfl
set_option maxRecDepth 100000 in
theorem llL_84 : Cond.methodLink R_law 84 yX12_say ∈ TT := in7 110 (by rfl) rfl
theorem lk_say {G : Gm} {p : Program} {e : Env} {s : State} {m : MethodId} {below : List Frame} {meth : Method} {c : Code} {b L k n v t K : Nat} {xs : Nat → Int32} {S : St} (hx : Lx G p s m meth c b L xs) (hv : v + 6 ≤ L) (hL3 : L ≤ 3072) (hQ : QA S K) (hK : K + 1000000 < 2147483648) (hk : k + 10 ≤ 600000) (hn : n + 10 ≤ 7302250) (back : ∀ k2 n2 t2 S2 K2, QA S2 K2 → K ≤ K2 → K2 ≤ K + 600000 → k2 ≤ k + 1 → n2 ≤ n + 3 → LW G p e s m below meth c b k2 n2 (MM t2 S2) (lvI G b v) 1414 []) : LW G p e s m below meth c b k n (MM t S) (lvI G b v) 666 [] := by
  obtain ⟨r, S1, S2, K2, a, b2, q, k1, k2⟩ := q_say (N := 100000) (Nat.le_refl _) hQ hK (xs (v + 1))
  refine L_aload (j := 2) hx dL_law_666 rfl rfl ?_
  refine L_arg (d := 1) hx rfl hv hL3 (by omega) dL_law_667 dL_law_668 dL_law_669 dL_law_670 dL_law_671 ?_
  refine L_call (u := (r, S1)) (v := vI r) (M2 := MM t S1) [vI (xs (v + 1))] hx mcX11_say llL_81 rfl (by decide) (sq 0 rfl) (ct11_say G t (xs (v + 1)) S) a rfl rfl rfl (Nat.le_of_ble_eq_true rfl) (by omega) (Nat.le_of_ble_eq_true rfl) (by omega) (by omega) dL_law_672 ?_
  refine L_aload (j := 1) hx dL_law_675 rfl rfl ?_
  refine L_arg (d := 1) hx rfl hv hL3 (by omega) dL_law_676 dL_law_677 dL_law_678 dL_law_679 dL_law_680 ?_
  refine L_call (u := (r, S2)) (v := vI r) (M2 := MM t S2) [vI (xs (v + 1))] hx mcX12_say llL_84 rfl (by decide) (sq 146 rfl) (ct12_say G t (xs (v + 1)) S1) b2 rfl rfl rfl (Nat.le_of_ble_eq_true rfl) (by omega) (Nat.le_of_ble_eq_true rfl) (by omega) (by omega) dL_law_681 ?_
  refine L_eq (tgt := 1414) hx dL_law_684 (by decide) ?_
  exact back _ _ _ S2 K2 q k1 k2 (by omega) (by omega)
set_option maxRecDepth 100000 in
theorem llL_85 : Cond.methodLink R_law 85 yX11_unsay ∈ TT := in4 123 (by rfl) rfl
set_option maxRecDepth 100000 in
theorem llL_88 : Cond.methodLink R_law 88 yX12_unsay ∈ TT := in7 114 (by rfl) rfl
theorem lk_unsay {G : Gm} {p : Program} {e : Env} {s : State} {m : MethodId} {below : List Frame} {meth : Method} {c : Code} {b L k n v t K : Nat} {xs : Nat → Int32} {S : St} (hx : Lx G p s m meth c b L xs) (hv : v + 6 ≤ L) (hL3 : L ≤ 3072) (hQ : QA S K) (hK : K + 1000000 < 2147483648) (hk : k + 10 ≤ 600000) (hn : n + 10 ≤ 7302250) (back : ∀ k2 n2 t2 S2 K2, QA S2 K2 → K ≤ K2 → K2 ≤ K + 600000 → k2 ≤ k + 1 → n2 ≤ n + 3 → LW G p e s m below meth c b k2 n2 (MM t2 S2) (lvI G b v) 1414 []) : LW G p e s m below meth c b k n (MM t S) (lvI G b v) 689 [] := by
  obtain ⟨r, S1, S2, K2, a, b2, q, k1, k2⟩ := q_unsay (N := 100000) (Nat.le_refl _) hQ hK 
  refine L_aload (j := 2) hx dL_law_689 rfl rfl ?_
  refine L_call (u := (r, S1)) (v := vI r) (M2 := MM t S1) [] hx mcX11_unsay llL_85 rfl (by decide) (sq 0 rfl) (ct11_unsay G t S) a rfl rfl rfl (Nat.le_of_ble_eq_true rfl) (by omega) (Nat.le_of_ble_eq_true rfl) (by omega) (by omega) dL_law_690 ?_
  refine L_aload (j := 1) hx dL_law_693 rfl rfl ?_
  refine L_call (u := (r, S2)) (v := vI r) (M2 := MM t S2) [] hx mcX12_unsay llL_88 rfl (by decide) (sq 146 rfl) (ct12_unsay G t S1) b2 rfl rfl rfl (Nat.le_of_ble_eq_true rfl) (by omega) (Nat.le_of_ble_eq_true rfl) (by omega) (by omega) dL_law_694 ?_
  refine L_eq (tgt := 1414) hx dL_law_697 (by decide) ?_
  exact back _ _ _ S2 K2 q k1 k2 (by omega) (by omega)
set_option maxRecDepth 100000 in
theorem llL_89 : Cond.methodLink R_law 89 yX11_votes ∈ TT := in4 131 (by rfl) rfl
set_option maxRecDepth 100000 in
theorem llL_93 : Cond.methodLink R_law 93 yX12_votes ∈ TT := in7 118 (by rfl) rfl
theorem lk_votes {G : Gm} {p : Program} {e : Env} {s : State} {m : MethodId} {below : List Frame} {meth : Method} {c : Code} {b L k n v t K : Nat} {xs : Nat → Int32} {S : St} (hx : Lx G p s m meth c b L xs) (hv : v + 6 ≤ L) (hL3 : L ≤ 3072) (hQ : QA S K) (hK : K + 1000000 < 2147483648) (hk : k + 10 ≤ 600000) (hn : n + 10 ≤ 7302250) (back : ∀ k2 n2 t2 S2 K2, QA S2 K2 → K ≤ K2 → K2 ≤ K + 600000 → k2 ≤ k + 1 → n2 ≤ n + 3 → LW G p e s m below meth c b k2 n2 (MM t2 S2) (lvI G b v) 1414 []) : LW G p e s m below meth c b k n (MM t S) (lvI G b v) 702 [] := by
  obtain ⟨r, S1, S2, K2, a, b2, q, k1, k2⟩ := q_votes (N := 100000) (Nat.le_refl _) hQ hK (xs (v + 1)) (xs (v + 2)) (xs (v + 3)) (xs (v + 4))
  refine L_aload (j := 2) hx dL_law_702 rfl rfl ?_
  refine L_arg (d := 1) hx rfl hv hL3 (by omega) dL_law_703 dL_law_704 dL_law_705 dL_law_706 dL_law_707 ?_
  refine L_arg (d := 2) hx rfl hv hL3 (by omega) dL_law_708 dL_law_709 dL_law_710 dL_law_711 dL_law_712 ?_
  refine L_arg (d := 3) hx rfl hv hL3 (by omega) dL_law_713 dL_law_714 dL_law_715 dL_law_716 dL_law_717 ?_
  refine L_arg (d := 4) hx rfl hv hL3 (by omega) dL_law_718 dL_law_719 dL_law_720 dL_law_721 dL_law_722 ?_
  refine L_call (u := (r, S1)) (v := vI r) (M2 := MM t S1) [vI (xs (v + 1)), vI (xs (v + 2)), vI (xs (v + 3)), vI (xs (v + 4))] hx mcX11_votes llL_89 rfl (by decide) (sq 0 rfl) (ct11_votes G t 100000 (xs (v + 1)) (xs (v + 2)) (xs (v + 3)) (xs (v + 4)) S) a rfl rfl rfl (Nat.le_of_ble_eq_true rfl) (by omega) (Nat.le_of_ble_eq_true rfl) (by omega) (by omega) dL_law_723 ?_
  refine L_aload (j := 1) hx dL_law_726 rfl rfl ?_
  refine L_arg (d := 1) hx rfl hv hL3 (by omega) dL_law_727 dL_law_728 dL_law_729 dL_law_730 dL_law_731 ?_
  refine L_arg (d := 2) hx rfl hv hL3 (by omega) dL_law_732 dL_law_733 dL_law_734 dL_law_735 dL_law_736 ?_
  refine L_arg (d := 3) hx rfl hv hL3 (by omega) dL_law_737 dL_law_738 dL_law_739 dL_law_740 dL_law_741 ?_
  refine L_arg (d := 4) hx rfl hv hL3 (by omega) dL_law_742 dL_law_743 dL_law_744 dL_law_745 dL_law_746 ?_
  refine L_call (u := (r, S2)) (v := vI r) (M2 := MM t S2) [vI (xs (v + 1)), vI (xs (v + 2)), vI (xs (v + 3)), vI (xs (v + 4))] hx mcX12_votes llL_93 rfl (by decide) (sq 146 rfl) (ct12_votes G t 100000 (xs (v + 1)) (xs (v + 2)) (xs (v + 3)) (xs (v + 4)) S1) b2 rfl rfl rfl (Nat.le_of_ble_eq_true rfl) (by omega) (Nat.le_of_ble_eq_true rfl) (by omega) (by omega) dL_law_747 ?_
  refine L_eq (tgt := 1414) hx dL_law_750 (by decide) ?_
  exact back _ _ _ S2 K2 q k1 k2 (by omega) (by omega)
set_option maxRecDepth 100000 in
theorem llL_94 : Cond.methodLink R_law 94 yX11_shortest ∈ TT := in4 182 (by rfl) rfl
set_option maxRecDepth 100000 in
theorem llL_97 : Cond.methodLink R_law 97 yX12_shortest ∈ TT := in7 132 (by rfl) rfl
theorem lk_shortest {G : Gm} {p : Program} {e : Env} {s : State} {m : MethodId} {below : List Frame} {meth : Method} {c : Code} {b L k n v t K : Nat} {xs : Nat → Int32} {S : St} (hx : Lx G p s m meth c b L xs) (hv : v + 6 ≤ L) (hL3 : L ≤ 3072) (hQ : QA S K) (hK : K + 1000000 < 2147483648) (hk : k + 10 ≤ 600000) (hn : n + 10 ≤ 7302250) (back : ∀ k2 n2 t2 S2 K2, QA S2 K2 → K ≤ K2 → K2 ≤ K + 600000 → k2 ≤ k + 1 → n2 ≤ n + 3 → LW G p e s m below meth c b k2 n2 (MM t2 S2) (lvI G b v) 1414 []) : LW G p e s m below meth c b k n (MM t S) (lvI G b v) 755 [] := by
  obtain ⟨r, S1, S2, K2, a, b2, q, k1, k2⟩ := q_shortest (N := 100000) (Nat.le_refl _) hQ hK (xs (v + 1)) (xs (v + 2)) (xs (v + 3))
  refine L_aload (j := 2) hx dL_law_755 rfl rfl ?_
  refine L_arg (d := 1) hx rfl hv hL3 (by omega) dL_law_756 dL_law_757 dL_law_758 dL_law_759 dL_law_760 ?_
  refine L_arg (d := 2) hx rfl hv hL3 (by omega) dL_law_761 dL_law_762 dL_law_763 dL_law_764 dL_law_765 ?_
  refine L_arg (d := 3) hx rfl hv hL3 (by omega) dL_law_766 dL_law_767 dL_law_768 dL_law_769 dL_law_770 ?_
  refine L_call (u := (r, S1)) (v := vI r) (M2 := MM t S1) [vI (xs (v + 1)), vI (xs (v + 2)), vI (xs (v + 3))] hx mcX11_shortest llL_94 rfl (by decide) (sq 0 rfl) (ct11_shortest G t 100000 (xs (v + 1)) (xs (v + 2)) (xs (v + 3)) S) a rfl rfl rfl (Nat.le_of_ble_eq_true rfl) (by omega) (Nat.le_of_ble_eq_true rfl) (by omega) (by omega) dL_law_771 ?_
  refine L_aload (j := 1) hx dL_law_774 rfl rfl ?_
  refine L_arg (d := 1) hx rfl hv hL3 (by omega) dL_law_775 dL_law_776 dL_law_777 dL_law_778 dL_law_779 ?_
  refine L_arg (d := 2) hx rfl hv hL3 (by omega) dL_law_780 dL_law_781 dL_law_782 dL_law_783 dL_law_784 ?_
  refine L_arg (d := 3) hx rfl hv hL3 (by omega) dL_law_785 dL_law_786 dL_law_787 dL_law_788 dL_law_789 ?_
  refine L_call (u := (r, S2)) (v := vI r) (M2 := MM t S2) [vI (xs (v + 1)), vI (xs (v + 2)), vI (xs (v + 3))] hx mcX12_shortest llL_97 rfl (by decide) (sq 146 rfl) (ct12_shortest G t 100000 (xs (v + 1)) (xs (v + 2)) (xs (v + 3)) S1) b2 rfl rfl rfl (Nat.le_of_ble_eq_true rfl) (by omega) (Nat.le_of_ble_eq_true rfl) (by omega) (by omega) dL_law_790 ?_
  refine L_eq (tgt := 1414) hx dL_law_793 (by decide) ?_
  exact back _ _ _ S2 K2 q k1 k2 (by omega) (by omega)
set_option maxRecDepth 100000 in
theorem llL_98 : Cond.methodLink R_law 98 yX11_census ∈ TT := in4 208 (by rfl) rfl
set_option maxRecDepth 100000 in
theorem llL_101 : Cond.methodLink R_law 101 yX12_census ∈ TT := in7 137 (by rfl) rfl
theorem lk_census {G : Gm} {p : Program} {e : Env} {s : State} {m : MethodId} {below : List Frame} {meth : Method} {c : Code} {b L k n v t K : Nat} {xs : Nat → Int32} {S : St} (hx : Lx G p s m meth c b L xs) (hv : v + 6 ≤ L) (hL3 : L ≤ 3072) (hQ : QA S K) (hK : K + 1000000 < 2147483648) (hk : k + 10 ≤ 600000) (hn : n + 10 ≤ 7302250) (back : ∀ k2 n2 t2 S2 K2, QA S2 K2 → K ≤ K2 → K2 ≤ K + 600000 → k2 ≤ k + 1 → n2 ≤ n + 3 → LW G p e s m below meth c b k2 n2 (MM t2 S2) (lvI G b v) 1414 []) : LW G p e s m below meth c b k n (MM t S) (lvI G b v) 798 [] := by
  obtain ⟨r, ta2, S1, S2, K2, a, b2, q, k1, k2, _, _⟩ := q_census (N := 100000) (ta := t) (Nat.le_refl _) hQ hK (xs (v + 1)) (xs (v + 2)) (xs (v + 3)) (xs (v + 4))
  refine L_aload (j := 2) hx dL_law_798 rfl rfl ?_
  refine L_arg (d := 1) hx rfl hv hL3 (by omega) dL_law_799 dL_law_800 dL_law_801 dL_law_802 dL_law_803 ?_
  refine L_arg (d := 2) hx rfl hv hL3 (by omega) dL_law_804 dL_law_805 dL_law_806 dL_law_807 dL_law_808 ?_
  refine L_arg (d := 3) hx rfl hv hL3 (by omega) dL_law_809 dL_law_810 dL_law_811 dL_law_812 dL_law_813 ?_
  refine L_arg (d := 4) hx rfl hv hL3 (by omega) dL_law_814 dL_law_815 dL_law_816 dL_law_817 dL_law_818 ?_
  refine L_call (u := (r, S1)) (v := vI r) (M2 := MM t S1) [vI (xs (v + 1)), vI (xs (v + 2)), vI (xs (v + 3)), vI (xs (v + 4))] hx mcX11_census llL_98 rfl (by decide) (sq 0 rfl) (ct11_census G t 100000 (xs (v + 1)) (xs (v + 2)) (xs (v + 3)) (xs (v + 4)) S) a rfl rfl rfl (Nat.le_of_ble_eq_true rfl) (by omega) (Nat.le_of_ble_eq_true rfl) (by omega) (by omega) dL_law_819 ?_
  refine L_aload (j := 1) hx dL_law_822 rfl rfl ?_
  refine L_arg (d := 1) hx rfl hv hL3 (by omega) dL_law_823 dL_law_824 dL_law_825 dL_law_826 dL_law_827 ?_
  refine L_arg (d := 2) hx rfl hv hL3 (by omega) dL_law_828 dL_law_829 dL_law_830 dL_law_831 dL_law_832 ?_
  refine L_arg (d := 3) hx rfl hv hL3 (by omega) dL_law_833 dL_law_834 dL_law_835 dL_law_836 dL_law_837 ?_
  refine L_arg (d := 4) hx rfl hv hL3 (by omega) dL_law_838 dL_law_839 dL_law_840 dL_law_841 dL_law_842 ?_
  refine L_call (u := ((r, ta2), S2)) (v := vI r) (M2 := MM ta2 S2) [vI (xs (v + 1)), vI (xs (v + 2)), vI (xs (v + 3)), vI (xs (v + 4))] hx mcX12_census llL_101 rfl (by decide) (sq 146 rfl) (ct12_census G t 100000 (xs (v + 1)) (xs (v + 2)) (xs (v + 3)) (xs (v + 4)) S1) b2 rfl rfl rfl (Nat.le_of_ble_eq_true rfl) (by omega) (Nat.le_of_ble_eq_true rfl) (by omega) (by omega) dL_law_843 ?_
  refine L_eq (tgt := 1414) hx dL_law_846 (by decide) ?_
  exact back _ _ _ S2 K2 q k1 k2 (by omega) (by omega)
set_option maxRecDepth 100000 in
theorem llL_102 : Cond.methodLink R_law 102 yX11_helped ∈ TT := in5 21 (by rfl) rfl
set_option maxRecDepth 100000 in
theorem llL_105 : Cond.methodLink R_law 105 yX12_helped ∈ TT := in7 144 (by rfl) rfl
theorem lk_helped {G : Gm} {p : Program} {e : Env} {s : State} {m : MethodId} {below : List Frame} {meth : Method} {c : Code} {b L k n v t K : Nat} {xs : Nat → Int32} {S : St} (hx : Lx G p s m meth c b L xs) (hv : v + 6 ≤ L) (hL3 : L ≤ 3072) (hQ : QA S K) (hK : K + 1000000 < 2147483648) (hk : k + 10 ≤ 600000) (hn : n + 10 ≤ 7302250) (back : ∀ k2 n2 t2 S2 K2, QA S2 K2 → K ≤ K2 → K2 ≤ K + 600000 → k2 ≤ k + 1 → n2 ≤ n + 3 → LW G p e s m below meth c b k2 n2 (MM t2 S2) (lvI G b v) 1414 []) : LW G p e s m below meth c b k n (MM t S) (lvI G b v) 851 [] := by
  obtain ⟨r, S1, S2, K2, a, b2, q, k1, k2⟩ := q_helped (N := 100000) (Nat.le_refl _) hQ hK (xs (v + 1))
  refine L_aload (j := 2) hx dL_law_851 rfl rfl ?_
  refine L_arg (d := 1) hx rfl hv hL3 (by omega) dL_law_852 dL_law_853 dL_law_854 dL_law_855 dL_law_856 ?_
  refine L_call (u := (r, S1)) (v := vI r) (M2 := MM t S1) [vI (xs (v + 1))] hx mcX11_helped llL_102 rfl (by decide) (sq 0 rfl) (ct11_helped G t 100000 (xs (v + 1)) S) a rfl rfl rfl (Nat.le_of_ble_eq_true rfl) (by omega) (Nat.le_of_ble_eq_true rfl) (by omega) (by omega) dL_law_857 ?_
  refine L_aload (j := 1) hx dL_law_860 rfl rfl ?_
  refine L_arg (d := 1) hx rfl hv hL3 (by omega) dL_law_861 dL_law_862 dL_law_863 dL_law_864 dL_law_865 ?_
  refine L_call (u := (r, S2)) (v := vI r) (M2 := MM t S2) [vI (xs (v + 1))] hx mcX12_helped llL_105 rfl (by decide) (sq 146 rfl) (ct12_helped G t 100000 (xs (v + 1)) S1) b2 rfl rfl rfl (Nat.le_of_ble_eq_true rfl) (by omega) (Nat.le_of_ble_eq_true rfl) (by omega) (by omega) dL_law_866 ?_
  refine L_eq (tgt := 1414) hx dL_law_869 (by decide) ?_
  exact back _ _ _ S2 K2 q k1 k2 (by omega) (by omega)
set_option maxRecDepth 100000 in
theorem llL_106 : Cond.methodLink R_law 106 yX11_learn ∈ TT := in5 39 (by rfl) rfl
set_option maxRecDepth 100000 in
theorem llL_109 : Cond.methodLink R_law 109 yX12_learn ∈ TT := in7 152 (by rfl) rfl
theorem lk_learn {G : Gm} {p : Program} {e : Env} {s : State} {m : MethodId} {below : List Frame} {meth : Method} {c : Code} {b L k n v t K : Nat} {xs : Nat → Int32} {S : St} (hx : Lx G p s m meth c b L xs) (hv : v + 6 ≤ L) (hL3 : L ≤ 3072) (hQ : QA S K) (hK : K + 1000000 < 2147483648) (hk : k + 10 ≤ 600000) (hn : n + 10 ≤ 7302250) (back : ∀ k2 n2 t2 S2 K2, QA S2 K2 → K ≤ K2 → K2 ≤ K + 600000 → k2 ≤ k + 1 → n2 ≤ n + 3 → LW G p e s m below meth c b k2 n2 (MM t2 S2) (lvI G b v) 1414 []) : LW G p e s m below meth c b k n (MM t S) (lvI G b v) 874 [] := by
  obtain ⟨r, S1, S2, K2, a, b2, q, k1, k2⟩ := q_learn (N := 100000) (Nat.le_refl _) hQ hK (xs (v + 1)) (xs (v + 2)) (xs (v + 3)) (xs (v + 4))
  refine L_aload (j := 2) hx dL_law_874 rfl rfl ?_
  refine L_arg (d := 1) hx rfl hv hL3 (by omega) dL_law_875 dL_law_876 dL_law_877 dL_law_878 dL_law_879 ?_
  refine L_arg (d := 2) hx rfl hv hL3 (by omega) dL_law_880 dL_law_881 dL_law_882 dL_law_883 dL_law_884 ?_
  refine L_arg (d := 3) hx rfl hv hL3 (by omega) dL_law_885 dL_law_886 dL_law_887 dL_law_888 dL_law_889 ?_
  refine L_arg (d := 4) hx rfl hv hL3 (by omega) dL_law_890 dL_law_891 dL_law_892 dL_law_893 dL_law_894 ?_
  refine L_call (u := (r, S1)) (v := vI r) (M2 := MM t S1) [vI (xs (v + 1)), vI (xs (v + 2)), vI (xs (v + 3)), vI (xs (v + 4))] hx mcX11_learn llL_106 rfl (by decide) (sq 0 rfl) (ct11_learn G t 100000 (xs (v + 1)) (xs (v + 2)) (xs (v + 3)) (xs (v + 4)) S) a rfl rfl rfl (Nat.le_of_ble_eq_true rfl) (by omega) (Nat.le_of_ble_eq_true rfl) (by omega) (by omega) dL_law_895 ?_
  refine L_aload (j := 1) hx dL_law_898 rfl rfl ?_
  refine L_arg (d := 1) hx rfl hv hL3 (by omega) dL_law_899 dL_law_900 dL_law_901 dL_law_902 dL_law_903 ?_
  refine L_arg (d := 2) hx rfl hv hL3 (by omega) dL_law_904 dL_law_905 dL_law_906 dL_law_907 dL_law_908 ?_
  refine L_arg (d := 3) hx rfl hv hL3 (by omega) dL_law_909 dL_law_910 dL_law_911 dL_law_912 dL_law_913 ?_
  refine L_arg (d := 4) hx rfl hv hL3 (by omega) dL_law_914 dL_law_915 dL_law_916 dL_law_917 dL_law_918 ?_
  refine L_call (u := (r, S2)) (v := vI r) (M2 := MM t S2) [vI (xs (v + 1)), vI (xs (v + 2)), vI (xs (v + 3)), vI (xs (v + 4))] hx mcX12_learn llL_109 rfl (by decide) (sq 146 rfl) (ct12_learn G t 100000 (xs (v + 1)) (xs (v + 2)) (xs (v + 3)) (xs (v + 4)) S1) b2 rfl rfl rfl (Nat.le_of_ble_eq_true rfl) (by omega) (Nat.le_of_ble_eq_true rfl) (by omega) (by omega) dL_law_919 ?_
  refine L_eq (tgt := 1414) hx dL_law_922 (by decide) ?_
  exact back _ _ _ S2 K2 q k1 k2 (by omega) (by omega)
set_option maxRecDepth 100000 in
theorem llL_110 : Cond.methodLink R_law 110 yX11_cheaper ∈ TT := in5 51 (by rfl) rfl
set_option maxRecDepth 100000 in
theorem llL_113 : Cond.methodLink R_law 113 yX12_cheaper ∈ TT := in7 157 (by rfl) rfl
theorem lk_cheaper {G : Gm} {p : Program} {e : Env} {s : State} {m : MethodId} {below : List Frame} {meth : Method} {c : Code} {b L k n v t K : Nat} {xs : Nat → Int32} {S : St} (hx : Lx G p s m meth c b L xs) (hv : v + 6 ≤ L) (hL3 : L ≤ 3072) (hQ : QA S K) (hK : K + 1000000 < 2147483648) (hk : k + 10 ≤ 600000) (hn : n + 10 ≤ 7302250) (back : ∀ k2 n2 t2 S2 K2, QA S2 K2 → K ≤ K2 → K2 ≤ K + 600000 → k2 ≤ k + 1 → n2 ≤ n + 3 → LW G p e s m below meth c b k2 n2 (MM t2 S2) (lvI G b v) 1414 []) : LW G p e s m below meth c b k n (MM t S) (lvI G b v) 927 [] := by
  obtain ⟨r, S1, S2, K2, a, b2, q, k1, k2⟩ := q_cheaper (N := 100000) (Nat.le_refl _) hQ hK (xs (v + 1)) (xs (v + 2)) (xs (v + 3)) (xs (v + 4))
  refine L_aload (j := 2) hx dL_law_927 rfl rfl ?_
  refine L_arg (d := 1) hx rfl hv hL3 (by omega) dL_law_928 dL_law_929 dL_law_930 dL_law_931 dL_law_932 ?_
  refine L_arg (d := 2) hx rfl hv hL3 (by omega) dL_law_933 dL_law_934 dL_law_935 dL_law_936 dL_law_937 ?_
  refine L_arg (d := 3) hx rfl hv hL3 (by omega) dL_law_938 dL_law_939 dL_law_940 dL_law_941 dL_law_942 ?_
  refine L_arg (d := 4) hx rfl hv hL3 (by omega) dL_law_943 dL_law_944 dL_law_945 dL_law_946 dL_law_947 ?_
  refine L_call (u := (r, S1)) (v := vI r) (M2 := MM t S1) [vI (xs (v + 1)), vI (xs (v + 2)), vI (xs (v + 3)), vI (xs (v + 4))] hx mcX11_cheaper llL_110 rfl (by decide) (sq 0 rfl) (ct11_cheaper G t 100000 (xs (v + 1)) (xs (v + 2)) (xs (v + 3)) (xs (v + 4)) S) a rfl rfl rfl (Nat.le_of_ble_eq_true rfl) (by omega) (Nat.le_of_ble_eq_true rfl) (by omega) (by omega) dL_law_948 ?_
  refine L_aload (j := 1) hx dL_law_951 rfl rfl ?_
  refine L_arg (d := 1) hx rfl hv hL3 (by omega) dL_law_952 dL_law_953 dL_law_954 dL_law_955 dL_law_956 ?_
  refine L_arg (d := 2) hx rfl hv hL3 (by omega) dL_law_957 dL_law_958 dL_law_959 dL_law_960 dL_law_961 ?_
  refine L_arg (d := 3) hx rfl hv hL3 (by omega) dL_law_962 dL_law_963 dL_law_964 dL_law_965 dL_law_966 ?_
  refine L_arg (d := 4) hx rfl hv hL3 (by omega) dL_law_967 dL_law_968 dL_law_969 dL_law_970 dL_law_971 ?_
  refine L_call (u := (r, S2)) (v := vI r) (M2 := MM t S2) [vI (xs (v + 1)), vI (xs (v + 2)), vI (xs (v + 3)), vI (xs (v + 4))] hx mcX12_cheaper llL_113 rfl (by decide) (sq 146 rfl) (ct12_cheaper G t 100000 (xs (v + 1)) (xs (v + 2)) (xs (v + 3)) (xs (v + 4)) S1) b2 rfl rfl rfl (Nat.le_of_ble_eq_true rfl) (by omega) (Nat.le_of_ble_eq_true rfl) (by omega) (by omega) dL_law_972 ?_
  refine L_eq (tgt := 1414) hx dL_law_975 (by decide) ?_
  exact back _ _ _ S2 K2 q k1 k2 (by omega) (by omega)
set_option maxRecDepth 100000 in
theorem llL_114 : Cond.methodLink R_law 114 yX11_price ∈ TT := in5 56 (by rfl) rfl
set_option maxRecDepth 100000 in
theorem llL_117 : Cond.methodLink R_law 117 yX12_price ∈ TT := in7 162 (by rfl) rfl
theorem lk_price {G : Gm} {p : Program} {e : Env} {s : State} {m : MethodId} {below : List Frame} {meth : Method} {c : Code} {b L k n v t K : Nat} {xs : Nat → Int32} {S : St} (hx : Lx G p s m meth c b L xs) (hv : v + 6 ≤ L) (hL3 : L ≤ 3072) (hQ : QA S K) (hK : K + 1000000 < 2147483648) (hk : k + 10 ≤ 600000) (hn : n + 10 ≤ 7302250) (back : ∀ k2 n2 t2 S2 K2, QA S2 K2 → K ≤ K2 → K2 ≤ K + 600000 → k2 ≤ k + 1 → n2 ≤ n + 3 → LW G p e s m below meth c b k2 n2 (MM t2 S2) (lvI G b v) 1414 []) : LW G p e s m below meth c b k n (MM t S) (lvI G b v) 980 [] := by
  obtain ⟨r, S1, S2, K2, a, b2, q, k1, k2⟩ := q_price (N := 100000) (Nat.le_refl _) hQ hK (xs (v + 1)) (xs (v + 2))
  refine L_aload (j := 2) hx dL_law_980 rfl rfl ?_
  refine L_arg (d := 1) hx rfl hv hL3 (by omega) dL_law_981 dL_law_982 dL_law_983 dL_law_984 dL_law_985 ?_
  refine L_arg (d := 2) hx rfl hv hL3 (by omega) dL_law_986 dL_law_987 dL_law_988 dL_law_989 dL_law_990 ?_
  refine L_call (u := (r, S1)) (v := vI r) (M2 := MM t S1) [vI (xs (v + 1)), vI (xs (v + 2))] hx mcX11_price llL_114 rfl (by decide) (sq 0 rfl) (ct11_price G t 100000 (xs (v + 1)) (xs (v + 2)) S) a rfl rfl rfl (Nat.le_of_ble_eq_true rfl) (by omega) (Nat.le_of_ble_eq_true rfl) (by omega) (by omega) dL_law_991 ?_
  refine L_aload (j := 1) hx dL_law_994 rfl rfl ?_
  refine L_arg (d := 1) hx rfl hv hL3 (by omega) dL_law_995 dL_law_996 dL_law_997 dL_law_998 dL_law_999 ?_
  refine L_arg (d := 2) hx rfl hv hL3 (by omega) dL_law_1000 dL_law_1001 dL_law_1002 dL_law_1003 dL_law_1004 ?_
  refine L_call (u := (r, S2)) (v := vI r) (M2 := MM t S2) [vI (xs (v + 1)), vI (xs (v + 2))] hx mcX12_price llL_117 rfl (by decide) (sq 146 rfl) (ct12_price G t 100000 (xs (v + 1)) (xs (v + 2)) S1) b2 rfl rfl rfl (Nat.le_of_ble_eq_true rfl) (by omega) (Nat.le_of_ble_eq_true rfl) (by omega) (by omega) dL_law_1005 ?_
  refine L_eq (tgt := 1414) hx dL_law_1008 (by decide) ?_
  exact back _ _ _ S2 K2 q k1 k2 (by omega) (by omega)
set_option maxRecDepth 100000 in
theorem llL_118 : Cond.methodLink R_law 118 yX11_translated ∈ TT := in5 61 (by rfl) rfl
set_option maxRecDepth 100000 in
theorem llL_121 : Cond.methodLink R_law 121 yX12_translated ∈ TT := in7 166 (by rfl) rfl
theorem lk_translated {G : Gm} {p : Program} {e : Env} {s : State} {m : MethodId} {below : List Frame} {meth : Method} {c : Code} {b L k n v t K : Nat} {xs : Nat → Int32} {S : St} (hx : Lx G p s m meth c b L xs) (hv : v + 6 ≤ L) (hL3 : L ≤ 3072) (hQ : QA S K) (hK : K + 1000000 < 2147483648) (hk : k + 10 ≤ 600000) (hn : n + 10 ≤ 7302250) (back : ∀ k2 n2 t2 S2 K2, QA S2 K2 → K ≤ K2 → K2 ≤ K + 600000 → k2 ≤ k + 1 → n2 ≤ n + 3 → LW G p e s m below meth c b k2 n2 (MM t2 S2) (lvI G b v) 1414 []) : LW G p e s m below meth c b k n (MM t S) (lvI G b v) 1013 [] := by
  obtain ⟨r, S1, S2, K2, a, b2, q, k1, k2⟩ := q_translated (N := 100000) (Nat.le_refl _) hQ hK (xs (v + 1)) (xs (v + 2))
  refine L_aload (j := 2) hx dL_law_1013 rfl rfl ?_
  refine L_arg (d := 1) hx rfl hv hL3 (by omega) dL_law_1014 dL_law_1015 dL_law_1016 dL_law_1017 dL_law_1018 ?_
  refine L_arg (d := 2) hx rfl hv hL3 (by omega) dL_law_1019 dL_law_1020 dL_law_1021 dL_law_1022 dL_law_1023 ?_
  refine L_call (u := (r, S1)) (v := vI r) (M2 := MM t S1) [vI (xs (v + 1)), vI (xs (v + 2))] hx mcX11_translated llL_118 rfl (by decide) (sq 0 rfl) (ct11_translated G t 100000 (xs (v + 1)) (xs (v + 2)) S) a rfl rfl rfl (Nat.le_of_ble_eq_true rfl) (by omega) (Nat.le_of_ble_eq_true rfl) (by omega) (by omega) dL_law_1024 ?_
  refine L_aload (j := 1) hx dL_law_1027 rfl rfl ?_
  refine L_arg (d := 1) hx rfl hv hL3 (by omega) dL_law_1028 dL_law_1029 dL_law_1030 dL_law_1031 dL_law_1032 ?_
  refine L_arg (d := 2) hx rfl hv hL3 (by omega) dL_law_1033 dL_law_1034 dL_law_1035 dL_law_1036 dL_law_1037 ?_
  refine L_call (u := (r, S2)) (v := vI r) (M2 := MM t S2) [vI (xs (v + 1)), vI (xs (v + 2))] hx mcX12_translated llL_121 rfl (by decide) (sq 146 rfl) (ct12_translated G t 100000 (xs (v + 1)) (xs (v + 2)) S1) b2 rfl rfl rfl (Nat.le_of_ble_eq_true rfl) (by omega) (Nat.le_of_ble_eq_true rfl) (by omega) (by omega) dL_law_1038 ?_
  refine L_eq (tgt := 1414) hx dL_law_1041 (by decide) ?_
  exact back _ _ _ S2 K2 q k1 k2 (by omega) (by omega)
set_option maxRecDepth 100000 in
theorem llL_122 : Cond.methodLink R_law 122 yX11_act ∈ TT := in5 65 (by rfl) rfl
set_option maxRecDepth 100000 in
theorem llL_125 : Cond.methodLink R_law 125 yX12_act ∈ TT := in7 170 (by rfl) rfl
theorem lk_act {G : Gm} {p : Program} {e : Env} {s : State} {m : MethodId} {below : List Frame} {meth : Method} {c : Code} {b L k n v t K : Nat} {xs : Nat → Int32} {S : St} (hx : Lx G p s m meth c b L xs) (hv : v + 6 ≤ L) (hL3 : L ≤ 3072) (hQ : QA S K) (hK : K + 1000000 < 2147483648) (hk : k + 10 ≤ 600000) (hn : n + 10 ≤ 7302250) (back : ∀ k2 n2 t2 S2 K2, QA S2 K2 → K ≤ K2 → K2 ≤ K + 600000 → k2 ≤ k + 1 → n2 ≤ n + 3 → LW G p e s m below meth c b k2 n2 (MM t2 S2) (lvI G b v) 1414 []) : LW G p e s m below meth c b k n (MM t S) (lvI G b v) 1046 [] := by
  obtain ⟨r, S1, S2, K2, a, b2, q, k1, k2⟩ := q_act (N := 100000) (Nat.le_refl _) hQ hK (xs (v + 1)) (xs (v + 2)) (xs (v + 3))
  refine L_aload (j := 2) hx dL_law_1046 rfl rfl ?_
  refine L_arg (d := 1) hx rfl hv hL3 (by omega) dL_law_1047 dL_law_1048 dL_law_1049 dL_law_1050 dL_law_1051 ?_
  refine L_arg (d := 2) hx rfl hv hL3 (by omega) dL_law_1052 dL_law_1053 dL_law_1054 dL_law_1055 dL_law_1056 ?_
  refine L_arg (d := 3) hx rfl hv hL3 (by omega) dL_law_1057 dL_law_1058 dL_law_1059 dL_law_1060 dL_law_1061 ?_
  refine L_call (u := (r, S1)) (v := vI r) (M2 := MM t S1) [vI (xs (v + 1)), vI (xs (v + 2)), vI (xs (v + 3))] hx mcX11_act llL_122 rfl (by decide) (sq 0 rfl) (ct11_act G t 100000 (xs (v + 1)) (xs (v + 2)) (xs (v + 3)) S) a rfl rfl rfl (Nat.le_of_ble_eq_true rfl) (by omega) (Nat.le_of_ble_eq_true rfl) (by omega) (by omega) dL_law_1062 ?_
  refine L_aload (j := 1) hx dL_law_1065 rfl rfl ?_
  refine L_arg (d := 1) hx rfl hv hL3 (by omega) dL_law_1066 dL_law_1067 dL_law_1068 dL_law_1069 dL_law_1070 ?_
  refine L_arg (d := 2) hx rfl hv hL3 (by omega) dL_law_1071 dL_law_1072 dL_law_1073 dL_law_1074 dL_law_1075 ?_
  refine L_arg (d := 3) hx rfl hv hL3 (by omega) dL_law_1076 dL_law_1077 dL_law_1078 dL_law_1079 dL_law_1080 ?_
  refine L_call (u := (r, S2)) (v := vI r) (M2 := MM t S2) [vI (xs (v + 1)), vI (xs (v + 2)), vI (xs (v + 3))] hx mcX12_act llL_125 rfl (by decide) (sq 146 rfl) (ct12_act G t (xs (v + 1)) (xs (v + 2)) (xs (v + 3)) S1) b2 rfl rfl rfl (Nat.le_of_ble_eq_true rfl) (by omega) (Nat.le_of_ble_eq_true rfl) (by omega) (by omega) dL_law_1081 ?_
  refine L_eq (tgt := 1414) hx dL_law_1084 (by decide) ?_
  exact back _ _ _ S2 K2 q k1 k2 (by omega) (by omega)
set_option maxRecDepth 100000 in
theorem llL_126 : Cond.methodLink R_law 126 yX11_trace ∈ TT := in5 105 (by rfl) rfl
set_option maxRecDepth 100000 in
theorem llL_129 : Cond.methodLink R_law 129 yX12_trace ∈ TT := in7 204 (by rfl) rfl
theorem lk_trace {G : Gm} {p : Program} {e : Env} {s : State} {m : MethodId} {below : List Frame} {meth : Method} {c : Code} {b L k n v t K : Nat} {xs : Nat → Int32} {S : St} (hx : Lx G p s m meth c b L xs) (hv : v + 6 ≤ L) (hL3 : L ≤ 3072) (hQ : QA S K) (hK : K + 1000000 < 2147483648) (hk : k + 10 ≤ 600000) (hn : n + 10 ≤ 7302250) (back : ∀ k2 n2 t2 S2 K2, QA S2 K2 → K ≤ K2 → K2 ≤ K + 600000 → k2 ≤ k + 1 → n2 ≤ n + 3 → LW G p e s m below meth c b k2 n2 (MM t2 S2) (lvI G b v) 1414 []) : LW G p e s m below meth c b k n (MM t S) (lvI G b v) 1089 [] := by
  obtain ⟨r, S1, S2, K2, a, b2, q, k1, k2⟩ := q_trace (N := 100000) (Nat.le_refl _) hQ hK (xs (v + 1))
  refine L_aload (j := 2) hx dL_law_1089 rfl rfl ?_
  refine L_arg (d := 1) hx rfl hv hL3 (by omega) dL_law_1090 dL_law_1091 dL_law_1092 dL_law_1093 dL_law_1094 ?_
  refine L_call (u := (r, S1)) (v := vI r) (M2 := MM t S1) [vI (xs (v + 1))] hx mcX11_trace llL_126 rfl (by decide) (sq 0 rfl) (ct11_trace G t (xs (v + 1)) S) a rfl rfl rfl (Nat.le_of_ble_eq_true rfl) (by omega) (Nat.le_of_ble_eq_true rfl) (by omega) (by omega) dL_law_1095 ?_
  refine L_aload (j := 1) hx dL_law_1098 rfl rfl ?_
  refine L_arg (d := 1) hx rfl hv hL3 (by omega) dL_law_1099 dL_law_1100 dL_law_1101 dL_law_1102 dL_law_1103 ?_
  refine L_call (u := (r, S2)) (v := vI r) (M2 := MM t S2) [vI (xs (v + 1))] hx mcX12_trace llL_129 rfl (by decide) (sq 146 rfl) (ct12_trace G t (xs (v + 1)) S1) b2 rfl rfl rfl (Nat.le_of_ble_eq_true rfl) (by omega) (Nat.le_of_ble_eq_true rfl) (by omega) (by omega) dL_law_1104 ?_
  refine L_eq (tgt := 1414) hx dL_law_1107 (by decide) ?_
  exact back _ _ _ S2 K2 q k1 k2 (by omega) (by omega)
set_option maxRecDepth 100000 in
theorem llL_130 : Cond.methodLink R_law 130 yX11_keep ∈ TT := in5 113 (by rfl) rfl
set_option maxRecDepth 100000 in
theorem llL_133 : Cond.methodLink R_law 133 yX12_keep ∈ TT := in7 208 (by rfl) rfl
theorem lk_keep {G : Gm} {p : Program} {e : Env} {s : State} {m : MethodId} {below : List Frame} {meth : Method} {c : Code} {b L k n v t K : Nat} {xs : Nat → Int32} {S : St} (hx : Lx G p s m meth c b L xs) (hv : v + 6 ≤ L) (hL3 : L ≤ 3072) (hQ : QA S K) (hK : K + 1000000 < 2147483648) (hk : k + 10 ≤ 600000) (hn : n + 10 ≤ 7302250) (back : ∀ k2 n2 t2 S2 K2, QA S2 K2 → K ≤ K2 → K2 ≤ K + 600000 → k2 ≤ k + 1 → n2 ≤ n + 3 → LW G p e s m below meth c b k2 n2 (MM t2 S2) (lvI G b v) 1414 []) : LW G p e s m below meth c b k n (MM t S) (lvI G b v) 1112 [] := by
  obtain ⟨r, S1, S2, K2, a, b2, q, k1, k2⟩ := q_keep (N := 100000) (Nat.le_refl _) hQ hK (xs (v + 1)) (xs (v + 2))
  refine L_aload (j := 2) hx dL_law_1112 rfl rfl ?_
  refine L_arg (d := 1) hx rfl hv hL3 (by omega) dL_law_1113 dL_law_1114 dL_law_1115 dL_law_1116 dL_law_1117 ?_
  refine L_arg (d := 2) hx rfl hv hL3 (by omega) dL_law_1118 dL_law_1119 dL_law_1120 dL_law_1121 dL_law_1122 ?_
  refine L_call (u := (r, S1)) (v := vI r) (M2 := MM t S1) [vI (xs (v + 1)), vI (xs (v + 2))] hx mcX11_keep llL_130 rfl (by decide) (sq 0 rfl) (ct11_keep G t (xs (v + 1)) (xs (v + 2)) S) a rfl rfl rfl (Nat.le_of_ble_eq_true rfl) (by omega) (Nat.le_of_ble_eq_true rfl) (by omega) (by omega) dL_law_1123 ?_
  refine L_aload (j := 1) hx dL_law_1126 rfl rfl ?_
  refine L_arg (d := 1) hx rfl hv hL3 (by omega) dL_law_1127 dL_law_1128 dL_law_1129 dL_law_1130 dL_law_1131 ?_
  refine L_arg (d := 2) hx rfl hv hL3 (by omega) dL_law_1132 dL_law_1133 dL_law_1134 dL_law_1135 dL_law_1136 ?_
  refine L_call (u := (r, S2)) (v := vI r) (M2 := MM t S2) [vI (xs (v + 1)), vI (xs (v + 2))] hx mcX12_keep llL_133 rfl (by decide) (sq 146 rfl) (ct12_keep G t (xs (v + 1)) (xs (v + 2)) S1) b2 rfl rfl rfl (Nat.le_of_ble_eq_true rfl) (by omega) (Nat.le_of_ble_eq_true rfl) (by omega) (by omega) dL_law_1137 ?_
  refine L_eq (tgt := 1414) hx dL_law_1140 (by decide) ?_
  exact back _ _ _ S2 K2 q k1 k2 (by omega) (by omega)
set_option maxRecDepth 100000 in
theorem llL_134 : Cond.methodLink R_law 134 yX11_row ∈ TT := in5 132 (by rfl) rfl
set_option maxRecDepth 100000 in
theorem llL_137 : Cond.methodLink R_law 137 yX12_row ∈ TT := in7 216 (by rfl) rfl
theorem lk_row {G : Gm} {p : Program} {e : Env} {s : State} {m : MethodId} {below : List Frame} {meth : Method} {c : Code} {b L k n v t K : Nat} {xs : Nat → Int32} {S : St} (hx : Lx G p s m meth c b L xs) (hv : v + 6 ≤ L) (hL3 : L ≤ 3072) (hQ : QA S K) (hK : K + 1000000 < 2147483648) (hk : k + 10 ≤ 600000) (hn : n + 10 ≤ 7302250) (back : ∀ k2 n2 t2 S2 K2, QA S2 K2 → K ≤ K2 → K2 ≤ K + 600000 → k2 ≤ k + 1 → n2 ≤ n + 3 → LW G p e s m below meth c b k2 n2 (MM t2 S2) (lvI G b v) 1414 []) : LW G p e s m below meth c b k n (MM t S) (lvI G b v) 1145 [] := by
  obtain ⟨r, S1, S2, K2, a, b2, q, k1, k2⟩ := q_row (N := 100000) (Nat.le_refl _) hQ hK (xs (v + 1)) (xs (v + 2)) (xs (v + 3))
  refine L_aload (j := 2) hx dL_law_1145 rfl rfl ?_
  refine L_arg (d := 1) hx rfl hv hL3 (by omega) dL_law_1146 dL_law_1147 dL_law_1148 dL_law_1149 dL_law_1150 ?_
  refine L_arg (d := 2) hx rfl hv hL3 (by omega) dL_law_1151 dL_law_1152 dL_law_1153 dL_law_1154 dL_law_1155 ?_
  refine L_arg (d := 3) hx rfl hv hL3 (by omega) dL_law_1156 dL_law_1157 dL_law_1158 dL_law_1159 dL_law_1160 ?_
  refine L_call (u := (r, S1)) (v := vI r) (M2 := MM t S1) [vI (xs (v + 1)), vI (xs (v + 2)), vI (xs (v + 3))] hx mcX11_row llL_134 rfl (by decide) (sq 0 rfl) (ct11_row G t (xs (v + 1)) (xs (v + 2)) (xs (v + 3)) S) a rfl rfl rfl (Nat.le_of_ble_eq_true rfl) (by omega) (Nat.le_of_ble_eq_true rfl) (by omega) (by omega) dL_law_1161 ?_
  refine L_aload (j := 1) hx dL_law_1164 rfl rfl ?_
  refine L_arg (d := 1) hx rfl hv hL3 (by omega) dL_law_1165 dL_law_1166 dL_law_1167 dL_law_1168 dL_law_1169 ?_
  refine L_arg (d := 2) hx rfl hv hL3 (by omega) dL_law_1170 dL_law_1171 dL_law_1172 dL_law_1173 dL_law_1174 ?_
  refine L_arg (d := 3) hx rfl hv hL3 (by omega) dL_law_1175 dL_law_1176 dL_law_1177 dL_law_1178 dL_law_1179 ?_
  refine L_call (u := (r, S2)) (v := vI r) (M2 := MM t S2) [vI (xs (v + 1)), vI (xs (v + 2)), vI (xs (v + 3))] hx mcX12_row llL_137 rfl (by decide) (sq 146 rfl) (ct12_row G t 100000 (xs (v + 1)) (xs (v + 2)) (xs (v + 3)) S1) b2 rfl rfl rfl (Nat.le_of_ble_eq_true rfl) (by omega) (Nat.le_of_ble_eq_true rfl) (by omega) (by omega) dL_law_1180 ?_
  refine L_eq (tgt := 1414) hx dL_law_1183 (by decide) ?_
  exact back _ _ _ S2 K2 q k1 k2 (by omega) (by omega)
set_option maxRecDepth 100000 in
theorem wcL_138 : Cond.constantLong R_law 138 (4294967295) ∈ TT := in8 12 (by rfl) rfl
set_option maxRecDepth 100000 in
theorem llL_140 : Cond.methodLink R_law 140 yX11_put ∈ TT := in5 140 (by rfl) rfl
set_option maxRecDepth 100000 in
theorem llL_144 : Cond.methodLink R_law 144 yX12_put ∈ TT := in7 220 (by rfl) rfl
theorem lk_put {G : Gm} {p : Program} {e : Env} {s : State} {m : MethodId} {below : List Frame} {meth : Method} {c : Code} {b L k n v t K : Nat} {xs : Nat → Int32} {S : St} (hx : Lx G p s m meth c b L xs) (hv : v + 6 ≤ L) (hL3 : L ≤ 3072) (hQ : QA S K) (hK : K + 1000000 < 2147483648) (hk : k + 10 ≤ 600000) (hn : n + 10 ≤ 7302250) (back : ∀ k2 n2 t2 S2 K2, QA S2 K2 → K ≤ K2 → K2 ≤ K + 600000 → k2 ≤ k + 1 → n2 ≤ n + 3 → LW G p e s m below meth c b k2 n2 (MM t2 S2) (lvI G b v) 1414 []) : LW G p e s m below meth c b k n (MM t S) (lvI G b v) 1188 [] := by
  obtain ⟨r, S1, S2, K2, a, b2, q, k1, k2⟩ := q_put (N := 100000) (Nat.le_refl _) hQ hK (xs (v + 1)) (xs (v + 2)) ((((xs (v + 3)).toInt64 <<< ((32 : Int32).toInt64 &&& 63)) ||| ((xs (v + 4)).toInt64 &&& (4294967295 : Int64))))
  refine L_aload (j := 2) hx dL_law_1188 rfl rfl ?_
  refine L_arg (d := 1) hx rfl hv hL3 (by omega) dL_law_1189 dL_law_1190 dL_law_1191 dL_law_1192 dL_law_1193 ?_
  refine L_arg (d := 2) hx rfl hv hL3 (by omega) dL_law_1194 dL_law_1195 dL_law_1196 dL_law_1197 dL_law_1198 ?_
  refine L_arg (d := 3) hx rfl hv hL3 (by omega) dL_law_1199 dL_law_1200 dL_law_1201 dL_law_1202 dL_law_1203 ?_
  refine L_i2l hx dL_law_1204 ?_
  refine L_bipush (v := 32) hx dL_law_1205 (by decide) ?_
  refine L_lshl hx dL_law_1207 ?_
  refine L_arg (d := 4) hx rfl hv hL3 (by omega) dL_law_1208 dL_law_1209 dL_law_1210 dL_law_1211 dL_law_1212 ?_
  refine L_i2l hx dL_law_1213 ?_
  refine L_ldc2 hx wcL_138 dL_law_1214 ?_
  refine L_land hx dL_law_1217 ?_
  refine L_lor hx dL_law_1218 ?_
  refine L_call (u := (r, S1)) (v := vI r) (M2 := MM t S1) [vI (xs (v + 1)), vI (xs (v + 2)), vL ((((xs (v + 3)).toInt64 <<< ((32 : Int32).toInt64 &&& 63)) ||| ((xs (v + 4)).toInt64 &&& (4294967295 : Int64))))] hx mcX11_put llL_140 rfl (by decide) (sq 0 rfl) (ct11_put G t (xs (v + 1)) (xs (v + 2)) ((((xs (v + 3)).toInt64 <<< ((32 : Int32).toInt64 &&& 63)) ||| ((xs (v + 4)).toInt64 &&& (4294967295 : Int64)))) S) a rfl rfl rfl (Nat.le_of_ble_eq_true rfl) (by omega) (Nat.le_of_ble_eq_true rfl) (by omega) (by omega) dL_law_1219 ?_
  refine L_aload (j := 1) hx dL_law_1222 rfl rfl ?_
  refine L_arg (d := 1) hx rfl hv hL3 (by omega) dL_law_1223 dL_law_1224 dL_law_1225 dL_law_1226 dL_law_1227 ?_
  refine L_arg (d := 2) hx rfl hv hL3 (by omega) dL_law_1228 dL_law_1229 dL_law_1230 dL_law_1231 dL_law_1232 ?_
  refine L_arg (d := 3) hx rfl hv hL3 (by omega) dL_law_1233 dL_law_1234 dL_law_1235 dL_law_1236 dL_law_1237 ?_
  refine L_i2l hx dL_law_1238 ?_
  refine L_bipush (v := 32) hx dL_law_1239 (by decide) ?_
  refine L_lshl hx dL_law_1241 ?_
  refine L_arg (d := 4) hx rfl hv hL3 (by omega) dL_law_1242 dL_law_1243 dL_law_1244 dL_law_1245 dL_law_1246 ?_
  refine L_i2l hx dL_law_1247 ?_
  refine L_ldc2 hx wcL_138 dL_law_1248 ?_
  refine L_land hx dL_law_1251 ?_
  refine L_lor hx dL_law_1252 ?_
  refine L_call (u := (r, S2)) (v := vI r) (M2 := MM t S2) [vI (xs (v + 1)), vI (xs (v + 2)), vL ((((xs (v + 3)).toInt64 <<< ((32 : Int32).toInt64 &&& 63)) ||| ((xs (v + 4)).toInt64 &&& (4294967295 : Int64))))] hx mcX12_put llL_144 rfl (by decide) (sq 146 rfl) (ct12_put G t (xs (v + 1)) (xs (v + 2)) ((((xs (v + 3)).toInt64 <<< ((32 : Int32).toInt64 &&& 63)) ||| ((xs (v + 4)).toInt64 &&& (4294967295 : Int64)))) S1) b2 rfl rfl rfl (Nat.le_of_ble_eq_true rfl) (by omega) (Nat.le_of_ble_eq_true rfl) (by omega) (by omega) dL_law_1253 ?_
  refine L_eq (tgt := 1414) hx dL_law_1256 (by decide) ?_
  exact back _ _ _ S2 K2 q k1 k2 (by omega) (by omega)
set_option maxRecDepth 100000 in
theorem llL_145 : Cond.methodLink R_law 145 yX11_element ∈ TT := in5 163 (by rfl) rfl
set_option maxRecDepth 100000 in
theorem llL_149 : Cond.methodLink R_law 149 yX12_element ∈ TT := in7 231 (by rfl) rfl
theorem lk_element {G : Gm} {p : Program} {e : Env} {s : State} {m : MethodId} {below : List Frame} {meth : Method} {c : Code} {b L k n v t K : Nat} {xs : Nat → Int32} {S : St} (hx : Lx G p s m meth c b L xs) (hv : v + 6 ≤ L) (hL3 : L ≤ 3072) (hQ : QA S K) (hK : K + 1000000 < 2147483648) (hk : k + 10 ≤ 600000) (hn : n + 10 ≤ 7302250) (back : ∀ k2 n2 t2 S2 K2, QA S2 K2 → K ≤ K2 → K2 ≤ K + 600000 → k2 ≤ k + 1 → n2 ≤ n + 3 → LW G p e s m below meth c b k2 n2 (MM t2 S2) (lvI G b v) 1414 []) : LW G p e s m below meth c b k n (MM t S) (lvI G b v) 1261 [] := by
  obtain ⟨r, S1, S2, K2, a, b2, q, k1, k2⟩ := q_element (N := 100000) (Nat.le_refl _) hQ hK (xs (v + 1)) (xs (v + 2))
  refine L_aload (j := 2) hx dL_law_1261 rfl rfl ?_
  refine L_arg (d := 1) hx rfl hv hL3 (by omega) dL_law_1262 dL_law_1263 dL_law_1264 dL_law_1265 dL_law_1266 ?_
  refine L_arg (d := 2) hx rfl hv hL3 (by omega) dL_law_1267 dL_law_1268 dL_law_1269 dL_law_1270 dL_law_1271 ?_
  refine L_call (u := (r, S1)) (v := vL r) (M2 := MM t S1) [vI (xs (v + 1)), vI (xs (v + 2))] hx mcX11_element llL_145 rfl (by decide) (sq 0 rfl) (ct11_element G t (xs (v + 1)) (xs (v + 2)) S) a rfl rfl rfl (Nat.le_of_ble_eq_true rfl) (by omega) (Nat.le_of_ble_eq_true rfl) (by omega) (by omega) dL_law_1272 ?_
  refine L_aload (j := 1) hx dL_law_1275 rfl rfl ?_
  refine L_arg (d := 1) hx rfl hv hL3 (by omega) dL_law_1276 dL_law_1277 dL_law_1278 dL_law_1279 dL_law_1280 ?_
  refine L_arg (d := 2) hx rfl hv hL3 (by omega) dL_law_1281 dL_law_1282 dL_law_1283 dL_law_1284 dL_law_1285 ?_
  refine L_call (u := (r, S2)) (v := vL r) (M2 := MM t S2) [vI (xs (v + 1)), vI (xs (v + 2))] hx mcX12_element llL_149 rfl (by decide) (sq 146 rfl) (ct12_element G t (xs (v + 1)) (xs (v + 2)) S1) b2 rfl rfl rfl (Nat.le_of_ble_eq_true rfl) (by omega) (Nat.le_of_ble_eq_true rfl) (by omega) (by omega) dL_law_1286 ?_
  refine L_leq (tgt := 1414) hx dL_law_1289 dL_law_1290 (by decide) ?_
  exact back _ _ _ S2 K2 q k1 k2 (by omega) (by omega)
set_option maxRecDepth 100000 in
theorem llL_150 : Cond.methodLink R_law 150 yX11_shift ∈ TT := in5 168 (by rfl) rfl
set_option maxRecDepth 100000 in
theorem llL_154 : Cond.methodLink R_law 154 yX12_shift ∈ TT := in7 236 (by rfl) rfl
theorem lk_shift {G : Gm} {p : Program} {e : Env} {s : State} {m : MethodId} {below : List Frame} {meth : Method} {c : Code} {b L k n v t K : Nat} {xs : Nat → Int32} {S : St} (hx : Lx G p s m meth c b L xs) (hv : v + 6 ≤ L) (hL3 : L ≤ 3072) (hQ : QA S K) (hK : K + 1000000 < 2147483648) (hk : k + 10 ≤ 600000) (hn : n + 10 ≤ 7302250) (back : ∀ k2 n2 t2 S2 K2, QA S2 K2 → K ≤ K2 → K2 ≤ K + 600000 → k2 ≤ k + 1 → n2 ≤ n + 3 → LW G p e s m below meth c b k2 n2 (MM t2 S2) (lvI G b v) 1414 []) : LW G p e s m below meth c b k n (MM t S) (lvI G b v) 1295 [] := by
  obtain ⟨r, S1, S2, K2, a, b2, q, k1, k2⟩ := q_shift (N := 100000) (Nat.le_refl _) hQ hK (xs (v + 1)) (xs (v + 2)) (xs (v + 3)) (xs (v + 4)) (xs (v + 5))
  refine L_aload (j := 2) hx dL_law_1295 rfl rfl ?_
  refine L_arg (d := 1) hx rfl hv hL3 (by omega) dL_law_1296 dL_law_1297 dL_law_1298 dL_law_1299 dL_law_1300 ?_
  refine L_arg (d := 2) hx rfl hv hL3 (by omega) dL_law_1301 dL_law_1302 dL_law_1303 dL_law_1304 dL_law_1305 ?_
  refine L_arg (d := 3) hx rfl hv hL3 (by omega) dL_law_1306 dL_law_1307 dL_law_1308 dL_law_1309 dL_law_1310 ?_
  refine L_arg (d := 4) hx rfl hv hL3 (by omega) dL_law_1311 dL_law_1312 dL_law_1313 dL_law_1314 dL_law_1315 ?_
  refine L_arg (d := 5) hx rfl hv hL3 (by omega) dL_law_1316 dL_law_1317 dL_law_1318 dL_law_1319 dL_law_1320 ?_
  refine L_call (u := (r, S1)) (v := vI r) (M2 := MM t S1) [vI (xs (v + 1)), vI (xs (v + 2)), vI (xs (v + 3)), vI (xs (v + 4)), vI (xs (v + 5))] hx mcX11_shift llL_150 rfl (by decide) (sq 0 rfl) (ct11_shift G t (xs (v + 1)) (xs (v + 2)) (xs (v + 3)) (xs (v + 4)) (xs (v + 5)) S) a rfl rfl rfl (Nat.le_of_ble_eq_true rfl) (by omega) (Nat.le_of_ble_eq_true rfl) (by omega) (by omega) dL_law_1321 ?_
  refine L_aload (j := 1) hx dL_law_1324 rfl rfl ?_
  refine L_arg (d := 1) hx rfl hv hL3 (by omega) dL_law_1325 dL_law_1326 dL_law_1327 dL_law_1328 dL_law_1329 ?_
  refine L_arg (d := 2) hx rfl hv hL3 (by omega) dL_law_1330 dL_law_1331 dL_law_1332 dL_law_1333 dL_law_1334 ?_
  refine L_arg (d := 3) hx rfl hv hL3 (by omega) dL_law_1335 dL_law_1336 dL_law_1337 dL_law_1338 dL_law_1339 ?_
  refine L_arg (d := 4) hx rfl hv hL3 (by omega) dL_law_1340 dL_law_1341 dL_law_1342 dL_law_1343 dL_law_1344 ?_
  refine L_arg (d := 5) hx rfl hv hL3 (by omega) dL_law_1345 dL_law_1346 dL_law_1347 dL_law_1348 dL_law_1349 ?_
  refine L_call (u := (r, S2)) (v := vI r) (M2 := MM t S2) [vI (xs (v + 1)), vI (xs (v + 2)), vI (xs (v + 3)), vI (xs (v + 4)), vI (xs (v + 5))] hx mcX12_shift llL_154 rfl (by decide) (sq 146 rfl) (ct12_shift G t 100000 (xs (v + 1)) (xs (v + 2)) (xs (v + 3)) (xs (v + 4)) (xs (v + 5)) S1) b2 rfl rfl rfl (Nat.le_of_ble_eq_true rfl) (by omega) (Nat.le_of_ble_eq_true rfl) (by omega) (by omega) dL_law_1350 ?_
  refine L_eq (tgt := 1414) hx dL_law_1353 (by decide) ?_
  exact back _ _ _ S2 K2 q k1 k2 (by omega) (by omega)
set_option maxRecDepth 100000 in
theorem llL_155 : Cond.methodLink R_law 155 yX11_taken ∈ TT := in5 178 (by rfl) rfl
set_option maxRecDepth 100000 in
theorem llL_158 : Cond.methodLink R_law 158 yX12_taken ∈ TT := in8 0 (by rfl) rfl
theorem lk_taken {G : Gm} {p : Program} {e : Env} {s : State} {m : MethodId} {below : List Frame} {meth : Method} {c : Code} {b L k n v t K : Nat} {xs : Nat → Int32} {S : St} (hx : Lx G p s m meth c b L xs) (hv : v + 6 ≤ L) (hL3 : L ≤ 3072) (hQ : QA S K) (hK : K + 1000000 < 2147483648) (hk : k + 10 ≤ 600000) (hn : n + 10 ≤ 7302250) (back : ∀ k2 n2 t2 S2 K2, QA S2 K2 → K ≤ K2 → K2 ≤ K + 600000 → k2 ≤ k + 1 → n2 ≤ n + 3 → LW G p e s m below meth c b k2 n2 (MM t2 S2) (lvI G b v) 1414 []) : LW G p e s m below meth c b k n (MM t S) (lvI G b v) 1358 [] := by
  obtain ⟨r, S1, S2, K2, a, b2, q, k1, k2⟩ := q_taken (N := 100000) (Nat.le_refl _) hQ hK (xs (v + 1)) (xs (v + 2))
  refine L_aload (j := 2) hx dL_law_1358 rfl rfl ?_
  refine L_arg (d := 1) hx rfl hv hL3 (by omega) dL_law_1359 dL_law_1360 dL_law_1361 dL_law_1362 dL_law_1363 ?_
  refine L_arg (d := 2) hx rfl hv hL3 (by omega) dL_law_1364 dL_law_1365 dL_law_1366 dL_law_1367 dL_law_1368 ?_
  refine L_call (u := (r, S1)) (v := vI r) (M2 := MM t S1) [vI (xs (v + 1)), vI (xs (v + 2))] hx mcX11_taken llL_155 rfl (by decide) (sq 0 rfl) (ct11_taken G t 100000 (xs (v + 1)) (xs (v + 2)) S) a rfl rfl rfl (Nat.le_of_ble_eq_true rfl) (by omega) (Nat.le_of_ble_eq_true rfl) (by omega) (by omega) dL_law_1369 ?_
  refine L_aload (j := 1) hx dL_law_1372 rfl rfl ?_
  refine L_arg (d := 1) hx rfl hv hL3 (by omega) dL_law_1373 dL_law_1374 dL_law_1375 dL_law_1376 dL_law_1377 ?_
  refine L_arg (d := 2) hx rfl hv hL3 (by omega) dL_law_1378 dL_law_1379 dL_law_1380 dL_law_1381 dL_law_1382 ?_
  refine L_call (u := (r, S2)) (v := vI r) (M2 := MM t S2) [vI (xs (v + 1)), vI (xs (v + 2))] hx mcX12_taken llL_158 rfl (by decide) (sq 146 rfl) (ct12_taken G t 100000 (xs (v + 1)) (xs (v + 2)) S1) b2 rfl rfl rfl (Nat.le_of_ble_eq_true rfl) (by omega) (Nat.le_of_ble_eq_true rfl) (by omega) (by omega) dL_law_1383 ?_
  refine L_eq (tgt := 1414) hx dL_law_1386 (by decide) ?_
  exact back _ _ _ S2 K2 q k1 k2 (by omega) (by omega)
set_option maxRecDepth 100000 in
theorem llL_159 : Cond.methodLink R_law 159 yX11_count ∈ TT := in5 190 (by rfl) rfl
set_option maxRecDepth 100000 in
theorem llL_162 : Cond.methodLink R_law 162 yX12_count ∈ TT := in8 8 (by rfl) rfl
theorem lk_count {G : Gm} {p : Program} {e : Env} {s : State} {m : MethodId} {below : List Frame} {meth : Method} {c : Code} {b L k n v t K : Nat} {xs : Nat → Int32} {S : St} (hx : Lx G p s m meth c b L xs) (hv : v + 6 ≤ L) (hL3 : L ≤ 3072) (hQ : QA S K) (hK : K + 1000000 < 2147483648) (hk : k + 10 ≤ 600000) (hn : n + 10 ≤ 7302250) (back : ∀ k2 n2 t2 S2 K2, QA S2 K2 → K ≤ K2 → K2 ≤ K + 600000 → k2 ≤ k + 1 → n2 ≤ n + 3 → LW G p e s m below meth c b k2 n2 (MM t2 S2) (lvI G b v) 1414 []) : LW G p e s m below meth c b k n (MM t S) (lvI G b v) 1391 [] := by
  obtain ⟨r, S1, S2, K2, a, b2, q, k1, k2⟩ := q_count (N := 100000) (Nat.le_refl _) hQ hK (xs (v + 1))
  refine L_aload (j := 2) hx dL_law_1391 rfl rfl ?_
  refine L_arg (d := 1) hx rfl hv hL3 (by omega) dL_law_1392 dL_law_1393 dL_law_1394 dL_law_1395 dL_law_1396 ?_
  refine L_call (u := (r, S1)) (v := vI r) (M2 := MM t S1) [vI (xs (v + 1))] hx mcX11_count llL_159 rfl (by decide) (sq 0 rfl) (ct11_count G t (xs (v + 1)) S) a rfl rfl rfl (Nat.le_of_ble_eq_true rfl) (by omega) (Nat.le_of_ble_eq_true rfl) (by omega) (by omega) dL_law_1397 ?_
  refine L_aload (j := 1) hx dL_law_1400 rfl rfl ?_
  refine L_arg (d := 1) hx rfl hv hL3 (by omega) dL_law_1401 dL_law_1402 dL_law_1403 dL_law_1404 dL_law_1405 ?_
  refine L_call (u := (r, S2)) (v := vI r) (M2 := MM t S2) [vI (xs (v + 1))] hx mcX12_count llL_162 rfl (by decide) (sq 146 rfl) (ct12_count G t (xs (v + 1)) S1) b2 rfl rfl rfl (Nat.le_of_ble_eq_true rfl) (by omega) (Nat.le_of_ble_eq_true rfl) (by omega) (by omega) dL_law_1406 ?_
  refine L_eq (tgt := 1414) hx dL_law_1409 (by decide) ?_
  exact back _ _ _ S2 K2 q k1 k2 (by omega) (by omega)
