theorem d_L_law_166 : decode b_L_law 166 = .ok (.i2l, 1) := by decide +kernel
theorem d_L_law_167 : decode b_L_law 167 = .ok (.ldc2_w 62, 3) := by decide +kernel
theorem d_L_law_170 : decode b_L_law 170 = .ok (.land, 1) := by decide +kernel
theorem d_L_law_171 : decode b_L_law 171 = .ok (.lor, 1) := by decide +kernel
theorem d_L_law_172 : decode b_L_law 172 = .ok (.invokevirtual 69, 3) := by decide +kernel
theorem d_L_law_175 : decode b_L_law 175 = .ok (.istore 6, 2) := by decide +kernel
theorem d_L_law_177 : decode b_L_law 177 = .ok (.aload_n 2, 1) := by decide +kernel
theorem d_L_law_178 : decode b_L_law 178 = .ok (.invokevirtual 70, 3) := by decide +kernel
theorem d_L_law_181 : decode b_L_law 181 = .ok (.iload 5, 2) := by decide +kernel
theorem d_L_law_183 : decode b_L_law 183 = .ok (.if_icmp .eq (5), 3) := by decide +kernel
theorem d_L_law_186 : decode b_L_law 186 = .ok (.iconst (0), 1) := by decide +kernel
theorem d_L_law_187 : decode b_L_law 187 = .ok (.ireturn, 1) := by decide +kernel
theorem d_L_law_188 : decode b_L_law 188 = .ok (.iload 5, 2) := by decide +kernel
theorem d_L_law_190 : decode b_L_law 190 = .ok (.ifCond .ne (15), 3) := by decide +kernel
theorem d_L_law_193 : decode b_L_law 193 = .ok (.aload_n 3, 1) := by decide +kernel
theorem d_L_law_194 : decode b_L_law 194 = .ok (.iconst (0), 1) := by decide +kernel
theorem d_L_law_195 : decode b_L_law 195 = .ok (.laload, 1) := by decide +kernel
theorem d_L_law_196 : decode b_L_law 196 = .ok (.iload 6, 2) := by decide +kernel
theorem d_L_law_198 : decode b_L_law 198 = .ok (.i2l, 1) := by decide +kernel
theorem d_L_law_199 : decode b_L_law 199 = .ok (.lcmp, 1) := by decide +kernel
theorem d_L_law_200 : decode b_L_law 200 = .ok (.ifCond .eq (5), 3) := by decide +kernel
theorem d_L_law_203 : decode b_L_law 203 = .ok (.iconst (0), 1) := by decide +kernel
theorem d_L_law_204 : decode b_L_law 204 = .ok (.ireturn, 1) := by decide +kernel
theorem d_L_law_205 : decode b_L_law 205 = .ok (.goto (1045), 3) := by decide +kernel
theorem d_L_law_208 : decode b_L_law 208 = .ok (.aload_n 1, 1) := by decide +kernel
theorem d_L_law_209 : decode b_L_law 209 = .ok (.aload_n 0, 1) := by decide +kernel
theorem d_L_law_210 : decode b_L_law 210 = .ok (.iload 4, 2) := by decide +kernel
theorem d_L_law_212 : decode b_L_law 212 = .ok (.iconst (1), 1) := by decide +kernel
theorem d_L_law_213 : decode b_L_law 213 = .ok (.iadd, 1) := by decide +kernel
theorem d_L_law_214 : decode b_L_law 214 = .ok (.iaload, 1) := by decide +kernel
theorem d_L_law_215 : decode b_L_law 215 = .ok (.i2l, 1) := by decide +kernel
theorem d_L_law_216 : decode b_L_law 216 = .ok (.bipush (32), 2) := by decide +kernel
theorem d_L_law_218 : decode b_L_law 218 = .ok (.lshl, 1) := by decide +kernel
theorem d_L_law_219 : decode b_L_law 219 = .ok (.aload_n 0, 1) := by decide +kernel
theorem d_L_law_220 : decode b_L_law 220 = .ok (.iload 4, 2) := by decide +kernel
theorem d_L_law_222 : decode b_L_law 222 = .ok (.iconst (2), 1) := by decide +kernel
theorem d_L_law_223 : decode b_L_law 223 = .ok (.iadd, 1) := by decide +kernel
theorem d_L_law_224 : decode b_L_law 224 = .ok (.iaload, 1) := by decide +kernel
theorem d_L_law_225 : decode b_L_law 225 = .ok (.i2l, 1) := by decide +kernel
theorem d_L_law_226 : decode b_L_law 226 = .ok (.ldc2_w 62, 3) := by decide +kernel
theorem d_L_law_229 : decode b_L_law 229 = .ok (.land, 1) := by decide +kernel
theorem d_L_law_230 : decode b_L_law 230 = .ok (.lor, 1) := by decide +kernel
theorem d_L_law_231 : decode b_L_law 231 = .ok (.aload_n 0, 1) := by decide +kernel
theorem d_L_law_232 : decode b_L_law 232 = .ok (.iload 4, 2) := by decide +kernel
theorem d_L_law_234 : decode b_L_law 234 = .ok (.iconst (3), 1) := by decide +kernel
theorem d_L_law_235 : decode b_L_law 235 = .ok (.iadd, 1) := by decide +kernel
theorem d_L_law_236 : decode b_L_law 236 = .ok (.iaload, 1) := by decide +kernel
theorem d_L_law_237 : decode b_L_law 237 = .ok (.i2l, 1) := by decide +kernel
theorem d_L_law_238 : decode b_L_law 238 = .ok (.bipush (32), 2) := by decide +kernel
theorem d_L_law_240 : decode b_L_law 240 = .ok (.lshl, 1) := by decide +kernel
theorem d_L_law_241 : decode b_L_law 241 = .ok (.aload_n 0, 1) := by decide +kernel
theorem d_L_law_242 : decode b_L_law 242 = .ok (.iload 4, 2) := by decide +kernel
theorem d_L_law_244 : decode b_L_law 244 = .ok (.iconst (4), 1) := by decide +kernel
theorem d_L_law_245 : decode b_L_law 245 = .ok (.iadd, 1) := by decide +kernel
theorem d_L_law_246 : decode b_L_law 246 = .ok (.iaload, 1) := by decide +kernel
theorem d_L_law_247 : decode b_L_law 247 = .ok (.i2l, 1) := by decide +kernel
theorem d_L_law_248 : decode b_L_law 248 = .ok (.ldc2_w 62, 3) := by decide +kernel
theorem d_L_law_251 : decode b_L_law 251 = .ok (.land, 1) := by decide +kernel
theorem d_L_law_252 : decode b_L_law 252 = .ok (.lor, 1) := by decide +kernel
theorem d_L_law_253 : decode b_L_law 253 = .ok (.aload_n 3, 1) := by decide +kernel
theorem d_L_law_254 : decode b_L_law 254 = .ok (.invokestatic 74, 3) := by decide +kernel
theorem d_L_law_257 : decode b_L_law 257 = .ok (.istore 5, 2) := by decide +kernel
theorem d_L_law_259 : decode b_L_law 259 = .ok (.aload_n 2, 1) := by decide +kernel
theorem d_L_law_260 : decode b_L_law 260 = .ok (.aload_n 0, 1) := by decide +kernel
theorem d_L_law_261 : decode b_L_law 261 = .ok (.iload 4, 2) := by decide +kernel
theorem d_L_law_263 : decode b_L_law 263 = .ok (.iconst (1), 1) := by decide +kernel
theorem d_L_law_264 : decode b_L_law 264 = .ok (.iadd, 1) := by decide +kernel
theorem d_L_law_265 : decode b_L_law 265 = .ok (.iaload, 1) := by decide +kernel
theorem d_L_law_266 : decode b_L_law 266 = .ok (.i2l, 1) := by decide +kernel
theorem d_L_law_267 : decode b_L_law 267 = .ok (.bipush (32), 2) := by decide +kernel
theorem d_L_law_269 : decode b_L_law 269 = .ok (.lshl, 1) := by decide +kernel
theorem d_L_law_270 : decode b_L_law 270 = .ok (.aload_n 0, 1) := by decide +kernel
theorem d_L_law_271 : decode b_L_law 271 = .ok (.iload 4, 2) := by decide +kernel
theorem d_L_law_273 : decode b_L_law 273 = .ok (.iconst (2), 1) := by decide +kernel
theorem d_L_law_274 : decode b_L_law 274 = .ok (.iadd, 1) := by decide +kernel
theorem d_L_law_275 : decode b_L_law 275 = .ok (.iaload, 1) := by decide +kernel
theorem d_L_law_276 : decode b_L_law 276 = .ok (.i2l, 1) := by decide +kernel
theorem d_L_law_277 : decode b_L_law 277 = .ok (.ldc2_w 62, 3) := by decide +kernel
theorem d_L_law_280 : decode b_L_law 280 = .ok (.land, 1) := by decide +kernel
theorem d_L_law_281 : decode b_L_law 281 = .ok (.lor, 1) := by decide +kernel
theorem d_L_law_282 : decode b_L_law 282 = .ok (.aload_n 0, 1) := by decide +kernel
theorem d_L_law_283 : decode b_L_law 283 = .ok (.iload 4, 2) := by decide +kernel
theorem d_L_law_285 : decode b_L_law 285 = .ok (.iconst (3), 1) := by decide +kernel
theorem d_L_law_286 : decode b_L_law 286 = .ok (.iadd, 1) := by decide +kernel
theorem d_L_law_287 : decode b_L_law 287 = .ok (.iaload, 1) := by decide +kernel
theorem d_L_law_288 : decode b_L_law 288 = .ok (.i2l, 1) := by decide +kernel
theorem d_L_law_289 : decode b_L_law 289 = .ok (.bipush (32), 2) := by decide +kernel
theorem d_L_law_291 : decode b_L_law 291 = .ok (.lshl, 1) := by decide +kernel
theorem d_L_law_292 : decode b_L_law 292 = .ok (.aload_n 0, 1) := by decide +kernel
theorem d_L_law_293 : decode b_L_law 293 = .ok (.iload 4, 2) := by decide +kernel
theorem d_L_law_295 : decode b_L_law 295 = .ok (.iconst (4), 1) := by decide +kernel
theorem d_L_law_296 : decode b_L_law 296 = .ok (.iadd, 1) := by decide +kernel
theorem d_L_law_297 : decode b_L_law 297 = .ok (.iaload, 1) := by decide +kernel
theorem d_L_law_298 : decode b_L_law 298 = .ok (.i2l, 1) := by decide +kernel
theorem d_L_law_299 : decode b_L_law 299 = .ok (.ldc2_w 62, 3) := by decide +kernel
theorem d_L_law_302 : decode b_L_law 302 = .ok (.land, 1) := by decide +kernel
theorem d_L_law_303 : decode b_L_law 303 = .ok (.lor, 1) := by decide +kernel
theorem d_L_law_304 : decode b_L_law 304 = .ok (.invokevirtual 77, 3) := by decide +kernel
theorem d_L_law_307 : decode b_L_law 307 = .ok (.lstore 6, 2) := by decide +kernel
theorem d_L_law_309 : decode b_L_law 309 = .ok (.aload_n 2, 1) := by decide +kernel
theorem d_L_law_310 : decode b_L_law 310 = .ok (.invokevirtual 70, 3) := by decide +kernel
theorem d_L_law_313 : decode b_L_law 313 = .ok (.iload 5, 2) := by decide +kernel
theorem d_L_law_315 : decode b_L_law 315 = .ok (.if_icmp .eq (5), 3) := by decide +kernel
theorem d_L_law_318 : decode b_L_law 318 = .ok (.iconst (0), 1) := by decide +kernel
theorem d_L_law_319 : decode b_L_law 319 = .ok (.ireturn, 1) := by decide +kernel
theorem d_L_law_320 : decode b_L_law 320 = .ok (.iload 5, 2) := by decide +kernel
theorem d_L_law_322 : decode b_L_law 322 = .ok (.ifCond .ne (14), 3) := by decide +kernel
theorem d_L_law_325 : decode b_L_law 325 = .ok (.aload_n 3, 1) := by decide +kernel
theorem d_L_law_326 : decode b_L_law 326 = .ok (.iconst (0), 1) := by decide +kernel
theorem d_L_law_327 : decode b_L_law 327 = .ok (.laload, 1) := by decide +kernel
theorem d_L_law_328 : decode b_L_law 328 = .ok (.lload 6, 2) := by decide +kernel
theorem d_L_law_330 : decode b_L_law 330 = .ok (.lcmp, 1) := by decide +kernel
theorem d_L_law_331 : decode b_L_law 331 = .ok (.ifCond .eq (5), 3) := by decide +kernel
theorem d_L_law_334 : decode b_L_law 334 = .ok (.iconst (0), 1) := by decide +kernel
theorem d_L_law_335 : decode b_L_law 335 = .ok (.ireturn, 1) := by decide +kernel
theorem d_L_law_336 : decode b_L_law 336 = .ok (.goto (914), 3) := by decide +kernel
theorem d_L_law_339 : decode b_L_law 339 = .ok (.aload_n 1, 1) := by decide +kernel
theorem d_L_law_340 : decode b_L_law 340 = .ok (.aload_n 0, 1) := by decide +kernel
theorem d_L_law_341 : decode b_L_law 341 = .ok (.iload 4, 2) := by decide +kernel
theorem d_L_law_343 : decode b_L_law 343 = .ok (.iconst (1), 1) := by decide +kernel
theorem d_L_law_344 : decode b_L_law 344 = .ok (.iadd, 1) := by decide +kernel
theorem d_L_law_345 : decode b_L_law 345 = .ok (.iaload, 1) := by decide +kernel
theorem d_L_law_346 : decode b_L_law 346 = .ok (.i2l, 1) := by decide +kernel
theorem d_L_law_347 : decode b_L_law 347 = .ok (.bipush (32), 2) := by decide +kernel
theorem d_L_law_349 : decode b_L_law 349 = .ok (.lshl, 1) := by decide +kernel
theorem d_L_law_350 : decode b_L_law 350 = .ok (.aload_n 0, 1) := by decide +kernel
theorem d_L_law_351 : decode b_L_law 351 = .ok (.iload 4, 2) := by decide +kernel
theorem d_L_law_353 : decode b_L_law 353 = .ok (.iconst (2), 1) := by decide +kernel
theorem d_L_law_354 : decode b_L_law 354 = .ok (.iadd, 1) := by decide +kernel
theorem d_L_law_355 : decode b_L_law 355 = .ok (.iaload, 1) := by decide +kernel
theorem d_L_law_356 : decode b_L_law 356 = .ok (.i2l, 1) := by decide +kernel
theorem d_L_law_357 : decode b_L_law 357 = .ok (.ldc2_w 62, 3) := by decide +kernel
theorem d_L_law_360 : decode b_L_law 360 = .ok (.land, 1) := by decide +kernel
theorem d_L_law_361 : decode b_L_law 361 = .ok (.lor, 1) := by decide +kernel
theorem d_L_law_362 : decode b_L_law 362 = .ok (.aload_n 0, 1) := by decide +kernel
theorem d_L_law_363 : decode b_L_law 363 = .ok (.iload 4, 2) := by decide +kernel
theorem d_L_law_365 : decode b_L_law 365 = .ok (.iconst (3), 1) := by decide +kernel
theorem d_L_law_366 : decode b_L_law 366 = .ok (.iadd, 1) := by decide +kernel
theorem d_L_law_367 : decode b_L_law 367 = .ok (.iaload, 1) := by decide +kernel
theorem d_L_law_368 : decode b_L_law 368 = .ok (.i2l, 1) := by decide +kernel
theorem d_L_law_369 : decode b_L_law 369 = .ok (.bipush (32), 2) := by decide +kernel
theorem d_L_law_371 : decode b_L_law 371 = .ok (.lshl, 1) := by decide +kernel
theorem d_L_law_372 : decode b_L_law 372 = .ok (.aload_n 0, 1) := by decide +kernel
theorem d_L_law_373 : decode b_L_law 373 = .ok (.iload 4, 2) := by decide +kernel
theorem d_L_law_375 : decode b_L_law 375 = .ok (.iconst (4), 1) := by decide +kernel
theorem d_L_law_376 : decode b_L_law 376 = .ok (.iadd, 1) := by decide +kernel
theorem d_L_law_377 : decode b_L_law 377 = .ok (.iaload, 1) := by decide +kernel
theorem d_L_law_378 : decode b_L_law 378 = .ok (.i2l, 1) := by decide +kernel
theorem d_L_law_379 : decode b_L_law 379 = .ok (.ldc2_w 62, 3) := by decide +kernel
theorem d_L_law_382 : decode b_L_law 382 = .ok (.land, 1) := by decide +kernel
theorem d_L_law_383 : decode b_L_law 383 = .ok (.lor, 1) := by decide +kernel
theorem d_L_law_384 : decode b_L_law 384 = .ok (.aload_n 3, 1) := by decide +kernel
theorem d_L_law_385 : decode b_L_law 385 = .ok (.invokestatic 78, 3) := by decide +kernel
theorem d_L_law_388 : decode b_L_law 388 = .ok (.istore 5, 2) := by decide +kernel
theorem d_L_law_390 : decode b_L_law 390 = .ok (.aload_n 2, 1) := by decide +kernel
theorem d_L_law_391 : decode b_L_law 391 = .ok (.aload_n 0, 1) := by decide +kernel
theorem d_L_law_392 : decode b_L_law 392 = .ok (.iload 4, 2) := by decide +kernel
theorem d_L_law_394 : decode b_L_law 394 = .ok (.iconst (1), 1) := by decide +kernel
theorem d_L_law_395 : decode b_L_law 395 = .ok (.iadd, 1) := by decide +kernel
theorem d_L_law_396 : decode b_L_law 396 = .ok (.iaload, 1) := by decide +kernel
theorem d_L_law_397 : decode b_L_law 397 = .ok (.i2l, 1) := by decide +kernel
theorem d_L_law_398 : decode b_L_law 398 = .ok (.bipush (32), 2) := by decide +kernel
theorem d_L_law_400 : decode b_L_law 400 = .ok (.lshl, 1) := by decide +kernel
theorem d_L_law_401 : decode b_L_law 401 = .ok (.aload_n 0, 1) := by decide +kernel
theorem d_L_law_402 : decode b_L_law 402 = .ok (.iload 4, 2) := by decide +kernel
theorem d_L_law_404 : decode b_L_law 404 = .ok (.iconst (2), 1) := by decide +kernel
theorem d_L_law_405 : decode b_L_law 405 = .ok (.iadd, 1) := by decide +kernel
theorem d_L_law_406 : decode b_L_law 406 = .ok (.iaload, 1) := by decide +kernel
theorem d_L_law_407 : decode b_L_law 407 = .ok (.i2l, 1) := by decide +kernel
theorem d_L_law_408 : decode b_L_law 408 = .ok (.ldc2_w 62, 3) := by decide +kernel
theorem d_L_law_411 : decode b_L_law 411 = .ok (.land, 1) := by decide +kernel
theorem d_L_law_412 : decode b_L_law 412 = .ok (.lor, 1) := by decide +kernel
theorem d_L_law_413 : decode b_L_law 413 = .ok (.aload_n 0, 1) := by decide +kernel
theorem d_L_law_414 : decode b_L_law 414 = .ok (.iload 4, 2) := by decide +kernel
theorem d_L_law_416 : decode b_L_law 416 = .ok (.iconst (3), 1) := by decide +kernel
theorem d_L_law_417 : decode b_L_law 417 = .ok (.iadd, 1) := by decide +kernel
theorem d_L_law_418 : decode b_L_law 418 = .ok (.iaload, 1) := by decide +kernel
theorem d_L_law_419 : decode b_L_law 419 = .ok (.i2l, 1) := by decide +kernel
theorem d_L_law_420 : decode b_L_law 420 = .ok (.bipush (32), 2) := by decide +kernel
theorem d_L_law_422 : decode b_L_law 422 = .ok (.lshl, 1) := by decide +kernel
theorem d_L_law_423 : decode b_L_law 423 = .ok (.aload_n 0, 1) := by decide +kernel
theorem d_L_law_424 : decode b_L_law 424 = .ok (.iload 4, 2) := by decide +kernel
theorem d_L_law_426 : decode b_L_law 426 = .ok (.iconst (4), 1) := by decide +kernel
theorem d_L_law_427 : decode b_L_law 427 = .ok (.iadd, 1) := by decide +kernel
theorem d_L_law_428 : decode b_L_law 428 = .ok (.iaload, 1) := by decide +kernel
theorem d_L_law_429 : decode b_L_law 429 = .ok (.i2l, 1) := by decide +kernel
theorem d_L_law_430 : decode b_L_law 430 = .ok (.ldc2_w 62, 3) := by decide +kernel
theorem d_L_law_433 : decode b_L_law 433 = .ok (.land, 1) := by decide +kernel
theorem d_L_law_434 : decode b_L_law 434 = .ok (.lor, 1) := by decide +kernel
theorem d_L_law_435 : decode b_L_law 435 = .ok (.invokevirtual 80, 3) := by decide +kernel
theorem d_L_law_438 : decode b_L_law 438 = .ok (.lstore 6, 2) := by decide +kernel
theorem d_L_law_440 : decode b_L_law 440 = .ok (.aload_n 2, 1) := by decide +kernel
theorem d_L_law_441 : decode b_L_law 441 = .ok (.invokevirtual 70, 3) := by decide +kernel
theorem d_L_law_444 : decode b_L_law 444 = .ok (.iload 5, 2) := by decide +kernel
theorem d_L_law_446 : decode b_L_law 446 = .ok (.if_icmp .eq (5), 3) := by decide +kernel
theorem d_L_law_449 : decode b_L_law 449 = .ok (.iconst (0), 1) := by decide +kernel
theorem d_L_law_450 : decode b_L_law 450 = .ok (.ireturn, 1) := by decide +kernel
theorem d_L_law_451 : decode b_L_law 451 = .ok (.iload 5, 2) := by decide +kernel
theorem d_L_law_453 : decode b_L_law 453 = .ok (.ifCond .ne (14), 3) := by decide +kernel
theorem d_L_law_456 : decode b_L_law 456 = .ok (.aload_n 3, 1) := by decide +kernel
theorem d_L_law_457 : decode b_L_law 457 = .ok (.iconst (0), 1) := by decide +kernel
theorem d_L_law_458 : decode b_L_law 458 = .ok (.laload, 1) := by decide +kernel
theorem d_L_law_459 : decode b_L_law 459 = .ok (.lload 6, 2) := by decide +kernel
theorem d_L_law_461 : decode b_L_law 461 = .ok (.lcmp, 1) := by decide +kernel
theorem d_L_law_462 : decode b_L_law 462 = .ok (.ifCond .eq (5), 3) := by decide +kernel
theorem d_L_law_465 : decode b_L_law 465 = .ok (.iconst (0), 1) := by decide +kernel
theorem d_L_law_466 : decode b_L_law 466 = .ok (.ireturn, 1) := by decide +kernel
theorem d_L_law_467 : decode b_L_law 467 = .ok (.goto (783), 3) := by decide +kernel
theorem d_L_law_470 : decode b_L_law 470 = .ok (.aload_n 1, 1) := by decide +kernel
theorem d_L_law_471 : decode b_L_law 471 = .ok (.aload_n 0, 1) := by decide +kernel
theorem d_L_law_472 : decode b_L_law 472 = .ok (.iload 4, 2) := by decide +kernel
theorem d_L_law_474 : decode b_L_law 474 = .ok (.iconst (1), 1) := by decide +kernel
theorem d_L_law_475 : decode b_L_law 475 = .ok (.iadd, 1) := by decide +kernel
theorem d_L_law_476 : decode b_L_law 476 = .ok (.iaload, 1) := by decide +kernel
theorem d_L_law_477 : decode b_L_law 477 = .ok (.i2l, 1) := by decide +kernel
theorem d_L_law_478 : decode b_L_law 478 = .ok (.bipush (32), 2) := by decide +kernel
theorem d_L_law_480 : decode b_L_law 480 = .ok (.lshl, 1) := by decide +kernel
theorem d_L_law_481 : decode b_L_law 481 = .ok (.aload_n 0, 1) := by decide +kernel
theorem d_L_law_482 : decode b_L_law 482 = .ok (.iload 4, 2) := by decide +kernel
theorem d_L_law_484 : decode b_L_law 484 = .ok (.iconst (2), 1) := by decide +kernel
theorem d_L_law_485 : decode b_L_law 485 = .ok (.iadd, 1) := by decide +kernel
theorem d_L_law_486 : decode b_L_law 486 = .ok (.iaload, 1) := by decide +kernel
theorem d_L_law_487 : decode b_L_law 487 = .ok (.i2l, 1) := by decide +kernel
theorem d_L_law_488 : decode b_L_law 488 = .ok (.ldc2_w 62, 3) := by decide +kernel
theorem d_L_law_491 : decode b_L_law 491 = .ok (.land, 1) := by decide +kernel
theorem d_L_law_492 : decode b_L_law 492 = .ok (.lor, 1) := by decide +kernel
theorem d_L_law_493 : decode b_L_law 493 = .ok (.invokevirtual 81, 3) := by decide +kernel
theorem d_L_law_496 : decode b_L_law 496 = .ok (.aload_n 2, 1) := by decide +kernel
theorem d_L_law_497 : decode b_L_law 497 = .ok (.aload_n 0, 1) := by decide +kernel
theorem d_L_law_498 : decode b_L_law 498 = .ok (.iload 4, 2) := by decide +kernel
theorem d_L_law_500 : decode b_L_law 500 = .ok (.iconst (1), 1) := by decide +kernel
theorem d_L_law_501 : decode b_L_law 501 = .ok (.iadd, 1) := by decide +kernel
theorem d_L_law_502 : decode b_L_law 502 = .ok (.iaload, 1) := by decide +kernel
theorem d_L_law_503 : decode b_L_law 503 = .ok (.i2l, 1) := by decide +kernel
theorem d_L_law_504 : decode b_L_law 504 = .ok (.bipush (32), 2) := by decide +kernel
theorem d_L_law_506 : decode b_L_law 506 = .ok (.lshl, 1) := by decide +kernel
theorem d_L_law_507 : decode b_L_law 507 = .ok (.aload_n 0, 1) := by decide +kernel
theorem d_L_law_508 : decode b_L_law 508 = .ok (.iload 4, 2) := by decide +kernel
theorem d_L_law_510 : decode b_L_law 510 = .ok (.iconst (2), 1) := by decide +kernel
theorem d_L_law_511 : decode b_L_law 511 = .ok (.iadd, 1) := by decide +kernel
theorem d_L_law_512 : decode b_L_law 512 = .ok (.iaload, 1) := by decide +kernel
theorem d_L_law_513 : decode b_L_law 513 = .ok (.i2l, 1) := by decide +kernel
theorem d_L_law_514 : decode b_L_law 514 = .ok (.ldc2_w 62, 3) := by decide +kernel
theorem d_L_law_517 : decode b_L_law 517 = .ok (.land, 1) := by decide +kernel
theorem d_L_law_518 : decode b_L_law 518 = .ok (.lor, 1) := by decide +kernel
theorem d_L_law_519 : decode b_L_law 519 = .ok (.invokevirtual 84, 3) := by decide +kernel
theorem d_L_law_522 : decode b_L_law 522 = .ok (.lcmp, 1) := by decide +kernel
theorem d_L_law_523 : decode b_L_law 523 = .ok (.ifCond .eq (727), 3) := by decide +kernel
theorem d_L_law_526 : decode b_L_law 526 = .ok (.iconst (0), 1) := by decide +kernel
theorem d_L_law_527 : decode b_L_law 527 = .ok (.ireturn, 1) := by decide +kernel
theorem d_L_law_528 : decode b_L_law 528 = .ok (.aload_n 1, 1) := by decide +kernel
theorem d_L_law_529 : decode b_L_law 529 = .ok (.invokevirtual 85, 3) := by decide +kernel
theorem d_L_law_532 : decode b_L_law 532 = .ok (.aload_n 2, 1) := by decide +kernel
theorem d_L_law_533 : decode b_L_law 533 = .ok (.invokevirtual 89, 3) := by decide +kernel
theorem d_L_law_536 : decode b_L_law 536 = .ok (.if_icmp .eq (714), 3) := by decide +kernel
theorem d_L_law_539 : decode b_L_law 539 = .ok (.iconst (0), 1) := by decide +kernel
theorem d_L_law_540 : decode b_L_law 540 = .ok (.ireturn, 1) := by decide +kernel
theorem d_L_law_541 : decode b_L_law 541 = .ok (.aload_n 1, 1) := by decide +kernel
theorem d_L_law_542 : decode b_L_law 542 = .ok (.invokevirtual 90, 3) := by decide +kernel
theorem d_L_law_545 : decode b_L_law 545 = .ok (.aload_n 2, 1) := by decide +kernel
theorem d_L_law_546 : decode b_L_law 546 = .ok (.invokevirtual 93, 3) := by decide +kernel
theorem d_L_law_549 : decode b_L_law 549 = .ok (.if_icmp .eq (701), 3) := by decide +kernel
theorem d_L_law_552 : decode b_L_law 552 = .ok (.iconst (0), 1) := by decide +kernel
theorem d_L_law_553 : decode b_L_law 553 = .ok (.ireturn, 1) := by decide +kernel
theorem d_L_law_554 : decode b_L_law 554 = .ok (.aload_n 1, 1) := by decide +kernel
theorem d_L_law_555 : decode b_L_law 555 = .ok (.invokevirtual 94, 3) := by decide +kernel
theorem d_L_law_558 : decode b_L_law 558 = .ok (.aload_n 2, 1) := by decide +kernel
theorem d_L_law_559 : decode b_L_law 559 = .ok (.invokevirtual 98, 3) := by decide +kernel
theorem d_L_law_562 : decode b_L_law 562 = .ok (.lcmp, 1) := by decide +kernel
theorem d_L_law_563 : decode b_L_law 563 = .ok (.ifCond .eq (687), 3) := by decide +kernel
theorem d_L_law_566 : decode b_L_law 566 = .ok (.iconst (0), 1) := by decide +kernel
theorem d_L_law_567 : decode b_L_law 567 = .ok (.ireturn, 1) := by decide +kernel
theorem d_L_law_568 : decode b_L_law 568 = .ok (.aload_n 1, 1) := by decide +kernel
theorem d_L_law_569 : decode b_L_law 569 = .ok (.aload_n 0, 1) := by decide +kernel
theorem d_L_law_570 : decode b_L_law 570 = .ok (.iload 4, 2) := by decide +kernel
theorem d_L_law_572 : decode b_L_law 572 = .ok (.iconst (1), 1) := by decide +kernel
theorem d_L_law_573 : decode b_L_law 573 = .ok (.iadd, 1) := by decide +kernel
theorem d_L_law_574 : decode b_L_law 574 = .ok (.iaload, 1) := by decide +kernel
theorem d_L_law_575 : decode b_L_law 575 = .ok (.i2l, 1) := by decide +kernel
theorem d_L_law_576 : decode b_L_law 576 = .ok (.bipush (32), 2) := by decide +kernel
theorem d_L_law_578 : decode b_L_law 578 = .ok (.lshl, 1) := by decide +kernel
theorem d_L_law_579 : decode b_L_law 579 = .ok (.aload_n 0, 1) := by decide +kernel
theorem d_L_law_580 : decode b_L_law 580 = .ok (.iload 4, 2) := by decide +kernel
theorem d_L_law_582 : decode b_L_law 582 = .ok (.iconst (2), 1) := by decide +kernel
theorem d_L_law_583 : decode b_L_law 583 = .ok (.iadd, 1) := by decide +kernel
theorem d_L_law_584 : decode b_L_law 584 = .ok (.iaload, 1) := by decide +kernel
theorem d_L_law_585 : decode b_L_law 585 = .ok (.i2l, 1) := by decide +kernel
theorem d_L_law_586 : decode b_L_law 586 = .ok (.ldc2_w 62, 3) := by decide +kernel
theorem d_L_law_589 : decode b_L_law 589 = .ok (.land, 1) := by decide +kernel
theorem d_L_law_590 : decode b_L_law 590 = .ok (.lor, 1) := by decide +kernel
theorem d_L_law_591 : decode b_L_law 591 = .ok (.aload_n 3, 1) := by decide +kernel
theorem d_L_law_592 : decode b_L_law 592 = .ok (.invokestatic 99, 3) := by decide +kernel
theorem d_L_law_595 : decode b_L_law 595 = .ok (.istore 5, 2) := by decide +kernel
theorem d_L_law_597 : decode b_L_law 597 = .ok (.aload_n 2, 1) := by decide +kernel
theorem d_L_law_598 : decode b_L_law 598 = .ok (.aload_n 0, 1) := by decide +kernel
theorem d_L_law_599 : decode b_L_law 599 = .ok (.iload 4, 2) := by decide +kernel
theorem d_L_law_601 : decode b_L_law 601 = .ok (.iconst (1), 1) := by decide +kernel
theorem d_L_law_602 : decode b_L_law 602 = .ok (.iadd, 1) := by decide +kernel
theorem d_L_law_603 : decode b_L_law 603 = .ok (.iaload, 1) := by decide +kernel
theorem d_L_law_604 : decode b_L_law 604 = .ok (.i2l, 1) := by decide +kernel
theorem d_L_law_605 : decode b_L_law 605 = .ok (.bipush (32), 2) := by decide +kernel
theorem d_L_law_607 : decode b_L_law 607 = .ok (.lshl, 1) := by decide +kernel
theorem d_L_law_608 : decode b_L_law 608 = .ok (.aload_n 0, 1) := by decide +kernel
theorem d_L_law_609 : decode b_L_law 609 = .ok (.iload 4, 2) := by decide +kernel
theorem d_L_law_611 : decode b_L_law 611 = .ok (.iconst (2), 1) := by decide +kernel
theorem d_L_law_612 : decode b_L_law 612 = .ok (.iadd, 1) := by decide +kernel
theorem d_L_law_613 : decode b_L_law 613 = .ok (.iaload, 1) := by decide +kernel
theorem d_L_law_614 : decode b_L_law 614 = .ok (.i2l, 1) := by decide +kernel
theorem d_L_law_615 : decode b_L_law 615 = .ok (.ldc2_w 62, 3) := by decide +kernel
theorem d_L_law_618 : decode b_L_law 618 = .ok (.land, 1) := by decide +kernel
theorem d_L_law_619 : decode b_L_law 619 = .ok (.lor, 1) := by decide +kernel
theorem d_L_law_620 : decode b_L_law 620 = .ok (.invokevirtual 101, 3) := by decide +kernel
theorem d_L_law_623 : decode b_L_law 623 = .ok (.lstore 6, 2) := by decide +kernel
theorem d_L_law_625 : decode b_L_law 625 = .ok (.aload_n 2, 1) := by decide +kernel
theorem d_L_law_626 : decode b_L_law 626 = .ok (.invokevirtual 70, 3) := by decide +kernel
theorem d_L_law_629 : decode b_L_law 629 = .ok (.iload 5, 2) := by decide +kernel
theorem d_L_law_631 : decode b_L_law 631 = .ok (.if_icmp .eq (5), 3) := by decide +kernel
theorem d_L_law_634 : decode b_L_law 634 = .ok (.iconst (0), 1) := by decide +kernel
theorem d_L_law_635 : decode b_L_law 635 = .ok (.ireturn, 1) := by decide +kernel
theorem d_L_law_636 : decode b_L_law 636 = .ok (.iload 5, 2) := by decide +kernel
theorem d_L_law_638 : decode b_L_law 638 = .ok (.ifCond .ne (14), 3) := by decide +kernel
theorem d_L_law_641 : decode b_L_law 641 = .ok (.aload_n 3, 1) := by decide +kernel
theorem d_L_law_642 : decode b_L_law 642 = .ok (.iconst (0), 1) := by decide +kernel
theorem d_L_law_643 : decode b_L_law 643 = .ok (.laload, 1) := by decide +kernel
theorem d_L_law_644 : decode b_L_law 644 = .ok (.lload 6, 2) := by decide +kernel
theorem d_L_law_646 : decode b_L_law 646 = .ok (.lcmp, 1) := by decide +kernel
theorem d_L_law_647 : decode b_L_law 647 = .ok (.ifCond .eq (5), 3) := by decide +kernel
theorem d_L_law_650 : decode b_L_law 650 = .ok (.iconst (0), 1) := by decide +kernel
theorem d_L_law_651 : decode b_L_law 651 = .ok (.ireturn, 1) := by decide +kernel
theorem d_L_law_652 : decode b_L_law 652 = .ok (.goto (598), 3) := by decide +kernel
theorem d_L_law_655 : decode b_L_law 655 = .ok (.aload_n 1, 1) := by decide +kernel
theorem d_L_law_656 : decode b_L_law 656 = .ok (.aload_n 0, 1) := by decide +kernel
theorem d_L_law_657 : decode b_L_law 657 = .ok (.iload 4, 2) := by decide +kernel
theorem d_L_law_659 : decode b_L_law 659 = .ok (.iconst (1), 1) := by decide +kernel
theorem d_L_law_660 : decode b_L_law 660 = .ok (.iadd, 1) := by decide +kernel
theorem d_L_law_661 : decode b_L_law 661 = .ok (.iaload, 1) := by decide +kernel
theorem d_L_law_662 : decode b_L_law 662 = .ok (.i2l, 1) := by decide +kernel
theorem d_L_law_663 : decode b_L_law 663 = .ok (.bipush (32), 2) := by decide +kernel
theorem d_L_law_665 : decode b_L_law 665 = .ok (.lshl, 1) := by decide +kernel
theorem d_L_law_666 : decode b_L_law 666 = .ok (.aload_n 0, 1) := by decide +kernel
theorem d_L_law_667 : decode b_L_law 667 = .ok (.iload 4, 2) := by decide +kernel
theorem d_L_law_669 : decode b_L_law 669 = .ok (.iconst (2), 1) := by decide +kernel
theorem d_L_law_670 : decode b_L_law 670 = .ok (.iadd, 1) := by decide +kernel
theorem d_L_law_671 : decode b_L_law 671 = .ok (.iaload, 1) := by decide +kernel
theorem d_L_law_672 : decode b_L_law 672 = .ok (.i2l, 1) := by decide +kernel
theorem d_L_law_673 : decode b_L_law 673 = .ok (.ldc2_w 62, 3) := by decide +kernel
theorem d_L_law_676 : decode b_L_law 676 = .ok (.land, 1) := by decide +kernel
theorem d_L_law_677 : decode b_L_law 677 = .ok (.lor, 1) := by decide +kernel
theorem d_L_law_678 : decode b_L_law 678 = .ok (.aload_n 3, 1) := by decide +kernel
theorem d_L_law_679 : decode b_L_law 679 = .ok (.invokestatic 102, 3) := by decide +kernel
theorem d_L_law_682 : decode b_L_law 682 = .ok (.istore 5, 2) := by decide +kernel
theorem d_L_law_684 : decode b_L_law 684 = .ok (.aload_n 2, 1) := by decide +kernel
theorem d_L_law_685 : decode b_L_law 685 = .ok (.aload_n 0, 1) := by decide +kernel
theorem d_L_law_686 : decode b_L_law 686 = .ok (.iload 4, 2) := by decide +kernel
theorem d_L_law_688 : decode b_L_law 688 = .ok (.iconst (1), 1) := by decide +kernel
theorem d_L_law_689 : decode b_L_law 689 = .ok (.iadd, 1) := by decide +kernel
theorem d_L_law_690 : decode b_L_law 690 = .ok (.iaload, 1) := by decide +kernel
theorem d_L_law_691 : decode b_L_law 691 = .ok (.i2l, 1) := by decide +kernel
theorem d_L_law_692 : decode b_L_law 692 = .ok (.bipush (32), 2) := by decide +kernel
theorem d_L_law_694 : decode b_L_law 694 = .ok (.lshl, 1) := by decide +kernel
theorem d_L_law_695 : decode b_L_law 695 = .ok (.aload_n 0, 1) := by decide +kernel
theorem d_L_law_696 : decode b_L_law 696 = .ok (.iload 4, 2) := by decide +kernel
theorem d_L_law_698 : decode b_L_law 698 = .ok (.iconst (2), 1) := by decide +kernel
theorem d_L_law_699 : decode b_L_law 699 = .ok (.iadd, 1) := by decide +kernel
theorem d_L_law_700 : decode b_L_law 700 = .ok (.iaload, 1) := by decide +kernel
theorem d_L_law_701 : decode b_L_law 701 = .ok (.i2l, 1) := by decide +kernel
theorem d_L_law_702 : decode b_L_law 702 = .ok (.ldc2_w 62, 3) := by decide +kernel
theorem d_L_law_705 : decode b_L_law 705 = .ok (.land, 1) := by decide +kernel
theorem d_L_law_706 : decode b_L_law 706 = .ok (.lor, 1) := by decide +kernel
theorem d_L_law_707 : decode b_L_law 707 = .ok (.invokevirtual 104, 3) := by decide +kernel
theorem d_L_law_710 : decode b_L_law 710 = .ok (.lstore 6, 2) := by decide +kernel
theorem d_L_law_712 : decode b_L_law 712 = .ok (.aload_n 2, 1) := by decide +kernel
theorem d_L_law_713 : decode b_L_law 713 = .ok (.invokevirtual 70, 3) := by decide +kernel
theorem d_L_law_716 : decode b_L_law 716 = .ok (.iload 5, 2) := by decide +kernel
theorem d_L_law_718 : decode b_L_law 718 = .ok (.if_icmp .eq (5), 3) := by decide +kernel
theorem d_L_law_721 : decode b_L_law 721 = .ok (.iconst (0), 1) := by decide +kernel
theorem d_L_law_722 : decode b_L_law 722 = .ok (.ireturn, 1) := by decide +kernel
theorem d_L_law_723 : decode b_L_law 723 = .ok (.iload 5, 2) := by decide +kernel
theorem d_L_law_725 : decode b_L_law 725 = .ok (.ifCond .ne (14), 3) := by decide +kernel
theorem d_L_law_728 : decode b_L_law 728 = .ok (.aload_n 3, 1) := by decide +kernel
theorem d_L_law_729 : decode b_L_law 729 = .ok (.iconst (0), 1) := by decide +kernel
theorem d_L_law_730 : decode b_L_law 730 = .ok (.laload, 1) := by decide +kernel
theorem d_L_law_731 : decode b_L_law 731 = .ok (.lload 6, 2) := by decide +kernel
theorem d_L_law_733 : decode b_L_law 733 = .ok (.lcmp, 1) := by decide +kernel
theorem d_L_law_734 : decode b_L_law 734 = .ok (.ifCond .eq (5), 3) := by decide +kernel
theorem d_L_law_737 : decode b_L_law 737 = .ok (.iconst (0), 1) := by decide +kernel
theorem d_L_law_738 : decode b_L_law 738 = .ok (.ireturn, 1) := by decide +kernel
theorem d_L_law_739 : decode b_L_law 739 = .ok (.goto (511), 3) := by decide +kernel
theorem d_L_law_742 : decode b_L_law 742 = .ok (.aload_n 1, 1) := by decide +kernel
theorem d_L_law_743 : decode b_L_law 743 = .ok (.aload_n 0, 1) := by decide +kernel
theorem d_L_law_744 : decode b_L_law 744 = .ok (.iload 4, 2) := by decide +kernel
theorem d_L_law_746 : decode b_L_law 746 = .ok (.iconst (1), 1) := by decide +kernel
theorem d_L_law_747 : decode b_L_law 747 = .ok (.iadd, 1) := by decide +kernel
theorem d_L_law_748 : decode b_L_law 748 = .ok (.iaload, 1) := by decide +kernel
theorem d_L_law_749 : decode b_L_law 749 = .ok (.i2l, 1) := by decide +kernel
theorem d_L_law_750 : decode b_L_law 750 = .ok (.bipush (32), 2) := by decide +kernel
theorem d_L_law_752 : decode b_L_law 752 = .ok (.lshl, 1) := by decide +kernel
theorem d_L_law_753 : decode b_L_law 753 = .ok (.aload_n 0, 1) := by decide +kernel
theorem d_L_law_754 : decode b_L_law 754 = .ok (.iload 4, 2) := by decide +kernel
theorem d_L_law_756 : decode b_L_law 756 = .ok (.iconst (2), 1) := by decide +kernel
theorem d_L_law_757 : decode b_L_law 757 = .ok (.iadd, 1) := by decide +kernel
theorem d_L_law_758 : decode b_L_law 758 = .ok (.iaload, 1) := by decide +kernel
theorem d_L_law_759 : decode b_L_law 759 = .ok (.i2l, 1) := by decide +kernel
theorem d_L_law_760 : decode b_L_law 760 = .ok (.ldc2_w 62, 3) := by decide +kernel
theorem d_L_law_763 : decode b_L_law 763 = .ok (.land, 1) := by decide +kernel
theorem d_L_law_764 : decode b_L_law 764 = .ok (.lor, 1) := by decide +kernel
theorem d_L_law_765 : decode b_L_law 765 = .ok (.aload_n 3, 1) := by decide +kernel
theorem d_L_law_766 : decode b_L_law 766 = .ok (.invokestatic 105, 3) := by decide +kernel
theorem d_L_law_769 : decode b_L_law 769 = .ok (.istore 5, 2) := by decide +kernel
theorem d_L_law_771 : decode b_L_law 771 = .ok (.aload_n 2, 1) := by decide +kernel
theorem d_L_law_772 : decode b_L_law 772 = .ok (.aload_n 0, 1) := by decide +kernel
theorem d_L_law_773 : decode b_L_law 773 = .ok (.iload 4, 2) := by decide +kernel
theorem d_L_law_775 : decode b_L_law 775 = .ok (.iconst (1), 1) := by decide +kernel
theorem d_L_law_776 : decode b_L_law 776 = .ok (.iadd, 1) := by decide +kernel
theorem d_L_law_777 : decode b_L_law 777 = .ok (.iaload, 1) := by decide +kernel
theorem d_L_law_778 : decode b_L_law 778 = .ok (.i2l, 1) := by decide +kernel
theorem d_L_law_779 : decode b_L_law 779 = .ok (.bipush (32), 2) := by decide +kernel
theorem d_L_law_781 : decode b_L_law 781 = .ok (.lshl, 1) := by decide +kernel
theorem d_L_law_782 : decode b_L_law 782 = .ok (.aload_n 0, 1) := by decide +kernel
theorem d_L_law_783 : decode b_L_law 783 = .ok (.iload 4, 2) := by decide +kernel
theorem d_L_law_785 : decode b_L_law 785 = .ok (.iconst (2), 1) := by decide +kernel
theorem d_L_law_786 : decode b_L_law 786 = .ok (.iadd, 1) := by decide +kernel
theorem d_L_law_787 : decode b_L_law 787 = .ok (.iaload, 1) := by decide +kernel
theorem d_L_law_788 : decode b_L_law 788 = .ok (.i2l, 1) := by decide +kernel
theorem d_L_law_789 : decode b_L_law 789 = .ok (.ldc2_w 62, 3) := by decide +kernel
theorem d_L_law_792 : decode b_L_law 792 = .ok (.land, 1) := by decide +kernel
theorem d_L_law_793 : decode b_L_law 793 = .ok (.lor, 1) := by decide +kernel
theorem d_L_law_794 : decode b_L_law 794 = .ok (.invokevirtual 107, 3) := by decide +kernel
theorem d_L_law_797 : decode b_L_law 797 = .ok (.istore 6, 2) := by decide +kernel
theorem d_L_law_799 : decode b_L_law 799 = .ok (.aload_n 2, 1) := by decide +kernel
theorem d_L_law_800 : decode b_L_law 800 = .ok (.invokevirtual 70, 3) := by decide +kernel
theorem d_L_law_803 : decode b_L_law 803 = .ok (.iload 5, 2) := by decide +kernel
theorem d_L_law_805 : decode b_L_law 805 = .ok (.if_icmp .eq (5), 3) := by decide +kernel
theorem d_L_law_808 : decode b_L_law 808 = .ok (.iconst (0), 1) := by decide +kernel
theorem d_L_law_809 : decode b_L_law 809 = .ok (.ireturn, 1) := by decide +kernel
theorem d_L_law_810 : decode b_L_law 810 = .ok (.iload 5, 2) := by decide +kernel
theorem d_L_law_812 : decode b_L_law 812 = .ok (.ifCond .ne (15), 3) := by decide +kernel
theorem d_L_law_815 : decode b_L_law 815 = .ok (.aload_n 3, 1) := by decide +kernel
theorem d_L_law_816 : decode b_L_law 816 = .ok (.iconst (0), 1) := by decide +kernel
theorem d_L_law_817 : decode b_L_law 817 = .ok (.laload, 1) := by decide +kernel
theorem d_L_law_818 : decode b_L_law 818 = .ok (.iload 6, 2) := by decide +kernel
theorem d_L_law_820 : decode b_L_law 820 = .ok (.i2l, 1) := by decide +kernel
theorem d_L_law_821 : decode b_L_law 821 = .ok (.lcmp, 1) := by decide +kernel
theorem d_L_law_822 : decode b_L_law 822 = .ok (.ifCond .eq (5), 3) := by decide +kernel
theorem d_L_law_825 : decode b_L_law 825 = .ok (.iconst (0), 1) := by decide +kernel
theorem d_L_law_826 : decode b_L_law 826 = .ok (.ireturn, 1) := by decide +kernel
theorem d_L_law_827 : decode b_L_law 827 = .ok (.goto (423), 3) := by decide +kernel
theorem d_L_law_830 : decode b_L_law 830 = .ok (.aload_n 1, 1) := by decide +kernel
theorem d_L_law_831 : decode b_L_law 831 = .ok (.invokevirtual 108, 3) := by decide +kernel
theorem d_L_law_834 : decode b_L_law 834 = .ok (.aload_n 2, 1) := by decide +kernel
theorem d_L_law_835 : decode b_L_law 835 = .ok (.invokevirtual 111, 3) := by decide +kernel
theorem d_L_law_838 : decode b_L_law 838 = .ok (.if_icmp .eq (412), 3) := by decide +kernel
theorem d_L_law_841 : decode b_L_law 841 = .ok (.iconst (0), 1) := by decide +kernel
theorem d_L_law_842 : decode b_L_law 842 = .ok (.ireturn, 1) := by decide +kernel
theorem d_L_law_843 : decode b_L_law 843 = .ok (.aload_n 1, 1) := by decide +kernel
theorem d_L_law_844 : decode b_L_law 844 = .ok (.aload_n 0, 1) := by decide +kernel
theorem d_L_law_845 : decode b_L_law 845 = .ok (.iload 4, 2) := by decide +kernel
theorem d_L_law_847 : decode b_L_law 847 = .ok (.iconst (1), 1) := by decide +kernel
theorem d_L_law_848 : decode b_L_law 848 = .ok (.iadd, 1) := by decide +kernel
theorem d_L_law_849 : decode b_L_law 849 = .ok (.iaload, 1) := by decide +kernel
theorem d_L_law_850 : decode b_L_law 850 = .ok (.aload_n 0, 1) := by decide +kernel
theorem d_L_law_851 : decode b_L_law 851 = .ok (.iload 4, 2) := by decide +kernel
theorem d_L_law_853 : decode b_L_law 853 = .ok (.iconst (2), 1) := by decide +kernel
theorem d_L_law_854 : decode b_L_law 854 = .ok (.iadd, 1) := by decide +kernel
theorem d_L_law_855 : decode b_L_law 855 = .ok (.iaload, 1) := by decide +kernel
theorem d_L_law_856 : decode b_L_law 856 = .ok (.aload_n 0, 1) := by decide +kernel
theorem d_L_law_857 : decode b_L_law 857 = .ok (.iload 4, 2) := by decide +kernel
theorem d_L_law_859 : decode b_L_law 859 = .ok (.iconst (3), 1) := by decide +kernel
theorem d_L_law_860 : decode b_L_law 860 = .ok (.iadd, 1) := by decide +kernel
theorem d_L_law_861 : decode b_L_law 861 = .ok (.iaload, 1) := by decide +kernel
theorem d_L_law_862 : decode b_L_law 862 = .ok (.aload_n 3, 1) := by decide +kernel
theorem d_L_law_863 : decode b_L_law 863 = .ok (.invokestatic 112, 3) := by decide +kernel
theorem d_L_law_866 : decode b_L_law 866 = .ok (.istore 5, 2) := by decide +kernel
theorem d_L_law_868 : decode b_L_law 868 = .ok (.aload_n 2, 1) := by decide +kernel
theorem d_L_law_869 : decode b_L_law 869 = .ok (.aload_n 0, 1) := by decide +kernel
theorem d_L_law_870 : decode b_L_law 870 = .ok (.iload 4, 2) := by decide +kernel
theorem d_L_law_872 : decode b_L_law 872 = .ok (.iconst (1), 1) := by decide +kernel
theorem d_L_law_873 : decode b_L_law 873 = .ok (.iadd, 1) := by decide +kernel
theorem d_L_law_874 : decode b_L_law 874 = .ok (.iaload, 1) := by decide +kernel
theorem d_L_law_875 : decode b_L_law 875 = .ok (.aload_n 0, 1) := by decide +kernel
theorem d_L_law_876 : decode b_L_law 876 = .ok (.iload 4, 2) := by decide +kernel
theorem d_L_law_878 : decode b_L_law 878 = .ok (.iconst (2), 1) := by decide +kernel
theorem d_L_law_879 : decode b_L_law 879 = .ok (.iadd, 1) := by decide +kernel
theorem d_L_law_880 : decode b_L_law 880 = .ok (.iaload, 1) := by decide +kernel
theorem d_L_law_881 : decode b_L_law 881 = .ok (.aload_n 0, 1) := by decide +kernel
theorem d_L_law_882 : decode b_L_law 882 = .ok (.iload 4, 2) := by decide +kernel
theorem d_L_law_884 : decode b_L_law 884 = .ok (.iconst (3), 1) := by decide +kernel
theorem d_L_law_885 : decode b_L_law 885 = .ok (.iadd, 1) := by decide +kernel
theorem d_L_law_886 : decode b_L_law 886 = .ok (.iaload, 1) := by decide +kernel
theorem d_L_law_887 : decode b_L_law 887 = .ok (.invokevirtual 115, 3) := by decide +kernel
theorem d_L_law_890 : decode b_L_law 890 = .ok (.istore 6, 2) := by decide +kernel
theorem d_L_law_892 : decode b_L_law 892 = .ok (.aload_n 2, 1) := by decide +kernel
theorem d_L_law_893 : decode b_L_law 893 = .ok (.invokevirtual 70, 3) := by decide +kernel
theorem d_L_law_896 : decode b_L_law 896 = .ok (.iload 5, 2) := by decide +kernel
theorem d_L_law_898 : decode b_L_law 898 = .ok (.if_icmp .eq (5), 3) := by decide +kernel
theorem d_L_law_901 : decode b_L_law 901 = .ok (.iconst (0), 1) := by decide +kernel
theorem d_L_law_902 : decode b_L_law 902 = .ok (.ireturn, 1) := by decide +kernel
theorem d_L_law_903 : decode b_L_law 903 = .ok (.iload 5, 2) := by decide +kernel
theorem d_L_law_905 : decode b_L_law 905 = .ok (.ifCond .ne (15), 3) := by decide +kernel
theorem d_L_law_908 : decode b_L_law 908 = .ok (.aload_n 3, 1) := by decide +kernel
theorem d_L_law_909 : decode b_L_law 909 = .ok (.iconst (0), 1) := by decide +kernel
theorem d_L_law_910 : decode b_L_law 910 = .ok (.laload, 1) := by decide +kernel
theorem d_L_law_911 : decode b_L_law 911 = .ok (.iload 6, 2) := by decide +kernel
theorem d_L_law_913 : decode b_L_law 913 = .ok (.i2l, 1) := by decide +kernel
theorem d_L_law_914 : decode b_L_law 914 = .ok (.lcmp, 1) := by decide +kernel
theorem d_L_law_915 : decode b_L_law 915 = .ok (.ifCond .eq (5), 3) := by decide +kernel
theorem d_L_law_918 : decode b_L_law 918 = .ok (.iconst (0), 1) := by decide +kernel
theorem d_L_law_919 : decode b_L_law 919 = .ok (.ireturn, 1) := by decide +kernel
theorem d_L_law_920 : decode b_L_law 920 = .ok (.goto (330), 3) := by decide +kernel
theorem d_L_law_923 : decode b_L_law 923 = .ok (.aload_n 1, 1) := by decide +kernel
theorem d_L_law_924 : decode b_L_law 924 = .ok (.aload_n 0, 1) := by decide +kernel
theorem d_L_law_925 : decode b_L_law 925 = .ok (.iload 4, 2) := by decide +kernel
theorem d_L_law_927 : decode b_L_law 927 = .ok (.iconst (1), 1) := by decide +kernel
theorem d_L_law_928 : decode b_L_law 928 = .ok (.iadd, 1) := by decide +kernel
theorem d_L_law_929 : decode b_L_law 929 = .ok (.iaload, 1) := by decide +kernel
theorem d_L_law_930 : decode b_L_law 930 = .ok (.aload_n 3, 1) := by decide +kernel
theorem d_L_law_931 : decode b_L_law 931 = .ok (.invokestatic 116, 3) := by decide +kernel
theorem d_L_law_934 : decode b_L_law 934 = .ok (.istore 5, 2) := by decide +kernel
theorem d_L_law_936 : decode b_L_law 936 = .ok (.aload_n 2, 1) := by decide +kernel
theorem d_L_law_937 : decode b_L_law 937 = .ok (.aload_n 0, 1) := by decide +kernel
theorem d_L_law_938 : decode b_L_law 938 = .ok (.iload 4, 2) := by decide +kernel
theorem d_L_law_940 : decode b_L_law 940 = .ok (.iconst (1), 1) := by decide +kernel
theorem d_L_law_941 : decode b_L_law 941 = .ok (.iadd, 1) := by decide +kernel
theorem d_L_law_942 : decode b_L_law 942 = .ok (.iaload, 1) := by decide +kernel
theorem d_L_law_943 : decode b_L_law 943 = .ok (.invokevirtual 119, 3) := by decide +kernel
theorem d_L_law_946 : decode b_L_law 946 = .ok (.istore 6, 2) := by decide +kernel
theorem d_L_law_948 : decode b_L_law 948 = .ok (.aload_n 2, 1) := by decide +kernel
theorem d_L_law_949 : decode b_L_law 949 = .ok (.invokevirtual 70, 3) := by decide +kernel
theorem d_L_law_952 : decode b_L_law 952 = .ok (.iload 5, 2) := by decide +kernel
theorem d_L_law_954 : decode b_L_law 954 = .ok (.if_icmp .eq (5), 3) := by decide +kernel
theorem d_L_law_957 : decode b_L_law 957 = .ok (.iconst (0), 1) := by decide +kernel
theorem d_L_law_958 : decode b_L_law 958 = .ok (.ireturn, 1) := by decide +kernel
theorem d_L_law_959 : decode b_L_law 959 = .ok (.iload 5, 2) := by decide +kernel
theorem d_L_law_961 : decode b_L_law 961 = .ok (.ifCond .ne (15), 3) := by decide +kernel
theorem d_L_law_964 : decode b_L_law 964 = .ok (.aload_n 3, 1) := by decide +kernel
theorem d_L_law_965 : decode b_L_law 965 = .ok (.iconst (0), 1) := by decide +kernel
theorem d_L_law_966 : decode b_L_law 966 = .ok (.laload, 1) := by decide +kernel
theorem d_L_law_967 : decode b_L_law 967 = .ok (.iload 6, 2) := by decide +kernel
theorem d_L_law_969 : decode b_L_law 969 = .ok (.i2l, 1) := by decide +kernel
theorem d_L_law_970 : decode b_L_law 970 = .ok (.lcmp, 1) := by decide +kernel
theorem d_L_law_971 : decode b_L_law 971 = .ok (.ifCond .eq (5), 3) := by decide +kernel
theorem d_L_law_974 : decode b_L_law 974 = .ok (.iconst (0), 1) := by decide +kernel
theorem d_L_law_975 : decode b_L_law 975 = .ok (.ireturn, 1) := by decide +kernel
theorem d_L_law_976 : decode b_L_law 976 = .ok (.goto (274), 3) := by decide +kernel
theorem d_L_law_979 : decode b_L_law 979 = .ok (.aload_n 1, 1) := by decide +kernel
theorem d_L_law_980 : decode b_L_law 980 = .ok (.aload_n 0, 1) := by decide +kernel
theorem d_L_law_981 : decode b_L_law 981 = .ok (.iload 4, 2) := by decide +kernel
theorem d_L_law_983 : decode b_L_law 983 = .ok (.iconst (1), 1) := by decide +kernel
theorem d_L_law_984 : decode b_L_law 984 = .ok (.iadd, 1) := by decide +kernel
theorem d_L_law_985 : decode b_L_law 985 = .ok (.iaload, 1) := by decide +kernel
theorem d_L_law_986 : decode b_L_law 986 = .ok (.aload_n 0, 1) := by decide +kernel
theorem d_L_law_987 : decode b_L_law 987 = .ok (.iload 4, 2) := by decide +kernel
theorem d_L_law_989 : decode b_L_law 989 = .ok (.iconst (2), 1) := by decide +kernel
theorem d_L_law_990 : decode b_L_law 990 = .ok (.iadd, 1) := by decide +kernel
theorem d_L_law_991 : decode b_L_law 991 = .ok (.iaload, 1) := by decide +kernel
theorem d_L_law_992 : decode b_L_law 992 = .ok (.aload_n 3, 1) := by decide +kernel
theorem d_L_law_993 : decode b_L_law 993 = .ok (.invokestatic 120, 3) := by decide +kernel
theorem d_L_law_996 : decode b_L_law 996 = .ok (.istore 5, 2) := by decide +kernel
theorem d_L_law_998 : decode b_L_law 998 = .ok (.aload_n 2, 1) := by decide +kernel
theorem d_L_law_999 : decode b_L_law 999 = .ok (.aload_n 0, 1) := by decide +kernel
theorem d_L_law_1000 : decode b_L_law 1000 = .ok (.iload 4, 2) := by decide +kernel
theorem d_L_law_1002 : decode b_L_law 1002 = .ok (.iconst (1), 1) := by decide +kernel
theorem d_L_law_1003 : decode b_L_law 1003 = .ok (.iadd, 1) := by decide +kernel
theorem d_L_law_1004 : decode b_L_law 1004 = .ok (.iaload, 1) := by decide +kernel
theorem d_L_law_1005 : decode b_L_law 1005 = .ok (.aload_n 0, 1) := by decide +kernel
theorem d_L_law_1006 : decode b_L_law 1006 = .ok (.iload 4, 2) := by decide +kernel
theorem d_L_law_1008 : decode b_L_law 1008 = .ok (.iconst (2), 1) := by decide +kernel
theorem d_L_law_1009 : decode b_L_law 1009 = .ok (.iadd, 1) := by decide +kernel
theorem d_L_law_1010 : decode b_L_law 1010 = .ok (.iaload, 1) := by decide +kernel
theorem d_L_law_1011 : decode b_L_law 1011 = .ok (.invokevirtual 123, 3) := by decide +kernel
theorem d_L_law_1014 : decode b_L_law 1014 = .ok (.istore 6, 2) := by decide +kernel
theorem d_L_law_1016 : decode b_L_law 1016 = .ok (.aload_n 2, 1) := by decide +kernel
theorem d_L_law_1017 : decode b_L_law 1017 = .ok (.invokevirtual 70, 3) := by decide +kernel
theorem d_L_law_1020 : decode b_L_law 1020 = .ok (.iload 5, 2) := by decide +kernel
theorem d_L_law_1022 : decode b_L_law 1022 = .ok (.if_icmp .eq (5), 3) := by decide +kernel
theorem d_L_law_1025 : decode b_L_law 1025 = .ok (.iconst (0), 1) := by decide +kernel
theorem d_L_law_1026 : decode b_L_law 1026 = .ok (.ireturn, 1) := by decide +kernel
theorem d_L_law_1027 : decode b_L_law 1027 = .ok (.iload 5, 2) := by decide +kernel
theorem d_L_law_1029 : decode b_L_law 1029 = .ok (.ifCond .ne (15), 3) := by decide +kernel
theorem d_L_law_1032 : decode b_L_law 1032 = .ok (.aload_n 3, 1) := by decide +kernel
theorem d_L_law_1033 : decode b_L_law 1033 = .ok (.iconst (0), 1) := by decide +kernel
theorem d_L_law_1034 : decode b_L_law 1034 = .ok (.laload, 1) := by decide +kernel
theorem d_L_law_1035 : decode b_L_law 1035 = .ok (.iload 6, 2) := by decide +kernel
theorem d_L_law_1037 : decode b_L_law 1037 = .ok (.i2l, 1) := by decide +kernel
theorem d_L_law_1038 : decode b_L_law 1038 = .ok (.lcmp, 1) := by decide +kernel
theorem d_L_law_1039 : decode b_L_law 1039 = .ok (.ifCond .eq (5), 3) := by decide +kernel
theorem d_L_law_1042 : decode b_L_law 1042 = .ok (.iconst (0), 1) := by decide +kernel
theorem d_L_law_1043 : decode b_L_law 1043 = .ok (.ireturn, 1) := by decide +kernel
theorem d_L_law_1044 : decode b_L_law 1044 = .ok (.goto (206), 3) := by decide +kernel
theorem d_L_law_1047 : decode b_L_law 1047 = .ok (.aload_n 1, 1) := by decide +kernel
theorem d_L_law_1048 : decode b_L_law 1048 = .ok (.aload_n 0, 1) := by decide +kernel
theorem d_L_law_1049 : decode b_L_law 1049 = .ok (.iload 4, 2) := by decide +kernel
theorem d_L_law_1051 : decode b_L_law 1051 = .ok (.iconst (1), 1) := by decide +kernel
theorem d_L_law_1052 : decode b_L_law 1052 = .ok (.iadd, 1) := by decide +kernel
theorem d_L_law_1053 : decode b_L_law 1053 = .ok (.iaload, 1) := by decide +kernel
theorem d_L_law_1054 : decode b_L_law 1054 = .ok (.aload_n 0, 1) := by decide +kernel
theorem d_L_law_1055 : decode b_L_law 1055 = .ok (.iload 4, 2) := by decide +kernel
theorem d_L_law_1057 : decode b_L_law 1057 = .ok (.iconst (2), 1) := by decide +kernel
theorem d_L_law_1058 : decode b_L_law 1058 = .ok (.iadd, 1) := by decide +kernel
theorem d_L_law_1059 : decode b_L_law 1059 = .ok (.iaload, 1) := by decide +kernel
theorem d_L_law_1060 : decode b_L_law 1060 = .ok (.aload_n 3, 1) := by decide +kernel
theorem d_L_law_1061 : decode b_L_law 1061 = .ok (.invokestatic 124, 3) := by decide +kernel
theorem d_L_law_1064 : decode b_L_law 1064 = .ok (.istore 5, 2) := by decide +kernel
theorem d_L_law_1066 : decode b_L_law 1066 = .ok (.aload_n 2, 1) := by decide +kernel
theorem d_L_law_1067 : decode b_L_law 1067 = .ok (.aload_n 0, 1) := by decide +kernel
theorem d_L_law_1068 : decode b_L_law 1068 = .ok (.iload 4, 2) := by decide +kernel
theorem d_L_law_1070 : decode b_L_law 1070 = .ok (.iconst (1), 1) := by decide +kernel
theorem d_L_law_1071 : decode b_L_law 1071 = .ok (.iadd, 1) := by decide +kernel
theorem d_L_law_1072 : decode b_L_law 1072 = .ok (.iaload, 1) := by decide +kernel
theorem d_L_law_1073 : decode b_L_law 1073 = .ok (.aload_n 0, 1) := by decide +kernel
theorem d_L_law_1074 : decode b_L_law 1074 = .ok (.iload 4, 2) := by decide +kernel
theorem d_L_law_1076 : decode b_L_law 1076 = .ok (.iconst (2), 1) := by decide +kernel
theorem d_L_law_1077 : decode b_L_law 1077 = .ok (.iadd, 1) := by decide +kernel
theorem d_L_law_1078 : decode b_L_law 1078 = .ok (.iaload, 1) := by decide +kernel
theorem d_L_law_1079 : decode b_L_law 1079 = .ok (.invokevirtual 126, 3) := by decide +kernel
theorem d_L_law_1082 : decode b_L_law 1082 = .ok (.lstore 6, 2) := by decide +kernel
theorem d_L_law_1084 : decode b_L_law 1084 = .ok (.aload_n 2, 1) := by decide +kernel
theorem d_L_law_1085 : decode b_L_law 1085 = .ok (.invokevirtual 70, 3) := by decide +kernel
theorem d_L_law_1088 : decode b_L_law 1088 = .ok (.iload 5, 2) := by decide +kernel
theorem d_L_law_1090 : decode b_L_law 1090 = .ok (.if_icmp .eq (5), 3) := by decide +kernel
theorem d_L_law_1093 : decode b_L_law 1093 = .ok (.iconst (0), 1) := by decide +kernel
theorem d_L_law_1094 : decode b_L_law 1094 = .ok (.ireturn, 1) := by decide +kernel
theorem d_L_law_1095 : decode b_L_law 1095 = .ok (.iload 5, 2) := by decide +kernel
theorem d_L_law_1097 : decode b_L_law 1097 = .ok (.ifCond .ne (14), 3) := by decide +kernel
theorem d_L_law_1100 : decode b_L_law 1100 = .ok (.aload_n 3, 1) := by decide +kernel
theorem d_L_law_1101 : decode b_L_law 1101 = .ok (.iconst (0), 1) := by decide +kernel
theorem d_L_law_1102 : decode b_L_law 1102 = .ok (.laload, 1) := by decide +kernel
theorem d_L_law_1103 : decode b_L_law 1103 = .ok (.lload 6, 2) := by decide +kernel
theorem d_L_law_1105 : decode b_L_law 1105 = .ok (.lcmp, 1) := by decide +kernel
theorem d_L_law_1106 : decode b_L_law 1106 = .ok (.ifCond .eq (5), 3) := by decide +kernel
theorem d_L_law_1109 : decode b_L_law 1109 = .ok (.iconst (0), 1) := by decide +kernel
theorem d_L_law_1110 : decode b_L_law 1110 = .ok (.ireturn, 1) := by decide +kernel
theorem d_L_law_1111 : decode b_L_law 1111 = .ok (.goto (139), 3) := by decide +kernel
theorem d_L_law_1114 : decode b_L_law 1114 = .ok (.aload_n 1, 1) := by decide +kernel
theorem d_L_law_1115 : decode b_L_law 1115 = .ok (.aload_n 0, 1) := by decide +kernel
theorem d_L_law_1116 : decode b_L_law 1116 = .ok (.iload 4, 2) := by decide +kernel
theorem d_L_law_1118 : decode b_L_law 1118 = .ok (.iconst (1), 1) := by decide +kernel
theorem d_L_law_1119 : decode b_L_law 1119 = .ok (.iadd, 1) := by decide +kernel
theorem d_L_law_1120 : decode b_L_law 1120 = .ok (.iaload, 1) := by decide +kernel
theorem d_L_law_1121 : decode b_L_law 1121 = .ok (.aload_n 0, 1) := by decide +kernel
theorem d_L_law_1122 : decode b_L_law 1122 = .ok (.iload 4, 2) := by decide +kernel
theorem d_L_law_1124 : decode b_L_law 1124 = .ok (.iconst (2), 1) := by decide +kernel
theorem d_L_law_1125 : decode b_L_law 1125 = .ok (.iadd, 1) := by decide +kernel
theorem d_L_law_1126 : decode b_L_law 1126 = .ok (.iaload, 1) := by decide +kernel
theorem d_L_law_1127 : decode b_L_law 1127 = .ok (.aload_n 3, 1) := by decide +kernel
theorem d_L_law_1128 : decode b_L_law 1128 = .ok (.invokestatic 127, 3) := by decide +kernel
theorem d_L_law_1131 : decode b_L_law 1131 = .ok (.istore 5, 2) := by decide +kernel
theorem d_L_law_1133 : decode b_L_law 1133 = .ok (.aload_n 2, 1) := by decide +kernel
theorem d_L_law_1134 : decode b_L_law 1134 = .ok (.aload_n 0, 1) := by decide +kernel
theorem d_L_law_1135 : decode b_L_law 1135 = .ok (.iload 4, 2) := by decide +kernel
theorem d_L_law_1137 : decode b_L_law 1137 = .ok (.iconst (1), 1) := by decide +kernel
theorem d_L_law_1138 : decode b_L_law 1138 = .ok (.iadd, 1) := by decide +kernel
theorem d_L_law_1139 : decode b_L_law 1139 = .ok (.iaload, 1) := by decide +kernel
theorem d_L_law_1140 : decode b_L_law 1140 = .ok (.aload_n 0, 1) := by decide +kernel
theorem d_L_law_1141 : decode b_L_law 1141 = .ok (.iload 4, 2) := by decide +kernel
theorem d_L_law_1143 : decode b_L_law 1143 = .ok (.iconst (2), 1) := by decide +kernel
theorem d_L_law_1144 : decode b_L_law 1144 = .ok (.iadd, 1) := by decide +kernel
theorem d_L_law_1145 : decode b_L_law 1145 = .ok (.iaload, 1) := by decide +kernel
theorem d_L_law_1146 : decode b_L_law 1146 = .ok (.invokevirtual 129, 3) := by decide +kernel
theorem d_L_law_1149 : decode b_L_law 1149 = .ok (.istore 6, 2) := by decide +kernel
theorem d_L_law_1151 : decode b_L_law 1151 = .ok (.aload_n 2, 1) := by decide +kernel
theorem d_L_law_1152 : decode b_L_law 1152 = .ok (.invokevirtual 70, 3) := by decide +kernel
theorem d_L_law_1155 : decode b_L_law 1155 = .ok (.iload 5, 2) := by decide +kernel
theorem d_L_law_1157 : decode b_L_law 1157 = .ok (.if_icmp .eq (5), 3) := by decide +kernel
theorem d_L_law_1160 : decode b_L_law 1160 = .ok (.iconst (0), 1) := by decide +kernel
theorem d_L_law_1161 : decode b_L_law 1161 = .ok (.ireturn, 1) := by decide +kernel
theorem d_L_law_1162 : decode b_L_law 1162 = .ok (.iload 5, 2) := by decide +kernel
theorem d_L_law_1164 : decode b_L_law 1164 = .ok (.ifCond .ne (15), 3) := by decide +kernel
theorem d_L_law_1167 : decode b_L_law 1167 = .ok (.aload_n 3, 1) := by decide +kernel
theorem d_L_law_1168 : decode b_L_law 1168 = .ok (.iconst (0), 1) := by decide +kernel
theorem d_L_law_1169 : decode b_L_law 1169 = .ok (.laload, 1) := by decide +kernel
theorem d_L_law_1170 : decode b_L_law 1170 = .ok (.iload 6, 2) := by decide +kernel
theorem d_L_law_1172 : decode b_L_law 1172 = .ok (.i2l, 1) := by decide +kernel
theorem d_L_law_1173 : decode b_L_law 1173 = .ok (.lcmp, 1) := by decide +kernel
theorem d_L_law_1174 : decode b_L_law 1174 = .ok (.ifCond .eq (5), 3) := by decide +kernel
theorem d_L_law_1177 : decode b_L_law 1177 = .ok (.iconst (0), 1) := by decide +kernel
theorem d_L_law_1178 : decode b_L_law 1178 = .ok (.ireturn, 1) := by decide +kernel
theorem d_L_law_1179 : decode b_L_law 1179 = .ok (.goto (71), 3) := by decide +kernel
theorem d_L_law_1182 : decode b_L_law 1182 = .ok (.aload_n 1, 1) := by decide +kernel
theorem d_L_law_1183 : decode b_L_law 1183 = .ok (.aload_n 0, 1) := by decide +kernel
theorem d_L_law_1184 : decode b_L_law 1184 = .ok (.iload 4, 2) := by decide +kernel
theorem d_L_law_1186 : decode b_L_law 1186 = .ok (.iconst (1), 1) := by decide +kernel
theorem d_L_law_1187 : decode b_L_law 1187 = .ok (.iadd, 1) := by decide +kernel
theorem d_L_law_1188 : decode b_L_law 1188 = .ok (.iaload, 1) := by decide +kernel
theorem d_L_law_1189 : decode b_L_law 1189 = .ok (.aload_n 0, 1) := by decide +kernel
theorem d_L_law_1190 : decode b_L_law 1190 = .ok (.iload 4, 2) := by decide +kernel
theorem d_L_law_1192 : decode b_L_law 1192 = .ok (.iconst (2), 1) := by decide +kernel
theorem d_L_law_1193 : decode b_L_law 1193 = .ok (.iadd, 1) := by decide +kernel
theorem d_L_law_1194 : decode b_L_law 1194 = .ok (.iaload, 1) := by decide +kernel
theorem d_L_law_1195 : decode b_L_law 1195 = .ok (.aload_n 3, 1) := by decide +kernel
theorem d_L_law_1196 : decode b_L_law 1196 = .ok (.invokestatic 130, 3) := by decide +kernel
theorem d_L_law_1199 : decode b_L_law 1199 = .ok (.istore 5, 2) := by decide +kernel
theorem d_L_law_1201 : decode b_L_law 1201 = .ok (.aload_n 2, 1) := by decide +kernel
theorem d_L_law_1202 : decode b_L_law 1202 = .ok (.aload_n 0, 1) := by decide +kernel
theorem d_L_law_1203 : decode b_L_law 1203 = .ok (.iload 4, 2) := by decide +kernel
theorem d_L_law_1205 : decode b_L_law 1205 = .ok (.iconst (1), 1) := by decide +kernel
theorem d_L_law_1206 : decode b_L_law 1206 = .ok (.iadd, 1) := by decide +kernel
theorem d_L_law_1207 : decode b_L_law 1207 = .ok (.iaload, 1) := by decide +kernel
theorem d_L_law_1208 : decode b_L_law 1208 = .ok (.aload_n 0, 1) := by decide +kernel
theorem d_L_law_1209 : decode b_L_law 1209 = .ok (.iload 4, 2) := by decide +kernel
