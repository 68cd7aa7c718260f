/-! the law's cases, its loop: out of 32 pure statements -/
theorem dL_law_0 : decode cL_law 0 = .ok (.new 7, 3) := by decide +kernel
theorem dL_law_3 : decode cL_law 3 = .ok (.dup, 1) := by decide +kernel
theorem dL_law_4 : decode cL_law 4 = .ok (.invokespecial 9, 3) := by decide +kernel
theorem dL_law_7 : decode cL_law 7 = .ok (.astore_n 1, 1) := by decide +kernel
theorem dL_law_8 : decode cL_law 8 = .ok (.new 10, 3) := by decide +kernel
theorem dL_law_11 : decode cL_law 11 = .ok (.dup, 1) := by decide +kernel
theorem dL_law_12 : decode cL_law 12 = .ok (.invokespecial 12, 3) := by decide +kernel
theorem dL_law_15 : decode cL_law 15 = .ok (.astore_n 2, 1) := by decide +kernel
theorem dL_law_16 : decode cL_law 16 = .ok (.iconst 0, 1) := by decide +kernel
theorem dL_law_17 : decode cL_law 17 = .ok (.istore_n 3, 1) := by decide +kernel
theorem dL_law_18 : decode cL_law 18 = .ok (.iload_n 3, 1) := by decide +kernel
theorem dL_law_19 : decode cL_law 19 = .ok (.aload_n 0, 1) := by decide +kernel
theorem dL_law_20 : decode cL_law 20 = .ok (.arraylength, 1) := by decide +kernel
theorem dL_law_21 : decode cL_law 21 = .ok (.bipush 6, 2) := by decide +kernel
theorem dL_law_23 : decode cL_law 23 = .ok (.isub, 1) := by decide +kernel
theorem dL_law_24 : decode cL_law 24 = .ok (.if_icmp .gt 1239, 3) := by decide +kernel
theorem dL_law_27 : decode cL_law 27 = .ok (.aload_n 0, 1) := by decide +kernel
theorem dL_law_28 : decode cL_law 28 = .ok (.iload_n 3, 1) := by decide +kernel
theorem dL_law_29 : decode cL_law 29 = .ok (.iaload, 1) := by decide +kernel
theorem dL_law_30 : decode cL_law 30 = .ok (.bipush 31, 2) := by decide +kernel
theorem dL_law_32 : decode cL_law 32 = .ok (.iand, 1) := by decide +kernel
theorem dL_law_33 : decode cL_law 33 = .ok (.tableswitch 1224 0 31 #[143, 166, 229, 252, 265, 278, 301, 324, 357, 370, 404, 438, 482, 555, 628, 651, 684, 707, 740, 773, 796, 829, 852, 875, 938, 971, 994, 1017, 1090, 1114, 1188, 1201], 143) := by decide +kernel
theorem dL_law_176 : decode cL_law 176 = .ok (.aload_n 1, 1) := by decide +kernel
theorem dL_law_177 : decode cL_law 177 = .ok (.aload_n 0, 1) := by decide +kernel
theorem dL_law_178 : decode cL_law 178 = .ok (.iload_n 3, 1) := by decide +kernel
theorem dL_law_179 : decode cL_law 179 = .ok (.iconst 1, 1) := by decide +kernel
theorem dL_law_180 : decode cL_law 180 = .ok (.iadd, 1) := by decide +kernel
theorem dL_law_181 : decode cL_law 181 = .ok (.iaload, 1) := by decide +kernel
theorem dL_law_182 : decode cL_law 182 = .ok (.invokevirtual 13, 3) := by decide +kernel
theorem dL_law_185 : decode cL_law 185 = .ok (.aload_n 2, 1) := by decide +kernel
theorem dL_law_186 : decode cL_law 186 = .ok (.aload_n 0, 1) := by decide +kernel
theorem dL_law_187 : decode cL_law 187 = .ok (.iload_n 3, 1) := by decide +kernel
theorem dL_law_188 : decode cL_law 188 = .ok (.iconst 1, 1) := by decide +kernel
theorem dL_law_189 : decode cL_law 189 = .ok (.iadd, 1) := by decide +kernel
theorem dL_law_190 : decode cL_law 190 = .ok (.iaload, 1) := by decide +kernel
theorem dL_law_191 : decode cL_law 191 = .ok (.invokevirtual 17, 3) := by decide +kernel
theorem dL_law_194 : decode cL_law 194 = .ok (.if_icmp .eq 1063, 3) := by decide +kernel
theorem dL_law_197 : decode cL_law 197 = .ok (.iconst 0, 1) := by decide +kernel
theorem dL_law_198 : decode cL_law 198 = .ok (.ireturn, 1) := by decide +kernel
theorem dL_law_199 : decode cL_law 199 = .ok (.aload_n 1, 1) := by decide +kernel
theorem dL_law_200 : decode cL_law 200 = .ok (.aload_n 0, 1) := by decide +kernel
theorem dL_law_201 : decode cL_law 201 = .ok (.iload_n 3, 1) := by decide +kernel
theorem dL_law_202 : decode cL_law 202 = .ok (.iconst 1, 1) := by decide +kernel
theorem dL_law_203 : decode cL_law 203 = .ok (.iadd, 1) := by decide +kernel
theorem dL_law_204 : decode cL_law 204 = .ok (.iaload, 1) := by decide +kernel
theorem dL_law_205 : decode cL_law 205 = .ok (.aload_n 0, 1) := by decide +kernel
theorem dL_law_206 : decode cL_law 206 = .ok (.iload_n 3, 1) := by decide +kernel
theorem dL_law_207 : decode cL_law 207 = .ok (.iconst 2, 1) := by decide +kernel
theorem dL_law_208 : decode cL_law 208 = .ok (.iadd, 1) := by decide +kernel
theorem dL_law_209 : decode cL_law 209 = .ok (.iaload, 1) := by decide +kernel
theorem dL_law_210 : decode cL_law 210 = .ok (.aload_n 0, 1) := by decide +kernel
theorem dL_law_211 : decode cL_law 211 = .ok (.iload_n 3, 1) := by decide +kernel
theorem dL_law_212 : decode cL_law 212 = .ok (.iconst 3, 1) := by decide +kernel
theorem dL_law_213 : decode cL_law 213 = .ok (.iadd, 1) := by decide +kernel
theorem dL_law_214 : decode cL_law 214 = .ok (.iaload, 1) := by decide +kernel
theorem dL_law_215 : decode cL_law 215 = .ok (.aload_n 0, 1) := by decide +kernel
theorem dL_law_216 : decode cL_law 216 = .ok (.iload_n 3, 1) := by decide +kernel
theorem dL_law_217 : decode cL_law 217 = .ok (.iconst 4, 1) := by decide +kernel
theorem dL_law_218 : decode cL_law 218 = .ok (.iadd, 1) := by decide +kernel
theorem dL_law_219 : decode cL_law 219 = .ok (.iaload, 1) := by decide +kernel
theorem dL_law_220 : decode cL_law 220 = .ok (.aload_n 0, 1) := by decide +kernel
theorem dL_law_221 : decode cL_law 221 = .ok (.iload_n 3, 1) := by decide +kernel
theorem dL_law_222 : decode cL_law 222 = .ok (.iconst 5, 1) := by decide +kernel
theorem dL_law_223 : decode cL_law 223 = .ok (.iadd, 1) := by decide +kernel
theorem dL_law_224 : decode cL_law 224 = .ok (.iaload, 1) := by decide +kernel
theorem dL_law_225 : decode cL_law 225 = .ok (.invokevirtual 18, 3) := by decide +kernel
theorem dL_law_228 : decode cL_law 228 = .ok (.aload_n 2, 1) := by decide +kernel
theorem dL_law_229 : decode cL_law 229 = .ok (.aload_n 0, 1) := by decide +kernel
theorem dL_law_230 : decode cL_law 230 = .ok (.iload_n 3, 1) := by decide +kernel
theorem dL_law_231 : decode cL_law 231 = .ok (.iconst 1, 1) := by decide +kernel
theorem dL_law_232 : decode cL_law 232 = .ok (.iadd, 1) := by decide +kernel
theorem dL_law_233 : decode cL_law 233 = .ok (.iaload, 1) := by decide +kernel
theorem dL_law_234 : decode cL_law 234 = .ok (.aload_n 0, 1) := by decide +kernel
theorem dL_law_235 : decode cL_law 235 = .ok (.iload_n 3, 1) := by decide +kernel
theorem dL_law_236 : decode cL_law 236 = .ok (.iconst 2, 1) := by decide +kernel
theorem dL_law_237 : decode cL_law 237 = .ok (.iadd, 1) := by decide +kernel
theorem dL_law_238 : decode cL_law 238 = .ok (.iaload, 1) := by decide +kernel
theorem dL_law_239 : decode cL_law 239 = .ok (.aload_n 0, 1) := by decide +kernel
theorem dL_law_240 : decode cL_law 240 = .ok (.iload_n 3, 1) := by decide +kernel
theorem dL_law_241 : decode cL_law 241 = .ok (.iconst 3, 1) := by decide +kernel
theorem dL_law_242 : decode cL_law 242 = .ok (.iadd, 1) := by decide +kernel
theorem dL_law_243 : decode cL_law 243 = .ok (.iaload, 1) := by decide +kernel
theorem dL_law_244 : decode cL_law 244 = .ok (.aload_n 0, 1) := by decide +kernel
theorem dL_law_245 : decode cL_law 245 = .ok (.iload_n 3, 1) := by decide +kernel
theorem dL_law_246 : decode cL_law 246 = .ok (.iconst 4, 1) := by decide +kernel
theorem dL_law_247 : decode cL_law 247 = .ok (.iadd, 1) := by decide +kernel
theorem dL_law_248 : decode cL_law 248 = .ok (.iaload, 1) := by decide +kernel
theorem dL_law_249 : decode cL_law 249 = .ok (.aload_n 0, 1) := by decide +kernel
theorem dL_law_250 : decode cL_law 250 = .ok (.iload_n 3, 1) := by decide +kernel
theorem dL_law_251 : decode cL_law 251 = .ok (.iconst 5, 1) := by decide +kernel
theorem dL_law_252 : decode cL_law 252 = .ok (.iadd, 1) := by decide +kernel
theorem dL_law_253 : decode cL_law 253 = .ok (.iaload, 1) := by decide +kernel
theorem dL_law_254 : decode cL_law 254 = .ok (.invokevirtual 22, 3) := by decide +kernel
theorem dL_law_257 : decode cL_law 257 = .ok (.if_icmp .eq 1000, 3) := by decide +kernel
theorem dL_law_260 : decode cL_law 260 = .ok (.iconst 0, 1) := by decide +kernel
theorem dL_law_261 : decode cL_law 261 = .ok (.ireturn, 1) := by decide +kernel
theorem dL_law_262 : decode cL_law 262 = .ok (.aload_n 1, 1) := by decide +kernel
theorem dL_law_263 : decode cL_law 263 = .ok (.aload_n 0, 1) := by decide +kernel
theorem dL_law_264 : decode cL_law 264 = .ok (.iload_n 3, 1) := by decide +kernel
theorem dL_law_265 : decode cL_law 265 = .ok (.iconst 1, 1) := by decide +kernel
theorem dL_law_266 : decode cL_law 266 = .ok (.iadd, 1) := by decide +kernel
theorem dL_law_267 : decode cL_law 267 = .ok (.iaload, 1) := by decide +kernel
theorem dL_law_268 : decode cL_law 268 = .ok (.invokevirtual 23, 3) := by decide +kernel
theorem dL_law_271 : decode cL_law 271 = .ok (.aload_n 2, 1) := by decide +kernel
theorem dL_law_272 : decode cL_law 272 = .ok (.aload_n 0, 1) := by decide +kernel
theorem dL_law_273 : decode cL_law 273 = .ok (.iload_n 3, 1) := by decide +kernel
theorem dL_law_274 : decode cL_law 274 = .ok (.iconst 1, 1) := by decide +kernel
theorem dL_law_275 : decode cL_law 275 = .ok (.iadd, 1) := by decide +kernel
theorem dL_law_276 : decode cL_law 276 = .ok (.iaload, 1) := by decide +kernel
theorem dL_law_277 : decode cL_law 277 = .ok (.invokevirtual 26, 3) := by decide +kernel
theorem dL_law_280 : decode cL_law 280 = .ok (.if_icmp .eq 977, 3) := by decide +kernel
theorem dL_law_283 : decode cL_law 283 = .ok (.iconst 0, 1) := by decide +kernel
theorem dL_law_284 : decode cL_law 284 = .ok (.ireturn, 1) := by decide +kernel
theorem dL_law_285 : decode cL_law 285 = .ok (.aload_n 1, 1) := by decide +kernel
theorem dL_law_286 : decode cL_law 286 = .ok (.invokevirtual 27, 3) := by decide +kernel
theorem dL_law_289 : decode cL_law 289 = .ok (.aload_n 2, 1) := by decide +kernel
theorem dL_law_290 : decode cL_law 290 = .ok (.invokevirtual 31, 3) := by decide +kernel
theorem dL_law_293 : decode cL_law 293 = .ok (.if_icmp .eq 964, 3) := by decide +kernel
theorem dL_law_296 : decode cL_law 296 = .ok (.iconst 0, 1) := by decide +kernel
theorem dL_law_297 : decode cL_law 297 = .ok (.ireturn, 1) := by decide +kernel
theorem dL_law_298 : decode cL_law 298 = .ok (.aload_n 1, 1) := by decide +kernel
theorem dL_law_299 : decode cL_law 299 = .ok (.invokevirtual 32, 3) := by decide +kernel
theorem dL_law_302 : decode cL_law 302 = .ok (.aload_n 2, 1) := by decide +kernel
theorem dL_law_303 : decode cL_law 303 = .ok (.invokevirtual 35, 3) := by decide +kernel
theorem dL_law_306 : decode cL_law 306 = .ok (.if_icmp .eq 951, 3) := by decide +kernel
theorem dL_law_309 : decode cL_law 309 = .ok (.iconst 0, 1) := by decide +kernel
theorem dL_law_310 : decode cL_law 310 = .ok (.ireturn, 1) := by decide +kernel
theorem dL_law_311 : decode cL_law 311 = .ok (.aload_n 1, 1) := by decide +kernel
theorem dL_law_312 : decode cL_law 312 = .ok (.aload_n 0, 1) := by decide +kernel
theorem dL_law_313 : decode cL_law 313 = .ok (.iload_n 3, 1) := by decide +kernel
theorem dL_law_314 : decode cL_law 314 = .ok (.iconst 1, 1) := by decide +kernel
theorem dL_law_315 : decode cL_law 315 = .ok (.iadd, 1) := by decide +kernel
theorem dL_law_316 : decode cL_law 316 = .ok (.iaload, 1) := by decide +kernel
theorem dL_law_317 : decode cL_law 317 = .ok (.invokevirtual 36, 3) := by decide +kernel
theorem dL_law_320 : decode cL_law 320 = .ok (.aload_n 2, 1) := by decide +kernel
theorem dL_law_321 : decode cL_law 321 = .ok (.aload_n 0, 1) := by decide +kernel
theorem dL_law_322 : decode cL_law 322 = .ok (.iload_n 3, 1) := by decide +kernel
theorem dL_law_323 : decode cL_law 323 = .ok (.iconst 1, 1) := by decide +kernel
theorem dL_law_324 : decode cL_law 324 = .ok (.iadd, 1) := by decide +kernel
theorem dL_law_325 : decode cL_law 325 = .ok (.iaload, 1) := by decide +kernel
theorem dL_law_326 : decode cL_law 326 = .ok (.invokevirtual 40, 3) := by decide +kernel
theorem dL_law_329 : decode cL_law 329 = .ok (.if_icmp .eq 928, 3) := by decide +kernel
theorem dL_law_332 : decode cL_law 332 = .ok (.iconst 0, 1) := by decide +kernel
theorem dL_law_333 : decode cL_law 333 = .ok (.ireturn, 1) := by decide +kernel
theorem dL_law_334 : decode cL_law 334 = .ok (.aload_n 1, 1) := by decide +kernel
theorem dL_law_335 : decode cL_law 335 = .ok (.aload_n 0, 1) := by decide +kernel
theorem dL_law_336 : decode cL_law 336 = .ok (.iload_n 3, 1) := by decide +kernel
theorem dL_law_337 : decode cL_law 337 = .ok (.iconst 1, 1) := by decide +kernel
theorem dL_law_338 : decode cL_law 338 = .ok (.iadd, 1) := by decide +kernel
theorem dL_law_339 : decode cL_law 339 = .ok (.iaload, 1) := by decide +kernel
theorem dL_law_340 : decode cL_law 340 = .ok (.invokevirtual 41, 3) := by decide +kernel
theorem dL_law_343 : decode cL_law 343 = .ok (.aload_n 2, 1) := by decide +kernel
theorem dL_law_344 : decode cL_law 344 = .ok (.aload_n 0, 1) := by decide +kernel
theorem dL_law_345 : decode cL_law 345 = .ok (.iload_n 3, 1) := by decide +kernel
theorem dL_law_346 : decode cL_law 346 = .ok (.iconst 1, 1) := by decide +kernel
theorem dL_law_347 : decode cL_law 347 = .ok (.iadd, 1) := by decide +kernel
theorem dL_law_348 : decode cL_law 348 = .ok (.iaload, 1) := by decide +kernel
theorem dL_law_349 : decode cL_law 349 = .ok (.invokevirtual 44, 3) := by decide +kernel
theorem dL_law_352 : decode cL_law 352 = .ok (.if_icmp .eq 905, 3) := by decide +kernel
theorem dL_law_355 : decode cL_law 355 = .ok (.iconst 0, 1) := by decide +kernel
theorem dL_law_356 : decode cL_law 356 = .ok (.ireturn, 1) := by decide +kernel
theorem dL_law_357 : decode cL_law 357 = .ok (.aload_n 1, 1) := by decide +kernel
theorem dL_law_358 : decode cL_law 358 = .ok (.aload_n 0, 1) := by decide +kernel
theorem dL_law_359 : decode cL_law 359 = .ok (.iload_n 3, 1) := by decide +kernel
theorem dL_law_360 : decode cL_law 360 = .ok (.iconst 1, 1) := by decide +kernel
theorem dL_law_361 : decode cL_law 361 = .ok (.iadd, 1) := by decide +kernel
theorem dL_law_362 : decode cL_law 362 = .ok (.iaload, 1) := by decide +kernel
theorem dL_law_363 : decode cL_law 363 = .ok (.aload_n 0, 1) := by decide +kernel
theorem dL_law_364 : decode cL_law 364 = .ok (.iload_n 3, 1) := by decide +kernel
theorem dL_law_365 : decode cL_law 365 = .ok (.iconst 2, 1) := by decide +kernel
theorem dL_law_366 : decode cL_law 366 = .ok (.iadd, 1) := by decide +kernel
theorem dL_law_367 : decode cL_law 367 = .ok (.iaload, 1) := by decide +kernel
theorem dL_law_368 : decode cL_law 368 = .ok (.invokevirtual 45, 3) := by decide +kernel
theorem dL_law_371 : decode cL_law 371 = .ok (.aload_n 2, 1) := by decide +kernel
theorem dL_law_372 : decode cL_law 372 = .ok (.aload_n 0, 1) := by decide +kernel
theorem dL_law_373 : decode cL_law 373 = .ok (.iload_n 3, 1) := by decide +kernel
theorem dL_law_374 : decode cL_law 374 = .ok (.iconst 1, 1) := by decide +kernel
theorem dL_law_375 : decode cL_law 375 = .ok (.iadd, 1) := by decide +kernel
theorem dL_law_376 : decode cL_law 376 = .ok (.iaload, 1) := by decide +kernel
theorem dL_law_377 : decode cL_law 377 = .ok (.aload_n 0, 1) := by decide +kernel
theorem dL_law_378 : decode cL_law 378 = .ok (.iload_n 3, 1) := by decide +kernel
theorem dL_law_379 : decode cL_law 379 = .ok (.iconst 2, 1) := by decide +kernel
theorem dL_law_380 : decode cL_law 380 = .ok (.iadd, 1) := by decide +kernel
theorem dL_law_381 : decode cL_law 381 = .ok (.iaload, 1) := by decide +kernel
theorem dL_law_382 : decode cL_law 382 = .ok (.invokevirtual 49, 3) := by decide +kernel
theorem dL_law_385 : decode cL_law 385 = .ok (.if_icmp .eq 872, 3) := by decide +kernel
theorem dL_law_388 : decode cL_law 388 = .ok (.iconst 0, 1) := by decide +kernel
theorem dL_law_389 : decode cL_law 389 = .ok (.ireturn, 1) := by decide +kernel
theorem dL_law_390 : decode cL_law 390 = .ok (.aload_n 1, 1) := by decide +kernel
theorem dL_law_391 : decode cL_law 391 = .ok (.invokevirtual 50, 3) := by decide +kernel
theorem dL_law_394 : decode cL_law 394 = .ok (.aload_n 2, 1) := by decide +kernel
theorem dL_law_395 : decode cL_law 395 = .ok (.invokevirtual 53, 3) := by decide +kernel
theorem dL_law_398 : decode cL_law 398 = .ok (.if_icmp .eq 859, 3) := by decide +kernel
theorem dL_law_401 : decode cL_law 401 = .ok (.iconst 0, 1) := by decide +kernel
theorem dL_law_402 : decode cL_law 402 = .ok (.ireturn, 1) := by decide +kernel
theorem dL_law_403 : decode cL_law 403 = .ok (.aload_n 1, 1) := by decide +kernel
theorem dL_law_404 : decode cL_law 404 = .ok (.aload_n 0, 1) := by decide +kernel
theorem dL_law_405 : decode cL_law 405 = .ok (.iload_n 3, 1) := by decide +kernel
theorem dL_law_406 : decode cL_law 406 = .ok (.iconst 1, 1) := by decide +kernel
theorem dL_law_407 : decode cL_law 407 = .ok (.iadd, 1) := by decide +kernel
theorem dL_law_408 : decode cL_law 408 = .ok (.iaload, 1) := by decide +kernel
theorem dL_law_409 : decode cL_law 409 = .ok (.aload_n 0, 1) := by decide +kernel
theorem dL_law_410 : decode cL_law 410 = .ok (.iload_n 3, 1) := by decide +kernel
theorem dL_law_411 : decode cL_law 411 = .ok (.iconst 2, 1) := by decide +kernel
theorem dL_law_412 : decode cL_law 412 = .ok (.iadd, 1) := by decide +kernel
theorem dL_law_413 : decode cL_law 413 = .ok (.iaload, 1) := by decide +kernel
theorem dL_law_414 : decode cL_law 414 = .ok (.invokevirtual 54, 3) := by decide +kernel
theorem dL_law_417 : decode cL_law 417 = .ok (.aload_n 2, 1) := by decide +kernel
theorem dL_law_418 : decode cL_law 418 = .ok (.aload_n 0, 1) := by decide +kernel
theorem dL_law_419 : decode cL_law 419 = .ok (.iload_n 3, 1) := by decide +kernel
theorem dL_law_420 : decode cL_law 420 = .ok (.iconst 1, 1) := by decide +kernel
theorem dL_law_421 : decode cL_law 421 = .ok (.iadd, 1) := by decide +kernel
theorem dL_law_422 : decode cL_law 422 = .ok (.iaload, 1) := by decide +kernel
theorem dL_law_423 : decode cL_law 423 = .ok (.aload_n 0, 1) := by decide +kernel
theorem dL_law_424 : decode cL_law 424 = .ok (.iload_n 3, 1) := by decide +kernel
theorem dL_law_425 : decode cL_law 425 = .ok (.iconst 2, 1) := by decide +kernel
theorem dL_law_426 : decode cL_law 426 = .ok (.iadd, 1) := by decide +kernel
theorem dL_law_427 : decode cL_law 427 = .ok (.iaload, 1) := by decide +kernel
theorem dL_law_428 : decode cL_law 428 = .ok (.invokevirtual 58, 3) := by decide +kernel
theorem dL_law_431 : decode cL_law 431 = .ok (.lcmp, 1) := by decide +kernel
theorem dL_law_432 : decode cL_law 432 = .ok (.ifCond .eq 825, 3) := by decide +kernel
theorem dL_law_435 : decode cL_law 435 = .ok (.iconst 0, 1) := by decide +kernel
theorem dL_law_436 : decode cL_law 436 = .ok (.ireturn, 1) := by decide +kernel
theorem dL_law_437 : decode cL_law 437 = .ok (.aload_n 1, 1) := by decide +kernel
theorem dL_law_438 : decode cL_law 438 = .ok (.aload_n 0, 1) := by decide +kernel
theorem dL_law_439 : decode cL_law 439 = .ok (.iload_n 3, 1) := by decide +kernel
theorem dL_law_440 : decode cL_law 440 = .ok (.iconst 1, 1) := by decide +kernel
theorem dL_law_441 : decode cL_law 441 = .ok (.iadd, 1) := by decide +kernel
theorem dL_law_442 : decode cL_law 442 = .ok (.iaload, 1) := by decide +kernel
theorem dL_law_443 : decode cL_law 443 = .ok (.aload_n 0, 1) := by decide +kernel
theorem dL_law_444 : decode cL_law 444 = .ok (.iload_n 3, 1) := by decide +kernel
theorem dL_law_445 : decode cL_law 445 = .ok (.iconst 2, 1) := by decide +kernel
theorem dL_law_446 : decode cL_law 446 = .ok (.iadd, 1) := by decide +kernel
theorem dL_law_447 : decode cL_law 447 = .ok (.iaload, 1) := by decide +kernel
theorem dL_law_448 : decode cL_law 448 = .ok (.invokevirtual 59, 3) := by decide +kernel
theorem dL_law_451 : decode cL_law 451 = .ok (.aload_n 2, 1) := by decide +kernel
theorem dL_law_452 : decode cL_law 452 = .ok (.aload_n 0, 1) := by decide +kernel
theorem dL_law_453 : decode cL_law 453 = .ok (.iload_n 3, 1) := by decide +kernel
theorem dL_law_454 : decode cL_law 454 = .ok (.iconst 1, 1) := by decide +kernel
theorem dL_law_455 : decode cL_law 455 = .ok (.iadd, 1) := by decide +kernel
theorem dL_law_456 : decode cL_law 456 = .ok (.iaload, 1) := by decide +kernel
theorem dL_law_457 : decode cL_law 457 = .ok (.aload_n 0, 1) := by decide +kernel
theorem dL_law_458 : decode cL_law 458 = .ok (.iload_n 3, 1) := by decide +kernel
theorem dL_law_459 : decode cL_law 459 = .ok (.iconst 2, 1) := by decide +kernel
theorem dL_law_460 : decode cL_law 460 = .ok (.iadd, 1) := by decide +kernel
theorem dL_law_461 : decode cL_law 461 = .ok (.iaload, 1) := by decide +kernel
theorem dL_law_462 : decode cL_law 462 = .ok (.invokevirtual 62, 3) := by decide +kernel
theorem dL_law_465 : decode cL_law 465 = .ok (.lcmp, 1) := by decide +kernel
theorem dL_law_466 : decode cL_law 466 = .ok (.ifCond .eq 791, 3) := by decide +kernel
theorem dL_law_469 : decode cL_law 469 = .ok (.iconst 0, 1) := by decide +kernel
theorem dL_law_470 : decode cL_law 470 = .ok (.ireturn, 1) := by decide +kernel
theorem dL_law_471 : decode cL_law 471 = .ok (.aload_n 1, 1) := by decide +kernel
theorem dL_law_472 : decode cL_law 472 = .ok (.aload_n 0, 1) := by decide +kernel
theorem dL_law_473 : decode cL_law 473 = .ok (.iload_n 3, 1) := by decide +kernel
theorem dL_law_474 : decode cL_law 474 = .ok (.iconst 1, 1) := by decide +kernel
theorem dL_law_475 : decode cL_law 475 = .ok (.iadd, 1) := by decide +kernel
theorem dL_law_476 : decode cL_law 476 = .ok (.iaload, 1) := by decide +kernel
theorem dL_law_477 : decode cL_law 477 = .ok (.aload_n 0, 1) := by decide +kernel
theorem dL_law_478 : decode cL_law 478 = .ok (.iload_n 3, 1) := by decide +kernel
theorem dL_law_479 : decode cL_law 479 = .ok (.iconst 2, 1) := by decide +kernel
theorem dL_law_480 : decode cL_law 480 = .ok (.iadd, 1) := by decide +kernel
theorem dL_law_481 : decode cL_law 481 = .ok (.iaload, 1) := by decide +kernel
theorem dL_law_482 : decode cL_law 482 = .ok (.aload_n 0, 1) := by decide +kernel
theorem dL_law_483 : decode cL_law 483 = .ok (.iload_n 3, 1) := by decide +kernel
theorem dL_law_484 : decode cL_law 484 = .ok (.iconst 3, 1) := by decide +kernel
theorem dL_law_485 : decode cL_law 485 = .ok (.iadd, 1) := by decide +kernel
theorem dL_law_486 : decode cL_law 486 = .ok (.iaload, 1) := by decide +kernel
theorem dL_law_487 : decode cL_law 487 = .ok (.invokevirtual 63, 3) := by decide +kernel
theorem dL_law_490 : decode cL_law 490 = .ok (.aload_n 2, 1) := by decide +kernel
theorem dL_law_491 : decode cL_law 491 = .ok (.aload_n 0, 1) := by decide +kernel
theorem dL_law_492 : decode cL_law 492 = .ok (.iload_n 3, 1) := by decide +kernel
theorem dL_law_493 : decode cL_law 493 = .ok (.iconst 1, 1) := by decide +kernel
theorem dL_law_494 : decode cL_law 494 = .ok (.iadd, 1) := by decide +kernel
theorem dL_law_495 : decode cL_law 495 = .ok (.iaload, 1) := by decide +kernel
theorem dL_law_496 : decode cL_law 496 = .ok (.aload_n 0, 1) := by decide +kernel
theorem dL_law_497 : decode cL_law 497 = .ok (.iload_n 3, 1) := by decide +kernel
theorem dL_law_498 : decode cL_law 498 = .ok (.iconst 2, 1) := by decide +kernel
theorem dL_law_499 : decode cL_law 499 = .ok (.iadd, 1) := by decide +kernel
theorem dL_law_500 : decode cL_law 500 = .ok (.iaload, 1) := by decide +kernel
theorem dL_law_501 : decode cL_law 501 = .ok (.aload_n 0, 1) := by decide +kernel
theorem dL_law_502 : decode cL_law 502 = .ok (.iload_n 3, 1) := by decide +kernel
theorem dL_law_503 : decode cL_law 503 = .ok (.iconst 3, 1) := by decide +kernel
theorem dL_law_504 : decode cL_law 504 = .ok (.iadd, 1) := by decide +kernel
theorem dL_law_505 : decode cL_law 505 = .ok (.iaload, 1) := by decide +kernel
theorem dL_law_506 : decode cL_law 506 = .ok (.invokevirtual 67, 3) := by decide +kernel
theorem dL_law_509 : decode cL_law 509 = .ok (.lcmp, 1) := by decide +kernel
theorem dL_law_510 : decode cL_law 510 = .ok (.ifCond .eq 747, 3) := by decide +kernel
theorem dL_law_513 : decode cL_law 513 = .ok (.iconst 0, 1) := by decide +kernel
theorem dL_law_514 : decode cL_law 514 = .ok (.ireturn, 1) := by decide +kernel
theorem dL_law_515 : decode cL_law 515 = .ok (.aload_n 1, 1) := by decide +kernel
theorem dL_law_516 : decode cL_law 516 = .ok (.aload_n 0, 1) := by decide +kernel
theorem dL_law_517 : decode cL_law 517 = .ok (.iload_n 3, 1) := by decide +kernel
theorem dL_law_518 : decode cL_law 518 = .ok (.iconst 1, 1) := by decide +kernel
theorem dL_law_519 : decode cL_law 519 = .ok (.iadd, 1) := by decide +kernel
theorem dL_law_520 : decode cL_law 520 = .ok (.iaload, 1) := by decide +kernel
theorem dL_law_521 : decode cL_law 521 = .ok (.aload_n 0, 1) := by decide +kernel
theorem dL_law_522 : decode cL_law 522 = .ok (.iload_n 3, 1) := by decide +kernel
theorem dL_law_523 : decode cL_law 523 = .ok (.iconst 2, 1) := by decide +kernel
theorem dL_law_524 : decode cL_law 524 = .ok (.iadd, 1) := by decide +kernel
theorem dL_law_525 : decode cL_law 525 = .ok (.iaload, 1) := by decide +kernel
theorem dL_law_526 : decode cL_law 526 = .ok (.aload_n 0, 1) := by decide +kernel
theorem dL_law_527 : decode cL_law 527 = .ok (.iload_n 3, 1) := by decide +kernel
theorem dL_law_528 : decode cL_law 528 = .ok (.iconst 3, 1) := by decide +kernel
theorem dL_law_529 : decode cL_law 529 = .ok (.iadd, 1) := by decide +kernel
theorem dL_law_530 : decode cL_law 530 = .ok (.iaload, 1) := by decide +kernel
theorem dL_law_531 : decode cL_law 531 = .ok (.i2l, 1) := by decide +kernel
theorem dL_law_532 : decode cL_law 532 = .ok (.bipush 32, 2) := by decide +kernel
theorem dL_law_534 : decode cL_law 534 = .ok (.lshl, 1) := by decide +kernel
theorem dL_law_535 : decode cL_law 535 = .ok (.aload_n 0, 1) := by decide +kernel
theorem dL_law_536 : decode cL_law 536 = .ok (.iload_n 3, 1) := by decide +kernel
theorem dL_law_537 : decode cL_law 537 = .ok (.iconst 4, 1) := by decide +kernel
theorem dL_law_538 : decode cL_law 538 = .ok (.iadd, 1) := by decide +kernel
theorem dL_law_539 : decode cL_law 539 = .ok (.iaload, 1) := by decide +kernel
theorem dL_law_540 : decode cL_law 540 = .ok (.i2l, 1) := by decide +kernel
theorem dL_law_541 : decode cL_law 541 = .ok (.ldc2_w 68, 3) := by decide +kernel
theorem dL_law_544 : decode cL_law 544 = .ok (.land, 1) := by decide +kernel
theorem dL_law_545 : decode cL_law 545 = .ok (.lor, 1) := by decide +kernel
theorem dL_law_546 : decode cL_law 546 = .ok (.invokevirtual 70, 3) := by decide +kernel
theorem dL_law_549 : decode cL_law 549 = .ok (.aload_n 2, 1) := by decide +kernel
theorem dL_law_550 : decode cL_law 550 = .ok (.aload_n 0, 1) := by decide +kernel
theorem dL_law_551 : decode cL_law 551 = .ok (.iload_n 3, 1) := by decide +kernel
theorem dL_law_552 : decode cL_law 552 = .ok (.iconst 1, 1) := by decide +kernel
theorem dL_law_553 : decode cL_law 553 = .ok (.iadd, 1) := by decide +kernel
theorem dL_law_554 : decode cL_law 554 = .ok (.iaload, 1) := by decide +kernel
theorem dL_law_555 : decode cL_law 555 = .ok (.aload_n 0, 1) := by decide +kernel
theorem dL_law_556 : decode cL_law 556 = .ok (.iload_n 3, 1) := by decide +kernel
theorem dL_law_557 : decode cL_law 557 = .ok (.iconst 2, 1) := by decide +kernel
theorem dL_law_558 : decode cL_law 558 = .ok (.iadd, 1) := by decide +kernel
theorem dL_law_559 : decode cL_law 559 = .ok (.iaload, 1) := by decide +kernel
theorem dL_law_560 : decode cL_law 560 = .ok (.aload_n 0, 1) := by decide +kernel
theorem dL_law_561 : decode cL_law 561 = .ok (.iload_n 3, 1) := by decide +kernel
theorem dL_law_562 : decode cL_law 562 = .ok (.iconst 3, 1) := by decide +kernel
theorem dL_law_563 : decode cL_law 563 = .ok (.iadd, 1) := by decide +kernel
theorem dL_law_564 : decode cL_law 564 = .ok (.iaload, 1) := by decide +kernel
theorem dL_law_565 : decode cL_law 565 = .ok (.i2l, 1) := by decide +kernel
theorem dL_law_566 : decode cL_law 566 = .ok (.bipush 32, 2) := by decide +kernel
theorem dL_law_568 : decode cL_law 568 = .ok (.lshl, 1) := by decide +kernel
theorem dL_law_569 : decode cL_law 569 = .ok (.aload_n 0, 1) := by decide +kernel
theorem dL_law_570 : decode cL_law 570 = .ok (.iload_n 3, 1) := by decide +kernel
theorem dL_law_571 : decode cL_law 571 = .ok (.iconst 4, 1) := by decide +kernel
theorem dL_law_572 : decode cL_law 572 = .ok (.iadd, 1) := by decide +kernel
theorem dL_law_573 : decode cL_law 573 = .ok (.iaload, 1) := by decide +kernel
theorem dL_law_574 : decode cL_law 574 = .ok (.i2l, 1) := by decide +kernel
theorem dL_law_575 : decode cL_law 575 = .ok (.ldc2_w 68, 3) := by decide +kernel
theorem dL_law_578 : decode cL_law 578 = .ok (.land, 1) := by decide +kernel
theorem dL_law_579 : decode cL_law 579 = .ok (.lor, 1) := by decide +kernel
theorem dL_law_580 : decode cL_law 580 = .ok (.invokevirtual 74, 3) := by decide +kernel
theorem dL_law_583 : decode cL_law 583 = .ok (.if_icmp .eq 674, 3) := by decide +kernel
theorem dL_law_586 : decode cL_law 586 = .ok (.iconst 0, 1) := by decide +kernel
theorem dL_law_587 : decode cL_law 587 = .ok (.ireturn, 1) := by decide +kernel
theorem dL_law_588 : decode cL_law 588 = .ok (.aload_n 1, 1) := by decide +kernel
theorem dL_law_589 : decode cL_law 589 = .ok (.aload_n 0, 1) := by decide +kernel
theorem dL_law_590 : decode cL_law 590 = .ok (.iload_n 3, 1) := by decide +kernel
theorem dL_law_591 : decode cL_law 591 = .ok (.iconst 1, 1) := by decide +kernel
theorem dL_law_592 : decode cL_law 592 = .ok (.iadd, 1) := by decide +kernel
theorem dL_law_593 : decode cL_law 593 = .ok (.iaload, 1) := by decide +kernel
theorem dL_law_594 : decode cL_law 594 = .ok (.aload_n 0, 1) := by decide +kernel
theorem dL_law_595 : decode cL_law 595 = .ok (.iload_n 3, 1) := by decide +kernel
theorem dL_law_596 : decode cL_law 596 = .ok (.iconst 2, 1) := by decide +kernel
theorem dL_law_597 : decode cL_law 597 = .ok (.iadd, 1) := by decide +kernel
theorem dL_law_598 : decode cL_law 598 = .ok (.iaload, 1) := by decide +kernel
theorem dL_law_599 : decode cL_law 599 = .ok (.aload_n 0, 1) := by decide +kernel
theorem dL_law_600 : decode cL_law 600 = .ok (.iload_n 3, 1) := by decide +kernel
theorem dL_law_601 : decode cL_law 601 = .ok (.iconst 3, 1) := by decide +kernel
theorem dL_law_602 : decode cL_law 602 = .ok (.iadd, 1) := by decide +kernel
theorem dL_law_603 : decode cL_law 603 = .ok (.iaload, 1) := by decide +kernel
theorem dL_law_604 : decode cL_law 604 = .ok (.i2l, 1) := by decide +kernel
theorem dL_law_605 : decode cL_law 605 = .ok (.bipush 32, 2) := by decide +kernel
theorem dL_law_607 : decode cL_law 607 = .ok (.lshl, 1) := by decide +kernel
theorem dL_law_608 : decode cL_law 608 = .ok (.aload_n 0, 1) := by decide +kernel
theorem dL_law_609 : decode cL_law 609 = .ok (.iload_n 3, 1) := by decide +kernel
theorem dL_law_610 : decode cL_law 610 = .ok (.iconst 4, 1) := by decide +kernel
theorem dL_law_611 : decode cL_law 611 = .ok (.iadd, 1) := by decide +kernel
theorem dL_law_612 : decode cL_law 612 = .ok (.iaload, 1) := by decide +kernel
theorem dL_law_613 : decode cL_law 613 = .ok (.i2l, 1) := by decide +kernel
theorem dL_law_614 : decode cL_law 614 = .ok (.ldc2_w 68, 3) := by decide +kernel
theorem dL_law_617 : decode cL_law 617 = .ok (.land, 1) := by decide +kernel
theorem dL_law_618 : decode cL_law 618 = .ok (.lor, 1) := by decide +kernel
theorem dL_law_619 : decode cL_law 619 = .ok (.invokevirtual 75, 3) := by decide +kernel
theorem dL_law_622 : decode cL_law 622 = .ok (.aload_n 2, 1) := by decide +kernel
theorem dL_law_623 : decode cL_law 623 = .ok (.aload_n 0, 1) := by decide +kernel
theorem dL_law_624 : decode cL_law 624 = .ok (.iload_n 3, 1) := by decide +kernel
theorem dL_law_625 : decode cL_law 625 = .ok (.iconst 1, 1) := by decide +kernel
theorem dL_law_626 : decode cL_law 626 = .ok (.iadd, 1) := by decide +kernel
theorem dL_law_627 : decode cL_law 627 = .ok (.iaload, 1) := by decide +kernel
theorem dL_law_628 : decode cL_law 628 = .ok (.aload_n 0, 1) := by decide +kernel
theorem dL_law_629 : decode cL_law 629 = .ok (.iload_n 3, 1) := by decide +kernel
theorem dL_law_630 : decode cL_law 630 = .ok (.iconst 2, 1) := by decide +kernel
theorem dL_law_631 : decode cL_law 631 = .ok (.iadd, 1) := by decide +kernel
theorem dL_law_632 : decode cL_law 632 = .ok (.iaload, 1) := by decide +kernel
theorem dL_law_633 : decode cL_law 633 = .ok (.aload_n 0, 1) := by decide +kernel
theorem dL_law_634 : decode cL_law 634 = .ok (.iload_n 3, 1) := by decide +kernel
theorem dL_law_635 : decode cL_law 635 = .ok (.iconst 3, 1) := by decide +kernel
theorem dL_law_636 : decode cL_law 636 = .ok (.iadd, 1) := by decide +kernel
theorem dL_law_637 : decode cL_law 637 = .ok (.iaload, 1) := by decide +kernel
theorem dL_law_638 : decode cL_law 638 = .ok (.i2l, 1) := by decide +kernel
theorem dL_law_639 : decode cL_law 639 = .ok (.bipush 32, 2) := by decide +kernel
theorem dL_law_641 : decode cL_law 641 = .ok (.lshl, 1) := by decide +kernel
theorem dL_law_642 : decode cL_law 642 = .ok (.aload_n 0, 1) := by decide +kernel
theorem dL_law_643 : decode cL_law 643 = .ok (.iload_n 3, 1) := by decide +kernel
theorem dL_law_644 : decode cL_law 644 = .ok (.iconst 4, 1) := by decide +kernel
theorem dL_law_645 : decode cL_law 645 = .ok (.iadd, 1) := by decide +kernel
theorem dL_law_646 : decode cL_law 646 = .ok (.iaload, 1) := by decide +kernel
theorem dL_law_647 : decode cL_law 647 = .ok (.i2l, 1) := by decide +kernel
theorem dL_law_648 : decode cL_law 648 = .ok (.ldc2_w 68, 3) := by decide +kernel
theorem dL_law_651 : decode cL_law 651 = .ok (.land, 1) := by decide +kernel
theorem dL_law_652 : decode cL_law 652 = .ok (.lor, 1) := by decide +kernel
theorem dL_law_653 : decode cL_law 653 = .ok (.invokevirtual 78, 3) := by decide +kernel
theorem dL_law_656 : decode cL_law 656 = .ok (.if_icmp .eq 601, 3) := by decide +kernel
theorem dL_law_659 : decode cL_law 659 = .ok (.iconst 0, 1) := by decide +kernel
theorem dL_law_660 : decode cL_law 660 = .ok (.ireturn, 1) := by decide +kernel
theorem dL_law_661 : decode cL_law 661 = .ok (.aload_n 1, 1) := by decide +kernel
theorem dL_law_662 : decode cL_law 662 = .ok (.aload_n 0, 1) := by decide +kernel
theorem dL_law_663 : decode cL_law 663 = .ok (.iload_n 3, 1) := by decide +kernel
theorem dL_law_664 : decode cL_law 664 = .ok (.iconst 1, 1) := by decide +kernel
theorem dL_law_665 : decode cL_law 665 = .ok (.iadd, 1) := by decide +kernel
theorem dL_law_666 : decode cL_law 666 = .ok (.iaload, 1) := by decide +kernel
theorem dL_law_667 : decode cL_law 667 = .ok (.invokevirtual 79, 3) := by decide +kernel
theorem dL_law_670 : decode cL_law 670 = .ok (.aload_n 2, 1) := by decide +kernel
theorem dL_law_671 : decode cL_law 671 = .ok (.aload_n 0, 1) := by decide +kernel
theorem dL_law_672 : decode cL_law 672 = .ok (.iload_n 3, 1) := by decide +kernel
theorem dL_law_673 : decode cL_law 673 = .ok (.iconst 1, 1) := by decide +kernel
theorem dL_law_674 : decode cL_law 674 = .ok (.iadd, 1) := by decide +kernel
theorem dL_law_675 : decode cL_law 675 = .ok (.iaload, 1) := by decide +kernel
theorem dL_law_676 : decode cL_law 676 = .ok (.invokevirtual 82, 3) := by decide +kernel
theorem dL_law_679 : decode cL_law 679 = .ok (.if_icmp .eq 578, 3) := by decide +kernel
theorem dL_law_682 : decode cL_law 682 = .ok (.iconst 0, 1) := by decide +kernel
theorem dL_law_683 : decode cL_law 683 = .ok (.ireturn, 1) := by decide +kernel
theorem dL_law_684 : decode cL_law 684 = .ok (.aload_n 1, 1) := by decide +kernel
theorem dL_law_685 : decode cL_law 685 = .ok (.aload_n 0, 1) := by decide +kernel
theorem dL_law_686 : decode cL_law 686 = .ok (.iload_n 3, 1) := by decide +kernel
theorem dL_law_687 : decode cL_law 687 = .ok (.iconst 1, 1) := by decide +kernel
theorem dL_law_688 : decode cL_law 688 = .ok (.iadd, 1) := by decide +kernel
theorem dL_law_689 : decode cL_law 689 = .ok (.iaload, 1) := by decide +kernel
theorem dL_law_690 : decode cL_law 690 = .ok (.aload_n 0, 1) := by decide +kernel
theorem dL_law_691 : decode cL_law 691 = .ok (.iload_n 3, 1) := by decide +kernel
theorem dL_law_692 : decode cL_law 692 = .ok (.iconst 2, 1) := by decide +kernel
theorem dL_law_693 : decode cL_law 693 = .ok (.iadd, 1) := by decide +kernel
theorem dL_law_694 : decode cL_law 694 = .ok (.iaload, 1) := by decide +kernel
theorem dL_law_695 : decode cL_law 695 = .ok (.invokevirtual 83, 3) := by decide +kernel
theorem dL_law_698 : decode cL_law 698 = .ok (.aload_n 2, 1) := by decide +kernel
theorem dL_law_699 : decode cL_law 699 = .ok (.aload_n 0, 1) := by decide +kernel
theorem dL_law_700 : decode cL_law 700 = .ok (.iload_n 3, 1) := by decide +kernel
theorem dL_law_701 : decode cL_law 701 = .ok (.iconst 1, 1) := by decide +kernel
theorem dL_law_702 : decode cL_law 702 = .ok (.iadd, 1) := by decide +kernel
theorem dL_law_703 : decode cL_law 703 = .ok (.iaload, 1) := by decide +kernel
theorem dL_law_704 : decode cL_law 704 = .ok (.aload_n 0, 1) := by decide +kernel
theorem dL_law_705 : decode cL_law 705 = .ok (.iload_n 3, 1) := by decide +kernel
theorem dL_law_706 : decode cL_law 706 = .ok (.iconst 2, 1) := by decide +kernel
theorem dL_law_707 : decode cL_law 707 = .ok (.iadd, 1) := by decide +kernel
theorem dL_law_708 : decode cL_law 708 = .ok (.iaload, 1) := by decide +kernel
theorem dL_law_709 : decode cL_law 709 = .ok (.invokevirtual 87, 3) := by decide +kernel
theorem dL_law_712 : decode cL_law 712 = .ok (.if_icmp .eq 545, 3) := by decide +kernel
theorem dL_law_715 : decode cL_law 715 = .ok (.iconst 0, 1) := by decide +kernel
theorem dL_law_716 : decode cL_law 716 = .ok (.ireturn, 1) := by decide +kernel
theorem dL_law_717 : decode cL_law 717 = .ok (.aload_n 1, 1) := by decide +kernel
theorem dL_law_718 : decode cL_law 718 = .ok (.aload_n 0, 1) := by decide +kernel
theorem dL_law_719 : decode cL_law 719 = .ok (.iload_n 3, 1) := by decide +kernel
theorem dL_law_720 : decode cL_law 720 = .ok (.iconst 1, 1) := by decide +kernel
theorem dL_law_721 : decode cL_law 721 = .ok (.iadd, 1) := by decide +kernel
theorem dL_law_722 : decode cL_law 722 = .ok (.iaload, 1) := by decide +kernel
theorem dL_law_723 : decode cL_law 723 = .ok (.invokevirtual 88, 3) := by decide +kernel
theorem dL_law_726 : decode cL_law 726 = .ok (.aload_n 2, 1) := by decide +kernel
theorem dL_law_727 : decode cL_law 727 = .ok (.aload_n 0, 1) := by decide +kernel
theorem dL_law_728 : decode cL_law 728 = .ok (.iload_n 3, 1) := by decide +kernel
theorem dL_law_729 : decode cL_law 729 = .ok (.iconst 1, 1) := by decide +kernel
theorem dL_law_730 : decode cL_law 730 = .ok (.iadd, 1) := by decide +kernel
theorem dL_law_731 : decode cL_law 731 = .ok (.iaload, 1) := by decide +kernel
theorem dL_law_732 : decode cL_law 732 = .ok (.invokevirtual 91, 3) := by decide +kernel
theorem dL_law_735 : decode cL_law 735 = .ok (.if_icmp .eq 522, 3) := by decide +kernel
theorem dL_law_738 : decode cL_law 738 = .ok (.iconst 0, 1) := by decide +kernel
theorem dL_law_739 : decode cL_law 739 = .ok (.ireturn, 1) := by decide +kernel
theorem dL_law_740 : decode cL_law 740 = .ok (.aload_n 1, 1) := by decide +kernel
theorem dL_law_741 : decode cL_law 741 = .ok (.aload_n 0, 1) := by decide +kernel
theorem dL_law_742 : decode cL_law 742 = .ok (.iload_n 3, 1) := by decide +kernel
theorem dL_law_743 : decode cL_law 743 = .ok (.iconst 1, 1) := by decide +kernel
theorem dL_law_744 : decode cL_law 744 = .ok (.iadd, 1) := by decide +kernel
theorem dL_law_745 : decode cL_law 745 = .ok (.iaload, 1) := by decide +kernel
theorem dL_law_746 : decode cL_law 746 = .ok (.aload_n 0, 1) := by decide +kernel
theorem dL_law_747 : decode cL_law 747 = .ok (.iload_n 3, 1) := by decide +kernel
theorem dL_law_748 : decode cL_law 748 = .ok (.iconst 2, 1) := by decide +kernel
theorem dL_law_749 : decode cL_law 749 = .ok (.iadd, 1) := by decide +kernel
theorem dL_law_750 : decode cL_law 750 = .ok (.iaload, 1) := by decide +kernel
theorem dL_law_751 : decode cL_law 751 = .ok (.invokevirtual 92, 3) := by decide +kernel
theorem dL_law_754 : decode cL_law 754 = .ok (.aload_n 2, 1) := by decide +kernel
theorem dL_law_755 : decode cL_law 755 = .ok (.aload_n 0, 1) := by decide +kernel
theorem dL_law_756 : decode cL_law 756 = .ok (.iload_n 3, 1) := by decide +kernel
theorem dL_law_757 : decode cL_law 757 = .ok (.iconst 1, 1) := by decide +kernel
theorem dL_law_758 : decode cL_law 758 = .ok (.iadd, 1) := by decide +kernel
theorem dL_law_759 : decode cL_law 759 = .ok (.iaload, 1) := by decide +kernel
theorem dL_law_760 : decode cL_law 760 = .ok (.aload_n 0, 1) := by decide +kernel
theorem dL_law_761 : decode cL_law 761 = .ok (.iload_n 3, 1) := by decide +kernel
theorem dL_law_762 : decode cL_law 762 = .ok (.iconst 2, 1) := by decide +kernel
theorem dL_law_763 : decode cL_law 763 = .ok (.iadd, 1) := by decide +kernel
theorem dL_law_764 : decode cL_law 764 = .ok (.iaload, 1) := by decide +kernel
theorem dL_law_765 : decode cL_law 765 = .ok (.invokevirtual 95, 3) := by decide +kernel
theorem dL_law_768 : decode cL_law 768 = .ok (.if_icmp .eq 489, 3) := by decide +kernel
theorem dL_law_771 : decode cL_law 771 = .ok (.iconst 0, 1) := by decide +kernel
theorem dL_law_772 : decode cL_law 772 = .ok (.ireturn, 1) := by decide +kernel
theorem dL_law_773 : decode cL_law 773 = .ok (.aload_n 1, 1) := by decide +kernel
theorem dL_law_774 : decode cL_law 774 = .ok (.aload_n 0, 1) := by decide +kernel
theorem dL_law_775 : decode cL_law 775 = .ok (.iload_n 3, 1) := by decide +kernel
theorem dL_law_776 : decode cL_law 776 = .ok (.iconst 1, 1) := by decide +kernel
theorem dL_law_777 : decode cL_law 777 = .ok (.iadd, 1) := by decide +kernel
theorem dL_law_778 : decode cL_law 778 = .ok (.iaload, 1) := by decide +kernel
theorem dL_law_779 : decode cL_law 779 = .ok (.aload_n 0, 1) := by decide +kernel
theorem dL_law_780 : decode cL_law 780 = .ok (.iload_n 3, 1) := by decide +kernel
theorem dL_law_781 : decode cL_law 781 = .ok (.iconst 2, 1) := by decide +kernel
theorem dL_law_782 : decode cL_law 782 = .ok (.iadd, 1) := by decide +kernel
theorem dL_law_783 : decode cL_law 783 = .ok (.iaload, 1) := by decide +kernel
theorem dL_law_784 : decode cL_law 784 = .ok (.invokevirtual 96, 3) := by decide +kernel
theorem dL_law_787 : decode cL_law 787 = .ok (.aload_n 2, 1) := by decide +kernel
theorem dL_law_788 : decode cL_law 788 = .ok (.aload_n 0, 1) := by decide +kernel
theorem dL_law_789 : decode cL_law 789 = .ok (.iload_n 3, 1) := by decide +kernel
theorem dL_law_790 : decode cL_law 790 = .ok (.iconst 1, 1) := by decide +kernel
theorem dL_law_791 : decode cL_law 791 = .ok (.iadd, 1) := by decide +kernel
theorem dL_law_792 : decode cL_law 792 = .ok (.iaload, 1) := by decide +kernel
theorem dL_law_793 : decode cL_law 793 = .ok (.aload_n 0, 1) := by decide +kernel
theorem dL_law_794 : decode cL_law 794 = .ok (.iload_n 3, 1) := by decide +kernel
theorem dL_law_795 : decode cL_law 795 = .ok (.iconst 2, 1) := by decide +kernel
theorem dL_law_796 : decode cL_law 796 = .ok (.iadd, 1) := by decide +kernel
theorem dL_law_797 : decode cL_law 797 = .ok (.iaload, 1) := by decide +kernel
theorem dL_law_798 : decode cL_law 798 = .ok (.invokevirtual 99, 3) := by decide +kernel
theorem dL_law_801 : decode cL_law 801 = .ok (.if_icmp .eq 456, 3) := by decide +kernel
theorem dL_law_804 : decode cL_law 804 = .ok (.iconst 0, 1) := by decide +kernel
theorem dL_law_805 : decode cL_law 805 = .ok (.ireturn, 1) := by decide +kernel
theorem dL_law_806 : decode cL_law 806 = .ok (.aload_n 1, 1) := by decide +kernel
theorem dL_law_807 : decode cL_law 807 = .ok (.aload_n 0, 1) := by decide +kernel
theorem dL_law_808 : decode cL_law 808 = .ok (.iload_n 3, 1) := by decide +kernel
theorem dL_law_809 : decode cL_law 809 = .ok (.iconst 1, 1) := by decide +kernel
theorem dL_law_810 : decode cL_law 810 = .ok (.iadd, 1) := by decide +kernel
theorem dL_law_811 : decode cL_law 811 = .ok (.iaload, 1) := by decide +kernel
theorem dL_law_812 : decode cL_law 812 = .ok (.invokevirtual 100, 3) := by decide +kernel
theorem dL_law_815 : decode cL_law 815 = .ok (.aload_n 2, 1) := by decide +kernel
theorem dL_law_816 : decode cL_law 816 = .ok (.aload_n 0, 1) := by decide +kernel
theorem dL_law_817 : decode cL_law 817 = .ok (.iload_n 3, 1) := by decide +kernel
theorem dL_law_818 : decode cL_law 818 = .ok (.iconst 1, 1) := by decide +kernel
theorem dL_law_819 : decode cL_law 819 = .ok (.iadd, 1) := by decide +kernel
theorem dL_law_820 : decode cL_law 820 = .ok (.iaload, 1) := by decide +kernel
theorem dL_law_821 : decode cL_law 821 = .ok (.invokevirtual 103, 3) := by decide +kernel
theorem dL_law_824 : decode cL_law 824 = .ok (.if_icmp .eq 433, 3) := by decide +kernel
theorem dL_law_827 : decode cL_law 827 = .ok (.iconst 0, 1) := by decide +kernel
theorem dL_law_828 : decode cL_law 828 = .ok (.ireturn, 1) := by decide +kernel
theorem dL_law_829 : decode cL_law 829 = .ok (.aload_n 1, 1) := by decide +kernel
theorem dL_law_830 : decode cL_law 830 = .ok (.aload_n 0, 1) := by decide +kernel
theorem dL_law_831 : decode cL_law 831 = .ok (.iload_n 3, 1) := by decide +kernel
theorem dL_law_832 : decode cL_law 832 = .ok (.iconst 1, 1) := by decide +kernel
theorem dL_law_833 : decode cL_law 833 = .ok (.iadd, 1) := by decide +kernel
theorem dL_law_834 : decode cL_law 834 = .ok (.iaload, 1) := by decide +kernel
theorem dL_law_835 : decode cL_law 835 = .ok (.aload_n 0, 1) := by decide +kernel
theorem dL_law_836 : decode cL_law 836 = .ok (.iload_n 3, 1) := by decide +kernel
theorem dL_law_837 : decode cL_law 837 = .ok (.iconst 2, 1) := by decide +kernel
theorem dL_law_838 : decode cL_law 838 = .ok (.iadd, 1) := by decide +kernel
theorem dL_law_839 : decode cL_law 839 = .ok (.iaload, 1) := by decide +kernel
theorem dL_law_840 : decode cL_law 840 = .ok (.invokevirtual 104, 3) := by decide +kernel
theorem dL_law_843 : decode cL_law 843 = .ok (.aload_n 2, 1) := by decide +kernel
theorem dL_law_844 : decode cL_law 844 = .ok (.aload_n 0, 1) := by decide +kernel
theorem dL_law_845 : decode cL_law 845 = .ok (.iload_n 3, 1) := by decide +kernel
theorem dL_law_846 : decode cL_law 846 = .ok (.iconst 1, 1) := by decide +kernel
theorem dL_law_847 : decode cL_law 847 = .ok (.iadd, 1) := by decide +kernel
theorem dL_law_848 : decode cL_law 848 = .ok (.iaload, 1) := by decide +kernel
theorem dL_law_849 : decode cL_law 849 = .ok (.aload_n 0, 1) := by decide +kernel
theorem dL_law_850 : decode cL_law 850 = .ok (.iload_n 3, 1) := by decide +kernel
theorem dL_law_851 : decode cL_law 851 = .ok (.iconst 2, 1) := by decide +kernel
theorem dL_law_852 : decode cL_law 852 = .ok (.iadd, 1) := by decide +kernel
theorem dL_law_853 : decode cL_law 853 = .ok (.iaload, 1) := by decide +kernel
theorem dL_law_854 : decode cL_law 854 = .ok (.invokevirtual 107, 3) := by decide +kernel
theorem dL_law_857 : decode cL_law 857 = .ok (.if_icmp .eq 400, 3) := by decide +kernel
theorem dL_law_860 : decode cL_law 860 = .ok (.iconst 0, 1) := by decide +kernel
theorem dL_law_861 : decode cL_law 861 = .ok (.ireturn, 1) := by decide +kernel
theorem dL_law_862 : decode cL_law 862 = .ok (.aload_n 1, 1) := by decide +kernel
theorem dL_law_863 : decode cL_law 863 = .ok (.aload_n 0, 1) := by decide +kernel
theorem dL_law_864 : decode cL_law 864 = .ok (.iload_n 3, 1) := by decide +kernel
theorem dL_law_865 : decode cL_law 865 = .ok (.iconst 1, 1) := by decide +kernel
theorem dL_law_866 : decode cL_law 866 = .ok (.iadd, 1) := by decide +kernel
theorem dL_law_867 : decode cL_law 867 = .ok (.iaload, 1) := by decide +kernel
theorem dL_law_868 : decode cL_law 868 = .ok (.invokevirtual 108, 3) := by decide +kernel
theorem dL_law_871 : decode cL_law 871 = .ok (.aload_n 2, 1) := by decide +kernel
theorem dL_law_872 : decode cL_law 872 = .ok (.aload_n 0, 1) := by decide +kernel
theorem dL_law_873 : decode cL_law 873 = .ok (.iload_n 3, 1) := by decide +kernel
theorem dL_law_874 : decode cL_law 874 = .ok (.iconst 1, 1) := by decide +kernel
theorem dL_law_875 : decode cL_law 875 = .ok (.iadd, 1) := by decide +kernel
theorem dL_law_876 : decode cL_law 876 = .ok (.iaload, 1) := by decide +kernel
theorem dL_law_877 : decode cL_law 877 = .ok (.invokevirtual 111, 3) := by decide +kernel
theorem dL_law_880 : decode cL_law 880 = .ok (.if_icmp .eq 377, 3) := by decide +kernel
theorem dL_law_883 : decode cL_law 883 = .ok (.iconst 0, 1) := by decide +kernel
theorem dL_law_884 : decode cL_law 884 = .ok (.ireturn, 1) := by decide +kernel
theorem dL_law_885 : decode cL_law 885 = .ok (.aload_n 1, 1) := by decide +kernel
theorem dL_law_886 : decode cL_law 886 = .ok (.aload_n 0, 1) := by decide +kernel
theorem dL_law_887 : decode cL_law 887 = .ok (.iload_n 3, 1) := by decide +kernel
theorem dL_law_888 : decode cL_law 888 = .ok (.iconst 1, 1) := by decide +kernel
theorem dL_law_889 : decode cL_law 889 = .ok (.iadd, 1) := by decide +kernel
theorem dL_law_890 : decode cL_law 890 = .ok (.iaload, 1) := by decide +kernel
theorem dL_law_891 : decode cL_law 891 = .ok (.invokevirtual 112, 3) := by decide +kernel
theorem dL_law_894 : decode cL_law 894 = .ok (.aload_n 2, 1) := by decide +kernel
theorem dL_law_895 : decode cL_law 895 = .ok (.aload_n 0, 1) := by decide +kernel
theorem dL_law_896 : decode cL_law 896 = .ok (.iload_n 3, 1) := by decide +kernel
theorem dL_law_897 : decode cL_law 897 = .ok (.iconst 1, 1) := by decide +kernel
theorem dL_law_898 : decode cL_law 898 = .ok (.iadd, 1) := by decide +kernel
theorem dL_law_899 : decode cL_law 899 = .ok (.iaload, 1) := by decide +kernel
theorem dL_law_900 : decode cL_law 900 = .ok (.invokevirtual 115, 3) := by decide +kernel
theorem dL_law_903 : decode cL_law 903 = .ok (.if_icmp .eq 354, 3) := by decide +kernel
theorem dL_law_906 : decode cL_law 906 = .ok (.iconst 0, 1) := by decide +kernel
theorem dL_law_907 : decode cL_law 907 = .ok (.ireturn, 1) := by decide +kernel
theorem dL_law_908 : decode cL_law 908 = .ok (.aload_n 1, 1) := by decide +kernel
theorem dL_law_909 : decode cL_law 909 = .ok (.aload_n 0, 1) := by decide +kernel
theorem dL_law_910 : decode cL_law 910 = .ok (.iload_n 3, 1) := by decide +kernel
theorem dL_law_911 : decode cL_law 911 = .ok (.iconst 1, 1) := by decide +kernel
theorem dL_law_912 : decode cL_law 912 = .ok (.iadd, 1) := by decide +kernel
theorem dL_law_913 : decode cL_law 913 = .ok (.iaload, 1) := by decide +kernel
theorem dL_law_914 : decode cL_law 914 = .ok (.aload_n 0, 1) := by decide +kernel
theorem dL_law_915 : decode cL_law 915 = .ok (.iload_n 3, 1) := by decide +kernel
theorem dL_law_916 : decode cL_law 916 = .ok (.iconst 2, 1) := by decide +kernel
theorem dL_law_917 : decode cL_law 917 = .ok (.iadd, 1) := by decide +kernel
theorem dL_law_918 : decode cL_law 918 = .ok (.iaload, 1) := by decide +kernel
theorem dL_law_919 : decode cL_law 919 = .ok (.i2l, 1) := by decide +kernel
theorem dL_law_920 : decode cL_law 920 = .ok (.bipush 32, 2) := by decide +kernel
theorem dL_law_922 : decode cL_law 922 = .ok (.lshl, 1) := by decide +kernel
theorem dL_law_923 : decode cL_law 923 = .ok (.aload_n 0, 1) := by decide +kernel
theorem dL_law_924 : decode cL_law 924 = .ok (.iload_n 3, 1) := by decide +kernel
theorem dL_law_925 : decode cL_law 925 = .ok (.iconst 3, 1) := by decide +kernel
theorem dL_law_926 : decode cL_law 926 = .ok (.iadd, 1) := by decide +kernel
theorem dL_law_927 : decode cL_law 927 = .ok (.iaload, 1) := by decide +kernel
theorem dL_law_928 : decode cL_law 928 = .ok (.i2l, 1) := by decide +kernel
theorem dL_law_929 : decode cL_law 929 = .ok (.ldc2_w 68, 3) := by decide +kernel
theorem dL_law_932 : decode cL_law 932 = .ok (.land, 1) := by decide +kernel
theorem dL_law_933 : decode cL_law 933 = .ok (.lor, 1) := by decide +kernel
theorem dL_law_934 : decode cL_law 934 = .ok (.invokevirtual 116, 3) := by decide +kernel
theorem dL_law_937 : decode cL_law 937 = .ok (.aload_n 2, 1) := by decide +kernel
theorem dL_law_938 : decode cL_law 938 = .ok (.aload_n 0, 1) := by decide +kernel
theorem dL_law_939 : decode cL_law 939 = .ok (.iload_n 3, 1) := by decide +kernel
theorem dL_law_940 : decode cL_law 940 = .ok (.iconst 1, 1) := by decide +kernel
theorem dL_law_941 : decode cL_law 941 = .ok (.iadd, 1) := by decide +kernel
theorem dL_law_942 : decode cL_law 942 = .ok (.iaload, 1) := by decide +kernel
theorem dL_law_943 : decode cL_law 943 = .ok (.aload_n 0, 1) := by decide +kernel
theorem dL_law_944 : decode cL_law 944 = .ok (.iload_n 3, 1) := by decide +kernel
theorem dL_law_945 : decode cL_law 945 = .ok (.iconst 2, 1) := by decide +kernel
theorem dL_law_946 : decode cL_law 946 = .ok (.iadd, 1) := by decide +kernel
theorem dL_law_947 : decode cL_law 947 = .ok (.iaload, 1) := by decide +kernel
theorem dL_law_948 : decode cL_law 948 = .ok (.i2l, 1) := by decide +kernel
theorem dL_law_949 : decode cL_law 949 = .ok (.bipush 32, 2) := by decide +kernel
theorem dL_law_951 : decode cL_law 951 = .ok (.lshl, 1) := by decide +kernel
theorem dL_law_952 : decode cL_law 952 = .ok (.aload_n 0, 1) := by decide +kernel
theorem dL_law_953 : decode cL_law 953 = .ok (.iload_n 3, 1) := by decide +kernel
theorem dL_law_954 : decode cL_law 954 = .ok (.iconst 3, 1) := by decide +kernel
theorem dL_law_955 : decode cL_law 955 = .ok (.iadd, 1) := by decide +kernel
theorem dL_law_956 : decode cL_law 956 = .ok (.iaload, 1) := by decide +kernel
theorem dL_law_957 : decode cL_law 957 = .ok (.i2l, 1) := by decide +kernel
theorem dL_law_958 : decode cL_law 958 = .ok (.ldc2_w 68, 3) := by decide +kernel
theorem dL_law_961 : decode cL_law 961 = .ok (.land, 1) := by decide +kernel
theorem dL_law_962 : decode cL_law 962 = .ok (.lor, 1) := by decide +kernel
theorem dL_law_963 : decode cL_law 963 = .ok (.invokevirtual 120, 3) := by decide +kernel
theorem dL_law_966 : decode cL_law 966 = .ok (.if_icmp .eq 291, 3) := by decide +kernel
theorem dL_law_969 : decode cL_law 969 = .ok (.iconst 0, 1) := by decide +kernel
theorem dL_law_970 : decode cL_law 970 = .ok (.ireturn, 1) := by decide +kernel
theorem dL_law_971 : decode cL_law 971 = .ok (.aload_n 1, 1) := by decide +kernel
theorem dL_law_972 : decode cL_law 972 = .ok (.aload_n 0, 1) := by decide +kernel
theorem dL_law_973 : decode cL_law 973 = .ok (.iload_n 3, 1) := by decide +kernel
theorem dL_law_974 : decode cL_law 974 = .ok (.iconst 1, 1) := by decide +kernel
theorem dL_law_975 : decode cL_law 975 = .ok (.iadd, 1) := by decide +kernel
theorem dL_law_976 : decode cL_law 976 = .ok (.iaload, 1) := by decide +kernel
theorem dL_law_977 : decode cL_law 977 = .ok (.aload_n 0, 1) := by decide +kernel
theorem dL_law_978 : decode cL_law 978 = .ok (.iload_n 3, 1) := by decide +kernel
theorem dL_law_979 : decode cL_law 979 = .ok (.iconst 2, 1) := by decide +kernel
theorem dL_law_980 : decode cL_law 980 = .ok (.iadd, 1) := by decide +kernel
theorem dL_law_981 : decode cL_law 981 = .ok (.iaload, 1) := by decide +kernel
theorem dL_law_982 : decode cL_law 982 = .ok (.invokevirtual 121, 3) := by decide +kernel
theorem dL_law_985 : decode cL_law 985 = .ok (.aload_n 2, 1) := by decide +kernel
theorem dL_law_986 : decode cL_law 986 = .ok (.aload_n 0, 1) := by decide +kernel
theorem dL_law_987 : decode cL_law 987 = .ok (.iload_n 3, 1) := by decide +kernel
theorem dL_law_988 : decode cL_law 988 = .ok (.iconst 1, 1) := by decide +kernel
theorem dL_law_989 : decode cL_law 989 = .ok (.iadd, 1) := by decide +kernel
theorem dL_law_990 : decode cL_law 990 = .ok (.iaload, 1) := by decide +kernel
theorem dL_law_991 : decode cL_law 991 = .ok (.aload_n 0, 1) := by decide +kernel
theorem dL_law_992 : decode cL_law 992 = .ok (.iload_n 3, 1) := by decide +kernel
theorem dL_law_993 : decode cL_law 993 = .ok (.iconst 2, 1) := by decide +kernel
theorem dL_law_994 : decode cL_law 994 = .ok (.iadd, 1) := by decide +kernel
theorem dL_law_995 : decode cL_law 995 = .ok (.iaload, 1) := by decide +kernel
theorem dL_law_996 : decode cL_law 996 = .ok (.invokevirtual 124, 3) := by decide +kernel
theorem dL_law_999 : decode cL_law 999 = .ok (.if_icmp .eq 258, 3) := by decide +kernel
theorem dL_law_1002 : decode cL_law 1002 = .ok (.iconst 0, 1) := by decide +kernel
theorem dL_law_1003 : decode cL_law 1003 = .ok (.ireturn, 1) := by decide +kernel
theorem dL_law_1004 : decode cL_law 1004 = .ok (.aload_n 1, 1) := by decide +kernel
theorem dL_law_1005 : decode cL_law 1005 = .ok (.aload_n 0, 1) := by decide +kernel
theorem dL_law_1006 : decode cL_law 1006 = .ok (.iload_n 3, 1) := by decide +kernel
theorem dL_law_1007 : decode cL_law 1007 = .ok (.iconst 1, 1) := by decide +kernel
theorem dL_law_1008 : decode cL_law 1008 = .ok (.iadd, 1) := by decide +kernel
theorem dL_law_1009 : decode cL_law 1009 = .ok (.iaload, 1) := by decide +kernel
theorem dL_law_1010 : decode cL_law 1010 = .ok (.invokevirtual 125, 3) := by decide +kernel
theorem dL_law_1013 : decode cL_law 1013 = .ok (.aload_n 2, 1) := by decide +kernel
theorem dL_law_1014 : decode cL_law 1014 = .ok (.aload_n 0, 1) := by decide +kernel
theorem dL_law_1015 : decode cL_law 1015 = .ok (.iload_n 3, 1) := by decide +kernel
theorem dL_law_1016 : decode cL_law 1016 = .ok (.iconst 1, 1) := by decide +kernel
theorem dL_law_1017 : decode cL_law 1017 = .ok (.iadd, 1) := by decide +kernel
theorem dL_law_1018 : decode cL_law 1018 = .ok (.iaload, 1) := by decide +kernel
theorem dL_law_1019 : decode cL_law 1019 = .ok (.invokevirtual 128, 3) := by decide +kernel
theorem dL_law_1022 : decode cL_law 1022 = .ok (.if_icmp .eq 235, 3) := by decide +kernel
theorem dL_law_1025 : decode cL_law 1025 = .ok (.iconst 0, 1) := by decide +kernel
theorem dL_law_1026 : decode cL_law 1026 = .ok (.ireturn, 1) := by decide +kernel
theorem dL_law_1027 : decode cL_law 1027 = .ok (.aload_n 1, 1) := by decide +kernel
theorem dL_law_1028 : decode cL_law 1028 = .ok (.aload_n 0, 1) := by decide +kernel
theorem dL_law_1029 : decode cL_law 1029 = .ok (.iload_n 3, 1) := by decide +kernel
theorem dL_law_1030 : decode cL_law 1030 = .ok (.iconst 1, 1) := by decide +kernel
theorem dL_law_1031 : decode cL_law 1031 = .ok (.iadd, 1) := by decide +kernel
theorem dL_law_1032 : decode cL_law 1032 = .ok (.iaload, 1) := by decide +kernel
theorem dL_law_1033 : decode cL_law 1033 = .ok (.invokevirtual 129, 3) := by decide +kernel
theorem dL_law_1036 : decode cL_law 1036 = .ok (.aload_n 2, 1) := by decide +kernel
theorem dL_law_1037 : decode cL_law 1037 = .ok (.aload_n 0, 1) := by decide +kernel
theorem dL_law_1038 : decode cL_law 1038 = .ok (.iload_n 3, 1) := by decide +kernel
theorem dL_law_1039 : decode cL_law 1039 = .ok (.iconst 1, 1) := by decide +kernel
theorem dL_law_1040 : decode cL_law 1040 = .ok (.iadd, 1) := by decide +kernel
theorem dL_law_1041 : decode cL_law 1041 = .ok (.iaload, 1) := by decide +kernel
theorem dL_law_1042 : decode cL_law 1042 = .ok (.invokevirtual 132, 3) := by decide +kernel
theorem dL_law_1045 : decode cL_law 1045 = .ok (.if_icmp .eq 212, 3) := by decide +kernel
theorem dL_law_1048 : decode cL_law 1048 = .ok (.iconst 0, 1) := by decide +kernel
theorem dL_law_1049 : decode cL_law 1049 = .ok (.ireturn, 1) := by decide +kernel
theorem dL_law_1050 : decode cL_law 1050 = .ok (.aload_n 1, 1) := by decide +kernel
theorem dL_law_1051 : decode cL_law 1051 = .ok (.aload_n 0, 1) := by decide +kernel
theorem dL_law_1052 : decode cL_law 1052 = .ok (.iload_n 3, 1) := by decide +kernel
theorem dL_law_1053 : decode cL_law 1053 = .ok (.iconst 1, 1) := by decide +kernel
theorem dL_law_1054 : decode cL_law 1054 = .ok (.iadd, 1) := by decide +kernel
theorem dL_law_1055 : decode cL_law 1055 = .ok (.iaload, 1) := by decide +kernel
theorem dL_law_1056 : decode cL_law 1056 = .ok (.aload_n 0, 1) := by decide +kernel
theorem dL_law_1057 : decode cL_law 1057 = .ok (.iload_n 3, 1) := by decide +kernel
theorem dL_law_1058 : decode cL_law 1058 = .ok (.iconst 2, 1) := by decide +kernel
theorem dL_law_1059 : decode cL_law 1059 = .ok (.iadd, 1) := by decide +kernel
theorem dL_law_1060 : decode cL_law 1060 = .ok (.iaload, 1) := by decide +kernel
theorem dL_law_1061 : decode cL_law 1061 = .ok (.aload_n 0, 1) := by decide +kernel
theorem dL_law_1062 : decode cL_law 1062 = .ok (.iload_n 3, 1) := by decide +kernel
theorem dL_law_1063 : decode cL_law 1063 = .ok (.iconst 3, 1) := by decide +kernel
theorem dL_law_1064 : decode cL_law 1064 = .ok (.iadd, 1) := by decide +kernel
theorem dL_law_1065 : decode cL_law 1065 = .ok (.iaload, 1) := by decide +kernel
theorem dL_law_1066 : decode cL_law 1066 = .ok (.i2l, 1) := by decide +kernel
theorem dL_law_1067 : decode cL_law 1067 = .ok (.bipush 32, 2) := by decide +kernel
theorem dL_law_1069 : decode cL_law 1069 = .ok (.lshl, 1) := by decide +kernel
theorem dL_law_1070 : decode cL_law 1070 = .ok (.aload_n 0, 1) := by decide +kernel
theorem dL_law_1071 : decode cL_law 1071 = .ok (.iload_n 3, 1) := by decide +kernel
theorem dL_law_1072 : decode cL_law 1072 = .ok (.iconst 4, 1) := by decide +kernel
theorem dL_law_1073 : decode cL_law 1073 = .ok (.iadd, 1) := by decide +kernel
theorem dL_law_1074 : decode cL_law 1074 = .ok (.iaload, 1) := by decide +kernel
theorem dL_law_1075 : decode cL_law 1075 = .ok (.i2l, 1) := by decide +kernel
theorem dL_law_1076 : decode cL_law 1076 = .ok (.ldc2_w 68, 3) := by decide +kernel
theorem dL_law_1079 : decode cL_law 1079 = .ok (.land, 1) := by decide +kernel
theorem dL_law_1080 : decode cL_law 1080 = .ok (.lor, 1) := by decide +kernel
theorem dL_law_1081 : decode cL_law 1081 = .ok (.invokevirtual 133, 3) := by decide +kernel
theorem dL_law_1084 : decode cL_law 1084 = .ok (.aload_n 2, 1) := by decide +kernel
theorem dL_law_1085 : decode cL_law 1085 = .ok (.aload_n 0, 1) := by decide +kernel
theorem dL_law_1086 : decode cL_law 1086 = .ok (.iload_n 3, 1) := by decide +kernel
theorem dL_law_1087 : decode cL_law 1087 = .ok (.iconst 1, 1) := by decide +kernel
theorem dL_law_1088 : decode cL_law 1088 = .ok (.iadd, 1) := by decide +kernel
theorem dL_law_1089 : decode cL_law 1089 = .ok (.iaload, 1) := by decide +kernel
theorem dL_law_1090 : decode cL_law 1090 = .ok (.aload_n 0, 1) := by decide +kernel
theorem dL_law_1091 : decode cL_law 1091 = .ok (.iload_n 3, 1) := by decide +kernel
theorem dL_law_1092 : decode cL_law 1092 = .ok (.iconst 2, 1) := by decide +kernel
theorem dL_law_1093 : decode cL_law 1093 = .ok (.iadd, 1) := by decide +kernel
theorem dL_law_1094 : decode cL_law 1094 = .ok (.iaload, 1) := by decide +kernel
theorem dL_law_1095 : decode cL_law 1095 = .ok (.aload_n 0, 1) := by decide +kernel
theorem dL_law_1096 : decode cL_law 1096 = .ok (.iload_n 3, 1) := by decide +kernel
theorem dL_law_1097 : decode cL_law 1097 = .ok (.iconst 3, 1) := by decide +kernel
theorem dL_law_1098 : decode cL_law 1098 = .ok (.iadd, 1) := by decide +kernel
theorem dL_law_1099 : decode cL_law 1099 = .ok (.iaload, 1) := by decide +kernel
theorem dL_law_1100 : decode cL_law 1100 = .ok (.i2l, 1) := by decide +kernel
theorem dL_law_1101 : decode cL_law 1101 = .ok (.bipush 32, 2) := by decide +kernel
theorem dL_law_1103 : decode cL_law 1103 = .ok (.lshl, 1) := by decide +kernel
theorem dL_law_1104 : decode cL_law 1104 = .ok (.aload_n 0, 1) := by decide +kernel
theorem dL_law_1105 : decode cL_law 1105 = .ok (.iload_n 3, 1) := by decide +kernel
theorem dL_law_1106 : decode cL_law 1106 = .ok (.iconst 4, 1) := by decide +kernel
theorem dL_law_1107 : decode cL_law 1107 = .ok (.iadd, 1) := by decide +kernel
theorem dL_law_1108 : decode cL_law 1108 = .ok (.iaload, 1) := by decide +kernel
theorem dL_law_1109 : decode cL_law 1109 = .ok (.i2l, 1) := by decide +kernel
theorem dL_law_1110 : decode cL_law 1110 = .ok (.ldc2_w 68, 3) := by decide +kernel
theorem dL_law_1113 : decode cL_law 1113 = .ok (.land, 1) := by decide +kernel
theorem dL_law_1114 : decode cL_law 1114 = .ok (.lor, 1) := by decide +kernel
theorem dL_law_1115 : decode cL_law 1115 = .ok (.invokevirtual 137, 3) := by decide +kernel
theorem dL_law_1118 : decode cL_law 1118 = .ok (.if_icmp .eq 139, 3) := by decide +kernel
theorem dL_law_1121 : decode cL_law 1121 = .ok (.iconst 0, 1) := by decide +kernel
theorem dL_law_1122 : decode cL_law 1122 = .ok (.ireturn, 1) := by decide +kernel
theorem dL_law_1123 : decode cL_law 1123 = .ok (.aload_n 1, 1) := by decide +kernel
theorem dL_law_1124 : decode cL_law 1124 = .ok (.aload_n 0, 1) := by decide +kernel
theorem dL_law_1125 : decode cL_law 1125 = .ok (.iload_n 3, 1) := by decide +kernel
theorem dL_law_1126 : decode cL_law 1126 = .ok (.iconst 1, 1) := by decide +kernel
theorem dL_law_1127 : decode cL_law 1127 = .ok (.iadd, 1) := by decide +kernel
theorem dL_law_1128 : decode cL_law 1128 = .ok (.iaload, 1) := by decide +kernel
theorem dL_law_1129 : decode cL_law 1129 = .ok (.invokevirtual 138, 3) := by decide +kernel
theorem dL_law_1132 : decode cL_law 1132 = .ok (.aload_n 2, 1) := by decide +kernel
theorem dL_law_1133 : decode cL_law 1133 = .ok (.aload_n 0, 1) := by decide +kernel
theorem dL_law_1134 : decode cL_law 1134 = .ok (.iload_n 3, 1) := by decide +kernel
theorem dL_law_1135 : decode cL_law 1135 = .ok (.iconst 1, 1) := by decide +kernel
theorem dL_law_1136 : decode cL_law 1136 = .ok (.iadd, 1) := by decide +kernel
theorem dL_law_1137 : decode cL_law 1137 = .ok (.iaload, 1) := by decide +kernel
theorem dL_law_1138 : decode cL_law 1138 = .ok (.invokevirtual 142, 3) := by decide +kernel
theorem dL_law_1141 : decode cL_law 1141 = .ok (.lcmp, 1) := by decide +kernel
theorem dL_law_1142 : decode cL_law 1142 = .ok (.ifCond .eq 115, 3) := by decide +kernel
theorem dL_law_1145 : decode cL_law 1145 = .ok (.iconst 0, 1) := by decide +kernel
theorem dL_law_1146 : decode cL_law 1146 = .ok (.ireturn, 1) := by decide +kernel
theorem dL_law_1147 : decode cL_law 1147 = .ok (.aload_n 1, 1) := by decide +kernel
theorem dL_law_1148 : decode cL_law 1148 = .ok (.aload_n 0, 1) := by decide +kernel
theorem dL_law_1149 : decode cL_law 1149 = .ok (.iload_n 3, 1) := by decide +kernel
theorem dL_law_1150 : decode cL_law 1150 = .ok (.iconst 1, 1) := by decide +kernel
theorem dL_law_1151 : decode cL_law 1151 = .ok (.iadd, 1) := by decide +kernel
theorem dL_law_1152 : decode cL_law 1152 = .ok (.iaload, 1) := by decide +kernel
theorem dL_law_1153 : decode cL_law 1153 = .ok (.aload_n 0, 1) := by decide +kernel
theorem dL_law_1154 : decode cL_law 1154 = .ok (.iload_n 3, 1) := by decide +kernel
theorem dL_law_1155 : decode cL_law 1155 = .ok (.iconst 2, 1) := by decide +kernel
theorem dL_law_1156 : decode cL_law 1156 = .ok (.iadd, 1) := by decide +kernel
theorem dL_law_1157 : decode cL_law 1157 = .ok (.iaload, 1) := by decide +kernel
theorem dL_law_1158 : decode cL_law 1158 = .ok (.aload_n 0, 1) := by decide +kernel
theorem dL_law_1159 : decode cL_law 1159 = .ok (.iload_n 3, 1) := by decide +kernel
theorem dL_law_1160 : decode cL_law 1160 = .ok (.iconst 3, 1) := by decide +kernel
theorem dL_law_1161 : decode cL_law 1161 = .ok (.iadd, 1) := by decide +kernel
theorem dL_law_1162 : decode cL_law 1162 = .ok (.iaload, 1) := by decide +kernel
theorem dL_law_1163 : decode cL_law 1163 = .ok (.i2l, 1) := by decide +kernel
theorem dL_law_1164 : decode cL_law 1164 = .ok (.bipush 32, 2) := by decide +kernel
theorem dL_law_1166 : decode cL_law 1166 = .ok (.lshl, 1) := by decide +kernel
theorem dL_law_1167 : decode cL_law 1167 = .ok (.aload_n 0, 1) := by decide +kernel
theorem dL_law_1168 : decode cL_law 1168 = .ok (.iload_n 3, 1) := by decide +kernel
theorem dL_law_1169 : decode cL_law 1169 = .ok (.iconst 4, 1) := by decide +kernel
theorem dL_law_1170 : decode cL_law 1170 = .ok (.iadd, 1) := by decide +kernel
theorem dL_law_1171 : decode cL_law 1171 = .ok (.iaload, 1) := by decide +kernel
theorem dL_law_1172 : decode cL_law 1172 = .ok (.i2l, 1) := by decide +kernel
theorem dL_law_1173 : decode cL_law 1173 = .ok (.ldc2_w 68, 3) := by decide +kernel
theorem dL_law_1176 : decode cL_law 1176 = .ok (.land, 1) := by decide +kernel
theorem dL_law_1177 : decode cL_law 1177 = .ok (.lor, 1) := by decide +kernel
theorem dL_law_1178 : decode cL_law 1178 = .ok (.invokevirtual 143, 3) := by decide +kernel
theorem dL_law_1181 : decode cL_law 1181 = .ok (.aload_n 2, 1) := by decide +kernel
theorem dL_law_1182 : decode cL_law 1182 = .ok (.aload_n 0, 1) := by decide +kernel
theorem dL_law_1183 : decode cL_law 1183 = .ok (.iload_n 3, 1) := by decide +kernel
theorem dL_law_1184 : decode cL_law 1184 = .ok (.iconst 1, 1) := by decide +kernel
theorem dL_law_1185 : decode cL_law 1185 = .ok (.iadd, 1) := by decide +kernel
theorem dL_law_1186 : decode cL_law 1186 = .ok (.iaload, 1) := by decide +kernel
theorem dL_law_1187 : decode cL_law 1187 = .ok (.aload_n 0, 1) := by decide +kernel
theorem dL_law_1188 : decode cL_law 1188 = .ok (.iload_n 3, 1) := by decide +kernel
theorem dL_law_1189 : decode cL_law 1189 = .ok (.iconst 2, 1) := by decide +kernel
theorem dL_law_1190 : decode cL_law 1190 = .ok (.iadd, 1) := by decide +kernel
theorem dL_law_1191 : decode cL_law 1191 = .ok (.iaload, 1) := by decide +kernel
theorem dL_law_1192 : decode cL_law 1192 = .ok (.aload_n 0, 1) := by decide +kernel
theorem dL_law_1193 : decode cL_law 1193 = .ok (.iload_n 3, 1) := by decide +kernel
theorem dL_law_1194 : decode cL_law 1194 = .ok (.iconst 3, 1) := by decide +kernel
theorem dL_law_1195 : decode cL_law 1195 = .ok (.iadd, 1) := by decide +kernel
theorem dL_law_1196 : decode cL_law 1196 = .ok (.iaload, 1) := by decide +kernel
theorem dL_law_1197 : decode cL_law 1197 = .ok (.i2l, 1) := by decide +kernel
theorem dL_law_1198 : decode cL_law 1198 = .ok (.bipush 32, 2) := by decide +kernel
theorem dL_law_1200 : decode cL_law 1200 = .ok (.lshl, 1) := by decide +kernel
theorem dL_law_1201 : decode cL_law 1201 = .ok (.aload_n 0, 1) := by decide +kernel
theorem dL_law_1202 : decode cL_law 1202 = .ok (.iload_n 3, 1) := by decide +kernel
theorem dL_law_1203 : decode cL_law 1203 = .ok (.iconst 4, 1) := by decide +kernel
theorem dL_law_1204 : decode cL_law 1204 = .ok (.iadd, 1) := by decide +kernel
theorem dL_law_1205 : decode cL_law 1205 = .ok (.iaload, 1) := by decide +kernel
theorem dL_law_1206 : decode cL_law 1206 = .ok (.i2l, 1) := by decide +kernel
theorem dL_law_1207 : decode cL_law 1207 = .ok (.ldc2_w 68, 3) := by decide +kernel
theorem dL_law_1210 : decode cL_law 1210 = .ok (.land, 1) := by decide +kernel
theorem dL_law_1211 : decode cL_law 1211 = .ok (.lor, 1) := by decide +kernel
theorem dL_law_1212 : decode cL_law 1212 = .ok (.invokevirtual 147, 3) := by decide +kernel
theorem dL_law_1215 : decode cL_law 1215 = .ok (.lcmp, 1) := by decide +kernel
theorem dL_law_1216 : decode cL_law 1216 = .ok (.ifCond .eq 41, 3) := by decide +kernel
theorem dL_law_1219 : decode cL_law 1219 = .ok (.iconst 0, 1) := by decide +kernel
theorem dL_law_1220 : decode cL_law 1220 = .ok (.ireturn, 1) := by decide +kernel
theorem dL_law_1221 : decode cL_law 1221 = .ok (.aload_n 1, 1) := by decide +kernel
theorem dL_law_1222 : decode cL_law 1222 = .ok (.invokevirtual 148, 3) := by decide +kernel
theorem dL_law_1225 : decode cL_law 1225 = .ok (.aload_n 2, 1) := by decide +kernel
theorem dL_law_1226 : decode cL_law 1226 = .ok (.invokevirtual 152, 3) := by decide +kernel
theorem dL_law_1229 : decode cL_law 1229 = .ok (.if_icmp .eq 28, 3) := by decide +kernel
theorem dL_law_1232 : decode cL_law 1232 = .ok (.iconst 0, 1) := by decide +kernel
theorem dL_law_1233 : decode cL_law 1233 = .ok (.ireturn, 1) := by decide +kernel
theorem dL_law_1234 : decode cL_law 1234 = .ok (.aload_n 1, 1) := by decide +kernel
theorem dL_law_1235 : decode cL_law 1235 = .ok (.aload_n 0, 1) := by decide +kernel
theorem dL_law_1236 : decode cL_law 1236 = .ok (.iload_n 3, 1) := by decide +kernel
theorem dL_law_1237 : decode cL_law 1237 = .ok (.iconst 1, 1) := by decide +kernel
theorem dL_law_1238 : decode cL_law 1238 = .ok (.iadd, 1) := by decide +kernel
theorem dL_law_1239 : decode cL_law 1239 = .ok (.iaload, 1) := by decide +kernel
theorem dL_law_1240 : decode cL_law 1240 = .ok (.invokevirtual 153, 3) := by decide +kernel
theorem dL_law_1243 : decode cL_law 1243 = .ok (.aload_n 2, 1) := by decide +kernel
theorem dL_law_1244 : decode cL_law 1244 = .ok (.aload_n 0, 1) := by decide +kernel
theorem dL_law_1245 : decode cL_law 1245 = .ok (.iload_n 3, 1) := by decide +kernel
theorem dL_law_1246 : decode cL_law 1246 = .ok (.iconst 1, 1) := by decide +kernel
theorem dL_law_1247 : decode cL_law 1247 = .ok (.iadd, 1) := by decide +kernel
theorem dL_law_1248 : decode cL_law 1248 = .ok (.iaload, 1) := by decide +kernel
theorem dL_law_1249 : decode cL_law 1249 = .ok (.invokevirtual 156, 3) := by decide +kernel
theorem dL_law_1252 : decode cL_law 1252 = .ok (.if_icmp .eq 5, 3) := by decide +kernel
theorem dL_law_1255 : decode cL_law 1255 = .ok (.iconst 0, 1) := by decide +kernel
theorem dL_law_1256 : decode cL_law 1256 = .ok (.ireturn, 1) := by decide +kernel
theorem dL_law_1257 : decode cL_law 1257 = .ok (.iinc 3 6, 3) := by decide +kernel
theorem dL_law_1260 : decode cL_law 1260 = .ok (.goto (-1242), 3) := by decide +kernel
theorem dL_law_1263 : decode cL_law 1263 = .ok (.iconst 1, 1) := by decide +kernel
theorem dL_law_1264 : decode cL_law 1264 = .ok (.ireturn, 1) := by decide +kernel
theorem zl_cmp (r : Int64) : lg_cmp r r = 0 := by simp [lg_cmp]
abbrev zl_lv (x : Int32) : List (Nat × ae_V) := [(0, ae_r (some (59, 0))), (1, ae_r (some (0, 0))), (2, ae_r (some (30, 0))), (3, ae_i x)]
def zl_in (L : Nat) (x : Int32) : Prop := vp_in x L ∧ vp_in (x + 1) L ∧ vp_in (x + 2) L ∧ vp_in (x + 3) L ∧ vp_in (x + 4) L ∧ vp_in (x + 5) L
/-- promise: memory -/
def zp_memory (Inv : ae_S → Prop) : Prop := ∀ (v1 : Int32) (σ : ae_S), Inv σ → ∃ (r : Int32) (σ1 σ2 : ae_S), F_X11_memory v1 σ = some (r, σ1) ∧ F_X12_memory v1 σ1 = some (r, σ2) ∧ Inv σ2
theorem zc_0 {l : Launch} {G : ae_G} {b L : Nat} {xs : Nat → Int32} {Inv : ae_S → Prop} (hp : zp_memory Inv) {x : Int32} (hin : zl_in L x) (hk : ∀ σ, Inv σ → zl_T l G b L xs 1257 (zl_lv x) [] σ) {σ : ae_S} (hI : Inv σ) : zl_T l G b L xs 176 (zl_lv x) [] σ := by
  obtain ⟨hi0, hi1, hi2, hi3, hi4, hi5⟩ := hin
  obtain ⟨r, σ1, σ2, e1, e2, hI2⟩ := hp ((xs (x + (1 : Int32)).toNatClampNeg)) σ hI
  refine zl_aload_n 1 dL_law_176 rfl ?_
  refine zl_aload_n 0 dL_law_177 rfl ?_
  refine zl_iload_n 3 dL_law_178 rfl ?_
  refine zl_iconst 1 dL_law_179 (by decide) ?_
  refine zl_iadd dL_law_180 ?_
  refine zl_sld dL_law_181 hi1 ?_
  refine zl_call (d1 := 0 + 1) (q := (0, 0)) (As := [ae_i (xs (x + (1 : Int32)).toNatClampNeg)]) dL_law_182 ww_330 vy_X11_memory rfl rfl rfl rfl rfl (Nat.le_of_ble_eq_true rfl) (by omega) (c_X11_memory 0 e1) ?_
  refine zl_aload_n 2 dL_law_185 rfl ?_
  refine zl_aload_n 0 dL_law_186 rfl ?_
  refine zl_iload_n 3 dL_law_187 rfl ?_
  refine zl_iconst 1 dL_law_188 (by decide) ?_
  refine zl_iadd dL_law_189 ?_
  refine zl_sld dL_law_190 hi1 ?_
  refine zl_call (d1 := 0 + 1) (q := (30, 0)) (As := [ae_i (xs (x + (1 : Int32)).toNatClampNeg)]) dL_law_191 ww_1456 vy_X12_memory rfl rfl rfl rfl rfl (Nat.le_of_ble_eq_true rfl) (by omega) (c_X12_memory 0 e2) ?_
  exact zl_icmp_eq 1257 dL_law_194 (by decide) (fun _ => hk σ2 hI2) (fun h => absurd rfl h)
/-- promise: feed -/
def zp_feed (Inv : ae_S → Prop) : Prop := ∀ (v1 : Int32) (v2 : Int32) (v3 : Int32) (v4 : Int32) (v5 : Int32) (σ : ae_S), Inv σ → ∃ (r : Int32) (σ1 σ2 : ae_S), F_X11_feed v1 v2 v3 v4 v5 σ = some (r, σ1) ∧ F_X12_feed v1 v2 v3 v4 v5 σ1 = some (r, σ2) ∧ Inv σ2
theorem zc_1 {l : Launch} {G : ae_G} {b L : Nat} {xs : Nat → Int32} {Inv : ae_S → Prop} (hp : zp_feed Inv) {x : Int32} (hin : zl_in L x) (hk : ∀ σ, Inv σ → zl_T l G b L xs 1257 (zl_lv x) [] σ) {σ : ae_S} (hI : Inv σ) : zl_T l G b L xs 199 (zl_lv x) [] σ := by
  obtain ⟨hi0, hi1, hi2, hi3, hi4, hi5⟩ := hin
  obtain ⟨r, σ1, σ2, e1, e2, hI2⟩ := hp ((xs (x + (1 : Int32)).toNatClampNeg)) ((xs (x + (2 : Int32)).toNatClampNeg)) ((xs (x + (3 : Int32)).toNatClampNeg)) ((xs (x + (4 : Int32)).toNatClampNeg)) ((xs (x + (5 : Int32)).toNatClampNeg)) σ hI
  refine zl_aload_n 1 dL_law_199 rfl ?_
  refine zl_aload_n 0 dL_law_200 rfl ?_
  refine zl_iload_n 3 dL_law_201 rfl ?_
  refine zl_iconst 1 dL_law_202 (by decide) ?_
  refine zl_iadd dL_law_203 ?_
  refine zl_sld dL_law_204 hi1 ?_
  refine zl_aload_n 0 dL_law_205 rfl ?_
  refine zl_iload_n 3 dL_law_206 rfl ?_
  refine zl_iconst 2 dL_law_207 (by decide) ?_
  refine zl_iadd dL_law_208 ?_
  refine zl_sld dL_law_209 hi2 ?_
  refine zl_aload_n 0 dL_law_210 rfl ?_
  refine zl_iload_n 3 dL_law_211 rfl ?_
  refine zl_iconst 3 dL_law_212 (by decide) ?_
  refine zl_iadd dL_law_213 ?_
  refine zl_sld dL_law_214 hi3 ?_
  refine zl_aload_n 0 dL_law_215 rfl ?_
  refine zl_iload_n 3 dL_law_216 rfl ?_
  refine zl_iconst 4 dL_law_217 (by decide) ?_
  refine zl_iadd dL_law_218 ?_
  refine zl_sld dL_law_219 hi4 ?_
  refine zl_aload_n 0 dL_law_220 rfl ?_
  refine zl_iload_n 3 dL_law_221 rfl ?_
  refine zl_iconst 5 dL_law_222 (by decide) ?_
  refine zl_iadd dL_law_223 ?_
  refine zl_sld dL_law_224 hi5 ?_
  refine zl_call (d1 := 0 + 2) (q := (0, 0)) (As := [ae_i (xs (x + (1 : Int32)).toNatClampNeg), ae_i (xs (x + (2 : Int32)).toNatClampNeg), ae_i (xs (x + (3 : Int32)).toNatClampNeg), ae_i (xs (x + (4 : Int32)).toNatClampNeg), ae_i (xs (x + (5 : Int32)).toNatClampNeg)]) dL_law_225 ww_342 vy_X11_feed rfl rfl rfl rfl rfl (Nat.le_of_ble_eq_true rfl) (by omega) (c_X11_feed 0 e1) ?_
  refine zl_aload_n 2 dL_law_228 rfl ?_
  refine zl_aload_n 0 dL_law_229 rfl ?_
  refine zl_iload_n 3 dL_law_230 rfl ?_
  refine zl_iconst 1 dL_law_231 (by decide) ?_
  refine zl_iadd dL_law_232 ?_
  refine zl_sld dL_law_233 hi1 ?_
  refine zl_aload_n 0 dL_law_234 rfl ?_
  refine zl_iload_n 3 dL_law_235 rfl ?_
  refine zl_iconst 2 dL_law_236 (by decide) ?_
  refine zl_iadd dL_law_237 ?_
  refine zl_sld dL_law_238 hi2 ?_
  refine zl_aload_n 0 dL_law_239 rfl ?_
  refine zl_iload_n 3 dL_law_240 rfl ?_
  refine zl_iconst 3 dL_law_241 (by decide) ?_
  refine zl_iadd dL_law_242 ?_
  refine zl_sld dL_law_243 hi3 ?_
  refine zl_aload_n 0 dL_law_244 rfl ?_
  refine zl_iload_n 3 dL_law_245 rfl ?_
  refine zl_iconst 4 dL_law_246 (by decide) ?_
  refine zl_iadd dL_law_247 ?_
  refine zl_sld dL_law_248 hi4 ?_
  refine zl_aload_n 0 dL_law_249 rfl ?_
  refine zl_iload_n 3 dL_law_250 rfl ?_
  refine zl_iconst 5 dL_law_251 (by decide) ?_
  refine zl_iadd dL_law_252 ?_
  refine zl_sld dL_law_253 hi5 ?_
  refine zl_call (d1 := 0 + 1) (q := (30, 0)) (As := [ae_i (xs (x + (1 : Int32)).toNatClampNeg), ae_i (xs (x + (2 : Int32)).toNatClampNeg), ae_i (xs (x + (3 : Int32)).toNatClampNeg), ae_i (xs (x + (4 : Int32)).toNatClampNeg), ae_i (xs (x + (5 : Int32)).toNatClampNeg)]) dL_law_254 ww_1488 vy_X12_feed rfl rfl rfl rfl rfl (Nat.le_of_ble_eq_true rfl) (by omega) (c_X12_feed 0 e2) ?_
  exact zl_icmp_eq 1257 dL_law_257 (by decide) (fun _ => hk σ2 hI2) (fun h => absurd rfl h)
/-- promise: end -/
def zp_end (Inv : ae_S → Prop) : Prop := ∀ (v1 : Int32) (σ : ae_S), Inv σ → ∃ (r : Int32) (σ1 σ2 : ae_S), F_X11_end v1 σ = some (r, σ1) ∧ F_X12_end v1 σ1 = some (r, σ2) ∧ Inv σ2
theorem zc_2 {l : Launch} {G : ae_G} {b L : Nat} {xs : Nat → Int32} {Inv : ae_S → Prop} (hp : zp_end Inv) {x : Int32} (hin : zl_in L x) (hk : ∀ σ, Inv σ → zl_T l G b L xs 1257 (zl_lv x) [] σ) {σ : ae_S} (hI : Inv σ) : zl_T l G b L xs 262 (zl_lv x) [] σ := by
  obtain ⟨hi0, hi1, hi2, hi3, hi4, hi5⟩ := hin
  obtain ⟨r, σ1, σ2, e1, e2, hI2⟩ := hp ((xs (x + (1 : Int32)).toNatClampNeg)) σ hI
  refine zl_aload_n 1 dL_law_262 rfl ?_
  refine zl_aload_n 0 dL_law_263 rfl ?_
  refine zl_iload_n 3 dL_law_264 rfl ?_
  refine zl_iconst 1 dL_law_265 (by decide) ?_
  refine zl_iadd dL_law_266 ?_
  refine zl_sld dL_law_267 hi1 ?_
  refine zl_call (d1 := 0 + 1) (q := (0, 0)) (As := [ae_i (xs (x + (1 : Int32)).toNatClampNeg)]) dL_law_268 ww_358 vy_X11_end rfl rfl rfl rfl rfl (Nat.le_of_ble_eq_true rfl) (by omega) (c_X11_end 0 e1) ?_
  refine zl_aload_n 2 dL_law_271 rfl ?_
  refine zl_aload_n 0 dL_law_272 rfl ?_
  refine zl_iload_n 3 dL_law_273 rfl ?_
  refine zl_iconst 1 dL_law_274 (by decide) ?_
  refine zl_iadd dL_law_275 ?_
  refine zl_sld dL_law_276 hi1 ?_
  refine zl_call (d1 := 0 + 1) (q := (30, 0)) (As := [ae_i (xs (x + (1 : Int32)).toNatClampNeg)]) dL_law_277 ww_1496 vy_X12_end rfl rfl rfl rfl rfl (Nat.le_of_ble_eq_true rfl) (by omega) (c_X12_end 0 e2) ?_
  exact zl_icmp_eq 1257 dL_law_280 (by decide) (fun _ => hk σ2 hI2) (fun h => absurd rfl h)
/-- promise: views -/
def zp_views (Inv : ae_S → Prop) : Prop := ∀ (σ : ae_S), Inv σ → ∃ (r : Int32) (σ1 σ2 : ae_S), F_X11_views σ = some (r, σ1) ∧ F_X12_views σ1 = some (r, σ2) ∧ Inv σ2
theorem zc_3 {l : Launch} {G : ae_G} {b L : Nat} {xs : Nat → Int32} {Inv : ae_S → Prop} (hp : zp_views Inv) {x : Int32} (hin : zl_in L x) (hk : ∀ σ, Inv σ → zl_T l G b L xs 1257 (zl_lv x) [] σ) {σ : ae_S} (hI : Inv σ) : zl_T l G b L xs 285 (zl_lv x) [] σ := by
  obtain ⟨hi0, hi1, hi2, hi3, hi4, hi5⟩ := hin
  obtain ⟨r, σ1, σ2, e1, e2, hI2⟩ := hp σ hI
  refine zl_aload_n 1 dL_law_285 rfl ?_
  refine zl_call (d1 := 0 + 10) (q := (0, 0)) (As := []) dL_law_286 ww_366 vy_X11_views rfl rfl rfl rfl rfl (Nat.le_of_ble_eq_true rfl) (by omega) (c_X11_views 0 e1) ?_
  refine zl_aload_n 2 dL_law_289 rfl ?_
  refine zl_call (d1 := 0 + 12) (q := (30, 0)) (As := []) dL_law_290 ww_1500 vy_X12_views rfl rfl rfl rfl rfl (Nat.le_of_ble_eq_true rfl) (by omega) (c_X12_views 0 e2) ?_
  exact zl_icmp_eq 1257 dL_law_293 (by decide) (fun _ => hk σ2 hI2) (fun h => absurd rfl h)
/-- promise: script -/
def zp_script (Inv : ae_S → Prop) : Prop := ∀ (σ : ae_S), Inv σ → ∃ (r : Int32) (σ1 σ2 : ae_S), F_X11_script σ = some (r, σ1) ∧ F_X12_script σ1 = some (r, σ2) ∧ Inv σ2
theorem zc_4 {l : Launch} {G : ae_G} {b L : Nat} {xs : Nat → Int32} {Inv : ae_S → Prop} (hp : zp_script Inv) {x : Int32} (hin : zl_in L x) (hk : ∀ σ, Inv σ → zl_T l G b L xs 1257 (zl_lv x) [] σ) {σ : ae_S} (hI : Inv σ) : zl_T l G b L xs 298 (zl_lv x) [] σ := by
  obtain ⟨hi0, hi1, hi2, hi3, hi4, hi5⟩ := hin
  obtain ⟨r, σ1, σ2, e1, e2, hI2⟩ := hp σ hI
  refine zl_aload_n 1 dL_law_298 rfl ?_
  refine zl_call (d1 := 0 + 9) (q := (0, 0)) (As := []) dL_law_299 ww_625 vy_X11_script rfl rfl rfl rfl rfl (Nat.le_of_ble_eq_true rfl) (by omega) (c_X11_script 0 e1) ?_
  refine zl_aload_n 2 dL_law_302 rfl ?_
  refine zl_call (d1 := 0 + 1327) (q := (30, 0)) (As := []) dL_law_303 ww_1723 vy_X12_script rfl rfl rfl rfl rfl (Nat.le_of_ble_eq_true rfl) (by omega) (c_X12_script 0 e2) ?_
  exact zl_icmp_eq 1257 dL_law_306 (by decide) (fun _ => hk σ2 hI2) (fun h => absurd rfl h)
/-- promise: fault -/
def zp_fault (Inv : ae_S → Prop) : Prop := ∀ (v1 : Int32) (σ : ae_S), Inv σ → ∃ (r : Int32) (σ1 σ2 : ae_S), F_X11_fault v1 σ = some (r, σ1) ∧ F_X12_fault v1 σ1 = some (r, σ2) ∧ Inv σ2
theorem zc_5 {l : Launch} {G : ae_G} {b L : Nat} {xs : Nat → Int32} {Inv : ae_S → Prop} (hp : zp_fault Inv) {x : Int32} (hin : zl_in L x) (hk : ∀ σ, Inv σ → zl_T l G b L xs 1257 (zl_lv x) [] σ) {σ : ae_S} (hI : Inv σ) : zl_T l G b L xs 311 (zl_lv x) [] σ := by
  obtain ⟨hi0, hi1, hi2, hi3, hi4, hi5⟩ := hin
  obtain ⟨r, σ1, σ2, e1, e2, hI2⟩ := hp ((xs (x + (1 : Int32)).toNatClampNeg)) σ hI
  refine zl_aload_n 1 dL_law_311 rfl ?_
  refine zl_aload_n 0 dL_law_312 rfl ?_
  refine zl_iload_n 3 dL_law_313 rfl ?_
  refine zl_iconst 1 dL_law_314 (by decide) ?_
  refine zl_iadd dL_law_315 ?_
  refine zl_sld dL_law_316 hi1 ?_
  refine zl_call (d1 := 0 + 1) (q := (0, 0)) (As := [ae_i (xs (x + (1 : Int32)).toNatClampNeg)]) dL_law_317 ww_1029 vy_X11_fault rfl rfl rfl rfl rfl (Nat.le_of_ble_eq_true rfl) (by omega) (c_X11_fault 0 e1) ?_
  refine zl_aload_n 2 dL_law_320 rfl ?_
  refine zl_aload_n 0 dL_law_321 rfl ?_
  refine zl_iload_n 3 dL_law_322 rfl ?_
  refine zl_iconst 1 dL_law_323 (by decide) ?_
  refine zl_iadd dL_law_324 ?_
  refine zl_sld dL_law_325 hi1 ?_
  refine zl_call (d1 := 0) (q := (30, 0)) (As := [ae_i (xs (x + (1 : Int32)).toNatClampNeg)]) dL_law_326 ww_1619 vy_X12_fault rfl rfl rfl rfl rfl (Nat.le_of_ble_eq_true rfl) (by omega) (c_X12_fault 0 e2) ?_
  exact zl_icmp_eq 1257 dL_law_329 (by decide) (fun _ => hk σ2 hI2) (fun h => absurd rfl h)
/-- promise: trouble -/
def zp_trouble (Inv : ae_S → Prop) : Prop := ∀ (v1 : Int32) (σ : ae_S), Inv σ → ∃ (r : Int32) (σ1 σ2 : ae_S), F_X11_trouble v1 σ = some (r, σ1) ∧ F_X12_trouble v1 σ1 = some (r, σ2) ∧ Inv σ2
theorem zc_6 {l : Launch} {G : ae_G} {b L : Nat} {xs : Nat → Int32} {Inv : ae_S → Prop} (hp : zp_trouble Inv) {x : Int32} (hin : zl_in L x) (hk : ∀ σ, Inv σ → zl_T l G b L xs 1257 (zl_lv x) [] σ) {σ : ae_S} (hI : Inv σ) : zl_T l G b L xs 334 (zl_lv x) [] σ := by
  obtain ⟨hi0, hi1, hi2, hi3, hi4, hi5⟩ := hin
  obtain ⟨r, σ1, σ2, e1, e2, hI2⟩ := hp ((xs (x + (1 : Int32)).toNatClampNeg)) σ hI
  refine zl_aload_n 1 dL_law_334 rfl ?_
  refine zl_aload_n 0 dL_law_335 rfl ?_
  refine zl_iload_n 3 dL_law_336 rfl ?_
  refine zl_iconst 1 dL_law_337 (by decide) ?_
  refine zl_iadd dL_law_338 ?_
  refine zl_sld dL_law_339 hi1 ?_
  refine zl_call (d1 := 0 + 1) (q := (0, 0)) (As := [ae_i (xs (x + (1 : Int32)).toNatClampNeg)]) dL_law_340 ww_1041 vy_X11_trouble rfl rfl rfl rfl rfl (Nat.le_of_ble_eq_true rfl) (by omega) (c_X11_trouble 0 e1) ?_
  refine zl_aload_n 2 dL_law_343 rfl ?_
  refine zl_aload_n 0 dL_law_344 rfl ?_
  refine zl_iload_n 3 dL_law_345 rfl ?_
  refine zl_iconst 1 dL_law_346 (by decide) ?_
  refine zl_iadd dL_law_347 ?_
  refine zl_sld dL_law_348 hi1 ?_
  refine zl_call (d1 := 0 + 1) (q := (30, 0)) (As := [ae_i (xs (x + (1 : Int32)).toNatClampNeg)]) dL_law_349 ww_1820 vy_X12_trouble rfl rfl rfl rfl rfl (Nat.le_of_ble_eq_true rfl) (by omega) (c_X12_trouble 0 e2) ?_
  exact zl_icmp_eq 1257 dL_law_352 (by decide) (fun _ => hk σ2 hI2) (fun h => absurd rfl h)
/-- promise: view -/
def zp_view (Inv : ae_S → Prop) : Prop := ∀ (v1 : Int32) (v2 : Int32) (σ : ae_S), Inv σ → ∃ (r : Int32) (σ1 σ2 : ae_S), F_X11_view v1 v2 σ = some (r, σ1) ∧ F_X12_view v1 v2 σ1 = some (r, σ2) ∧ Inv σ2
theorem zc_7 {l : Launch} {G : ae_G} {b L : Nat} {xs : Nat → Int32} {Inv : ae_S → Prop} (hp : zp_view Inv) {x : Int32} (hin : zl_in L x) (hk : ∀ σ, Inv σ → zl_T l G b L xs 1257 (zl_lv x) [] σ) {σ : ae_S} (hI : Inv σ) : zl_T l G b L xs 357 (zl_lv x) [] σ := by
  obtain ⟨hi0, hi1, hi2, hi3, hi4, hi5⟩ := hin
  obtain ⟨r, σ1, σ2, e1, e2, hI2⟩ := hp ((xs (x + (1 : Int32)).toNatClampNeg)) ((xs (x + (2 : Int32)).toNatClampNeg)) σ hI
  refine zl_aload_n 1 dL_law_357 rfl ?_
  refine zl_aload_n 0 dL_law_358 rfl ?_
  refine zl_iload_n 3 dL_law_359 rfl ?_
  refine zl_iconst 1 dL_law_360 (by decide) ?_
  refine zl_iadd dL_law_361 ?_
  refine zl_sld dL_law_362 hi1 ?_
  refine zl_aload_n 0 dL_law_363 rfl ?_
  refine zl_iload_n 3 dL_law_364 rfl ?_
  refine zl_iconst 2 dL_law_365 (by decide) ?_
  refine zl_iadd dL_law_366 ?_
  refine zl_sld dL_law_367 hi2 ?_
  refine zl_call (d1 := 0 + 1) (q := (0, 0)) (As := [ae_i (xs (x + (1 : Int32)).toNatClampNeg), ae_i (xs (x + (2 : Int32)).toNatClampNeg)]) dL_law_368 ww_1053 vy_X11_view rfl rfl rfl rfl rfl (Nat.le_of_ble_eq_true rfl) (by omega) (c_X11_view 0 e1) ?_
  refine zl_aload_n 2 dL_law_371 rfl ?_
  refine zl_aload_n 0 dL_law_372 rfl ?_
  refine zl_iload_n 3 dL_law_373 rfl ?_
  refine zl_iconst 1 dL_law_374 (by decide) ?_
  refine zl_iadd dL_law_375 ?_
  refine zl_sld dL_law_376 hi1 ?_
  refine zl_aload_n 0 dL_law_377 rfl ?_
  refine zl_iload_n 3 dL_law_378 rfl ?_
  refine zl_iconst 2 dL_law_379 (by decide) ?_
  refine zl_iadd dL_law_380 ?_
  refine zl_sld dL_law_381 hi2 ?_
  refine zl_call (d1 := 0 + 2) (q := (30, 0)) (As := [ae_i (xs (x + (1 : Int32)).toNatClampNeg), ae_i (xs (x + (2 : Int32)).toNatClampNeg)]) dL_law_382 ww_1825 vy_X12_view rfl rfl rfl rfl rfl (Nat.le_of_ble_eq_true rfl) (by omega) (c_X12_view 0 e2) ?_
  exact zl_icmp_eq 1257 dL_law_385 (by decide) (fun _ => hk σ2 hI2) (fun h => absurd rfl h)
/-- promise: named -/
def zp_named (Inv : ae_S → Prop) : Prop := ∀ (σ : ae_S), Inv σ → ∃ (r : Int32) (σ1 σ2 : ae_S), F_X11_named σ = some (r, σ1) ∧ F_X12_named σ1 = some (r, σ2) ∧ Inv σ2
theorem zc_8 {l : Launch} {G : ae_G} {b L : Nat} {xs : Nat → Int32} {Inv : ae_S → Prop} (hp : zp_named Inv) {x : Int32} (hin : zl_in L x) (hk : ∀ σ, Inv σ → zl_T l G b L xs 1257 (zl_lv x) [] σ) {σ : ae_S} (hI : Inv σ) : zl_T l G b L xs 390 (zl_lv x) [] σ := by
  obtain ⟨hi0, hi1, hi2, hi3, hi4, hi5⟩ := hin
  obtain ⟨r, σ1, σ2, e1, e2, hI2⟩ := hp σ hI
  refine zl_aload_n 1 dL_law_390 rfl ?_
  refine zl_call (d1 := 0 + 9) (q := (0, 0)) (As := []) dL_law_391 ww_1062 vy_X11_named rfl rfl rfl rfl rfl (Nat.le_of_ble_eq_true rfl) (by omega) (c_X11_named 0 e1) ?_
  refine zl_aload_n 2 dL_law_394 rfl ?_
  refine zl_call (d1 := 0 + 9) (q := (30, 0)) (As := []) dL_law_395 ww_1623 vy_X12_named rfl rfl rfl rfl rfl (Nat.le_of_ble_eq_true rfl) (by omega) (c_X12_named 0 e2) ?_
  exact zl_icmp_eq 1257 dL_law_398 (by decide) (fun _ => hk σ2 hI2) (fun h => absurd rfl h)
/-- promise: read -/
def zp_read (Inv : ae_S → Prop) : Prop := ∀ (v1 : Int32) (v2 : Int32) (σ : ae_S), Inv σ → ∃ (r : Int64) (σ1 σ2 : ae_S), F_X11_read v1 v2 σ = some (r, σ1) ∧ F_X12_read v1 v2 σ1 = some (r, σ2) ∧ Inv σ2
theorem zc_9 {l : Launch} {G : ae_G} {b L : Nat} {xs : Nat → Int32} {Inv : ae_S → Prop} (hp : zp_read Inv) {x : Int32} (hin : zl_in L x) (hk : ∀ σ, Inv σ → zl_T l G b L xs 1257 (zl_lv x) [] σ) {σ : ae_S} (hI : Inv σ) : zl_T l G b L xs 403 (zl_lv x) [] σ := by
  obtain ⟨hi0, hi1, hi2, hi3, hi4, hi5⟩ := hin
  obtain ⟨r, σ1, σ2, e1, e2, hI2⟩ := hp ((xs (x + (1 : Int32)).toNatClampNeg)) ((xs (x + (2 : Int32)).toNatClampNeg)) σ hI
  refine zl_aload_n 1 dL_law_403 rfl ?_
  refine zl_aload_n 0 dL_law_404 rfl ?_
  refine zl_iload_n 3 dL_law_405 rfl ?_
  refine zl_iconst 1 dL_law_406 (by decide) ?_
  refine zl_iadd dL_law_407 ?_
  refine zl_sld dL_law_408 hi1 ?_
  refine zl_aload_n 0 dL_law_409 rfl ?_
  refine zl_iload_n 3 dL_law_410 rfl ?_
  refine zl_iconst 2 dL_law_411 (by decide) ?_
  refine zl_iadd dL_law_412 ?_
  refine zl_sld dL_law_413 hi2 ?_
  refine zl_call (d1 := 0 + 6) (q := (0, 0)) (As := [ae_i (xs (x + (1 : Int32)).toNatClampNeg), ae_i (xs (x + (2 : Int32)).toNatClampNeg)]) dL_law_414 ww_1071 vy_X11_read rfl rfl rfl rfl rfl (Nat.le_of_ble_eq_true rfl) (by omega) (c_X11_read 0 e1) ?_
  refine zl_aload_n 2 dL_law_417 rfl ?_
  refine zl_aload_n 0 dL_law_418 rfl ?_
  refine zl_iload_n 3 dL_law_419 rfl ?_
  refine zl_iconst 1 dL_law_420 (by decide) ?_
  refine zl_iadd dL_law_421 ?_
  refine zl_sld dL_law_422 hi1 ?_
  refine zl_aload_n 0 dL_law_423 rfl ?_
  refine zl_iload_n 3 dL_law_424 rfl ?_
  refine zl_iconst 2 dL_law_425 (by decide) ?_
  refine zl_iadd dL_law_426 ?_
  refine zl_sld dL_law_427 hi2 ?_
  refine zl_call (d1 := 0 + 4) (q := (30, 0)) (As := [ae_i (xs (x + (1 : Int32)).toNatClampNeg), ae_i (xs (x + (2 : Int32)).toNatClampNeg)]) dL_law_428 ww_1627 vy_X12_read rfl rfl rfl rfl rfl (Nat.le_of_ble_eq_true rfl) (by omega) (c_X12_read 0 e2) ?_
  refine zl_lcmp dL_law_431 ?_
  exact zl_if_eq 1257 dL_law_432 (by decide) (fun _ => hk σ2 hI2) (fun h => absurd (zl_cmp r) h)
/-- promise: peek -/
def zp_peek (Inv : ae_S → Prop) : Prop := ∀ (v1 : Int32) (v2 : Int32) (σ : ae_S), Inv σ → ∃ (r : Int64) (σ1 σ2 : ae_S), F_X11_peek v1 v2 σ = some (r, σ1) ∧ F_X12_peek v1 v2 σ1 = some (r, σ2) ∧ Inv σ2
theorem zc_10 {l : Launch} {G : ae_G} {b L : Nat} {xs : Nat → Int32} {Inv : ae_S → Prop} (hp : zp_peek Inv) {x : Int32} (hin : zl_in L x) (hk : ∀ σ, Inv σ → zl_T l G b L xs 1257 (zl_lv x) [] σ) {σ : ae_S} (hI : Inv σ) : zl_T l G b L xs 437 (zl_lv x) [] σ := by
  obtain ⟨hi0, hi1, hi2, hi3, hi4, hi5⟩ := hin
  obtain ⟨r, σ1, σ2, e1, e2, hI2⟩ := hp ((xs (x + (1 : Int32)).toNatClampNeg)) ((xs (x + (2 : Int32)).toNatClampNeg)) σ hI
  refine zl_aload_n 1 dL_law_437 rfl ?_
  refine zl_aload_n 0 dL_law_438 rfl ?_
  refine zl_iload_n 3 dL_law_439 rfl ?_
  refine zl_iconst 1 dL_law_440 (by decide) ?_
  refine zl_iadd dL_law_441 ?_
  refine zl_sld dL_law_442 hi1 ?_
  refine zl_aload_n 0 dL_law_443 rfl ?_
  refine zl_iload_n 3 dL_law_444 rfl ?_
  refine zl_iconst 2 dL_law_445 (by decide) ?_
  refine zl_iadd dL_law_446 ?_
  refine zl_sld dL_law_447 hi2 ?_
  refine zl_call (d1 := 0 + 6) (q := (0, 0)) (As := [ae_i (xs (x + (1 : Int32)).toNatClampNeg), ae_i (xs (x + (2 : Int32)).toNatClampNeg)]) dL_law_448 ww_1084 vy_X11_peek rfl rfl rfl rfl rfl (Nat.le_of_ble_eq_true rfl) (by omega) (c_X11_peek 0 e1) ?_
  refine zl_aload_n 2 dL_law_451 rfl ?_
  refine zl_aload_n 0 dL_law_452 rfl ?_
  refine zl_iload_n 3 dL_law_453 rfl ?_
  refine zl_iconst 1 dL_law_454 (by decide) ?_
  refine zl_iadd dL_law_455 ?_
  refine zl_sld dL_law_456 hi1 ?_
  refine zl_aload_n 0 dL_law_457 rfl ?_
  refine zl_iload_n 3 dL_law_458 rfl ?_
  refine zl_iconst 2 dL_law_459 (by decide) ?_
  refine zl_iadd dL_law_460 ?_
  refine zl_sld dL_law_461 hi2 ?_
  refine zl_call (d1 := 0 + 4) (q := (30, 0)) (As := [ae_i (xs (x + (1 : Int32)).toNatClampNeg), ae_i (xs (x + (2 : Int32)).toNatClampNeg)]) dL_law_462 ww_1691 vy_X12_peek rfl rfl rfl rfl rfl (Nat.le_of_ble_eq_true rfl) (by omega) (c_X12_peek 0 e2) ?_
  refine zl_lcmp dL_law_465 ?_
  exact zl_if_eq 1257 dL_law_466 (by decide) (fun _ => hk σ2 hI2) (fun h => absurd (zl_cmp r) h)
/-- promise: field -/
def zp_field (Inv : ae_S → Prop) : Prop := ∀ (v1 : Int32) (v2 : Int32) (v3 : Int32) (σ : ae_S), Inv σ → ∃ (r : Int64) (σ1 σ2 : ae_S), F_X11_field v1 v2 v3 σ = some (r, σ1) ∧ F_X12_field v1 v2 v3 σ1 = some (r, σ2) ∧ Inv σ2
theorem zc_11 {l : Launch} {G : ae_G} {b L : Nat} {xs : Nat → Int32} {Inv : ae_S → Prop} (hp : zp_field Inv) {x : Int32} (hin : zl_in L x) (hk : ∀ σ, Inv σ → zl_T l G b L xs 1257 (zl_lv x) [] σ) {σ : ae_S} (hI : Inv σ) : zl_T l G b L xs 471 (zl_lv x) [] σ := by
  obtain ⟨hi0, hi1, hi2, hi3, hi4, hi5⟩ := hin
  obtain ⟨r, σ1, σ2, e1, e2, hI2⟩ := hp ((xs (x + (1 : Int32)).toNatClampNeg)) ((xs (x + (2 : Int32)).toNatClampNeg)) ((xs (x + (3 : Int32)).toNatClampNeg)) σ hI
  refine zl_aload_n 1 dL_law_471 rfl ?_
  refine zl_aload_n 0 dL_law_472 rfl ?_
  refine zl_iload_n 3 dL_law_473 rfl ?_
  refine zl_iconst 1 dL_law_474 (by decide) ?_
  refine zl_iadd dL_law_475 ?_
  refine zl_sld dL_law_476 hi1 ?_
  refine zl_aload_n 0 dL_law_477 rfl ?_
  refine zl_iload_n 3 dL_law_478 rfl ?_
  refine zl_iconst 2 dL_law_479 (by decide) ?_
  refine zl_iadd dL_law_480 ?_
  refine zl_sld dL_law_481 hi2 ?_
  refine zl_aload_n 0 dL_law_482 rfl ?_
  refine zl_iload_n 3 dL_law_483 rfl ?_
  refine zl_iconst 3 dL_law_484 (by decide) ?_
  refine zl_iadd dL_law_485 ?_
  refine zl_sld dL_law_486 hi3 ?_
  refine zl_call (d1 := 0 + 2) (q := (0, 0)) (As := [ae_i (xs (x + (1 : Int32)).toNatClampNeg), ae_i (xs (x + (2 : Int32)).toNatClampNeg), ae_i (xs (x + (3 : Int32)).toNatClampNeg)]) dL_law_487 ww_1088 vy_X11_field rfl rfl rfl rfl rfl (Nat.le_of_ble_eq_true rfl) (by omega) (c_X11_field 0 e1) ?_
  refine zl_aload_n 2 dL_law_490 rfl ?_
  refine zl_aload_n 0 dL_law_491 rfl ?_
  refine zl_iload_n 3 dL_law_492 rfl ?_
  refine zl_iconst 1 dL_law_493 (by decide) ?_
  refine zl_iadd dL_law_494 ?_
  refine zl_sld dL_law_495 hi1 ?_
  refine zl_aload_n 0 dL_law_496 rfl ?_
  refine zl_iload_n 3 dL_law_497 rfl ?_
  refine zl_iconst 2 dL_law_498 (by decide) ?_
  refine zl_iadd dL_law_499 ?_
  refine zl_sld dL_law_500 hi2 ?_
  refine zl_aload_n 0 dL_law_501 rfl ?_
  refine zl_iload_n 3 dL_law_502 rfl ?_
  refine zl_iconst 3 dL_law_503 (by decide) ?_
  refine zl_iadd dL_law_504 ?_
  refine zl_sld dL_law_505 hi3 ?_
  refine zl_call (d1 := 0 + 3) (q := (30, 0)) (As := [ae_i (xs (x + (1 : Int32)).toNatClampNeg), ae_i (xs (x + (2 : Int32)).toNatClampNeg), ae_i (xs (x + (3 : Int32)).toNatClampNeg)]) dL_law_506 ww_1695 vy_X12_field rfl rfl rfl rfl rfl (Nat.le_of_ble_eq_true rfl) (by omega) (c_X12_field 0 e2) ?_
  refine zl_lcmp dL_law_509 ?_
  exact zl_if_eq 1257 dL_law_510 (by decide) (fun _ => hk σ2 hI2) (fun h => absurd (zl_cmp r) h)
/-- promise: write -/
def zp_write (Inv : ae_S → Prop) : Prop := ∀ (v1 : Int32) (v2 : Int32) (v3 : Int64) (σ : ae_S), Inv σ → ∃ (r : Int32) (σ1 σ2 : ae_S), F_X11_write v1 v2 v3 σ = some (r, σ1) ∧ F_X12_write v1 v2 v3 σ1 = some (r, σ2) ∧ Inv σ2
theorem zc_12 {l : Launch} {G : ae_G} {b L : Nat} {xs : Nat → Int32} {Inv : ae_S → Prop} (hp : zp_write Inv) {x : Int32} (hin : zl_in L x) (hk : ∀ σ, Inv σ → zl_T l G b L xs 1257 (zl_lv x) [] σ) {σ : ae_S} (hI : Inv σ) : zl_T l G b L xs 515 (zl_lv x) [] σ := by
  obtain ⟨hi0, hi1, hi2, hi3, hi4, hi5⟩ := hin
  obtain ⟨r, σ1, σ2, e1, e2, hI2⟩ := hp ((xs (x + (1 : Int32)).toNatClampNeg)) ((xs (x + (2 : Int32)).toNatClampNeg)) ((((xs (x + (3 : Int32)).toNatClampNeg).toInt64 <<< ((32 : Int32).toInt64 &&& 63)) ||| ((xs (x + (4 : Int32)).toNatClampNeg).toInt64 &&& (4294967295 : Int64)))) σ hI
  refine zl_aload_n 1 dL_law_515 rfl ?_
  refine zl_aload_n 0 dL_law_516 rfl ?_
  refine zl_iload_n 3 dL_law_517 rfl ?_
  refine zl_iconst 1 dL_law_518 (by decide) ?_
  refine zl_iadd dL_law_519 ?_
  refine zl_sld dL_law_520 hi1 ?_
  refine zl_aload_n 0 dL_law_521 rfl ?_
  refine zl_iload_n 3 dL_law_522 rfl ?_
  refine zl_iconst 2 dL_law_523 (by decide) ?_
  refine zl_iadd dL_law_524 ?_
  refine zl_sld dL_law_525 hi2 ?_
  refine zl_aload_n 0 dL_law_526 rfl ?_
  refine zl_iload_n 3 dL_law_527 rfl ?_
  refine zl_iconst 3 dL_law_528 (by decide) ?_
  refine zl_iadd dL_law_529 ?_
  refine zl_sld dL_law_530 hi3 ?_
  refine zl_i2l dL_law_531 ?_
  refine zl_bipush 32 dL_law_532 (by decide) ?_
  refine zl_lshl dL_law_534 ?_
  refine zl_aload_n 0 dL_law_535 rfl ?_
  refine zl_iload_n 3 dL_law_536 rfl ?_
  refine zl_iconst 4 dL_law_537 (by decide) ?_
  refine zl_iadd dL_law_538 ?_
  refine zl_sld dL_law_539 hi4 ?_
  refine zl_i2l dL_law_540 ?_
  refine zl_ldc2 dL_law_541 ww_1939 ?_
  refine zl_land dL_law_544 ?_
  refine zl_lor dL_law_545 ?_
  refine zl_call (d1 := 0 + 5) (q := (0, 0)) (As := [ae_i (xs (x + (1 : Int32)).toNatClampNeg), ae_i (xs (x + (2 : Int32)).toNatClampNeg), ae_l (((xs (x + (3 : Int32)).toNatClampNeg).toInt64 <<< ((32 : Int32).toInt64 &&& 63)) ||| ((xs (x + (4 : Int32)).toNatClampNeg).toInt64 &&& (4294967295 : Int64)))]) dL_law_546 ww_1095 vy_X11_write rfl rfl rfl rfl rfl (Nat.le_of_ble_eq_true rfl) (by omega) (c_X11_write 0 e1) ?_
  refine zl_aload_n 2 dL_law_549 rfl ?_
  refine zl_aload_n 0 dL_law_550 rfl ?_
  refine zl_iload_n 3 dL_law_551 rfl ?_
  refine zl_iconst 1 dL_law_552 (by decide) ?_
  refine zl_iadd dL_law_553 ?_
  refine zl_sld dL_law_554 hi1 ?_
  refine zl_aload_n 0 dL_law_555 rfl ?_
  refine zl_iload_n 3 dL_law_556 rfl ?_
  refine zl_iconst 2 dL_law_557 (by decide) ?_
  refine zl_iadd dL_law_558 ?_
  refine zl_sld dL_law_559 hi2 ?_
  refine zl_aload_n 0 dL_law_560 rfl ?_
  refine zl_iload_n 3 dL_law_561 rfl ?_
  refine zl_iconst 3 dL_law_562 (by decide) ?_
  refine zl_iadd dL_law_563 ?_
  refine zl_sld dL_law_564 hi3 ?_
  refine zl_i2l dL_law_565 ?_
  refine zl_bipush 32 dL_law_566 (by decide) ?_
  refine zl_lshl dL_law_568 ?_
  refine zl_aload_n 0 dL_law_569 rfl ?_
  refine zl_iload_n 3 dL_law_570 rfl ?_
  refine zl_iconst 4 dL_law_571 (by decide) ?_
  refine zl_iadd dL_law_572 ?_
  refine zl_sld dL_law_573 hi4 ?_
  refine zl_i2l dL_law_574 ?_
  refine zl_ldc2 dL_law_575 ww_1939 ?_
  refine zl_land dL_law_578 ?_
  refine zl_lor dL_law_579 ?_
  refine zl_call (d1 := 0 + 3) (q := (30, 0)) (As := [ae_i (xs (x + (1 : Int32)).toNatClampNeg), ae_i (xs (x + (2 : Int32)).toNatClampNeg), ae_l (((xs (x + (3 : Int32)).toNatClampNeg).toInt64 <<< ((32 : Int32).toInt64 &&& 63)) ||| ((xs (x + (4 : Int32)).toNatClampNeg).toInt64 &&& (4294967295 : Int64)))]) dL_law_580 ww_1707 vy_X12_write rfl rfl rfl rfl rfl (Nat.le_of_ble_eq_true rfl) (by omega) (c_X12_write 0 e2) ?_
  exact zl_icmp_eq 1257 dL_law_583 (by decide) (fun _ => hk σ2 hI2) (fun h => absurd rfl h)
/-- promise: writeFloat -/
def zp_writeFloat (Inv : ae_S → Prop) : Prop := ∀ (v1 : Int32) (v2 : Int32) (v3 : Int64) (σ : ae_S), Inv σ → ∃ (r : Int32) (σ1 σ2 : ae_S), F_X11_writeFloat v1 v2 v3 σ = some (r, σ1) ∧ F_X12_writeFloat v1 v2 v3 σ1 = some (r, σ2) ∧ Inv σ2
theorem zc_13 {l : Launch} {G : ae_G} {b L : Nat} {xs : Nat → Int32} {Inv : ae_S → Prop} (hp : zp_writeFloat Inv) {x : Int32} (hin : zl_in L x) (hk : ∀ σ, Inv σ → zl_T l G b L xs 1257 (zl_lv x) [] σ) {σ : ae_S} (hI : Inv σ) : zl_T l G b L xs 588 (zl_lv x) [] σ := by
  obtain ⟨hi0, hi1, hi2, hi3, hi4, hi5⟩ := hin
  obtain ⟨r, σ1, σ2, e1, e2, hI2⟩ := hp ((xs (x + (1 : Int32)).toNatClampNeg)) ((xs (x + (2 : Int32)).toNatClampNeg)) ((((xs (x + (3 : Int32)).toNatClampNeg).toInt64 <<< ((32 : Int32).toInt64 &&& 63)) ||| ((xs (x + (4 : Int32)).toNatClampNeg).toInt64 &&& (4294967295 : Int64)))) σ hI
  refine zl_aload_n 1 dL_law_588 rfl ?_
  refine zl_aload_n 0 dL_law_589 rfl ?_
  refine zl_iload_n 3 dL_law_590 rfl ?_
  refine zl_iconst 1 dL_law_591 (by decide) ?_
  refine zl_iadd dL_law_592 ?_
  refine zl_sld dL_law_593 hi1 ?_
  refine zl_aload_n 0 dL_law_594 rfl ?_
  refine zl_iload_n 3 dL_law_595 rfl ?_
  refine zl_iconst 2 dL_law_596 (by decide) ?_
  refine zl_iadd dL_law_597 ?_
  refine zl_sld dL_law_598 hi2 ?_
  refine zl_aload_n 0 dL_law_599 rfl ?_
  refine zl_iload_n 3 dL_law_600 rfl ?_
  refine zl_iconst 3 dL_law_601 (by decide) ?_
  refine zl_iadd dL_law_602 ?_
  refine zl_sld dL_law_603 hi3 ?_
  refine zl_i2l dL_law_604 ?_
  refine zl_bipush 32 dL_law_605 (by decide) ?_
  refine zl_lshl dL_law_607 ?_
  refine zl_aload_n 0 dL_law_608 rfl ?_
  refine zl_iload_n 3 dL_law_609 rfl ?_
  refine zl_iconst 4 dL_law_610 (by decide) ?_
  refine zl_iadd dL_law_611 ?_
  refine zl_sld dL_law_612 hi4 ?_
  refine zl_i2l dL_law_613 ?_
  refine zl_ldc2 dL_law_614 ww_1939 ?_
  refine zl_land dL_law_617 ?_
  refine zl_lor dL_law_618 ?_
  refine zl_call (d1 := 0 + 5) (q := (0, 0)) (As := [ae_i (xs (x + (1 : Int32)).toNatClampNeg), ae_i (xs (x + (2 : Int32)).toNatClampNeg), ae_l (((xs (x + (3 : Int32)).toNatClampNeg).toInt64 <<< ((32 : Int32).toInt64 &&& 63)) ||| ((xs (x + (4 : Int32)).toNatClampNeg).toInt64 &&& (4294967295 : Int64)))]) dL_law_619 ww_1102 vy_X11_writeFloat rfl rfl rfl rfl rfl (Nat.le_of_ble_eq_true rfl) (by omega) (c_X11_writeFloat 0 e1) ?_
  refine zl_aload_n 2 dL_law_622 rfl ?_
  refine zl_aload_n 0 dL_law_623 rfl ?_
  refine zl_iload_n 3 dL_law_624 rfl ?_
  refine zl_iconst 1 dL_law_625 (by decide) ?_
  refine zl_iadd dL_law_626 ?_
  refine zl_sld dL_law_627 hi1 ?_
  refine zl_aload_n 0 dL_law_628 rfl ?_
  refine zl_iload_n 3 dL_law_629 rfl ?_
  refine zl_iconst 2 dL_law_630 (by decide) ?_
  refine zl_iadd dL_law_631 ?_
  refine zl_sld dL_law_632 hi2 ?_
  refine zl_aload_n 0 dL_law_633 rfl ?_
  refine zl_iload_n 3 dL_law_634 rfl ?_
  refine zl_iconst 3 dL_law_635 (by decide) ?_
  refine zl_iadd dL_law_636 ?_
  refine zl_sld dL_law_637 hi3 ?_
  refine zl_i2l dL_law_638 ?_
  refine zl_bipush 32 dL_law_639 (by decide) ?_
  refine zl_lshl dL_law_641 ?_
  refine zl_aload_n 0 dL_law_642 rfl ?_
  refine zl_iload_n 3 dL_law_643 rfl ?_
  refine zl_iconst 4 dL_law_644 (by decide) ?_
  refine zl_iadd dL_law_645 ?_
  refine zl_sld dL_law_646 hi4 ?_
  refine zl_i2l dL_law_647 ?_
  refine zl_ldc2 dL_law_648 ww_1939 ?_
  refine zl_land dL_law_651 ?_
  refine zl_lor dL_law_652 ?_
  refine zl_call (d1 := 0 + 3) (q := (30, 0)) (As := [ae_i (xs (x + (1 : Int32)).toNatClampNeg), ae_i (xs (x + (2 : Int32)).toNatClampNeg), ae_l (((xs (x + (3 : Int32)).toNatClampNeg).toInt64 <<< ((32 : Int32).toInt64 &&& 63)) ||| ((xs (x + (4 : Int32)).toNatClampNeg).toInt64 &&& (4294967295 : Int64)))]) dL_law_653 ww_1719 vy_X12_writeFloat rfl rfl rfl rfl rfl (Nat.le_of_ble_eq_true rfl) (by omega) (c_X12_writeFloat 0 e2) ?_
  exact zl_icmp_eq 1257 dL_law_656 (by decide) (fun _ => hk σ2 hI2) (fun h => absurd rfl h)
/-- promise: at -/
def zp_at (Inv : ae_S → Prop) : Prop := ∀ (v1 : Int32) (σ : ae_S), Inv σ → ∃ (r : Int32) (σ1 σ2 : ae_S), F_X11_at v1 σ = some (r, σ1) ∧ F_X12_at v1 σ1 = some (r, σ2) ∧ Inv σ2
theorem zc_14 {l : Launch} {G : ae_G} {b L : Nat} {xs : Nat → Int32} {Inv : ae_S → Prop} (hp : zp_at Inv) {x : Int32} (hin : zl_in L x) (hk : ∀ σ, Inv σ → zl_T l G b L xs 1257 (zl_lv x) [] σ) {σ : ae_S} (hI : Inv σ) : zl_T l G b L xs 661 (zl_lv x) [] σ := by
  obtain ⟨hi0, hi1, hi2, hi3, hi4, hi5⟩ := hin
  obtain ⟨r, σ1, σ2, e1, e2, hI2⟩ := hp ((xs (x + (1 : Int32)).toNatClampNeg)) σ hI
  refine zl_aload_n 1 dL_law_661 rfl ?_
  refine zl_aload_n 0 dL_law_662 rfl ?_
  refine zl_iload_n 3 dL_law_663 rfl ?_
  refine zl_iconst 1 dL_law_664 (by decide) ?_
  refine zl_iadd dL_law_665 ?_
  refine zl_sld dL_law_666 hi1 ?_
  refine zl_call (d1 := 0 + 1) (q := (0, 0)) (As := [ae_i (xs (x + (1 : Int32)).toNatClampNeg)]) dL_law_667 ww_1107 vy_X11_at rfl rfl rfl rfl rfl (Nat.le_of_ble_eq_true rfl) (by omega) (c_X11_at 0 e1) ?_
  refine zl_aload_n 2 dL_law_670 rfl ?_
  refine zl_aload_n 0 dL_law_671 rfl ?_
  refine zl_iload_n 3 dL_law_672 rfl ?_
  refine zl_iconst 1 dL_law_673 (by decide) ?_
  refine zl_iadd dL_law_674 ?_
  refine zl_sld dL_law_675 hi1 ?_
  refine zl_call (d1 := 0 + 1) (q := (30, 0)) (As := [ae_i (xs (x + (1 : Int32)).toNatClampNeg)]) dL_law_676 ww_1476 vy_X12_at rfl rfl rfl rfl rfl (Nat.le_of_ble_eq_true rfl) (by omega) (c_X12_at 0 e2) ?_
  exact zl_icmp_eq 1257 dL_law_679 (by decide) (fun _ => hk σ2 hI2) (fun h => absurd rfl h)
/-- promise: poke -/
def zp_poke (Inv : ae_S → Prop) : Prop := ∀ (v1 : Int32) (v2 : Int32) (σ : ae_S), Inv σ → ∃ (r : Int32) (σ1 σ2 : ae_S), F_X11_poke v1 v2 σ = some (r, σ1) ∧ F_X12_poke v1 v2 σ1 = some (r, σ2) ∧ Inv σ2
theorem zc_15 {l : Launch} {G : ae_G} {b L : Nat} {xs : Nat → Int32} {Inv : ae_S → Prop} (hp : zp_poke Inv) {x : Int32} (hin : zl_in L x) (hk : ∀ σ, Inv σ → zl_T l G b L xs 1257 (zl_lv x) [] σ) {σ : ae_S} (hI : Inv σ) : zl_T l G b L xs 684 (zl_lv x) [] σ := by
  obtain ⟨hi0, hi1, hi2, hi3, hi4, hi5⟩ := hin
  obtain ⟨r, σ1, σ2, e1, e2, hI2⟩ := hp ((xs (x + (1 : Int32)).toNatClampNeg)) ((xs (x + (2 : Int32)).toNatClampNeg)) σ hI
  refine zl_aload_n 1 dL_law_684 rfl ?_
  refine zl_aload_n 0 dL_law_685 rfl ?_
  refine zl_iload_n 3 dL_law_686 rfl ?_
  refine zl_iconst 1 dL_law_687 (by decide) ?_
  refine zl_iadd dL_law_688 ?_
  refine zl_sld dL_law_689 hi1 ?_
  refine zl_aload_n 0 dL_law_690 rfl ?_
  refine zl_iload_n 3 dL_law_691 rfl ?_
  refine zl_iconst 2 dL_law_692 (by decide) ?_
  refine zl_iadd dL_law_693 ?_
  refine zl_sld dL_law_694 hi2 ?_
  refine zl_call (d1 := 0 + 2) (q := (0, 0)) (As := [ae_i (xs (x + (1 : Int32)).toNatClampNeg), ae_i (xs (x + (2 : Int32)).toNatClampNeg)]) dL_law_695 ww_1116 vy_X11_poke rfl rfl rfl rfl rfl (Nat.le_of_ble_eq_true rfl) (by omega) (c_X11_poke 0 e1) ?_
  refine zl_aload_n 2 dL_law_698 rfl ?_
  refine zl_aload_n 0 dL_law_699 rfl ?_
  refine zl_iload_n 3 dL_law_700 rfl ?_
  refine zl_iconst 1 dL_law_701 (by decide) ?_
  refine zl_iadd dL_law_702 ?_
  refine zl_sld dL_law_703 hi1 ?_
  refine zl_aload_n 0 dL_law_704 rfl ?_
  refine zl_iload_n 3 dL_law_705 rfl ?_
  refine zl_iconst 2 dL_law_706 (by decide) ?_
  refine zl_iadd dL_law_707 ?_
  refine zl_sld dL_law_708 hi2 ?_
  refine zl_call (d1 := 0 + 1) (q := (30, 0)) (As := [ae_i (xs (x + (1 : Int32)).toNatClampNeg), ae_i (xs (x + (2 : Int32)).toNatClampNeg)]) dL_law_709 ww_1480 vy_X12_poke rfl rfl rfl rfl rfl (Nat.le_of_ble_eq_true rfl) (by omega) (c_X12_poke 0 e2) ?_
  exact zl_icmp_eq 1257 dL_law_712 (by decide) (fun _ => hk σ2 hI2) (fun h => absurd rfl h)
/-- promise: changed -/
def zp_changed (Inv : ae_S → Prop) : Prop := ∀ (v1 : Int32) (σ : ae_S), Inv σ → ∃ (r : Int32) (σ1 σ2 : ae_S), F_X11_changed v1 σ = some (r, σ1) ∧ F_X12_changed v1 σ1 = some (r, σ2) ∧ Inv σ2
theorem zc_16 {l : Launch} {G : ae_G} {b L : Nat} {xs : Nat → Int32} {Inv : ae_S → Prop} (hp : zp_changed Inv) {x : Int32} (hin : zl_in L x) (hk : ∀ σ, Inv σ → zl_T l G b L xs 1257 (zl_lv x) [] σ) {σ : ae_S} (hI : Inv σ) : zl_T l G b L xs 717 (zl_lv x) [] σ := by
  obtain ⟨hi0, hi1, hi2, hi3, hi4, hi5⟩ := hin
  obtain ⟨r, σ1, σ2, e1, e2, hI2⟩ := hp ((xs (x + (1 : Int32)).toNatClampNeg)) σ hI
  refine zl_aload_n 1 dL_law_717 rfl ?_
  refine zl_aload_n 0 dL_law_718 rfl ?_
  refine zl_iload_n 3 dL_law_719 rfl ?_
  refine zl_iconst 1 dL_law_720 (by decide) ?_
  refine zl_iadd dL_law_721 ?_
  refine zl_sld dL_law_722 hi1 ?_
  refine zl_call (d1 := 0 + 1) (q := (0, 0)) (As := [ae_i (xs (x + (1 : Int32)).toNatClampNeg)]) dL_law_723 ww_1121 vy_X11_changed rfl rfl rfl rfl rfl (Nat.le_of_ble_eq_true rfl) (by omega) (c_X11_changed 0 e1) ?_
  refine zl_aload_n 2 dL_law_726 rfl ?_
  refine zl_aload_n 0 dL_law_727 rfl ?_
  refine zl_iload_n 3 dL_law_728 rfl ?_
  refine zl_iconst 1 dL_law_729 (by decide) ?_
  refine zl_iadd dL_law_730 ?_
  refine zl_sld dL_law_731 hi1 ?_
  refine zl_call (d1 := 0) (q := (30, 0)) (As := [ae_i (xs (x + (1 : Int32)).toNatClampNeg)]) dL_law_732 ww_1484 vy_X12_changed rfl rfl rfl rfl rfl (Nat.le_of_ble_eq_true rfl) (by omega) (c_X12_changed 0 e2) ?_
  exact zl_icmp_eq 1257 dL_law_735 (by decide) (fun _ => hk σ2 hI2) (fun h => absurd rfl h)
/-- promise: seen -/
def zp_seen (Inv : ae_S → Prop) : Prop := ∀ (v1 : Int32) (v2 : Int32) (σ : ae_S), Inv σ → ∃ (r : Int32) (σ1 σ2 : ae_S), F_X11_seen v1 v2 σ = some (r, σ1) ∧ F_X12_seen v1 v2 σ1 = some (r, σ2) ∧ Inv σ2
theorem zc_17 {l : Launch} {G : ae_G} {b L : Nat} {xs : Nat → Int32} {Inv : ae_S → Prop} (hp : zp_seen Inv) {x : Int32} (hin : zl_in L x) (hk : ∀ σ, Inv σ → zl_T l G b L xs 1257 (zl_lv x) [] σ) {σ : ae_S} (hI : Inv σ) : zl_T l G b L xs 740 (zl_lv x) [] σ := by
  obtain ⟨hi0, hi1, hi2, hi3, hi4, hi5⟩ := hin
  obtain ⟨r, σ1, σ2, e1, e2, hI2⟩ := hp ((xs (x + (1 : Int32)).toNatClampNeg)) ((xs (x + (2 : Int32)).toNatClampNeg)) σ hI
  refine zl_aload_n 1 dL_law_740 rfl ?_
  refine zl_aload_n 0 dL_law_741 rfl ?_
  refine zl_iload_n 3 dL_law_742 rfl ?_
  refine zl_iconst 1 dL_law_743 (by decide) ?_
  refine zl_iadd dL_law_744 ?_
  refine zl_sld dL_law_745 hi1 ?_
  refine zl_aload_n 0 dL_law_746 rfl ?_
  refine zl_iload_n 3 dL_law_747 rfl ?_
  refine zl_iconst 2 dL_law_748 (by decide) ?_
  refine zl_iadd dL_law_749 ?_
  refine zl_sld dL_law_750 hi2 ?_
  refine zl_call (d1 := 0 + 2) (q := (0, 0)) (As := [ae_i (xs (x + (1 : Int32)).toNatClampNeg), ae_i (xs (x + (2 : Int32)).toNatClampNeg)]) dL_law_751 ww_1129 vy_X11_seen rfl rfl rfl rfl rfl (Nat.le_of_ble_eq_true rfl) (by omega) (c_X11_seen 0 e1) ?_
  refine zl_aload_n 2 dL_law_754 rfl ?_
  refine zl_aload_n 0 dL_law_755 rfl ?_
  refine zl_iload_n 3 dL_law_756 rfl ?_
  refine zl_iconst 1 dL_law_757 (by decide) ?_
  refine zl_iadd dL_law_758 ?_
  refine zl_sld dL_law_759 hi1 ?_
  refine zl_aload_n 0 dL_law_760 rfl ?_
  refine zl_iload_n 3 dL_law_761 rfl ?_
  refine zl_iconst 2 dL_law_762 (by decide) ?_
  refine zl_iadd dL_law_763 ?_
  refine zl_sld dL_law_764 hi2 ?_
  refine zl_call (d1 := 0 + 3) (q := (30, 0)) (As := [ae_i (xs (x + (1 : Int32)).toNatClampNeg), ae_i (xs (x + (2 : Int32)).toNatClampNeg)]) dL_law_765 ww_1829 vy_X12_seen rfl rfl rfl rfl rfl (Nat.le_of_ble_eq_true rfl) (by omega) (c_X12_seen 0 e2) ?_
  exact zl_icmp_eq 1257 dL_law_768 (by decide) (fun _ => hk σ2 hI2) (fun h => absurd rfl h)
/-- promise: over -/
def zp_over (Inv : ae_S → Prop) : Prop := ∀ (v1 : Int32) (v2 : Int32) (σ : ae_S), Inv σ → ∃ (r : Int32) (σ1 σ2 : ae_S), F_X11_over v1 v2 σ = some (r, σ1) ∧ F_X12_over v1 v2 σ1 = some (r, σ2) ∧ Inv σ2
theorem zc_18 {l : Launch} {G : ae_G} {b L : Nat} {xs : Nat → Int32} {Inv : ae_S → Prop} (hp : zp_over Inv) {x : Int32} (hin : zl_in L x) (hk : ∀ σ, Inv σ → zl_T l G b L xs 1257 (zl_lv x) [] σ) {σ : ae_S} (hI : Inv σ) : zl_T l G b L xs 773 (zl_lv x) [] σ := by
  obtain ⟨hi0, hi1, hi2, hi3, hi4, hi5⟩ := hin
  obtain ⟨r, σ1, σ2, e1, e2, hI2⟩ := hp ((xs (x + (1 : Int32)).toNatClampNeg)) ((xs (x + (2 : Int32)).toNatClampNeg)) σ hI
  refine zl_aload_n 1 dL_law_773 rfl ?_
  refine zl_aload_n 0 dL_law_774 rfl ?_
  refine zl_iload_n 3 dL_law_775 rfl ?_
  refine zl_iconst 1 dL_law_776 (by decide) ?_
  refine zl_iadd dL_law_777 ?_
  refine zl_sld dL_law_778 hi1 ?_
  refine zl_aload_n 0 dL_law_779 rfl ?_
  refine zl_iload_n 3 dL_law_780 rfl ?_
  refine zl_iconst 2 dL_law_781 (by decide) ?_
  refine zl_iadd dL_law_782 ?_
  refine zl_sld dL_law_783 hi2 ?_
  refine zl_call (d1 := 0 + 2) (q := (0, 0)) (As := [ae_i (xs (x + (1 : Int32)).toNatClampNeg), ae_i (xs (x + (2 : Int32)).toNatClampNeg)]) dL_law_784 ww_1138 vy_X11_over rfl rfl rfl rfl rfl (Nat.le_of_ble_eq_true rfl) (by omega) (c_X11_over 0 e1) ?_
  refine zl_aload_n 2 dL_law_787 rfl ?_
  refine zl_aload_n 0 dL_law_788 rfl ?_
  refine zl_iload_n 3 dL_law_789 rfl ?_
  refine zl_iconst 1 dL_law_790 (by decide) ?_
  refine zl_iadd dL_law_791 ?_
  refine zl_sld dL_law_792 hi1 ?_
  refine zl_aload_n 0 dL_law_793 rfl ?_
  refine zl_iload_n 3 dL_law_794 rfl ?_
  refine zl_iconst 2 dL_law_795 (by decide) ?_
  refine zl_iadd dL_law_796 ?_
  refine zl_sld dL_law_797 hi2 ?_
  refine zl_call (d1 := 0 + 3) (q := (30, 0)) (As := [ae_i (xs (x + (1 : Int32)).toNatClampNeg), ae_i (xs (x + (2 : Int32)).toNatClampNeg)]) dL_law_798 ww_1841 vy_X12_over rfl rfl rfl rfl rfl (Nat.le_of_ble_eq_true rfl) (by omega) (c_X12_over 0 e2) ?_
  exact zl_icmp_eq 1257 dL_law_801 (by decide) (fun _ => hk σ2 hI2) (fun h => absurd rfl h)
/-- promise: here -/
def zp_here (Inv : ae_S → Prop) : Prop := ∀ (v1 : Int32) (σ : ae_S), Inv σ → ∃ (r : Int32) (σ1 σ2 : ae_S), F_X11_here v1 σ = some (r, σ1) ∧ F_X12_here v1 σ1 = some (r, σ2) ∧ Inv σ2
theorem zc_19 {l : Launch} {G : ae_G} {b L : Nat} {xs : Nat → Int32} {Inv : ae_S → Prop} (hp : zp_here Inv) {x : Int32} (hin : zl_in L x) (hk : ∀ σ, Inv σ → zl_T l G b L xs 1257 (zl_lv x) [] σ) {σ : ae_S} (hI : Inv σ) : zl_T l G b L xs 806 (zl_lv x) [] σ := by
  obtain ⟨hi0, hi1, hi2, hi3, hi4, hi5⟩ := hin
  obtain ⟨r, σ1, σ2, e1, e2, hI2⟩ := hp ((xs (x + (1 : Int32)).toNatClampNeg)) σ hI
  refine zl_aload_n 1 dL_law_806 rfl ?_
  refine zl_aload_n 0 dL_law_807 rfl ?_
  refine zl_iload_n 3 dL_law_808 rfl ?_
  refine zl_iconst 1 dL_law_809 (by decide) ?_
  refine zl_iadd dL_law_810 ?_
  refine zl_sld dL_law_811 hi1 ?_
  refine zl_call (d1 := 0 + 3) (q := (0, 0)) (As := [ae_i (xs (x + (1 : Int32)).toNatClampNeg)]) dL_law_812 ww_1149 vy_X11_here rfl rfl rfl rfl rfl (Nat.le_of_ble_eq_true rfl) (by omega) (c_X11_here 0 e1) ?_
  refine zl_aload_n 2 dL_law_815 rfl ?_
  refine zl_aload_n 0 dL_law_816 rfl ?_
  refine zl_iload_n 3 dL_law_817 rfl ?_
  refine zl_iconst 1 dL_law_818 (by decide) ?_
  refine zl_iadd dL_law_819 ?_
  refine zl_sld dL_law_820 hi1 ?_
  refine zl_call (d1 := 0 + 3) (q := (30, 0)) (As := [ae_i (xs (x + (1 : Int32)).toNatClampNeg)]) dL_law_821 ww_1849 vy_X12_here rfl rfl rfl rfl rfl (Nat.le_of_ble_eq_true rfl) (by omega) (c_X12_here 0 e2) ?_
  exact zl_icmp_eq 1257 dL_law_824 (by decide) (fun _ => hk σ2 hI2) (fun h => absurd rfl h)
/-- promise: copy -/
def zp_copy (Inv : ae_S → Prop) : Prop := ∀ (v1 : Int32) (v2 : Int32) (σ : ae_S), Inv σ → ∃ (r : Int32) (σ1 σ2 : ae_S), F_X11_copy v1 v2 σ = some (r, σ1) ∧ F_X12_copy v1 v2 σ1 = some (r, σ2) ∧ Inv σ2
theorem zc_20 {l : Launch} {G : ae_G} {b L : Nat} {xs : Nat → Int32} {Inv : ae_S → Prop} (hp : zp_copy Inv) {x : Int32} (hin : zl_in L x) (hk : ∀ σ, Inv σ → zl_T l G b L xs 1257 (zl_lv x) [] σ) {σ : ae_S} (hI : Inv σ) : zl_T l G b L xs 829 (zl_lv x) [] σ := by
  obtain ⟨hi0, hi1, hi2, hi3, hi4, hi5⟩ := hin
  obtain ⟨r, σ1, σ2, e1, e2, hI2⟩ := hp ((xs (x + (1 : Int32)).toNatClampNeg)) ((xs (x + (2 : Int32)).toNatClampNeg)) σ hI
  refine zl_aload_n 1 dL_law_829 rfl ?_
  refine zl_aload_n 0 dL_law_830 rfl ?_
  refine zl_iload_n 3 dL_law_831 rfl ?_
  refine zl_iconst 1 dL_law_832 (by decide) ?_
  refine zl_iadd dL_law_833 ?_
  refine zl_sld dL_law_834 hi1 ?_
  refine zl_aload_n 0 dL_law_835 rfl ?_
  refine zl_iload_n 3 dL_law_836 rfl ?_
  refine zl_iconst 2 dL_law_837 (by decide) ?_
  refine zl_iadd dL_law_838 ?_
  refine zl_sld dL_law_839 hi2 ?_
  refine zl_call (d1 := 0 + 6) (q := (0, 0)) (As := [ae_i (xs (x + (1 : Int32)).toNatClampNeg), ae_i (xs (x + (2 : Int32)).toNatClampNeg)]) dL_law_840 ww_1158 vy_X11_copy rfl rfl rfl rfl rfl (Nat.le_of_ble_eq_true rfl) (by omega) (c_X11_copy 0 e1) ?_
  refine zl_aload_n 2 dL_law_843 rfl ?_
  refine zl_aload_n 0 dL_law_844 rfl ?_
  refine zl_iload_n 3 dL_law_845 rfl ?_
  refine zl_iconst 1 dL_law_846 (by decide) ?_
  refine zl_iadd dL_law_847 ?_
  refine zl_sld dL_law_848 hi1 ?_
  refine zl_aload_n 0 dL_law_849 rfl ?_
  refine zl_iload_n 3 dL_law_850 rfl ?_
  refine zl_iconst 2 dL_law_851 (by decide) ?_
  refine zl_iadd dL_law_852 ?_
  refine zl_sld dL_law_853 hi2 ?_
  refine zl_call (d1 := 0 + 3) (q := (30, 0)) (As := [ae_i (xs (x + (1 : Int32)).toNatClampNeg), ae_i (xs (x + (2 : Int32)).toNatClampNeg)]) dL_law_854 ww_1853 vy_X12_copy rfl rfl rfl rfl rfl (Nat.le_of_ble_eq_true rfl) (by omega) (c_X12_copy 0 e2) ?_
  exact zl_icmp_eq 1257 dL_law_857 (by decide) (fun _ => hk σ2 hI2) (fun h => absurd rfl h)
/-- promise: turn -/
def zp_turn (Inv : ae_S → Prop) : Prop := ∀ (v1 : Int32) (σ : ae_S), Inv σ → ∃ (r : Int32) (σ1 σ2 : ae_S), F_X11_turn v1 σ = some (r, σ1) ∧ F_X12_turn v1 σ1 = some (r, σ2) ∧ Inv σ2
theorem zc_21 {l : Launch} {G : ae_G} {b L : Nat} {xs : Nat → Int32} {Inv : ae_S → Prop} (hp : zp_turn Inv) {x : Int32} (hin : zl_in L x) (hk : ∀ σ, Inv σ → zl_T l G b L xs 1257 (zl_lv x) [] σ) {σ : ae_S} (hI : Inv σ) : zl_T l G b L xs 862 (zl_lv x) [] σ := by
  obtain ⟨hi0, hi1, hi2, hi3, hi4, hi5⟩ := hin
  obtain ⟨r, σ1, σ2, e1, e2, hI2⟩ := hp ((xs (x + (1 : Int32)).toNatClampNeg)) σ hI
  refine zl_aload_n 1 dL_law_862 rfl ?_
  refine zl_aload_n 0 dL_law_863 rfl ?_
  refine zl_iload_n 3 dL_law_864 rfl ?_
  refine zl_iconst 1 dL_law_865 (by decide) ?_
  refine zl_iadd dL_law_866 ?_
  refine zl_sld dL_law_867 hi1 ?_
  refine zl_call (d1 := 0 + 3) (q := (0, 0)) (As := [ae_i (xs (x + (1 : Int32)).toNatClampNeg)]) dL_law_868 ww_1165 vy_X11_turn rfl rfl rfl rfl rfl (Nat.le_of_ble_eq_true rfl) (by omega) (c_X11_turn 0 e1) ?_
  refine zl_aload_n 2 dL_law_871 rfl ?_
  refine zl_aload_n 0 dL_law_872 rfl ?_
  refine zl_iload_n 3 dL_law_873 rfl ?_
  refine zl_iconst 1 dL_law_874 (by decide) ?_
  refine zl_iadd dL_law_875 ?_
  refine zl_sld dL_law_876 hi1 ?_
  refine zl_call (d1 := 0 + 3) (q := (30, 0)) (As := [ae_i (xs (x + (1 : Int32)).toNatClampNeg)]) dL_law_877 ww_1857 vy_X12_turn rfl rfl rfl rfl rfl (Nat.le_of_ble_eq_true rfl) (by omega) (c_X12_turn 0 e2) ?_
  exact zl_icmp_eq 1257 dL_law_880 (by decide) (fun _ => hk σ2 hI2) (fun h => absurd rfl h)
/-- promise: sort -/
def zp_sort (Inv : ae_S → Prop) : Prop := ∀ (v1 : Int32) (σ : ae_S), Inv σ → ∃ (r : Int32) (σ1 σ2 : ae_S), F_X11_sort v1 σ = some (r, σ1) ∧ F_X12_sort v1 σ1 = some (r, σ2) ∧ Inv σ2
theorem zc_22 {l : Launch} {G : ae_G} {b L : Nat} {xs : Nat → Int32} {Inv : ae_S → Prop} (hp : zp_sort Inv) {x : Int32} (hin : zl_in L x) (hk : ∀ σ, Inv σ → zl_T l G b L xs 1257 (zl_lv x) [] σ) {σ : ae_S} (hI : Inv σ) : zl_T l G b L xs 885 (zl_lv x) [] σ := by
  obtain ⟨hi0, hi1, hi2, hi3, hi4, hi5⟩ := hin
  obtain ⟨r, σ1, σ2, e1, e2, hI2⟩ := hp ((xs (x + (1 : Int32)).toNatClampNeg)) σ hI
  refine zl_aload_n 1 dL_law_885 rfl ?_
  refine zl_aload_n 0 dL_law_886 rfl ?_
  refine zl_iload_n 3 dL_law_887 rfl ?_
  refine zl_iconst 1 dL_law_888 (by decide) ?_
  refine zl_iadd dL_law_889 ?_
  refine zl_sld dL_law_890 hi1 ?_
  refine zl_call (d1 := 0 + 7) (q := (0, 0)) (As := [ae_i (xs (x + (1 : Int32)).toNatClampNeg)]) dL_law_891 ww_1177 vy_X11_sort rfl rfl rfl rfl rfl (Nat.le_of_ble_eq_true rfl) (by omega) (c_X11_sort 0 e1) ?_
  refine zl_aload_n 2 dL_law_894 rfl ?_
  refine zl_aload_n 0 dL_law_895 rfl ?_
  refine zl_iload_n 3 dL_law_896 rfl ?_
  refine zl_iconst 1 dL_law_897 (by decide) ?_
  refine zl_iadd dL_law_898 ?_
  refine zl_sld dL_law_899 hi1 ?_
  refine zl_call (d1 := 0 + 3) (q := (30, 0)) (As := [ae_i (xs (x + (1 : Int32)).toNatClampNeg)]) dL_law_900 ww_1873 vy_X12_sort rfl rfl rfl rfl rfl (Nat.le_of_ble_eq_true rfl) (by omega) (c_X12_sort 0 e2) ?_
  exact zl_icmp_eq 1257 dL_law_903 (by decide) (fun _ => hk σ2 hI2) (fun h => absurd rfl h)
/-- promise: fill -/
def zp_fill (Inv : ae_S → Prop) : Prop := ∀ (v1 : Int32) (v2 : Int64) (σ : ae_S), Inv σ → ∃ (r : Int32) (σ1 σ2 : ae_S), F_X11_fill v1 v2 σ = some (r, σ1) ∧ F_X12_fill v1 v2 σ1 = some (r, σ2) ∧ Inv σ2
theorem zc_23 {l : Launch} {G : ae_G} {b L : Nat} {xs : Nat → Int32} {Inv : ae_S → Prop} (hp : zp_fill Inv) {x : Int32} (hin : zl_in L x) (hk : ∀ σ, Inv σ → zl_T l G b L xs 1257 (zl_lv x) [] σ) {σ : ae_S} (hI : Inv σ) : zl_T l G b L xs 908 (zl_lv x) [] σ := by
  obtain ⟨hi0, hi1, hi2, hi3, hi4, hi5⟩ := hin
  obtain ⟨r, σ1, σ2, e1, e2, hI2⟩ := hp ((xs (x + (1 : Int32)).toNatClampNeg)) ((((xs (x + (2 : Int32)).toNatClampNeg).toInt64 <<< ((32 : Int32).toInt64 &&& 63)) ||| ((xs (x + (3 : Int32)).toNatClampNeg).toInt64 &&& (4294967295 : Int64)))) σ hI
  refine zl_aload_n 1 dL_law_908 rfl ?_
  refine zl_aload_n 0 dL_law_909 rfl ?_
  refine zl_iload_n 3 dL_law_910 rfl ?_
  refine zl_iconst 1 dL_law_911 (by decide) ?_
  refine zl_iadd dL_law_912 ?_
  refine zl_sld dL_law_913 hi1 ?_
  refine zl_aload_n 0 dL_law_914 rfl ?_
  refine zl_iload_n 3 dL_law_915 rfl ?_
  refine zl_iconst 2 dL_law_916 (by decide) ?_
  refine zl_iadd dL_law_917 ?_
  refine zl_sld dL_law_918 hi2 ?_
  refine zl_i2l dL_law_919 ?_
  refine zl_bipush 32 dL_law_920 (by decide) ?_
  refine zl_lshl dL_law_922 ?_
  refine zl_aload_n 0 dL_law_923 rfl ?_
  refine zl_iload_n 3 dL_law_924 rfl ?_
  refine zl_iconst 3 dL_law_925 (by decide) ?_
  refine zl_iadd dL_law_926 ?_
  refine zl_sld dL_law_927 hi3 ?_
  refine zl_i2l dL_law_928 ?_
  refine zl_ldc2 dL_law_929 ww_1939 ?_
  refine zl_land dL_law_932 ?_
  refine zl_lor dL_law_933 ?_
  refine zl_call (d1 := 0 + 5) (q := (0, 0)) (As := [ae_i (xs (x + (1 : Int32)).toNatClampNeg), ae_l (((xs (x + (2 : Int32)).toNatClampNeg).toInt64 <<< ((32 : Int32).toInt64 &&& 63)) ||| ((xs (x + (3 : Int32)).toNatClampNeg).toInt64 &&& (4294967295 : Int64)))]) dL_law_934 ww_1191 vy_X11_fill rfl rfl rfl rfl rfl (Nat.le_of_ble_eq_true rfl) (by omega) (c_X11_fill 0 e1) ?_
  refine zl_aload_n 2 dL_law_937 rfl ?_
  refine zl_aload_n 0 dL_law_938 rfl ?_
  refine zl_iload_n 3 dL_law_939 rfl ?_
  refine zl_iconst 1 dL_law_940 (by decide) ?_
  refine zl_iadd dL_law_941 ?_
  refine zl_sld dL_law_942 hi1 ?_
  refine zl_aload_n 0 dL_law_943 rfl ?_
  refine zl_iload_n 3 dL_law_944 rfl ?_
  refine zl_iconst 2 dL_law_945 (by decide) ?_
  refine zl_iadd dL_law_946 ?_
  refine zl_sld dL_law_947 hi2 ?_
  refine zl_i2l dL_law_948 ?_
  refine zl_bipush 32 dL_law_949 (by decide) ?_
  refine zl_lshl dL_law_951 ?_
  refine zl_aload_n 0 dL_law_952 rfl ?_
  refine zl_iload_n 3 dL_law_953 rfl ?_
  refine zl_iconst 3 dL_law_954 (by decide) ?_
  refine zl_iadd dL_law_955 ?_
  refine zl_sld dL_law_956 hi3 ?_
  refine zl_i2l dL_law_957 ?_
  refine zl_ldc2 dL_law_958 ww_1939 ?_
  refine zl_land dL_law_961 ?_
  refine zl_lor dL_law_962 ?_
  refine zl_call (d1 := 0 + 3) (q := (30, 0)) (As := [ae_i (xs (x + (1 : Int32)).toNatClampNeg), ae_l (((xs (x + (2 : Int32)).toNatClampNeg).toInt64 <<< ((32 : Int32).toInt64 &&& 63)) ||| ((xs (x + (3 : Int32)).toNatClampNeg).toInt64 &&& (4294967295 : Int64)))]) dL_law_963 ww_1881 vy_X12_fill rfl rfl rfl rfl rfl (Nat.le_of_ble_eq_true rfl) (by omega) (c_X12_fill 0 e2) ?_
  exact zl_icmp_eq 1257 dL_law_966 (by decide) (fun _ => hk σ2 hI2) (fun h => absurd rfl h)
/-- promise: roll -/
def zp_roll (Inv : ae_S → Prop) : Prop := ∀ (v1 : Int32) (v2 : Int32) (σ : ae_S), Inv σ → ∃ (r : Int32) (σ1 σ2 : ae_S), F_X11_roll v1 v2 σ = some (r, σ1) ∧ F_X12_roll v1 v2 σ1 = some (r, σ2) ∧ Inv σ2
theorem zc_24 {l : Launch} {G : ae_G} {b L : Nat} {xs : Nat → Int32} {Inv : ae_S → Prop} (hp : zp_roll Inv) {x : Int32} (hin : zl_in L x) (hk : ∀ σ, Inv σ → zl_T l G b L xs 1257 (zl_lv x) [] σ) {σ : ae_S} (hI : Inv σ) : zl_T l G b L xs 971 (zl_lv x) [] σ := by
  obtain ⟨hi0, hi1, hi2, hi3, hi4, hi5⟩ := hin
  obtain ⟨r, σ1, σ2, e1, e2, hI2⟩ := hp ((xs (x + (1 : Int32)).toNatClampNeg)) ((xs (x + (2 : Int32)).toNatClampNeg)) σ hI
  refine zl_aload_n 1 dL_law_971 rfl ?_
  refine zl_aload_n 0 dL_law_972 rfl ?_
  refine zl_iload_n 3 dL_law_973 rfl ?_
  refine zl_iconst 1 dL_law_974 (by decide) ?_
  refine zl_iadd dL_law_975 ?_
  refine zl_sld dL_law_976 hi1 ?_
  refine zl_aload_n 0 dL_law_977 rfl ?_
  refine zl_iload_n 3 dL_law_978 rfl ?_
  refine zl_iconst 2 dL_law_979 (by decide) ?_
  refine zl_iadd dL_law_980 ?_
  refine zl_sld dL_law_981 hi2 ?_
  refine zl_call (d1 := 0 + 3) (q := (0, 0)) (As := [ae_i (xs (x + (1 : Int32)).toNatClampNeg), ae_i (xs (x + (2 : Int32)).toNatClampNeg)]) dL_law_982 ww_1195 vy_X11_roll rfl rfl rfl rfl rfl (Nat.le_of_ble_eq_true rfl) (by omega) (c_X11_roll 0 e1) ?_
  refine zl_aload_n 2 dL_law_985 rfl ?_
  refine zl_aload_n 0 dL_law_986 rfl ?_
  refine zl_iload_n 3 dL_law_987 rfl ?_
  refine zl_iconst 1 dL_law_988 (by decide) ?_
  refine zl_iadd dL_law_989 ?_
  refine zl_sld dL_law_990 hi1 ?_
  refine zl_aload_n 0 dL_law_991 rfl ?_
  refine zl_iload_n 3 dL_law_992 rfl ?_
  refine zl_iconst 2 dL_law_993 (by decide) ?_
  refine zl_iadd dL_law_994 ?_
  refine zl_sld dL_law_995 hi2 ?_
  refine zl_call (d1 := 0 + 3) (q := (30, 0)) (As := [ae_i (xs (x + (1 : Int32)).toNatClampNeg), ae_i (xs (x + (2 : Int32)).toNatClampNeg)]) dL_law_996 ww_1869 vy_X12_roll rfl rfl rfl rfl rfl (Nat.le_of_ble_eq_true rfl) (by omega) (c_X12_roll 0 e2) ?_
  exact zl_icmp_eq 1257 dL_law_999 (by decide) (fun _ => hk σ2 hI2) (fun h => absurd rfl h)
/-- promise: show -/
def zp_show (Inv : ae_S → Prop) : Prop := ∀ (v1 : Int32) (σ : ae_S), Inv σ → ∃ (r : Int32) (σ1 σ2 : ae_S), F_X11_show v1 σ = some (r, σ1) ∧ F_X12_show v1 σ1 = some (r, σ2) ∧ Inv σ2
theorem zc_25 {l : Launch} {G : ae_G} {b L : Nat} {xs : Nat → Int32} {Inv : ae_S → Prop} (hp : zp_show Inv) {x : Int32} (hin : zl_in L x) (hk : ∀ σ, Inv σ → zl_T l G b L xs 1257 (zl_lv x) [] σ) {σ : ae_S} (hI : Inv σ) : zl_T l G b L xs 1004 (zl_lv x) [] σ := by
  obtain ⟨hi0, hi1, hi2, hi3, hi4, hi5⟩ := hin
  obtain ⟨r, σ1, σ2, e1, e2, hI2⟩ := hp ((xs (x + (1 : Int32)).toNatClampNeg)) σ hI
  refine zl_aload_n 1 dL_law_1004 rfl ?_
  refine zl_aload_n 0 dL_law_1005 rfl ?_
  refine zl_iload_n 3 dL_law_1006 rfl ?_
  refine zl_iconst 1 dL_law_1007 (by decide) ?_
  refine zl_iadd dL_law_1008 ?_
  refine zl_sld dL_law_1009 hi1 ?_
  refine zl_call (d1 := 0 + 6) (q := (0, 0)) (As := [ae_i (xs (x + (1 : Int32)).toNatClampNeg)]) dL_law_1010 ww_1199 vy_X11_show rfl rfl rfl rfl rfl (Nat.le_of_ble_eq_true rfl) (by omega) (c_X11_show 0 e1) ?_
  refine zl_aload_n 2 dL_law_1013 rfl ?_
  refine zl_aload_n 0 dL_law_1014 rfl ?_
  refine zl_iload_n 3 dL_law_1015 rfl ?_
  refine zl_iconst 1 dL_law_1016 (by decide) ?_
  refine zl_iadd dL_law_1017 ?_
  refine zl_sld dL_law_1018 hi1 ?_
  refine zl_call (d1 := 0 + 6) (q := (30, 0)) (As := [ae_i (xs (x + (1 : Int32)).toNatClampNeg)]) dL_law_1019 ww_1885 vy_X12_show rfl rfl rfl rfl rfl (Nat.le_of_ble_eq_true rfl) (by omega) (c_X12_show 0 e2) ?_
  exact zl_icmp_eq 1257 dL_law_1022 (by decide) (fun _ => hk σ2 hI2) (fun h => absurd rfl h)
/-- promise: out -/
def zp_out (Inv : ae_S → Prop) : Prop := ∀ (v1 : Int32) (σ : ae_S), Inv σ → ∃ (r : Int32) (σ1 σ2 : ae_S), F_X11_out v1 σ = some (r, σ1) ∧ F_X12_out v1 σ1 = some (r, σ2) ∧ Inv σ2
theorem zc_26 {l : Launch} {G : ae_G} {b L : Nat} {xs : Nat → Int32} {Inv : ae_S → Prop} (hp : zp_out Inv) {x : Int32} (hin : zl_in L x) (hk : ∀ σ, Inv σ → zl_T l G b L xs 1257 (zl_lv x) [] σ) {σ : ae_S} (hI : Inv σ) : zl_T l G b L xs 1027 (zl_lv x) [] σ := by
  obtain ⟨hi0, hi1, hi2, hi3, hi4, hi5⟩ := hin
  obtain ⟨r, σ1, σ2, e1, e2, hI2⟩ := hp ((xs (x + (1 : Int32)).toNatClampNeg)) σ hI
  refine zl_aload_n 1 dL_law_1027 rfl ?_
  refine zl_aload_n 0 dL_law_1028 rfl ?_
  refine zl_iload_n 3 dL_law_1029 rfl ?_
  refine zl_iconst 1 dL_law_1030 (by decide) ?_
  refine zl_iadd dL_law_1031 ?_
  refine zl_sld dL_law_1032 hi1 ?_
  refine zl_call (d1 := 0 + 1) (q := (0, 0)) (As := [ae_i (xs (x + (1 : Int32)).toNatClampNeg)]) dL_law_1033 ww_1233 vy_X11_out rfl rfl rfl rfl rfl (Nat.le_of_ble_eq_true rfl) (by omega) (c_X11_out 0 e1) ?_
  refine zl_aload_n 2 dL_law_1036 rfl ?_
  refine zl_aload_n 0 dL_law_1037 rfl ?_
  refine zl_iload_n 3 dL_law_1038 rfl ?_
  refine zl_iconst 1 dL_law_1039 (by decide) ?_
  refine zl_iadd dL_law_1040 ?_
  refine zl_sld dL_law_1041 hi1 ?_
  refine zl_call (d1 := 0 + 1) (q := (30, 0)) (As := [ae_i (xs (x + (1 : Int32)).toNatClampNeg)]) dL_law_1042 ww_1919 vy_X12_out rfl rfl rfl rfl rfl (Nat.le_of_ble_eq_true rfl) (by omega) (c_X12_out 0 e2) ?_
  exact zl_icmp_eq 1257 dL_law_1045 (by decide) (fun _ => hk σ2 hI2) (fun h => absurd rfl h)
/-- promise: find -/
def zp_find (Inv : ae_S → Prop) : Prop := ∀ (v1 : Int32) (v2 : Int32) (v3 : Int64) (σ : ae_S), Inv σ → ∃ (r : Int32) (σ1 σ2 : ae_S), F_X11_find v1 v2 v3 σ = some (r, σ1) ∧ F_X12_find v1 v2 v3 σ1 = some (r, σ2) ∧ Inv σ2
theorem zc_27 {l : Launch} {G : ae_G} {b L : Nat} {xs : Nat → Int32} {Inv : ae_S → Prop} (hp : zp_find Inv) {x : Int32} (hin : zl_in L x) (hk : ∀ σ, Inv σ → zl_T l G b L xs 1257 (zl_lv x) [] σ) {σ : ae_S} (hI : Inv σ) : zl_T l G b L xs 1050 (zl_lv x) [] σ := by
  obtain ⟨hi0, hi1, hi2, hi3, hi4, hi5⟩ := hin
  obtain ⟨r, σ1, σ2, e1, e2, hI2⟩ := hp ((xs (x + (1 : Int32)).toNatClampNeg)) ((xs (x + (2 : Int32)).toNatClampNeg)) ((((xs (x + (3 : Int32)).toNatClampNeg).toInt64 <<< ((32 : Int32).toInt64 &&& 63)) ||| ((xs (x + (4 : Int32)).toNatClampNeg).toInt64 &&& (4294967295 : Int64)))) σ hI
  refine zl_aload_n 1 dL_law_1050 rfl ?_
  refine zl_aload_n 0 dL_law_1051 rfl ?_
  refine zl_iload_n 3 dL_law_1052 rfl ?_
  refine zl_iconst 1 dL_law_1053 (by decide) ?_
  refine zl_iadd dL_law_1054 ?_
  refine zl_sld dL_law_1055 hi1 ?_
  refine zl_aload_n 0 dL_law_1056 rfl ?_
  refine zl_iload_n 3 dL_law_1057 rfl ?_
  refine zl_iconst 2 dL_law_1058 (by decide) ?_
  refine zl_iadd dL_law_1059 ?_
  refine zl_sld dL_law_1060 hi2 ?_
  refine zl_aload_n 0 dL_law_1061 rfl ?_
  refine zl_iload_n 3 dL_law_1062 rfl ?_
  refine zl_iconst 3 dL_law_1063 (by decide) ?_
  refine zl_iadd dL_law_1064 ?_
  refine zl_sld dL_law_1065 hi3 ?_
  refine zl_i2l dL_law_1066 ?_
  refine zl_bipush 32 dL_law_1067 (by decide) ?_
  refine zl_lshl dL_law_1069 ?_
  refine zl_aload_n 0 dL_law_1070 rfl ?_
  refine zl_iload_n 3 dL_law_1071 rfl ?_
  refine zl_iconst 4 dL_law_1072 (by decide) ?_
  refine zl_iadd dL_law_1073 ?_
  refine zl_sld dL_law_1074 hi4 ?_
  refine zl_i2l dL_law_1075 ?_
  refine zl_ldc2 dL_law_1076 ww_1939 ?_
  refine zl_land dL_law_1079 ?_
  refine zl_lor dL_law_1080 ?_
  refine zl_call (d1 := 0 + 6) (q := (0, 0)) (As := [ae_i (xs (x + (1 : Int32)).toNatClampNeg), ae_i (xs (x + (2 : Int32)).toNatClampNeg), ae_l (((xs (x + (3 : Int32)).toNatClampNeg).toInt64 <<< ((32 : Int32).toInt64 &&& 63)) ||| ((xs (x + (4 : Int32)).toNatClampNeg).toInt64 &&& (4294967295 : Int64)))]) dL_law_1081 ww_1242 vy_X11_find rfl rfl rfl rfl rfl (Nat.le_of_ble_eq_true rfl) (by omega) (c_X11_find 0 e1) ?_
  refine zl_aload_n 2 dL_law_1084 rfl ?_
  refine zl_aload_n 0 dL_law_1085 rfl ?_
  refine zl_iload_n 3 dL_law_1086 rfl ?_
  refine zl_iconst 1 dL_law_1087 (by decide) ?_
  refine zl_iadd dL_law_1088 ?_
  refine zl_sld dL_law_1089 hi1 ?_
  refine zl_aload_n 0 dL_law_1090 rfl ?_
  refine zl_iload_n 3 dL_law_1091 rfl ?_
  refine zl_iconst 2 dL_law_1092 (by decide) ?_
  refine zl_iadd dL_law_1093 ?_
  refine zl_sld dL_law_1094 hi2 ?_
  refine zl_aload_n 0 dL_law_1095 rfl ?_
  refine zl_iload_n 3 dL_law_1096 rfl ?_
  refine zl_iconst 3 dL_law_1097 (by decide) ?_
  refine zl_iadd dL_law_1098 ?_
  refine zl_sld dL_law_1099 hi3 ?_
  refine zl_i2l dL_law_1100 ?_
  refine zl_bipush 32 dL_law_1101 (by decide) ?_
  refine zl_lshl dL_law_1103 ?_
  refine zl_aload_n 0 dL_law_1104 rfl ?_
  refine zl_iload_n 3 dL_law_1105 rfl ?_
  refine zl_iconst 4 dL_law_1106 (by decide) ?_
  refine zl_iadd dL_law_1107 ?_
  refine zl_sld dL_law_1108 hi4 ?_
  refine zl_i2l dL_law_1109 ?_
  refine zl_ldc2 dL_law_1110 ww_1939 ?_
  refine zl_land dL_law_1113 ?_
  refine zl_lor dL_law_1114 ?_
  refine zl_call (d1 := 0 + 3) (q := (30, 0)) (As := [ae_i (xs (x + (1 : Int32)).toNatClampNeg), ae_i (xs (x + (2 : Int32)).toNatClampNeg), ae_l (((xs (x + (3 : Int32)).toNatClampNeg).toInt64 <<< ((32 : Int32).toInt64 &&& 63)) ||| ((xs (x + (4 : Int32)).toNatClampNeg).toInt64 &&& (4294967295 : Int64)))]) dL_law_1115 ww_1923 vy_X12_find rfl rfl rfl rfl rfl (Nat.le_of_ble_eq_true rfl) (by omega) (c_X12_find 0 e2) ?_
  exact zl_icmp_eq 1257 dL_law_1118 (by decide) (fun _ => hk σ2 hI2) (fun h => absurd rfl h)
/-- promise: sum -/
def zp_sum (Inv : ae_S → Prop) : Prop := ∀ (v1 : Int32) (σ : ae_S), Inv σ → ∃ (r : Int64) (σ1 σ2 : ae_S), F_X11_sum v1 σ = some (r, σ1) ∧ F_X12_sum v1 σ1 = some (r, σ2) ∧ Inv σ2
theorem zc_28 {l : Launch} {G : ae_G} {b L : Nat} {xs : Nat → Int32} {Inv : ae_S → Prop} (hp : zp_sum Inv) {x : Int32} (hin : zl_in L x) (hk : ∀ σ, Inv σ → zl_T l G b L xs 1257 (zl_lv x) [] σ) {σ : ae_S} (hI : Inv σ) : zl_T l G b L xs 1123 (zl_lv x) [] σ := by
  obtain ⟨hi0, hi1, hi2, hi3, hi4, hi5⟩ := hin
  obtain ⟨r, σ1, σ2, e1, e2, hI2⟩ := hp ((xs (x + (1 : Int32)).toNatClampNeg)) σ hI
  refine zl_aload_n 1 dL_law_1123 rfl ?_
  refine zl_aload_n 0 dL_law_1124 rfl ?_
  refine zl_iload_n 3 dL_law_1125 rfl ?_
  refine zl_iconst 1 dL_law_1126 (by decide) ?_
  refine zl_iadd dL_law_1127 ?_
  refine zl_sld dL_law_1128 hi1 ?_
  refine zl_call (d1 := 0 + 5) (q := (0, 0)) (As := [ae_i (xs (x + (1 : Int32)).toNatClampNeg)]) dL_law_1129 ww_1251 vy_X11_sum rfl rfl rfl rfl rfl (Nat.le_of_ble_eq_true rfl) (by omega) (c_X11_sum 0 e1) ?_
  refine zl_aload_n 2 dL_law_1132 rfl ?_
  refine zl_aload_n 0 dL_law_1133 rfl ?_
  refine zl_iload_n 3 dL_law_1134 rfl ?_
  refine zl_iconst 1 dL_law_1135 (by decide) ?_
  refine zl_iadd dL_law_1136 ?_
  refine zl_sld dL_law_1137 hi1 ?_
  refine zl_call (d1 := 0 + 3) (q := (30, 0)) (As := [ae_i (xs (x + (1 : Int32)).toNatClampNeg)]) dL_law_1138 ww_1927 vy_X12_sum rfl rfl rfl rfl rfl (Nat.le_of_ble_eq_true rfl) (by omega) (c_X12_sum 0 e2) ?_
  refine zl_lcmp dL_law_1141 ?_
  exact zl_if_eq 1257 dL_law_1142 (by decide) (fun _ => hk σ2 hI2) (fun h => absurd (zl_cmp r) h)
/-- promise: rest -/
def zp_rest (Inv : ae_S → Prop) : Prop := ∀ (v1 : Int32) (v2 : Int32) (v3 : Int64) (σ : ae_S), Inv σ → ∃ (r : Int64) (σ1 σ2 : ae_S), F_X11_rest v1 v2 v3 σ = some (r, σ1) ∧ F_X12_rest v1 v2 v3 σ1 = some (r, σ2) ∧ Inv σ2
theorem zc_29 {l : Launch} {G : ae_G} {b L : Nat} {xs : Nat → Int32} {Inv : ae_S → Prop} (hp : zp_rest Inv) {x : Int32} (hin : zl_in L x) (hk : ∀ σ, Inv σ → zl_T l G b L xs 1257 (zl_lv x) [] σ) {σ : ae_S} (hI : Inv σ) : zl_T l G b L xs 1147 (zl_lv x) [] σ := by
  obtain ⟨hi0, hi1, hi2, hi3, hi4, hi5⟩ := hin
  obtain ⟨r, σ1, σ2, e1, e2, hI2⟩ := hp ((xs (x + (1 : Int32)).toNatClampNeg)) ((xs (x + (2 : Int32)).toNatClampNeg)) ((((xs (x + (3 : Int32)).toNatClampNeg).toInt64 <<< ((32 : Int32).toInt64 &&& 63)) ||| ((xs (x + (4 : Int32)).toNatClampNeg).toInt64 &&& (4294967295 : Int64)))) σ hI
  refine zl_aload_n 1 dL_law_1147 rfl ?_
  refine zl_aload_n 0 dL_law_1148 rfl ?_
  refine zl_iload_n 3 dL_law_1149 rfl ?_
  refine zl_iconst 1 dL_law_1150 (by decide) ?_
  refine zl_iadd dL_law_1151 ?_
  refine zl_sld dL_law_1152 hi1 ?_
  refine zl_aload_n 0 dL_law_1153 rfl ?_
  refine zl_iload_n 3 dL_law_1154 rfl ?_
  refine zl_iconst 2 dL_law_1155 (by decide) ?_
  refine zl_iadd dL_law_1156 ?_
  refine zl_sld dL_law_1157 hi2 ?_
  refine zl_aload_n 0 dL_law_1158 rfl ?_
  refine zl_iload_n 3 dL_law_1159 rfl ?_
  refine zl_iconst 3 dL_law_1160 (by decide) ?_
  refine zl_iadd dL_law_1161 ?_
  refine zl_sld dL_law_1162 hi3 ?_
  refine zl_i2l dL_law_1163 ?_
  refine zl_bipush 32 dL_law_1164 (by decide) ?_
  refine zl_lshl dL_law_1166 ?_
  refine zl_aload_n 0 dL_law_1167 rfl ?_
  refine zl_iload_n 3 dL_law_1168 rfl ?_
  refine zl_iconst 4 dL_law_1169 (by decide) ?_
  refine zl_iadd dL_law_1170 ?_
  refine zl_sld dL_law_1171 hi4 ?_
  refine zl_i2l dL_law_1172 ?_
  refine zl_ldc2 dL_law_1173 ww_1939 ?_
  refine zl_land dL_law_1176 ?_
  refine zl_lor dL_law_1177 ?_
  refine zl_call (d1 := 0 + 5) (q := (0, 0)) (As := [ae_i (xs (x + (1 : Int32)).toNatClampNeg), ae_i (xs (x + (2 : Int32)).toNatClampNeg), ae_l (((xs (x + (3 : Int32)).toNatClampNeg).toInt64 <<< ((32 : Int32).toInt64 &&& 63)) ||| ((xs (x + (4 : Int32)).toNatClampNeg).toInt64 &&& (4294967295 : Int64)))]) dL_law_1178 ww_1256 vy_X11_rest rfl rfl rfl rfl rfl (Nat.le_of_ble_eq_true rfl) (by omega) (c_X11_rest 0 e1) ?_
  refine zl_aload_n 2 dL_law_1181 rfl ?_
  refine zl_aload_n 0 dL_law_1182 rfl ?_
  refine zl_iload_n 3 dL_law_1183 rfl ?_
  refine zl_iconst 1 dL_law_1184 (by decide) ?_
  refine zl_iadd dL_law_1185 ?_
  refine zl_sld dL_law_1186 hi1 ?_
  refine zl_aload_n 0 dL_law_1187 rfl ?_
  refine zl_iload_n 3 dL_law_1188 rfl ?_
  refine zl_iconst 2 dL_law_1189 (by decide) ?_
  refine zl_iadd dL_law_1190 ?_
  refine zl_sld dL_law_1191 hi2 ?_
  refine zl_aload_n 0 dL_law_1192 rfl ?_
  refine zl_iload_n 3 dL_law_1193 rfl ?_
  refine zl_iconst 3 dL_law_1194 (by decide) ?_
  refine zl_iadd dL_law_1195 ?_
  refine zl_sld dL_law_1196 hi3 ?_
  refine zl_i2l dL_law_1197 ?_
  refine zl_bipush 32 dL_law_1198 (by decide) ?_
  refine zl_lshl dL_law_1200 ?_
  refine zl_aload_n 0 dL_law_1201 rfl ?_
  refine zl_iload_n 3 dL_law_1202 rfl ?_
  refine zl_iconst 4 dL_law_1203 (by decide) ?_
  refine zl_iadd dL_law_1204 ?_
  refine zl_sld dL_law_1205 hi4 ?_
  refine zl_i2l dL_law_1206 ?_
  refine zl_ldc2 dL_law_1207 ww_1939 ?_
  refine zl_land dL_law_1210 ?_
  refine zl_lor dL_law_1211 ?_
  refine zl_call (d1 := 0 + 3) (q := (30, 0)) (As := [ae_i (xs (x + (1 : Int32)).toNatClampNeg), ae_i (xs (x + (2 : Int32)).toNatClampNeg), ae_l (((xs (x + (3 : Int32)).toNatClampNeg).toInt64 <<< ((32 : Int32).toInt64 &&& 63)) ||| ((xs (x + (4 : Int32)).toNatClampNeg).toInt64 &&& (4294967295 : Int64)))]) dL_law_1212 ww_1931 vy_X12_rest rfl rfl rfl rfl rfl (Nat.le_of_ble_eq_true rfl) (by omega) (c_X12_rest 0 e2) ?_
  refine zl_lcmp dL_law_1215 ?_
  exact zl_if_eq 1257 dL_law_1216 (by decide) (fun _ => hk σ2 hI2) (fun h => absurd (zl_cmp r) h)
/-- promise: undo -/
def zp_undo (Inv : ae_S → Prop) : Prop := ∀ (σ : ae_S), Inv σ → ∃ (r : Int32) (σ1 σ2 : ae_S), F_X11_undo σ = some (r, σ1) ∧ F_X12_undo σ1 = some (r, σ2) ∧ Inv σ2
theorem zc_30 {l : Launch} {G : ae_G} {b L : Nat} {xs : Nat → Int32} {Inv : ae_S → Prop} (hp : zp_undo Inv) {x : Int32} (hin : zl_in L x) (hk : ∀ σ, Inv σ → zl_T l G b L xs 1257 (zl_lv x) [] σ) {σ : ae_S} (hI : Inv σ) : zl_T l G b L xs 1221 (zl_lv x) [] σ := by
  obtain ⟨hi0, hi1, hi2, hi3, hi4, hi5⟩ := hin
  obtain ⟨r, σ1, σ2, e1, e2, hI2⟩ := hp σ hI
  refine zl_aload_n 1 dL_law_1221 rfl ?_
  refine zl_call (d1 := 0 + 3) (q := (0, 0)) (As := []) dL_law_1222 ww_1262 vy_X11_undo rfl rfl rfl rfl rfl (Nat.le_of_ble_eq_true rfl) (by omega) (c_X11_undo 0 e1) ?_
  refine zl_aload_n 2 dL_law_1225 rfl ?_
  refine zl_call (d1 := 0 + 1) (q := (30, 0)) (As := []) dL_law_1226 ww_1464 vy_X12_undo rfl rfl rfl rfl rfl (Nat.le_of_ble_eq_true rfl) (by omega) (c_X12_undo 0 e2) ?_
  exact zl_icmp_eq 1257 dL_law_1229 (by decide) (fun _ => hk σ2 hI2) (fun h => absurd rfl h)
/-- promise: look -/
def zp_look (Inv : ae_S → Prop) : Prop := ∀ (v1 : Int32) (σ : ae_S), Inv σ → ∃ (r : Int32) (σ1 σ2 : ae_S), F_X11_look v1 σ = some (r, σ1) ∧ F_X12_look v1 σ1 = some (r, σ2) ∧ Inv σ2
theorem zc_31 {l : Launch} {G : ae_G} {b L : Nat} {xs : Nat → Int32} {Inv : ae_S → Prop} (hp : zp_look Inv) {x : Int32} (hin : zl_in L x) (hk : ∀ σ, Inv σ → zl_T l G b L xs 1257 (zl_lv x) [] σ) {σ : ae_S} (hI : Inv σ) : zl_T l G b L xs 1234 (zl_lv x) [] σ := by
  obtain ⟨hi0, hi1, hi2, hi3, hi4, hi5⟩ := hin
  obtain ⟨r, σ1, σ2, e1, e2, hI2⟩ := hp ((xs (x + (1 : Int32)).toNatClampNeg)) σ hI
  refine zl_aload_n 1 dL_law_1234 rfl ?_
  refine zl_aload_n 0 dL_law_1235 rfl ?_
  refine zl_iload_n 3 dL_law_1236 rfl ?_
  refine zl_iconst 1 dL_law_1237 (by decide) ?_
  refine zl_iadd dL_law_1238 ?_
  refine zl_sld dL_law_1239 hi1 ?_
  refine zl_call (d1 := 0 + 4) (q := (0, 0)) (As := [ae_i (xs (x + (1 : Int32)).toNatClampNeg)]) dL_law_1240 ww_1272 vy_X11_look rfl rfl rfl rfl rfl (Nat.le_of_ble_eq_true rfl) (by omega) (c_X11_look 0 e1) ?_
  refine zl_aload_n 2 dL_law_1243 rfl ?_
  refine zl_aload_n 0 dL_law_1244 rfl ?_
  refine zl_iload_n 3 dL_law_1245 rfl ?_
  refine zl_iconst 1 dL_law_1246 (by decide) ?_
  refine zl_iadd dL_law_1247 ?_
  refine zl_sld dL_law_1248 hi1 ?_
  refine zl_call (d1 := 0 + 3) (q := (30, 0)) (As := [ae_i (xs (x + (1 : Int32)).toNatClampNeg)]) dL_law_1249 ww_1935 vy_X12_look rfl rfl rfl rfl rfl (Nat.le_of_ble_eq_true rfl) (by omega) (c_X12_look 0 e2) ?_
  exact zl_icmp_eq 1257 dL_law_1252 (by decide) (fun _ => hk σ2 hI2) (fun h => absurd rfl h)
def zl_All (Inv : ae_S → Prop) : Prop := zp_memory Inv ∧ zp_feed Inv ∧ zp_end Inv ∧ zp_views Inv ∧ zp_script Inv ∧ zp_fault Inv ∧ zp_trouble Inv ∧ zp_view Inv ∧ zp_named Inv ∧ zp_read Inv ∧ zp_peek Inv ∧ zp_field Inv ∧ zp_write Inv ∧ zp_writeFloat Inv ∧ zp_at Inv ∧ zp_poke Inv ∧ zp_changed Inv ∧ zp_seen Inv ∧ zp_over Inv ∧ zp_here Inv ∧ zp_copy Inv ∧ zp_turn Inv ∧ zp_sort Inv ∧ zp_fill Inv ∧ zp_roll Inv ∧ zp_show Inv ∧ zp_out Inv ∧ zp_find Inv ∧ zp_sum Inv ∧ zp_rest Inv ∧ zp_undo Inv ∧ zp_look Inv
theorem zl_and31 (w : Int32) : ∃ n : Nat, n < 32 ∧ w &&& 31 = Int32.ofNat n := by
  refine ⟨(w.toBitVec &&& 31#32).toNat, ?_, ?_⟩
  · rw [BitVec.toNat_and]
    exact Nat.lt_of_le_of_lt Nat.and_le_right (by decide)
  · apply Int32.toBitVec_inj.mp
    rw [Int32.toBitVec_and]
    show w.toBitVec &&& 31#32 = BitVec.ofNat 32 (w.toBitVec &&& 31#32).toNat
    rw [BitVec.ofNat_toNat, BitVec.setWidth_eq]
theorem zl_switch {l : Launch} {G : ae_G} {b L : Nat} {xs : Nat → Int32} {Inv : ae_S → Prop} (hA : zl_All Inv) {x : Int32} (hin : zl_in L x) (hk : ∀ σ, Inv σ → zl_T l G b L xs 1257 (zl_lv x) [] σ) {σ : ae_S} (hI : Inv σ) : ∀ n : Nat, n < 32 → zl_T l G b L xs 33 (zl_lv x) [ae_i (Int32.ofNat n)] σ
  | 0, _ => zl_tabIn (off := 143) 176 dL_law_33 (by decide) (by decide) rfl (by decide) (zc_0 hA.1 hin hk hI)
  | 1, _ => zl_tabIn (off := 166) 199 dL_law_33 (by decide) (by decide) rfl (by decide) (zc_1 hA.2.1 hin hk hI)
  | 2, _ => zl_tabIn (off := 229) 262 dL_law_33 (by decide) (by decide) rfl (by decide) (zc_2 hA.2.2.1 hin hk hI)
  | 3, _ => zl_tabIn (off := 252) 285 dL_law_33 (by decide) (by decide) rfl (by decide) (zc_3 hA.2.2.2.1 hin hk hI)
  | 4, _ => zl_tabIn (off := 265) 298 dL_law_33 (by decide) (by decide) rfl (by decide) (zc_4 hA.2.2.2.2.1 hin hk hI)
  | 5, _ => zl_tabIn (off := 278) 311 dL_law_33 (by decide) (by decide) rfl (by decide) (zc_5 hA.2.2.2.2.2.1 hin hk hI)
  | 6, _ => zl_tabIn (off := 301) 334 dL_law_33 (by decide) (by decide) rfl (by decide) (zc_6 hA.2.2.2.2.2.2.1 hin hk hI)
  | 7, _ => zl_tabIn (off := 324) 357 dL_law_33 (by decide) (by decide) rfl (by decide) (zc_7 hA.2.2.2.2.2.2.2.1 hin hk hI)
  | 8, _ => zl_tabIn (off := 357) 390 dL_law_33 (by decide) (by decide) rfl (by decide) (zc_8 hA.2.2.2.2.2.2.2.2.1 hin hk hI)
  | 9, _ => zl_tabIn (off := 370) 403 dL_law_33 (by decide) (by decide) rfl (by decide) (zc_9 hA.2.2.2.2.2.2.2.2.2.1 hin hk hI)
  | 10, _ => zl_tabIn (off := 404) 437 dL_law_33 (by decide) (by decide) rfl (by decide) (zc_10 hA.2.2.2.2.2.2.2.2.2.2.1 hin hk hI)
  | 11, _ => zl_tabIn (off := 438) 471 dL_law_33 (by decide) (by decide) rfl (by decide) (zc_11 hA.2.2.2.2.2.2.2.2.2.2.2.1 hin hk hI)
  | 12, _ => zl_tabIn (off := 482) 515 dL_law_33 (by decide) (by decide) rfl (by decide) (zc_12 hA.2.2.2.2.2.2.2.2.2.2.2.2.1 hin hk hI)
  | 13, _ => zl_tabIn (off := 555) 588 dL_law_33 (by decide) (by decide) rfl (by decide) (zc_13 hA.2.2.2.2.2.2.2.2.2.2.2.2.2.1 hin hk hI)
  | 14, _ => zl_tabIn (off := 628) 661 dL_law_33 (by decide) (by decide) rfl (by decide) (zc_14 hA.2.2.2.2.2.2.2.2.2.2.2.2.2.2.1 hin hk hI)
  | 15, _ => zl_tabIn (off := 651) 684 dL_law_33 (by decide) (by decide) rfl (by decide) (zc_15 hA.2.2.2.2.2.2.2.2.2.2.2.2.2.2.2.1 hin hk hI)
  | 16, _ => zl_tabIn (off := 684) 717 dL_law_33 (by decide) (by decide) rfl (by decide) (zc_16 hA.2.2.2.2.2.2.2.2.2.2.2.2.2.2.2.2.1 hin hk hI)
  | 17, _ => zl_tabIn (off := 707) 740 dL_law_33 (by decide) (by decide) rfl (by decide) (zc_17 hA.2.2.2.2.2.2.2.2.2.2.2.2.2.2.2.2.2.1 hin hk hI)
  | 18, _ => zl_tabIn (off := 740) 773 dL_law_33 (by decide) (by decide) rfl (by decide) (zc_18 hA.2.2.2.2.2.2.2.2.2.2.2.2.2.2.2.2.2.2.1 hin hk hI)
  | 19, _ => zl_tabIn (off := 773) 806 dL_law_33 (by decide) (by decide) rfl (by decide) (zc_19 hA.2.2.2.2.2.2.2.2.2.2.2.2.2.2.2.2.2.2.2.1 hin hk hI)
  | 20, _ => zl_tabIn (off := 796) 829 dL_law_33 (by decide) (by decide) rfl (by decide) (zc_20 hA.2.2.2.2.2.2.2.2.2.2.2.2.2.2.2.2.2.2.2.2.1 hin hk hI)
  | 21, _ => zl_tabIn (off := 829) 862 dL_law_33 (by decide) (by decide) rfl (by decide) (zc_21 hA.2.2.2.2.2.2.2.2.2.2.2.2.2.2.2.2.2.2.2.2.2.1 hin hk hI)
  | 22, _ => zl_tabIn (off := 852) 885 dL_law_33 (by decide) (by decide) rfl (by decide) (zc_22 hA.2.2.2.2.2.2.2.2.2.2.2.2.2.2.2.2.2.2.2.2.2.2.1 hin hk hI)
  | 23, _ => zl_tabIn (off := 875) 908 dL_law_33 (by decide) (by decide) rfl (by decide) (zc_23 hA.2.2.2.2.2.2.2.2.2.2.2.2.2.2.2.2.2.2.2.2.2.2.2.1 hin hk hI)
  | 24, _ => zl_tabIn (off := 938) 971 dL_law_33 (by decide) (by decide) rfl (by decide) (zc_24 hA.2.2.2.2.2.2.2.2.2.2.2.2.2.2.2.2.2.2.2.2.2.2.2.2.1 hin hk hI)
  | 25, _ => zl_tabIn (off := 971) 1004 dL_law_33 (by decide) (by decide) rfl (by decide) (zc_25 hA.2.2.2.2.2.2.2.2.2.2.2.2.2.2.2.2.2.2.2.2.2.2.2.2.2.1 hin hk hI)
  | 26, _ => zl_tabIn (off := 994) 1027 dL_law_33 (by decide) (by decide) rfl (by decide) (zc_26 hA.2.2.2.2.2.2.2.2.2.2.2.2.2.2.2.2.2.2.2.2.2.2.2.2.2.2.1 hin hk hI)
  | 27, _ => zl_tabIn (off := 1017) 1050 dL_law_33 (by decide) (by decide) rfl (by decide) (zc_27 hA.2.2.2.2.2.2.2.2.2.2.2.2.2.2.2.2.2.2.2.2.2.2.2.2.2.2.2.1 hin hk hI)
  | 28, _ => zl_tabIn (off := 1090) 1123 dL_law_33 (by decide) (by decide) rfl (by decide) (zc_28 hA.2.2.2.2.2.2.2.2.2.2.2.2.2.2.2.2.2.2.2.2.2.2.2.2.2.2.2.2.1 hin hk hI)
  | 29, _ => zl_tabIn (off := 1114) 1147 dL_law_33 (by decide) (by decide) rfl (by decide) (zc_29 hA.2.2.2.2.2.2.2.2.2.2.2.2.2.2.2.2.2.2.2.2.2.2.2.2.2.2.2.2.2.1 hin hk hI)
  | 30, _ => zl_tabIn (off := 1188) 1221 dL_law_33 (by decide) (by decide) rfl (by decide) (zc_30 hA.2.2.2.2.2.2.2.2.2.2.2.2.2.2.2.2.2.2.2.2.2.2.2.2.2.2.2.2.2.2.1 hin hk hI)
  | 31, _ => zl_tabIn (off := 1201) 1234 dL_law_33 (by decide) (by decide) rfl (by decide) (zc_31 hA.2.2.2.2.2.2.2.2.2.2.2.2.2.2.2.2.2.2.2.2.2.2.2.2.2.2.2.2.2.2.2 hin hk hI)
  | n + 32, h => absurd h (by omega)
theorem zl_nI_sub6 {L i : Nat} (hL : L ≤ 3072) (hi : i ≤ 3078) : (nI L - 6 < nI i) ↔ L < i + 6 := by
  rw [Int32.lt_iff_toInt_lt, Int32.toInt_sub, nI_toInt (by omega), nI_toInt (by omega)]
  rw [show (6 : Int32).toInt = 6 from rfl, Int.bmod_def]
  split <;> omega
theorem zl_loop {l : Launch} {G : ae_G} {b L : Nat} {xs : Nat → Int32} {Inv : ae_S → Prop} (hA : zl_All Inv) (hL : L ≤ 3072) : ∀ (n i : Nat), L + 1 ≤ i + n → i ≤ L + 6 → ∀ σ : ae_S, Inv σ → zl_T l G b L xs 18 (zl_lv (nI i)) [] σ := by
  intro n
  induction n with
  | zero =>
    intro i h1 h2 σ hI
    refine zl_iload_n 3 dL_law_18 rfl ?_
    refine zl_aload_n 0 dL_law_19 rfl ?_
    refine zl_slen dL_law_20 ?_
    refine zl_bipush 6 dL_law_21 (by decide) ?_
    refine zl_isub dL_law_23 ?_
    refine zl_icmp_gt 1263 dL_law_24 (by decide) (fun _ => ?_) (fun h => absurd ((zl_nI_sub6 hL (by omega)).mpr (by omega)) h)
    refine zl_iconst 1 dL_law_1263 (by decide) ?_
    exact zl_ret dL_law_1264
  | succ n ih =>
    intro i h1 h2 σ hI
    refine zl_iload_n 3 dL_law_18 rfl ?_
    refine zl_aload_n 0 dL_law_19 rfl ?_
    refine zl_slen dL_law_20 ?_
    refine zl_bipush 6 dL_law_21 (by decide) ?_
    refine zl_isub dL_law_23 ?_
    refine zl_icmp_gt 1263 dL_law_24 (by decide) (fun _ => ?_) (fun h => ?_)
    · refine zl_iconst 1 dL_law_1263 (by decide) ?_
      exact zl_ret dL_law_1264
    · have hi : i + 6 ≤ L := by
        rcases Nat.lt_or_ge L (i + 6) with q | q
        · exact absurd ((zl_nI_sub6 hL (by omega)).mpr q) h
        · exact q
      have hv : ∀ k : Nat, k < 6 → vp_in (nI i + nI k) L := fun k hk => by
        rw [nI_add]
        exact vp_in_nI (by omega) (by omega)
      have hin : zl_in L (nI i) := ⟨vp_in_nI (by omega) (by omega), hv 1 (by decide), hv 2 (by decide), hv 3 (by decide), hv 4 (by decide), hv 5 (by decide)⟩
      refine zl_aload_n 0 dL_law_27 rfl ?_
      refine zl_iload_n 3 dL_law_28 rfl ?_
      refine zl_sld dL_law_29 hin.1 ?_
      refine zl_bipush 31 dL_law_30 (by decide) ?_
      refine zl_iand dL_law_32 ?_
      obtain ⟨n9, h9, e9⟩ := zl_and31 (xs (nI i).toNatClampNeg)
      rw [e9]
      refine zl_switch hA hin (fun τ hτ => ?_) hI n9 h9
      refine zl_iinc (lv' := [(3, ae_i (nI i + 6)), (0, ae_r (some (59, 0))), (1, ae_r (some (0, 0))), (2, ae_r (some (30, 0)))]) 3 6 dL_law_1257 rfl (by decide) (by decide) rfl ?_
      refine zl_goto 18 dL_law_1260 (by decide) ?_
      refine zl_pick (lv' := zl_lv (nI (i + 6))) [1, 2, 3, 0] (by rw [← nI_add i 6]; rfl) ?_
      exact ih (i + 6) (by omega) (by omega) τ hτ
