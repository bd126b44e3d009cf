theorem dL_law_0 : decode cL_law 0 = .ok (.new 7, 3) := by decide +kernel
theorem dL_law_3 : decode cL_law 3 = .ok (.dup, 1) := by decide +kernel
theorem dL_law_4 : decode cL_law 4 = .ok (.invokespecial 9, 3) := by decide +kernel
theorem dL_law_7 : decode cL_law 7 = .ok (.astore_n 1, 1) := by decide +kernel
theorem dL_law_8 : decode cL_law 8 = .ok (.new 10, 3) := by decide +kernel
theorem dL_law_11 : decode cL_law 11 = .ok (.dup, 1) := by decide +kernel
theorem dL_law_12 : decode cL_law 12 = .ok (.invokespecial 12, 3) := by decide +kernel
theorem dL_law_15 : decode cL_law 15 = .ok (.astore_n 2, 1) := by decide +kernel
theorem dL_law_16 : decode cL_law 16 = .ok (.iconst 0, 1) := by decide +kernel
theorem dL_law_17 : decode cL_law 17 = .ok (.istore_n 3, 1) := by decide +kernel
theorem dL_law_18 : decode cL_law 18 = .ok (.iload_n 3, 1) := by decide +kernel
theorem dL_law_19 : decode cL_law 19 = .ok (.aload_n 0, 1) := by decide +kernel
theorem dL_law_20 : decode cL_law 20 = .ok (.arraylength, 1) := by decide +kernel
theorem dL_law_21 : decode cL_law 21 = .ok (.iconst 4, 1) := by decide +kernel
theorem dL_law_22 : decode cL_law 22 = .ok (.isub, 1) := by decide +kernel
theorem dL_law_23 : decode cL_law 23 = .ok (.if_icmp .gt 911, 3) := by decide +kernel
theorem dL_law_26 : decode cL_law 26 = .ok (.aload_n 0, 1) := by decide +kernel
theorem dL_law_27 : decode cL_law 27 = .ok (.iload_n 3, 1) := by decide +kernel
theorem dL_law_28 : decode cL_law 28 = .ok (.iaload, 1) := by decide +kernel
theorem dL_law_29 : decode cL_law 29 = .ok (.bipush 31, 2) := by decide +kernel
theorem dL_law_31 : decode cL_law 31 = .ok (.iand, 1) := by decide +kernel
theorem dL_law_32 : decode cL_law 32 = .ok (.tableswitch 896 0 29 #[136, 159, 172, 185, 208, 241, 274, 307, 340, 353, 376, 399, 422, 445, 468, 491, 524, 547, 590, 623, 666, 699, 742, 755, 768, 801, 814, 827, 850, 873], 136) := by decide +kernel
theorem dL_law_168 : decode cL_law 168 = .ok (.aload_n 1, 1) := by decide +kernel
theorem dL_law_169 : decode cL_law 169 = .ok (.aload_n 0, 1) := by decide +kernel
theorem dL_law_170 : decode cL_law 170 = .ok (.iload_n 3, 1) := by decide +kernel
theorem dL_law_171 : decode cL_law 171 = .ok (.iconst 1, 1) := by decide +kernel
theorem dL_law_172 : decode cL_law 172 = .ok (.iadd, 1) := by decide +kernel
theorem dL_law_173 : decode cL_law 173 = .ok (.iaload, 1) := by decide +kernel
theorem dL_law_174 : decode cL_law 174 = .ok (.invokevirtual 13, 3) := by decide +kernel
theorem dL_law_177 : decode cL_law 177 = .ok (.aload_n 2, 1) := by decide +kernel
theorem dL_law_178 : decode cL_law 178 = .ok (.aload_n 0, 1) := by decide +kernel
theorem dL_law_179 : decode cL_law 179 = .ok (.iload_n 3, 1) := by decide +kernel
theorem dL_law_180 : decode cL_law 180 = .ok (.iconst 1, 1) := by decide +kernel
theorem dL_law_181 : decode cL_law 181 = .ok (.iadd, 1) := by decide +kernel
theorem dL_law_182 : decode cL_law 182 = .ok (.iaload, 1) := by decide +kernel
theorem dL_law_183 : decode cL_law 183 = .ok (.invokevirtual 17, 3) := by decide +kernel
theorem dL_law_186 : decode cL_law 186 = .ok (.if_icmp .eq 742, 3) := by decide +kernel
theorem dL_law_189 : decode cL_law 189 = .ok (.iconst 0, 1) := by decide +kernel
theorem dL_law_190 : decode cL_law 190 = .ok (.ireturn, 1) := by decide +kernel
theorem dL_law_191 : decode cL_law 191 = .ok (.aload_n 1, 1) := by decide +kernel
theorem dL_law_192 : decode cL_law 192 = .ok (.invokevirtual 18, 3) := by decide +kernel
theorem dL_law_195 : decode cL_law 195 = .ok (.aload_n 2, 1) := by decide +kernel
theorem dL_law_196 : decode cL_law 196 = .ok (.invokevirtual 22, 3) := by decide +kernel
theorem dL_law_199 : decode cL_law 199 = .ok (.if_icmp .eq 729, 3) := by decide +kernel
theorem dL_law_202 : decode cL_law 202 = .ok (.iconst 0, 1) := by decide +kernel
theorem dL_law_203 : decode cL_law 203 = .ok (.ireturn, 1) := by decide +kernel
theorem dL_law_204 : decode cL_law 204 = .ok (.aload_n 1, 1) := by decide +kernel
theorem dL_law_205 : decode cL_law 205 = .ok (.invokevirtual 23, 3) := by decide +kernel
theorem dL_law_208 : decode cL_law 208 = .ok (.aload_n 2, 1) := by decide +kernel
theorem dL_law_209 : decode cL_law 209 = .ok (.invokevirtual 26, 3) := by decide +kernel
theorem dL_law_212 : decode cL_law 212 = .ok (.if_icmp .eq 716, 3) := by decide +kernel
theorem dL_law_215 : decode cL_law 215 = .ok (.iconst 0, 1) := by decide +kernel
theorem dL_law_216 : decode cL_law 216 = .ok (.ireturn, 1) := by decide +kernel
theorem dL_law_217 : decode cL_law 217 = .ok (.aload_n 1, 1) := by decide +kernel
theorem dL_law_218 : decode cL_law 218 = .ok (.aload_n 0, 1) := by decide +kernel
theorem dL_law_219 : decode cL_law 219 = .ok (.iload_n 3, 1) := by decide +kernel
theorem dL_law_220 : decode cL_law 220 = .ok (.iconst 1, 1) := by decide +kernel
theorem dL_law_221 : decode cL_law 221 = .ok (.iadd, 1) := by decide +kernel
theorem dL_law_222 : decode cL_law 222 = .ok (.iaload, 1) := by decide +kernel
theorem dL_law_223 : decode cL_law 223 = .ok (.invokevirtual 27, 3) := by decide +kernel
theorem dL_law_226 : decode cL_law 226 = .ok (.aload_n 2, 1) := by decide +kernel
theorem dL_law_227 : decode cL_law 227 = .ok (.aload_n 0, 1) := by decide +kernel
theorem dL_law_228 : decode cL_law 228 = .ok (.iload_n 3, 1) := by decide +kernel
theorem dL_law_229 : decode cL_law 229 = .ok (.iconst 1, 1) := by decide +kernel
theorem dL_law_230 : decode cL_law 230 = .ok (.iadd, 1) := by decide +kernel
theorem dL_law_231 : decode cL_law 231 = .ok (.iaload, 1) := by decide +kernel
theorem dL_law_232 : decode cL_law 232 = .ok (.invokevirtual 30, 3) := by decide +kernel
theorem dL_law_235 : decode cL_law 235 = .ok (.if_icmp .eq 693, 3) := by decide +kernel
theorem dL_law_238 : decode cL_law 238 = .ok (.iconst 0, 1) := by decide +kernel
theorem dL_law_239 : decode cL_law 239 = .ok (.ireturn, 1) := by decide +kernel
theorem dL_law_240 : decode cL_law 240 = .ok (.aload_n 1, 1) := by decide +kernel
theorem dL_law_241 : decode cL_law 241 = .ok (.aload_n 0, 1) := by decide +kernel
theorem dL_law_242 : decode cL_law 242 = .ok (.iload_n 3, 1) := by decide +kernel
theorem dL_law_243 : decode cL_law 243 = .ok (.iconst 1, 1) := by decide +kernel
theorem dL_law_244 : decode cL_law 244 = .ok (.iadd, 1) := by decide +kernel
theorem dL_law_245 : decode cL_law 245 = .ok (.iaload, 1) := by decide +kernel
theorem dL_law_246 : decode cL_law 246 = .ok (.aload_n 0, 1) := by decide +kernel
theorem dL_law_247 : decode cL_law 247 = .ok (.iload_n 3, 1) := by decide +kernel
theorem dL_law_248 : decode cL_law 248 = .ok (.iconst 2, 1) := by decide +kernel
theorem dL_law_249 : decode cL_law 249 = .ok (.iadd, 1) := by decide +kernel
theorem dL_law_250 : decode cL_law 250 = .ok (.iaload, 1) := by decide +kernel
theorem dL_law_251 : decode cL_law 251 = .ok (.invokevirtual 31, 3) := by decide +kernel
theorem dL_law_254 : decode cL_law 254 = .ok (.aload_n 2, 1) := by decide +kernel
theorem dL_law_255 : decode cL_law 255 = .ok (.aload_n 0, 1) := by decide +kernel
theorem dL_law_256 : decode cL_law 256 = .ok (.iload_n 3, 1) := by decide +kernel
theorem dL_law_257 : decode cL_law 257 = .ok (.iconst 1, 1) := by decide +kernel
theorem dL_law_258 : decode cL_law 258 = .ok (.iadd, 1) := by decide +kernel
theorem dL_law_259 : decode cL_law 259 = .ok (.iaload, 1) := by decide +kernel
theorem dL_law_260 : decode cL_law 260 = .ok (.aload_n 0, 1) := by decide +kernel
theorem dL_law_261 : decode cL_law 261 = .ok (.iload_n 3, 1) := by decide +kernel
theorem dL_law_262 : decode cL_law 262 = .ok (.iconst 2, 1) := by decide +kernel
theorem dL_law_263 : decode cL_law 263 = .ok (.iadd, 1) := by decide +kernel
theorem dL_law_264 : decode cL_law 264 = .ok (.iaload, 1) := by decide +kernel
theorem dL_law_265 : decode cL_law 265 = .ok (.invokevirtual 35, 3) := by decide +kernel
theorem dL_law_268 : decode cL_law 268 = .ok (.if_icmp .eq 660, 3) := by decide +kernel
theorem dL_law_271 : decode cL_law 271 = .ok (.iconst 0, 1) := by decide +kernel
theorem dL_law_272 : decode cL_law 272 = .ok (.ireturn, 1) := by decide +kernel
theorem dL_law_273 : decode cL_law 273 = .ok (.aload_n 1, 1) := by decide +kernel
theorem dL_law_274 : decode cL_law 274 = .ok (.aload_n 0, 1) := by decide +kernel
theorem dL_law_275 : decode cL_law 275 = .ok (.iload_n 3, 1) := by decide +kernel
theorem dL_law_276 : decode cL_law 276 = .ok (.iconst 1, 1) := by decide +kernel
theorem dL_law_277 : decode cL_law 277 = .ok (.iadd, 1) := by decide +kernel
theorem dL_law_278 : decode cL_law 278 = .ok (.iaload, 1) := by decide +kernel
theorem dL_law_279 : decode cL_law 279 = .ok (.aload_n 0, 1) := by decide +kernel
theorem dL_law_280 : decode cL_law 280 = .ok (.iload_n 3, 1) := by decide +kernel
theorem dL_law_281 : decode cL_law 281 = .ok (.iconst 2, 1) := by decide +kernel
theorem dL_law_282 : decode cL_law 282 = .ok (.iadd, 1) := by decide +kernel
theorem dL_law_283 : decode cL_law 283 = .ok (.iaload, 1) := by decide +kernel
theorem dL_law_284 : decode cL_law 284 = .ok (.invokevirtual 36, 3) := by decide +kernel
theorem dL_law_287 : decode cL_law 287 = .ok (.aload_n 2, 1) := by decide +kernel
theorem dL_law_288 : decode cL_law 288 = .ok (.aload_n 0, 1) := by decide +kernel
theorem dL_law_289 : decode cL_law 289 = .ok (.iload_n 3, 1) := by decide +kernel
theorem dL_law_290 : decode cL_law 290 = .ok (.iconst 1, 1) := by decide +kernel
theorem dL_law_291 : decode cL_law 291 = .ok (.iadd, 1) := by decide +kernel
theorem dL_law_292 : decode cL_law 292 = .ok (.iaload, 1) := by decide +kernel
theorem dL_law_293 : decode cL_law 293 = .ok (.aload_n 0, 1) := by decide +kernel
theorem dL_law_294 : decode cL_law 294 = .ok (.iload_n 3, 1) := by decide +kernel
theorem dL_law_295 : decode cL_law 295 = .ok (.iconst 2, 1) := by decide +kernel
theorem dL_law_296 : decode cL_law 296 = .ok (.iadd, 1) := by decide +kernel
theorem dL_law_297 : decode cL_law 297 = .ok (.iaload, 1) := by decide +kernel
theorem dL_law_298 : decode cL_law 298 = .ok (.invokevirtual 39, 3) := by decide +kernel
theorem dL_law_301 : decode cL_law 301 = .ok (.if_icmp .eq 627, 3) := by decide +kernel
theorem dL_law_304 : decode cL_law 304 = .ok (.iconst 0, 1) := by decide +kernel
theorem dL_law_305 : decode cL_law 305 = .ok (.ireturn, 1) := by decide +kernel
theorem dL_law_306 : decode cL_law 306 = .ok (.aload_n 1, 1) := by decide +kernel
theorem dL_law_307 : decode cL_law 307 = .ok (.aload_n 0, 1) := by decide +kernel
theorem dL_law_308 : decode cL_law 308 = .ok (.iload_n 3, 1) := by decide +kernel
theorem dL_law_309 : decode cL_law 309 = .ok (.iconst 1, 1) := by decide +kernel
theorem dL_law_310 : decode cL_law 310 = .ok (.iadd, 1) := by decide +kernel
theorem dL_law_311 : decode cL_law 311 = .ok (.iaload, 1) := by decide +kernel
theorem dL_law_312 : decode cL_law 312 = .ok (.aload_n 0, 1) := by decide +kernel
theorem dL_law_313 : decode cL_law 313 = .ok (.iload_n 3, 1) := by decide +kernel
theorem dL_law_314 : decode cL_law 314 = .ok (.iconst 2, 1) := by decide +kernel
theorem dL_law_315 : decode cL_law 315 = .ok (.iadd, 1) := by decide +kernel
theorem dL_law_316 : decode cL_law 316 = .ok (.iaload, 1) := by decide +kernel
theorem dL_law_317 : decode cL_law 317 = .ok (.invokevirtual 40, 3) := by decide +kernel
theorem dL_law_320 : decode cL_law 320 = .ok (.aload_n 2, 1) := by decide +kernel
theorem dL_law_321 : decode cL_law 321 = .ok (.aload_n 0, 1) := by decide +kernel
theorem dL_law_322 : decode cL_law 322 = .ok (.iload_n 3, 1) := by decide +kernel
theorem dL_law_323 : decode cL_law 323 = .ok (.iconst 1, 1) := by decide +kernel
theorem dL_law_324 : decode cL_law 324 = .ok (.iadd, 1) := by decide +kernel
theorem dL_law_325 : decode cL_law 325 = .ok (.iaload, 1) := by decide +kernel
theorem dL_law_326 : decode cL_law 326 = .ok (.aload_n 0, 1) := by decide +kernel
theorem dL_law_327 : decode cL_law 327 = .ok (.iload_n 3, 1) := by decide +kernel
theorem dL_law_328 : decode cL_law 328 = .ok (.iconst 2, 1) := by decide +kernel
theorem dL_law_329 : decode cL_law 329 = .ok (.iadd, 1) := by decide +kernel
theorem dL_law_330 : decode cL_law 330 = .ok (.iaload, 1) := by decide +kernel
theorem dL_law_331 : decode cL_law 331 = .ok (.invokevirtual 43, 3) := by decide +kernel
theorem dL_law_334 : decode cL_law 334 = .ok (.if_icmp .eq 594, 3) := by decide +kernel
theorem dL_law_337 : decode cL_law 337 = .ok (.iconst 0, 1) := by decide +kernel
theorem dL_law_338 : decode cL_law 338 = .ok (.ireturn, 1) := by decide +kernel
theorem dL_law_339 : decode cL_law 339 = .ok (.aload_n 1, 1) := by decide +kernel
theorem dL_law_340 : decode cL_law 340 = .ok (.aload_n 0, 1) := by decide +kernel
theorem dL_law_341 : decode cL_law 341 = .ok (.iload_n 3, 1) := by decide +kernel
theorem dL_law_342 : decode cL_law 342 = .ok (.iconst 1, 1) := by decide +kernel
theorem dL_law_343 : decode cL_law 343 = .ok (.iadd, 1) := by decide +kernel
theorem dL_law_344 : decode cL_law 344 = .ok (.iaload, 1) := by decide +kernel
theorem dL_law_345 : decode cL_law 345 = .ok (.aload_n 0, 1) := by decide +kernel
theorem dL_law_346 : decode cL_law 346 = .ok (.iload_n 3, 1) := by decide +kernel
theorem dL_law_347 : decode cL_law 347 = .ok (.iconst 2, 1) := by decide +kernel
theorem dL_law_348 : decode cL_law 348 = .ok (.iadd, 1) := by decide +kernel
theorem dL_law_349 : decode cL_law 349 = .ok (.iaload, 1) := by decide +kernel
theorem dL_law_350 : decode cL_law 350 = .ok (.invokevirtual 44, 3) := by decide +kernel
theorem dL_law_353 : decode cL_law 353 = .ok (.aload_n 2, 1) := by decide +kernel
theorem dL_law_354 : decode cL_law 354 = .ok (.aload_n 0, 1) := by decide +kernel
theorem dL_law_355 : decode cL_law 355 = .ok (.iload_n 3, 1) := by decide +kernel
theorem dL_law_356 : decode cL_law 356 = .ok (.iconst 1, 1) := by decide +kernel
theorem dL_law_357 : decode cL_law 357 = .ok (.iadd, 1) := by decide +kernel
theorem dL_law_358 : decode cL_law 358 = .ok (.iaload, 1) := by decide +kernel
theorem dL_law_359 : decode cL_law 359 = .ok (.aload_n 0, 1) := by decide +kernel
theorem dL_law_360 : decode cL_law 360 = .ok (.iload_n 3, 1) := by decide +kernel
theorem dL_law_361 : decode cL_law 361 = .ok (.iconst 2, 1) := by decide +kernel
theorem dL_law_362 : decode cL_law 362 = .ok (.iadd, 1) := by decide +kernel
theorem dL_law_363 : decode cL_law 363 = .ok (.iaload, 1) := by decide +kernel
theorem dL_law_364 : decode cL_law 364 = .ok (.invokevirtual 47, 3) := by decide +kernel
theorem dL_law_367 : decode cL_law 367 = .ok (.if_icmp .eq 561, 3) := by decide +kernel
theorem dL_law_370 : decode cL_law 370 = .ok (.iconst 0, 1) := by decide +kernel
theorem dL_law_371 : decode cL_law 371 = .ok (.ireturn, 1) := by decide +kernel
theorem dL_law_372 : decode cL_law 372 = .ok (.aload_n 1, 1) := by decide +kernel
theorem dL_law_373 : decode cL_law 373 = .ok (.invokevirtual 48, 3) := by decide +kernel
theorem dL_law_376 : decode cL_law 376 = .ok (.aload_n 2, 1) := by decide +kernel
theorem dL_law_377 : decode cL_law 377 = .ok (.invokevirtual 51, 3) := by decide +kernel
theorem dL_law_380 : decode cL_law 380 = .ok (.if_icmp .eq 548, 3) := by decide +kernel
theorem dL_law_383 : decode cL_law 383 = .ok (.iconst 0, 1) := by decide +kernel
theorem dL_law_384 : decode cL_law 384 = .ok (.ireturn, 1) := by decide +kernel
theorem dL_law_385 : decode cL_law 385 = .ok (.aload_n 1, 1) := by decide +kernel
theorem dL_law_386 : decode cL_law 386 = .ok (.aload_n 0, 1) := by decide +kernel
theorem dL_law_387 : decode cL_law 387 = .ok (.iload_n 3, 1) := by decide +kernel
theorem dL_law_388 : decode cL_law 388 = .ok (.iconst 1, 1) := by decide +kernel
theorem dL_law_389 : decode cL_law 389 = .ok (.iadd, 1) := by decide +kernel
theorem dL_law_390 : decode cL_law 390 = .ok (.iaload, 1) := by decide +kernel
theorem dL_law_391 : decode cL_law 391 = .ok (.invokevirtual 52, 3) := by decide +kernel
theorem dL_law_394 : decode cL_law 394 = .ok (.aload_n 2, 1) := by decide +kernel
theorem dL_law_395 : decode cL_law 395 = .ok (.aload_n 0, 1) := by decide +kernel
theorem dL_law_396 : decode cL_law 396 = .ok (.iload_n 3, 1) := by decide +kernel
theorem dL_law_397 : decode cL_law 397 = .ok (.iconst 1, 1) := by decide +kernel
theorem dL_law_398 : decode cL_law 398 = .ok (.iadd, 1) := by decide +kernel
theorem dL_law_399 : decode cL_law 399 = .ok (.iaload, 1) := by decide +kernel
theorem dL_law_400 : decode cL_law 400 = .ok (.invokevirtual 55, 3) := by decide +kernel
theorem dL_law_403 : decode cL_law 403 = .ok (.if_icmp .eq 525, 3) := by decide +kernel
theorem dL_law_406 : decode cL_law 406 = .ok (.iconst 0, 1) := by decide +kernel
theorem dL_law_407 : decode cL_law 407 = .ok (.ireturn, 1) := by decide +kernel
theorem dL_law_408 : decode cL_law 408 = .ok (.aload_n 1, 1) := by decide +kernel
theorem dL_law_409 : decode cL_law 409 = .ok (.aload_n 0, 1) := by decide +kernel
theorem dL_law_410 : decode cL_law 410 = .ok (.iload_n 3, 1) := by decide +kernel
theorem dL_law_411 : decode cL_law 411 = .ok (.iconst 1, 1) := by decide +kernel
theorem dL_law_412 : decode cL_law 412 = .ok (.iadd, 1) := by decide +kernel
theorem dL_law_413 : decode cL_law 413 = .ok (.iaload, 1) := by decide +kernel
theorem dL_law_414 : decode cL_law 414 = .ok (.invokevirtual 56, 3) := by decide +kernel
theorem dL_law_417 : decode cL_law 417 = .ok (.aload_n 2, 1) := by decide +kernel
theorem dL_law_418 : decode cL_law 418 = .ok (.aload_n 0, 1) := by decide +kernel
theorem dL_law_419 : decode cL_law 419 = .ok (.iload_n 3, 1) := by decide +kernel
theorem dL_law_420 : decode cL_law 420 = .ok (.iconst 1, 1) := by decide +kernel
theorem dL_law_421 : decode cL_law 421 = .ok (.iadd, 1) := by decide +kernel
theorem dL_law_422 : decode cL_law 422 = .ok (.iaload, 1) := by decide +kernel
theorem dL_law_423 : decode cL_law 423 = .ok (.invokevirtual 59, 3) := by decide +kernel
theorem dL_law_426 : decode cL_law 426 = .ok (.if_icmp .eq 502, 3) := by decide +kernel
theorem dL_law_429 : decode cL_law 429 = .ok (.iconst 0, 1) := by decide +kernel
theorem dL_law_430 : decode cL_law 430 = .ok (.ireturn, 1) := by decide +kernel
theorem dL_law_431 : decode cL_law 431 = .ok (.aload_n 1, 1) := by decide +kernel
theorem dL_law_432 : decode cL_law 432 = .ok (.aload_n 0, 1) := by decide +kernel
theorem dL_law_433 : decode cL_law 433 = .ok (.iload_n 3, 1) := by decide +kernel
theorem dL_law_434 : decode cL_law 434 = .ok (.iconst 1, 1) := by decide +kernel
theorem dL_law_435 : decode cL_law 435 = .ok (.iadd, 1) := by decide +kernel
theorem dL_law_436 : decode cL_law 436 = .ok (.iaload, 1) := by decide +kernel
theorem dL_law_437 : decode cL_law 437 = .ok (.invokevirtual 60, 3) := by decide +kernel
theorem dL_law_440 : decode cL_law 440 = .ok (.aload_n 2, 1) := by decide +kernel
theorem dL_law_441 : decode cL_law 441 = .ok (.aload_n 0, 1) := by decide +kernel
theorem dL_law_442 : decode cL_law 442 = .ok (.iload_n 3, 1) := by decide +kernel
theorem dL_law_443 : decode cL_law 443 = .ok (.iconst 1, 1) := by decide +kernel
theorem dL_law_444 : decode cL_law 444 = .ok (.iadd, 1) := by decide +kernel
theorem dL_law_445 : decode cL_law 445 = .ok (.iaload, 1) := by decide +kernel
theorem dL_law_446 : decode cL_law 446 = .ok (.invokevirtual 63, 3) := by decide +kernel
theorem dL_law_449 : decode cL_law 449 = .ok (.if_icmp .eq 479, 3) := by decide +kernel
theorem dL_law_452 : decode cL_law 452 = .ok (.iconst 0, 1) := by decide +kernel
theorem dL_law_453 : decode cL_law 453 = .ok (.ireturn, 1) := by decide +kernel
theorem dL_law_454 : decode cL_law 454 = .ok (.aload_n 1, 1) := by decide +kernel
theorem dL_law_455 : decode cL_law 455 = .ok (.aload_n 0, 1) := by decide +kernel
theorem dL_law_456 : decode cL_law 456 = .ok (.iload_n 3, 1) := by decide +kernel
theorem dL_law_457 : decode cL_law 457 = .ok (.iconst 1, 1) := by decide +kernel
theorem dL_law_458 : decode cL_law 458 = .ok (.iadd, 1) := by decide +kernel
theorem dL_law_459 : decode cL_law 459 = .ok (.iaload, 1) := by decide +kernel
theorem dL_law_460 : decode cL_law 460 = .ok (.invokevirtual 64, 3) := by decide +kernel
theorem dL_law_463 : decode cL_law 463 = .ok (.aload_n 2, 1) := by decide +kernel
theorem dL_law_464 : decode cL_law 464 = .ok (.aload_n 0, 1) := by decide +kernel
theorem dL_law_465 : decode cL_law 465 = .ok (.iload_n 3, 1) := by decide +kernel
theorem dL_law_466 : decode cL_law 466 = .ok (.iconst 1, 1) := by decide +kernel
theorem dL_law_467 : decode cL_law 467 = .ok (.iadd, 1) := by decide +kernel
theorem dL_law_468 : decode cL_law 468 = .ok (.iaload, 1) := by decide +kernel
theorem dL_law_469 : decode cL_law 469 = .ok (.invokevirtual 67, 3) := by decide +kernel
theorem dL_law_472 : decode cL_law 472 = .ok (.if_icmp .eq 456, 3) := by decide +kernel
theorem dL_law_475 : decode cL_law 475 = .ok (.iconst 0, 1) := by decide +kernel
theorem dL_law_476 : decode cL_law 476 = .ok (.ireturn, 1) := by decide +kernel
theorem dL_law_477 : decode cL_law 477 = .ok (.aload_n 1, 1) := by decide +kernel
theorem dL_law_478 : decode cL_law 478 = .ok (.aload_n 0, 1) := by decide +kernel
theorem dL_law_479 : decode cL_law 479 = .ok (.iload_n 3, 1) := by decide +kernel
theorem dL_law_480 : decode cL_law 480 = .ok (.iconst 1, 1) := by decide +kernel
theorem dL_law_481 : decode cL_law 481 = .ok (.iadd, 1) := by decide +kernel
theorem dL_law_482 : decode cL_law 482 = .ok (.iaload, 1) := by decide +kernel
theorem dL_law_483 : decode cL_law 483 = .ok (.invokevirtual 68, 3) := by decide +kernel
theorem dL_law_486 : decode cL_law 486 = .ok (.aload_n 2, 1) := by decide +kernel
theorem dL_law_487 : decode cL_law 487 = .ok (.aload_n 0, 1) := by decide +kernel
theorem dL_law_488 : decode cL_law 488 = .ok (.iload_n 3, 1) := by decide +kernel
theorem dL_law_489 : decode cL_law 489 = .ok (.iconst 1, 1) := by decide +kernel
theorem dL_law_490 : decode cL_law 490 = .ok (.iadd, 1) := by decide +kernel
theorem dL_law_491 : decode cL_law 491 = .ok (.iaload, 1) := by decide +kernel
theorem dL_law_492 : decode cL_law 492 = .ok (.invokevirtual 71, 3) := by decide +kernel
theorem dL_law_495 : decode cL_law 495 = .ok (.if_icmp .eq 433, 3) := by decide +kernel
theorem dL_law_498 : decode cL_law 498 = .ok (.iconst 0, 1) := by decide +kernel
theorem dL_law_499 : decode cL_law 499 = .ok (.ireturn, 1) := by decide +kernel
theorem dL_law_500 : decode cL_law 500 = .ok (.aload_n 1, 1) := by decide +kernel
theorem dL_law_501 : decode cL_law 501 = .ok (.aload_n 0, 1) := by decide +kernel
theorem dL_law_502 : decode cL_law 502 = .ok (.iload_n 3, 1) := by decide +kernel
theorem dL_law_503 : decode cL_law 503 = .ok (.iconst 1, 1) := by decide +kernel
theorem dL_law_504 : decode cL_law 504 = .ok (.iadd, 1) := by decide +kernel
theorem dL_law_505 : decode cL_law 505 = .ok (.iaload, 1) := by decide +kernel
theorem dL_law_506 : decode cL_law 506 = .ok (.invokevirtual 72, 3) := by decide +kernel
theorem dL_law_509 : decode cL_law 509 = .ok (.aload_n 2, 1) := by decide +kernel
theorem dL_law_510 : decode cL_law 510 = .ok (.aload_n 0, 1) := by decide +kernel
theorem dL_law_511 : decode cL_law 511 = .ok (.iload_n 3, 1) := by decide +kernel
theorem dL_law_512 : decode cL_law 512 = .ok (.iconst 1, 1) := by decide +kernel
theorem dL_law_513 : decode cL_law 513 = .ok (.iadd, 1) := by decide +kernel
theorem dL_law_514 : decode cL_law 514 = .ok (.iaload, 1) := by decide +kernel
theorem dL_law_515 : decode cL_law 515 = .ok (.invokevirtual 75, 3) := by decide +kernel
theorem dL_law_518 : decode cL_law 518 = .ok (.if_icmp .eq 410, 3) := by decide +kernel
theorem dL_law_521 : decode cL_law 521 = .ok (.iconst 0, 1) := by decide +kernel
theorem dL_law_522 : decode cL_law 522 = .ok (.ireturn, 1) := by decide +kernel
theorem dL_law_523 : decode cL_law 523 = .ok (.aload_n 1, 1) := by decide +kernel
theorem dL_law_524 : decode cL_law 524 = .ok (.aload_n 0, 1) := by decide +kernel
theorem dL_law_525 : decode cL_law 525 = .ok (.iload_n 3, 1) := by decide +kernel
theorem dL_law_526 : decode cL_law 526 = .ok (.iconst 1, 1) := by decide +kernel
theorem dL_law_527 : decode cL_law 527 = .ok (.iadd, 1) := by decide +kernel
theorem dL_law_528 : decode cL_law 528 = .ok (.iaload, 1) := by decide +kernel
theorem dL_law_529 : decode cL_law 529 = .ok (.aload_n 0, 1) := by decide +kernel
theorem dL_law_530 : decode cL_law 530 = .ok (.iload_n 3, 1) := by decide +kernel
theorem dL_law_531 : decode cL_law 531 = .ok (.iconst 2, 1) := by decide +kernel
theorem dL_law_532 : decode cL_law 532 = .ok (.iadd, 1) := by decide +kernel
theorem dL_law_533 : decode cL_law 533 = .ok (.iaload, 1) := by decide +kernel
theorem dL_law_534 : decode cL_law 534 = .ok (.invokevirtual 76, 3) := by decide +kernel
theorem dL_law_537 : decode cL_law 537 = .ok (.aload_n 2, 1) := by decide +kernel
theorem dL_law_538 : decode cL_law 538 = .ok (.aload_n 0, 1) := by decide +kernel
theorem dL_law_539 : decode cL_law 539 = .ok (.iload_n 3, 1) := by decide +kernel
theorem dL_law_540 : decode cL_law 540 = .ok (.iconst 1, 1) := by decide +kernel
theorem dL_law_541 : decode cL_law 541 = .ok (.iadd, 1) := by decide +kernel
theorem dL_law_542 : decode cL_law 542 = .ok (.iaload, 1) := by decide +kernel
theorem dL_law_543 : decode cL_law 543 = .ok (.aload_n 0, 1) := by decide +kernel
theorem dL_law_544 : decode cL_law 544 = .ok (.iload_n 3, 1) := by decide +kernel
theorem dL_law_545 : decode cL_law 545 = .ok (.iconst 2, 1) := by decide +kernel
theorem dL_law_546 : decode cL_law 546 = .ok (.iadd, 1) := by decide +kernel
theorem dL_law_547 : decode cL_law 547 = .ok (.iaload, 1) := by decide +kernel
theorem dL_law_548 : decode cL_law 548 = .ok (.invokevirtual 79, 3) := by decide +kernel
theorem dL_law_551 : decode cL_law 551 = .ok (.if_icmp .eq 377, 3) := by decide +kernel
theorem dL_law_554 : decode cL_law 554 = .ok (.iconst 0, 1) := by decide +kernel
theorem dL_law_555 : decode cL_law 555 = .ok (.ireturn, 1) := by decide +kernel
theorem dL_law_556 : decode cL_law 556 = .ok (.aload_n 1, 1) := by decide +kernel
theorem dL_law_557 : decode cL_law 557 = .ok (.aload_n 0, 1) := by decide +kernel
theorem dL_law_558 : decode cL_law 558 = .ok (.iload_n 3, 1) := by decide +kernel
theorem dL_law_559 : decode cL_law 559 = .ok (.iconst 1, 1) := by decide +kernel
theorem dL_law_560 : decode cL_law 560 = .ok (.iadd, 1) := by decide +kernel
theorem dL_law_561 : decode cL_law 561 = .ok (.iaload, 1) := by decide +kernel
theorem dL_law_562 : decode cL_law 562 = .ok (.invokevirtual 80, 3) := by decide +kernel
theorem dL_law_565 : decode cL_law 565 = .ok (.aload_n 2, 1) := by decide +kernel
theorem dL_law_566 : decode cL_law 566 = .ok (.aload_n 0, 1) := by decide +kernel
theorem dL_law_567 : decode cL_law 567 = .ok (.iload_n 3, 1) := by decide +kernel
theorem dL_law_568 : decode cL_law 568 = .ok (.iconst 1, 1) := by decide +kernel
theorem dL_law_569 : decode cL_law 569 = .ok (.iadd, 1) := by decide +kernel
theorem dL_law_570 : decode cL_law 570 = .ok (.iaload, 1) := by decide +kernel
theorem dL_law_571 : decode cL_law 571 = .ok (.invokevirtual 83, 3) := by decide +kernel
theorem dL_law_574 : decode cL_law 574 = .ok (.if_icmp .eq 354, 3) := by decide +kernel
theorem dL_law_577 : decode cL_law 577 = .ok (.iconst 0, 1) := by decide +kernel
theorem dL_law_578 : decode cL_law 578 = .ok (.ireturn, 1) := by decide +kernel
theorem dL_law_579 : decode cL_law 579 = .ok (.aload_n 1, 1) := by decide +kernel
theorem dL_law_580 : decode cL_law 580 = .ok (.aload_n 0, 1) := by decide +kernel
theorem dL_law_581 : decode cL_law 581 = .ok (.iload_n 3, 1) := by decide +kernel
theorem dL_law_582 : decode cL_law 582 = .ok (.iconst 1, 1) := by decide +kernel
theorem dL_law_583 : decode cL_law 583 = .ok (.iadd, 1) := by decide +kernel
theorem dL_law_584 : decode cL_law 584 = .ok (.iaload, 1) := by decide +kernel
theorem dL_law_585 : decode cL_law 585 = .ok (.aload_n 0, 1) := by decide +kernel
theorem dL_law_586 : decode cL_law 586 = .ok (.iload_n 3, 1) := by decide +kernel
theorem dL_law_587 : decode cL_law 587 = .ok (.iconst 2, 1) := by decide +kernel
theorem dL_law_588 : decode cL_law 588 = .ok (.iadd, 1) := by decide +kernel
theorem dL_law_589 : decode cL_law 589 = .ok (.iaload, 1) := by decide +kernel
theorem dL_law_590 : decode cL_law 590 = .ok (.aload_n 0, 1) := by decide +kernel
theorem dL_law_591 : decode cL_law 591 = .ok (.iload_n 3, 1) := by decide +kernel
theorem dL_law_592 : decode cL_law 592 = .ok (.iconst 3, 1) := by decide +kernel
theorem dL_law_593 : decode cL_law 593 = .ok (.iadd, 1) := by decide +kernel
theorem dL_law_594 : decode cL_law 594 = .ok (.iaload, 1) := by decide +kernel
theorem dL_law_595 : decode cL_law 595 = .ok (.invokevirtual 84, 3) := by decide +kernel
theorem dL_law_598 : decode cL_law 598 = .ok (.aload_n 2, 1) := by decide +kernel
theorem dL_law_599 : decode cL_law 599 = .ok (.aload_n 0, 1) := by decide +kernel
theorem dL_law_600 : decode cL_law 600 = .ok (.iload_n 3, 1) := by decide +kernel
theorem dL_law_601 : decode cL_law 601 = .ok (.iconst 1, 1) := by decide +kernel
theorem dL_law_602 : decode cL_law 602 = .ok (.iadd, 1) := by decide +kernel
theorem dL_law_603 : decode cL_law 603 = .ok (.iaload, 1) := by decide +kernel
theorem dL_law_604 : decode cL_law 604 = .ok (.aload_n 0, 1) := by decide +kernel
theorem dL_law_605 : decode cL_law 605 = .ok (.iload_n 3, 1) := by decide +kernel
theorem dL_law_606 : decode cL_law 606 = .ok (.iconst 2, 1) := by decide +kernel
theorem dL_law_607 : decode cL_law 607 = .ok (.iadd, 1) := by decide +kernel
theorem dL_law_608 : decode cL_law 608 = .ok (.iaload, 1) := by decide +kernel
theorem dL_law_609 : decode cL_law 609 = .ok (.aload_n 0, 1) := by decide +kernel
theorem dL_law_610 : decode cL_law 610 = .ok (.iload_n 3, 1) := by decide +kernel
theorem dL_law_611 : decode cL_law 611 = .ok (.iconst 3, 1) := by decide +kernel
theorem dL_law_612 : decode cL_law 612 = .ok (.iadd, 1) := by decide +kernel
theorem dL_law_613 : decode cL_law 613 = .ok (.iaload, 1) := by decide +kernel
theorem dL_law_614 : decode cL_law 614 = .ok (.invokevirtual 88, 3) := by decide +kernel
theorem dL_law_617 : decode cL_law 617 = .ok (.if_icmp .eq 311, 3) := by decide +kernel
theorem dL_law_620 : decode cL_law 620 = .ok (.iconst 0, 1) := by decide +kernel
theorem dL_law_621 : decode cL_law 621 = .ok (.ireturn, 1) := by decide +kernel
theorem dL_law_622 : decode cL_law 622 = .ok (.aload_n 1, 1) := by decide +kernel
theorem dL_law_623 : decode cL_law 623 = .ok (.aload_n 0, 1) := by decide +kernel
theorem dL_law_624 : decode cL_law 624 = .ok (.iload_n 3, 1) := by decide +kernel
theorem dL_law_625 : decode cL_law 625 = .ok (.iconst 1, 1) := by decide +kernel
theorem dL_law_626 : decode cL_law 626 = .ok (.iadd, 1) := by decide +kernel
theorem dL_law_627 : decode cL_law 627 = .ok (.iaload, 1) := by decide +kernel
theorem dL_law_628 : decode cL_law 628 = .ok (.aload_n 0, 1) := by decide +kernel
theorem dL_law_629 : decode cL_law 629 = .ok (.iload_n 3, 1) := by decide +kernel
theorem dL_law_630 : decode cL_law 630 = .ok (.iconst 2, 1) := by decide +kernel
theorem dL_law_631 : decode cL_law 631 = .ok (.iadd, 1) := by decide +kernel
theorem dL_law_632 : decode cL_law 632 = .ok (.iaload, 1) := by decide +kernel
theorem dL_law_633 : decode cL_law 633 = .ok (.invokevirtual 89, 3) := by decide +kernel
theorem dL_law_636 : decode cL_law 636 = .ok (.aload_n 2, 1) := by decide +kernel
theorem dL_law_637 : decode cL_law 637 = .ok (.aload_n 0, 1) := by decide +kernel
theorem dL_law_638 : decode cL_law 638 = .ok (.iload_n 3, 1) := by decide +kernel
theorem dL_law_639 : decode cL_law 639 = .ok (.iconst 1, 1) := by decide +kernel
theorem dL_law_640 : decode cL_law 640 = .ok (.iadd, 1) := by decide +kernel
theorem dL_law_641 : decode cL_law 641 = .ok (.iaload, 1) := by decide +kernel
theorem dL_law_642 : decode cL_law 642 = .ok (.aload_n 0, 1) := by decide +kernel
theorem dL_law_643 : decode cL_law 643 = .ok (.iload_n 3, 1) := by decide +kernel
theorem dL_law_644 : decode cL_law 644 = .ok (.iconst 2, 1) := by decide +kernel
theorem dL_law_645 : decode cL_law 645 = .ok (.iadd, 1) := by decide +kernel
theorem dL_law_646 : decode cL_law 646 = .ok (.iaload, 1) := by decide +kernel
theorem dL_law_647 : decode cL_law 647 = .ok (.invokevirtual 92, 3) := by decide +kernel
theorem dL_law_650 : decode cL_law 650 = .ok (.if_icmp .eq 278, 3) := by decide +kernel
theorem dL_law_653 : decode cL_law 653 = .ok (.iconst 0, 1) := by decide +kernel
theorem dL_law_654 : decode cL_law 654 = .ok (.ireturn, 1) := by decide +kernel
theorem dL_law_655 : decode cL_law 655 = .ok (.aload_n 1, 1) := by decide +kernel
theorem dL_law_656 : decode cL_law 656 = .ok (.aload_n 0, 1) := by decide +kernel
theorem dL_law_657 : decode cL_law 657 = .ok (.iload_n 3, 1) := by decide +kernel
theorem dL_law_658 : decode cL_law 658 = .ok (.iconst 1, 1) := by decide +kernel
theorem dL_law_659 : decode cL_law 659 = .ok (.iadd, 1) := by decide +kernel
theorem dL_law_660 : decode cL_law 660 = .ok (.iaload, 1) := by decide +kernel
theorem dL_law_661 : decode cL_law 661 = .ok (.aload_n 0, 1) := by decide +kernel
theorem dL_law_662 : decode cL_law 662 = .ok (.iload_n 3, 1) := by decide +kernel
theorem dL_law_663 : decode cL_law 663 = .ok (.iconst 2, 1) := by decide +kernel
theorem dL_law_664 : decode cL_law 664 = .ok (.iadd, 1) := by decide +kernel
theorem dL_law_665 : decode cL_law 665 = .ok (.iaload, 1) := by decide +kernel
theorem dL_law_666 : decode cL_law 666 = .ok (.aload_n 0, 1) := by decide +kernel
theorem dL_law_667 : decode cL_law 667 = .ok (.iload_n 3, 1) := by decide +kernel
theorem dL_law_668 : decode cL_law 668 = .ok (.iconst 3, 1) := by decide +kernel
theorem dL_law_669 : decode cL_law 669 = .ok (.iadd, 1) := by decide +kernel
theorem dL_law_670 : decode cL_law 670 = .ok (.iaload, 1) := by decide +kernel
theorem dL_law_671 : decode cL_law 671 = .ok (.invokevirtual 93, 3) := by decide +kernel
theorem dL_law_674 : decode cL_law 674 = .ok (.aload_n 2, 1) := by decide +kernel
theorem dL_law_675 : decode cL_law 675 = .ok (.aload_n 0, 1) := by decide +kernel
theorem dL_law_676 : decode cL_law 676 = .ok (.iload_n 3, 1) := by decide +kernel
theorem dL_law_677 : decode cL_law 677 = .ok (.iconst 1, 1) := by decide +kernel
theorem dL_law_678 : decode cL_law 678 = .ok (.iadd, 1) := by decide +kernel
theorem dL_law_679 : decode cL_law 679 = .ok (.iaload, 1) := by decide +kernel
theorem dL_law_680 : decode cL_law 680 = .ok (.aload_n 0, 1) := by decide +kernel
theorem dL_law_681 : decode cL_law 681 = .ok (.iload_n 3, 1) := by decide +kernel
theorem dL_law_682 : decode cL_law 682 = .ok (.iconst 2, 1) := by decide +kernel
theorem dL_law_683 : decode cL_law 683 = .ok (.iadd, 1) := by decide +kernel
theorem dL_law_684 : decode cL_law 684 = .ok (.iaload, 1) := by decide +kernel
theorem dL_law_685 : decode cL_law 685 = .ok (.aload_n 0, 1) := by decide +kernel
theorem dL_law_686 : decode cL_law 686 = .ok (.iload_n 3, 1) := by decide +kernel
theorem dL_law_687 : decode cL_law 687 = .ok (.iconst 3, 1) := by decide +kernel
theorem dL_law_688 : decode cL_law 688 = .ok (.iadd, 1) := by decide +kernel
theorem dL_law_689 : decode cL_law 689 = .ok (.iaload, 1) := by decide +kernel
theorem dL_law_690 : decode cL_law 690 = .ok (.invokevirtual 96, 3) := by decide +kernel
theorem dL_law_693 : decode cL_law 693 = .ok (.if_icmp .eq 235, 3) := by decide +kernel
theorem dL_law_696 : decode cL_law 696 = .ok (.iconst 0, 1) := by decide +kernel
theorem dL_law_697 : decode cL_law 697 = .ok (.ireturn, 1) := by decide +kernel
theorem dL_law_698 : decode cL_law 698 = .ok (.aload_n 1, 1) := by decide +kernel
theorem dL_law_699 : decode cL_law 699 = .ok (.aload_n 0, 1) := by decide +kernel
theorem dL_law_700 : decode cL_law 700 = .ok (.iload_n 3, 1) := by decide +kernel
theorem dL_law_701 : decode cL_law 701 = .ok (.iconst 1, 1) := by decide +kernel
theorem dL_law_702 : decode cL_law 702 = .ok (.iadd, 1) := by decide +kernel
theorem dL_law_703 : decode cL_law 703 = .ok (.iaload, 1) := by decide +kernel
theorem dL_law_704 : decode cL_law 704 = .ok (.aload_n 0, 1) := by decide +kernel
theorem dL_law_705 : decode cL_law 705 = .ok (.iload_n 3, 1) := by decide +kernel
theorem dL_law_706 : decode cL_law 706 = .ok (.iconst 2, 1) := by decide +kernel
theorem dL_law_707 : decode cL_law 707 = .ok (.iadd, 1) := by decide +kernel
theorem dL_law_708 : decode cL_law 708 = .ok (.iaload, 1) := by decide +kernel
theorem dL_law_709 : decode cL_law 709 = .ok (.invokevirtual 97, 3) := by decide +kernel
theorem dL_law_712 : decode cL_law 712 = .ok (.aload_n 2, 1) := by decide +kernel
theorem dL_law_713 : decode cL_law 713 = .ok (.aload_n 0, 1) := by decide +kernel
theorem dL_law_714 : decode cL_law 714 = .ok (.iload_n 3, 1) := by decide +kernel
theorem dL_law_715 : decode cL_law 715 = .ok (.iconst 1, 1) := by decide +kernel
theorem dL_law_716 : decode cL_law 716 = .ok (.iadd, 1) := by decide +kernel
theorem dL_law_717 : decode cL_law 717 = .ok (.iaload, 1) := by decide +kernel
theorem dL_law_718 : decode cL_law 718 = .ok (.aload_n 0, 1) := by decide +kernel
theorem dL_law_719 : decode cL_law 719 = .ok (.iload_n 3, 1) := by decide +kernel
theorem dL_law_720 : decode cL_law 720 = .ok (.iconst 2, 1) := by decide +kernel
theorem dL_law_721 : decode cL_law 721 = .ok (.iadd, 1) := by decide +kernel
theorem dL_law_722 : decode cL_law 722 = .ok (.iaload, 1) := by decide +kernel
theorem dL_law_723 : decode cL_law 723 = .ok (.invokevirtual 100, 3) := by decide +kernel
theorem dL_law_726 : decode cL_law 726 = .ok (.if_icmp .eq 202, 3) := by decide +kernel
theorem dL_law_729 : decode cL_law 729 = .ok (.iconst 0, 1) := by decide +kernel
theorem dL_law_730 : decode cL_law 730 = .ok (.ireturn, 1) := by decide +kernel
theorem dL_law_731 : decode cL_law 731 = .ok (.aload_n 1, 1) := by decide +kernel
theorem dL_law_732 : decode cL_law 732 = .ok (.aload_n 0, 1) := by decide +kernel
theorem dL_law_733 : decode cL_law 733 = .ok (.iload_n 3, 1) := by decide +kernel
theorem dL_law_734 : decode cL_law 734 = .ok (.iconst 1, 1) := by decide +kernel
theorem dL_law_735 : decode cL_law 735 = .ok (.iadd, 1) := by decide +kernel
theorem dL_law_736 : decode cL_law 736 = .ok (.iaload, 1) := by decide +kernel
theorem dL_law_737 : decode cL_law 737 = .ok (.aload_n 0, 1) := by decide +kernel
theorem dL_law_738 : decode cL_law 738 = .ok (.iload_n 3, 1) := by decide +kernel
theorem dL_law_739 : decode cL_law 739 = .ok (.iconst 2, 1) := by decide +kernel
theorem dL_law_740 : decode cL_law 740 = .ok (.iadd, 1) := by decide +kernel
theorem dL_law_741 : decode cL_law 741 = .ok (.iaload, 1) := by decide +kernel
theorem dL_law_742 : decode cL_law 742 = .ok (.aload_n 0, 1) := by decide +kernel
theorem dL_law_743 : decode cL_law 743 = .ok (.iload_n 3, 1) := by decide +kernel
theorem dL_law_744 : decode cL_law 744 = .ok (.iconst 3, 1) := by decide +kernel
theorem dL_law_745 : decode cL_law 745 = .ok (.iadd, 1) := by decide +kernel
theorem dL_law_746 : decode cL_law 746 = .ok (.iaload, 1) := by decide +kernel
theorem dL_law_747 : decode cL_law 747 = .ok (.invokevirtual 101, 3) := by decide +kernel
theorem dL_law_750 : decode cL_law 750 = .ok (.aload_n 2, 1) := by decide +kernel
theorem dL_law_751 : decode cL_law 751 = .ok (.aload_n 0, 1) := by decide +kernel
theorem dL_law_752 : decode cL_law 752 = .ok (.iload_n 3, 1) := by decide +kernel
theorem dL_law_753 : decode cL_law 753 = .ok (.iconst 1, 1) := by decide +kernel
theorem dL_law_754 : decode cL_law 754 = .ok (.iadd, 1) := by decide +kernel
theorem dL_law_755 : decode cL_law 755 = .ok (.iaload, 1) := by decide +kernel
theorem dL_law_756 : decode cL_law 756 = .ok (.aload_n 0, 1) := by decide +kernel
theorem dL_law_757 : decode cL_law 757 = .ok (.iload_n 3, 1) := by decide +kernel
theorem dL_law_758 : decode cL_law 758 = .ok (.iconst 2, 1) := by decide +kernel
theorem dL_law_759 : decode cL_law 759 = .ok (.iadd, 1) := by decide +kernel
theorem dL_law_760 : decode cL_law 760 = .ok (.iaload, 1) := by decide +kernel
theorem dL_law_761 : decode cL_law 761 = .ok (.aload_n 0, 1) := by decide +kernel
theorem dL_law_762 : decode cL_law 762 = .ok (.iload_n 3, 1) := by decide +kernel
theorem dL_law_763 : decode cL_law 763 = .ok (.iconst 3, 1) := by decide +kernel
theorem dL_law_764 : decode cL_law 764 = .ok (.iadd, 1) := by decide +kernel
theorem dL_law_765 : decode cL_law 765 = .ok (.iaload, 1) := by decide +kernel
theorem dL_law_766 : decode cL_law 766 = .ok (.invokevirtual 104, 3) := by decide +kernel
theorem dL_law_769 : decode cL_law 769 = .ok (.if_icmp .eq 159, 3) := by decide +kernel
theorem dL_law_772 : decode cL_law 772 = .ok (.iconst 0, 1) := by decide +kernel
theorem dL_law_773 : decode cL_law 773 = .ok (.ireturn, 1) := by decide +kernel
theorem dL_law_774 : decode cL_law 774 = .ok (.aload_n 1, 1) := by decide +kernel
theorem dL_law_775 : decode cL_law 775 = .ok (.invokevirtual 105, 3) := by decide +kernel
theorem dL_law_778 : decode cL_law 778 = .ok (.aload_n 2, 1) := by decide +kernel
theorem dL_law_779 : decode cL_law 779 = .ok (.invokevirtual 108, 3) := by decide +kernel
theorem dL_law_782 : decode cL_law 782 = .ok (.if_icmp .eq 146, 3) := by decide +kernel
theorem dL_law_785 : decode cL_law 785 = .ok (.iconst 0, 1) := by decide +kernel
theorem dL_law_786 : decode cL_law 786 = .ok (.ireturn, 1) := by decide +kernel
theorem dL_law_787 : decode cL_law 787 = .ok (.aload_n 1, 1) := by decide +kernel
theorem dL_law_788 : decode cL_law 788 = .ok (.invokevirtual 109, 3) := by decide +kernel
theorem dL_law_791 : decode cL_law 791 = .ok (.aload_n 2, 1) := by decide +kernel
theorem dL_law_792 : decode cL_law 792 = .ok (.invokevirtual 112, 3) := by decide +kernel
theorem dL_law_795 : decode cL_law 795 = .ok (.if_icmp .eq 133, 3) := by decide +kernel
theorem dL_law_798 : decode cL_law 798 = .ok (.iconst 0, 1) := by decide +kernel
theorem dL_law_799 : decode cL_law 799 = .ok (.ireturn, 1) := by decide +kernel
theorem dL_law_800 : decode cL_law 800 = .ok (.aload_n 1, 1) := by decide +kernel
theorem dL_law_801 : decode cL_law 801 = .ok (.aload_n 0, 1) := by decide +kernel
theorem dL_law_802 : decode cL_law 802 = .ok (.iload_n 3, 1) := by decide +kernel
theorem dL_law_803 : decode cL_law 803 = .ok (.iconst 1, 1) := by decide +kernel
theorem dL_law_804 : decode cL_law 804 = .ok (.iadd, 1) := by decide +kernel
theorem dL_law_805 : decode cL_law 805 = .ok (.iaload, 1) := by decide +kernel
theorem dL_law_806 : decode cL_law 806 = .ok (.aload_n 0, 1) := by decide +kernel
theorem dL_law_807 : decode cL_law 807 = .ok (.iload_n 3, 1) := by decide +kernel
theorem dL_law_808 : decode cL_law 808 = .ok (.iconst 2, 1) := by decide +kernel
theorem dL_law_809 : decode cL_law 809 = .ok (.iadd, 1) := by decide +kernel
theorem dL_law_810 : decode cL_law 810 = .ok (.iaload, 1) := by decide +kernel
theorem dL_law_811 : decode cL_law 811 = .ok (.invokevirtual 113, 3) := by decide +kernel
theorem dL_law_814 : decode cL_law 814 = .ok (.aload_n 2, 1) := by decide +kernel
theorem dL_law_815 : decode cL_law 815 = .ok (.aload_n 0, 1) := by decide +kernel
theorem dL_law_816 : decode cL_law 816 = .ok (.iload_n 3, 1) := by decide +kernel
theorem dL_law_817 : decode cL_law 817 = .ok (.iconst 1, 1) := by decide +kernel
theorem dL_law_818 : decode cL_law 818 = .ok (.iadd, 1) := by decide +kernel
theorem dL_law_819 : decode cL_law 819 = .ok (.iaload, 1) := by decide +kernel
theorem dL_law_820 : decode cL_law 820 = .ok (.aload_n 0, 1) := by decide +kernel
theorem dL_law_821 : decode cL_law 821 = .ok (.iload_n 3, 1) := by decide +kernel
theorem dL_law_822 : decode cL_law 822 = .ok (.iconst 2, 1) := by decide +kernel
theorem dL_law_823 : decode cL_law 823 = .ok (.iadd, 1) := by decide +kernel
theorem dL_law_824 : decode cL_law 824 = .ok (.iaload, 1) := by decide +kernel
theorem dL_law_825 : decode cL_law 825 = .ok (.invokevirtual 116, 3) := by decide +kernel
theorem dL_law_828 : decode cL_law 828 = .ok (.if_icmp .eq 100, 3) := by decide +kernel
theorem dL_law_831 : decode cL_law 831 = .ok (.iconst 0, 1) := by decide +kernel
theorem dL_law_832 : decode cL_law 832 = .ok (.ireturn, 1) := by decide +kernel
theorem dL_law_833 : decode cL_law 833 = .ok (.aload_n 1, 1) := by decide +kernel
theorem dL_law_834 : decode cL_law 834 = .ok (.invokevirtual 117, 3) := by decide +kernel
theorem dL_law_837 : decode cL_law 837 = .ok (.aload_n 2, 1) := by decide +kernel
theorem dL_law_838 : decode cL_law 838 = .ok (.invokevirtual 120, 3) := by decide +kernel
theorem dL_law_841 : decode cL_law 841 = .ok (.if_icmp .eq 87, 3) := by decide +kernel
theorem dL_law_844 : decode cL_law 844 = .ok (.iconst 0, 1) := by decide +kernel
theorem dL_law_845 : decode cL_law 845 = .ok (.ireturn, 1) := by decide +kernel
theorem dL_law_846 : decode cL_law 846 = .ok (.aload_n 1, 1) := by decide +kernel
theorem dL_law_847 : decode cL_law 847 = .ok (.invokevirtual 121, 3) := by decide +kernel
theorem dL_law_850 : decode cL_law 850 = .ok (.aload_n 2, 1) := by decide +kernel
theorem dL_law_851 : decode cL_law 851 = .ok (.invokevirtual 124, 3) := by decide +kernel
theorem dL_law_854 : decode cL_law 854 = .ok (.if_icmp .eq 74, 3) := by decide +kernel
theorem dL_law_857 : decode cL_law 857 = .ok (.iconst 0, 1) := by decide +kernel
theorem dL_law_858 : decode cL_law 858 = .ok (.ireturn, 1) := by decide +kernel
theorem dL_law_859 : decode cL_law 859 = .ok (.aload_n 1, 1) := by decide +kernel
theorem dL_law_860 : decode cL_law 860 = .ok (.aload_n 0, 1) := by decide +kernel
theorem dL_law_861 : decode cL_law 861 = .ok (.iload_n 3, 1) := by decide +kernel
theorem dL_law_862 : decode cL_law 862 = .ok (.iconst 1, 1) := by decide +kernel
theorem dL_law_863 : decode cL_law 863 = .ok (.iadd, 1) := by decide +kernel
theorem dL_law_864 : decode cL_law 864 = .ok (.iaload, 1) := by decide +kernel
theorem dL_law_865 : decode cL_law 865 = .ok (.invokevirtual 125, 3) := by decide +kernel
theorem dL_law_868 : decode cL_law 868 = .ok (.aload_n 2, 1) := by decide +kernel
theorem dL_law_869 : decode cL_law 869 = .ok (.aload_n 0, 1) := by decide +kernel
theorem dL_law_870 : decode cL_law 870 = .ok (.iload_n 3, 1) := by decide +kernel
theorem dL_law_871 : decode cL_law 871 = .ok (.iconst 1, 1) := by decide +kernel
theorem dL_law_872 : decode cL_law 872 = .ok (.iadd, 1) := by decide +kernel
theorem dL_law_873 : decode cL_law 873 = .ok (.iaload, 1) := by decide +kernel
theorem dL_law_874 : decode cL_law 874 = .ok (.invokevirtual 128, 3) := by decide +kernel
theorem dL_law_877 : decode cL_law 877 = .ok (.if_icmp .eq 51, 3) := by decide +kernel
theorem dL_law_880 : decode cL_law 880 = .ok (.iconst 0, 1) := by decide +kernel
theorem dL_law_881 : decode cL_law 881 = .ok (.ireturn, 1) := by decide +kernel
theorem dL_law_882 : decode cL_law 882 = .ok (.aload_n 1, 1) := by decide +kernel
theorem dL_law_883 : decode cL_law 883 = .ok (.aload_n 0, 1) := by decide +kernel
theorem dL_law_884 : decode cL_law 884 = .ok (.iload_n 3, 1) := by decide +kernel
theorem dL_law_885 : decode cL_law 885 = .ok (.iconst 1, 1) := by decide +kernel
theorem dL_law_886 : decode cL_law 886 = .ok (.iadd, 1) := by decide +kernel
theorem dL_law_887 : decode cL_law 887 = .ok (.iaload, 1) := by decide +kernel
theorem dL_law_888 : decode cL_law 888 = .ok (.invokevirtual 129, 3) := by decide +kernel
theorem dL_law_891 : decode cL_law 891 = .ok (.aload_n 2, 1) := by decide +kernel
theorem dL_law_892 : decode cL_law 892 = .ok (.aload_n 0, 1) := by decide +kernel
theorem dL_law_893 : decode cL_law 893 = .ok (.iload_n 3, 1) := by decide +kernel
theorem dL_law_894 : decode cL_law 894 = .ok (.iconst 1, 1) := by decide +kernel
theorem dL_law_895 : decode cL_law 895 = .ok (.iadd, 1) := by decide +kernel
theorem dL_law_896 : decode cL_law 896 = .ok (.iaload, 1) := by decide +kernel
theorem dL_law_897 : decode cL_law 897 = .ok (.invokevirtual 132, 3) := by decide +kernel
theorem dL_law_900 : decode cL_law 900 = .ok (.if_icmp .eq 28, 3) := by decide +kernel
theorem dL_law_903 : decode cL_law 903 = .ok (.iconst 0, 1) := by decide +kernel
theorem dL_law_904 : decode cL_law 904 = .ok (.ireturn, 1) := by decide +kernel
theorem dL_law_905 : decode cL_law 905 = .ok (.aload_n 1, 1) := by decide +kernel
theorem dL_law_906 : decode cL_law 906 = .ok (.aload_n 0, 1) := by decide +kernel
theorem dL_law_907 : decode cL_law 907 = .ok (.iload_n 3, 1) := by decide +kernel
theorem dL_law_908 : decode cL_law 908 = .ok (.iconst 1, 1) := by decide +kernel
theorem dL_law_909 : decode cL_law 909 = .ok (.iadd, 1) := by decide +kernel
theorem dL_law_910 : decode cL_law 910 = .ok (.iaload, 1) := by decide +kernel
theorem dL_law_911 : decode cL_law 911 = .ok (.invokevirtual 133, 3) := by decide +kernel
theorem dL_law_914 : decode cL_law 914 = .ok (.aload_n 2, 1) := by decide +kernel
theorem dL_law_915 : decode cL_law 915 = .ok (.aload_n 0, 1) := by decide +kernel
theorem dL_law_916 : decode cL_law 916 = .ok (.iload_n 3, 1) := by decide +kernel
theorem dL_law_917 : decode cL_law 917 = .ok (.iconst 1, 1) := by decide +kernel
theorem dL_law_918 : decode cL_law 918 = .ok (.iadd, 1) := by decide +kernel
theorem dL_law_919 : decode cL_law 919 = .ok (.iaload, 1) := by decide +kernel
theorem dL_law_920 : decode cL_law 920 = .ok (.invokevirtual 136, 3) := by decide +kernel
theorem dL_law_923 : decode cL_law 923 = .ok (.if_icmp .eq 5, 3) := by decide +kernel
theorem dL_law_926 : decode cL_law 926 = .ok (.iconst 0, 1) := by decide +kernel
theorem dL_law_927 : decode cL_law 927 = .ok (.ireturn, 1) := by decide +kernel
theorem dL_law_928 : decode cL_law 928 = .ok (.iinc 3 4, 3) := by decide +kernel
theorem dL_law_931 : decode cL_law 931 = .ok (.goto (-913), 3) := by decide +kernel
theorem dL_law_934 : decode cL_law 934 = .ok (.iconst 1, 1) := by decide +kernel
theorem dL_law_935 : decode cL_law 935 = .ok (.ireturn, 1) := by decide +kernel
def f_L_c168 (fu L : Nat) (xs : Nat → Int32) (mi : Mem) (w sp rw : Nat) (x3 : Int32) : Option (Int32 × Mem × Nat × Nat × Nat) := gd (inB (x3 + (nI 1)) L) (bd2 (f_X7_feed mi (xs (ix (x3 + (nI 1))))) fun r2 mi3 => gd (inB (x3 + (nI 1)) L) (bd2 (f_X8_feed mi3 (xs (ix (x3 + (nI 1))))) fun r5 mi6 => if r2 = r5 then (nm (x3 + (nI 4)) fun y8 => some (y8, mi6, w, sp, rw)) else (none)))
set_option maxHeartbeats 4000000 in
set_option maxRecDepth 100000 in
theorem law_c168 {p : Program} {l : Launch} {e : Env} {s : State} {m : MethodId} {below : List Frame} {meth : Method} {c : Code} {G : GT} {b L : Nat} {xs : Nat → Int32} (C : Cx G p s m c #[Value.ref b] RL cL_law 4) (hX : va_X b L xs s G.2.2.2.2) (hbl : b < G.2.2.2.2.size) (hz : G.2.2.2.2.size = G.2.2.2.1) {fu : Nat} {mi mi_ : Mem} {w sp rw w_ sp_ rw_ : Nat} (hq : isQ w sp rw) {x3 y3 : Int32} (hf : f_L_c168 fu L xs mi w sp rw x3 = some (y3, mi_, w_, sp_, rw_)) {H : Heap} {locs : List Loc} {ls : Array Slot} (hR : RM G S0 (mr0 w sp rw) mi H locs) (hl : lv_has ls 4 [(0, .ref b), (1, .ref (G.2.2.2.1 + 0)), (2, .ref (G.2.2.2.1 + 206)), (3, .int x3)]) (kk : ∀ (H : Heap) (locs : List Loc) (ls : Array Slot), isQ w_ sp_ rw_ → RM G S0 (mr0 w_ sp_ rw_) mi_ H locs → lv_has ls 4 [(0, .ref b), (1, .ref (G.2.2.2.1 + 0)), (2, .ref (G.2.2.2.1 + 206)), (3, .int y3)] → W p l e room_1 s m #[Value.ref b] below meth c H locs 227 8058 (lw_Z below #[Value.ref b] s) (F0 m 18 ls [])) : W p l e room_1 s m #[Value.ref b] below meth c H locs 227 8058 (lw_Z below #[Value.ref b] s) (F0 m 168 ls []) := by
  have hx := C.1
  have hb := C.2.1
  have hts := C.2.2.2.2.1
  have hbA : ¬ (fun q => G.2.2.2.1 ≤ q) b := by show ¬ _ ≤ _; rw [← hz]; exact Nat.not_le.mpr hbl
  rw [f_L_c168] at hf
  refine lv_aload_n hx hb dL_law_168 rfl (lv_at hl 1 rfl) ?_
  refine lv_aload_n hx hb dL_law_169 rfl (lv_at hl 0 rfl) ?_
  refine lv_iload_n hx hb dL_law_170 rfl (lv_at hl 3 rfl) ?_
  refine lv_iconst (v := (nI 1)) hx hb dL_law_171 (by decide) ?_
  refine lv_iadd hx hb dL_law_172 ?_
  obtain ⟨hg1, hf⟩ := gd_some hf
  refine va_sld hx hb hX hbl hbA (RM.S hR hz) (inB_vp hg1) dL_law_173 ?_
  obtain ⟨r2, mi3, hc, hf⟩ := bd2_some hf
  refine x_callV (cells := 227) (slots := 8058) (mc := 0) (ms := 0) (rest := []) C hR co_L_13 (m_X7_feed hq hc) v_0 rfl rfl (Nat.le_of_ble_eq_true rfl) hl.1 ⟨by decide, by decide⟩ ⟨by decide, by decide⟩ dL_law_174 (fun H locs hR => ?_)
  refine lv_aload_n hx hb dL_law_177 rfl (lv_at hl 2 rfl) ?_
  refine lv_aload_n hx hb dL_law_178 rfl (lv_at hl 0 rfl) ?_
  refine lv_iload_n hx hb dL_law_179 rfl (lv_at hl 3 rfl) ?_
  refine lv_iconst (v := (nI 1)) hx hb dL_law_180 (by decide) ?_
  refine lv_iadd hx hb dL_law_181 ?_
  obtain ⟨hg4, hf⟩ := gd_some hf
  refine va_sld hx hb hX hbl hbA (RM.S hR hz) (inB_vp hg4) dL_law_182 ?_
  obtain ⟨r5, mi6, hc, hf⟩ := bd2_some hf
  refine x_callV (cells := 227) (slots := 8058) (mc := 0) (ms := 0) (rest := [.int r2]) C hR co_L_17 (m_X8_feed hq hc) v_206 rfl rfl (Nat.le_of_ble_eq_true rfl) hl.1 ⟨by decide, by decide⟩ ⟨by decide, by decide⟩ dL_law_183 (fun H locs hR => ?_)
  refine lv_icmp_eq (tgt := 928) hx hb dL_law_186 (by decide) (fun c7 => ?_) (fun c7 => ?_)
  · rw [if_pos c7] at hf
    obtain ⟨y8, ey8, hf⟩ := nm_at hf
    refine lv_iinc (v := y8) (lv' := [(3, .int y8), (0, .ref b), (1, .ref (G.2.2.2.1 + 0)), (2, .ref (G.2.2.2.1 + 206))]) hx hb dL_law_928 hl (k := 3) rfl (by rw [ey8]; rfl) (by decide) rfl (fun ls hl => ?_)
    refine lv_goto (tgt := 18) hx hb dL_law_931 (by decide) ?_
    obtain ⟨rfl, rfl, rfl, rfl, rfl⟩ := p5_inj hf
    exact kk H locs ls hq hR (lv_sub hl [1, 2, 3, 0] rfl)
  · rw [if_neg c7] at hf
    cases hf
def f_L_c191 (fu L : Nat) (xs : Nat → Int32) (mi : Mem) (w sp rw : Nat) (x3 : Int32) : Option (Int32 × Mem × Nat × Nat × Nat) := bd5 (f_X7_game fu mi w sp rw) fun r1 mi2 w3 sp4 rw5 => gd (isQb w3 sp4 rw5) (bd2 (f_X8_game fu mi2) fun r8 mi9 => if r1 = r8 then (nm (x3 + (nI 4)) fun y11 => some (y11, mi9, w3, sp4, rw5)) else (none))
set_option maxHeartbeats 4000000 in
set_option maxRecDepth 100000 in
theorem law_c191 {p : Program} {l : Launch} {e : Env} {s : State} {m : MethodId} {below : List Frame} {meth : Method} {c : Code} {G : GT} {b L : Nat} {xs : Nat → Int32} (C : Cx G p s m c #[Value.ref b] RL cL_law 4) (hX : va_X b L xs s G.2.2.2.2) (hbl : b < G.2.2.2.2.size) (hz : G.2.2.2.2.size = G.2.2.2.1) {fu : Nat} {mi mi_ : Mem} {w sp rw w_ sp_ rw_ : Nat} (hq : isQ w sp rw) {x3 y3 : Int32} (hf : f_L_c191 fu L xs mi w sp rw x3 = some (y3, mi_, w_, sp_, rw_)) {H : Heap} {locs : List Loc} {ls : Array Slot} (hR : RM G S0 (mr0 w sp rw) mi H locs) (hl : lv_has ls 4 [(0, .ref b), (1, .ref (G.2.2.2.1 + 0)), (2, .ref (G.2.2.2.1 + 206)), (3, .int x3)]) (kk : ∀ (H : Heap) (locs : List Loc) (ls : Array Slot), isQ w_ sp_ rw_ → RM G S0 (mr0 w_ sp_ rw_) mi_ H locs → lv_has ls 4 [(0, .ref b), (1, .ref (G.2.2.2.1 + 0)), (2, .ref (G.2.2.2.1 + 206)), (3, .int y3)] → W p l e room_1 s m #[Value.ref b] below meth c H locs 227 8058 (lw_Z below #[Value.ref b] s) (F0 m 18 ls [])) : W p l e room_1 s m #[Value.ref b] below meth c H locs 227 8058 (lw_Z below #[Value.ref b] s) (F0 m 191 ls []) := by
  have hx := C.1
  have hb := C.2.1
  have hts := C.2.2.2.2.1
  have hbA : ¬ (fun q => G.2.2.2.1 ≤ q) b := by show ¬ _ ≤ _; rw [← hz]; exact Nat.not_le.mpr hbl
  rw [f_L_c191] at hf
  refine lv_aload_n hx hb dL_law_191 rfl (lv_at hl 1 rfl) ?_
  obtain ⟨r1, mi2, w3, sp4, rw5, hc, hf⟩ := bd5_some hf
  refine x_callV (cells := 227) (slots := 8058) (mc := 0) (ms := 0) (rest := []) C hR co_L_18 (m_X7_game hq hc) v_0 rfl rfl (Nat.le_of_ble_eq_true rfl) hl.1 ⟨by decide, by decide⟩ ⟨by decide, by decide⟩ dL_law_192 (fun H locs hR => ?_)
  obtain ⟨hg6, hf⟩ := gd_some hf
  have hq7 := isQ_of hg6
  refine lv_aload_n hx hb dL_law_195 rfl (lv_at hl 2 rfl) ?_
  obtain ⟨r8, mi9, hc, hf⟩ := bd2_some hf
  refine x_callV (cells := 227) (slots := 8058) (mc := 0) (ms := 0) (rest := [.int r1]) C hR co_L_22 (m_X8_game hq7 hc) v_206 rfl rfl (Nat.le_of_ble_eq_true rfl) hl.1 ⟨by decide, by decide⟩ ⟨by decide, by decide⟩ dL_law_196 (fun H locs hR => ?_)
  refine lv_icmp_eq (tgt := 928) hx hb dL_law_199 (by decide) (fun c10 => ?_) (fun c10 => ?_)
  · rw [if_pos c10] at hf
    obtain ⟨y11, ey11, hf⟩ := nm_at hf
    refine lv_iinc (v := y11) (lv' := [(3, .int y11), (0, .ref b), (1, .ref (G.2.2.2.1 + 0)), (2, .ref (G.2.2.2.1 + 206))]) hx hb dL_law_928 hl (k := 3) rfl (by rw [ey11]; rfl) (by decide) rfl (fun ls hl => ?_)
    refine lv_goto (tgt := 18) hx hb dL_law_931 (by decide) ?_
    obtain ⟨rfl, rfl, rfl, rfl, rfl⟩ := p5_inj hf
    exact kk H locs ls hq7 hR (lv_sub hl [1, 2, 3, 0] rfl)
  · rw [if_neg c10] at hf
    cases hf
def f_L_c204 (fu L : Nat) (xs : Nat → Int32) (mi : Mem) (w sp rw : Nat) (x3 : Int32) : Option (Int32 × Mem × Nat × Nat × Nat) := Option.bind (f_X7_fault mi) fun r1 => Option.bind (f_X8_fault mi) fun r2 => if r1 = r2 then (nm (x3 + (nI 4)) fun y4 => some (y4, mi, w, sp, rw)) else (none)
set_option maxHeartbeats 4000000 in
set_option maxRecDepth 100000 in
theorem law_c204 {p : Program} {l : Launch} {e : Env} {s : State} {m : MethodId} {below : List Frame} {meth : Method} {c : Code} {G : GT} {b L : Nat} {xs : Nat → Int32} (C : Cx G p s m c #[Value.ref b] RL cL_law 4) (hX : va_X b L xs s G.2.2.2.2) (hbl : b < G.2.2.2.2.size) (hz : G.2.2.2.2.size = G.2.2.2.1) {fu : Nat} {mi mi_ : Mem} {w sp rw w_ sp_ rw_ : Nat} (hq : isQ w sp rw) {x3 y3 : Int32} (hf : f_L_c204 fu L xs mi w sp rw x3 = some (y3, mi_, w_, sp_, rw_)) {H : Heap} {locs : List Loc} {ls : Array Slot} (hR : RM G S0 (mr0 w sp rw) mi H locs) (hl : lv_has ls 4 [(0, .ref b), (1, .ref (G.2.2.2.1 + 0)), (2, .ref (G.2.2.2.1 + 206)), (3, .int x3)]) (kk : ∀ (H : Heap) (locs : List Loc) (ls : Array Slot), isQ w_ sp_ rw_ → RM G S0 (mr0 w_ sp_ rw_) mi_ H locs → lv_has ls 4 [(0, .ref b), (1, .ref (G.2.2.2.1 + 0)), (2, .ref (G.2.2.2.1 + 206)), (3, .int y3)] → W p l e room_1 s m #[Value.ref b] below meth c H locs 227 8058 (lw_Z below #[Value.ref b] s) (F0 m 18 ls [])) : W p l e room_1 s m #[Value.ref b] below meth c H locs 227 8058 (lw_Z below #[Value.ref b] s) (F0 m 204 ls []) := by
  have hx := C.1
  have hb := C.2.1
  have hts := C.2.2.2.2.1
  have hbA : ¬ (fun q => G.2.2.2.1 ≤ q) b := by show ¬ _ ≤ _; rw [← hz]; exact Nat.not_le.mpr hbl
  rw [f_L_c204] at hf
  refine lv_aload_n hx hb dL_law_204 rfl (lv_at hl 1 rfl) ?_
  obtain ⟨r1, hc, hf⟩ := bd_some hf
  refine x_callV (cells := 227) (slots := 8058) (mc := 0) (ms := 0) (rest := []) C hR co_L_23 (m_X7_fault hq hc) v_0 rfl rfl (Nat.le_of_ble_eq_true rfl) hl.1 ⟨by decide, by decide⟩ ⟨by decide, by decide⟩ dL_law_205 (fun H locs hR => ?_)
  refine lv_aload_n hx hb dL_law_208 rfl (lv_at hl 2 rfl) ?_
  obtain ⟨r2, hc, hf⟩ := bd_some hf
  refine x_callV (cells := 227) (slots := 8058) (mc := 0) (ms := 0) (rest := [.int r1]) C hR co_L_26 (m_X8_fault hq hc) v_206 rfl rfl (Nat.le_of_ble_eq_true rfl) hl.1 ⟨by decide, by decide⟩ ⟨by decide, by decide⟩ dL_law_209 (fun H locs hR => ?_)
  refine lv_icmp_eq (tgt := 928) hx hb dL_law_212 (by decide) (fun c3 => ?_) (fun c3 => ?_)
  · rw [if_pos c3] at hf
    obtain ⟨y4, ey4, hf⟩ := nm_at hf
    refine lv_iinc (v := y4) (lv' := [(3, .int y4), (0, .ref b), (1, .ref (G.2.2.2.1 + 0)), (2, .ref (G.2.2.2.1 + 206))]) hx hb dL_law_928 hl (k := 3) rfl (by rw [ey4]; rfl) (by decide) rfl (fun ls hl => ?_)
    refine lv_goto (tgt := 18) hx hb dL_law_931 (by decide) ?_
    obtain ⟨rfl, rfl, rfl, rfl, rfl⟩ := p5_inj hf
    exact kk H locs ls hq hR (lv_sub hl [1, 2, 3, 0] rfl)
  · rw [if_neg c3] at hf
    cases hf
def f_L_c217 (fu L : Nat) (xs : Nat → Int32) (mi : Mem) (w sp rw : Nat) (x3 : Int32) : Option (Int32 × Mem × Nat × Nat × Nat) := gd (inB (x3 + (nI 1)) L) (bd5 (f_X7_told fu mi w sp rw (xs (ix (x3 + (nI 1))))) fun r2 mi3 w4 sp5 rw6 => gd (isQb w4 sp5 rw6) (gd (inB (x3 + (nI 1)) L) (bd2 (f_X8_told fu mi3 (xs (ix (x3 + (nI 1))))) fun r10 mi11 => if r2 = r10 then (nm (x3 + (nI 4)) fun y13 => some (y13, mi11, w4, sp5, rw6)) else (none))))
set_option maxHeartbeats 4000000 in
set_option maxRecDepth 100000 in
theorem law_c217 {p : Program} {l : Launch} {e : Env} {s : State} {m : MethodId} {below : List Frame} {meth : Method} {c : Code} {G : GT} {b L : Nat} {xs : Nat → Int32} (C : Cx G p s m c #[Value.ref b] RL cL_law 4) (hX : va_X b L xs s G.2.2.2.2) (hbl : b < G.2.2.2.2.size) (hz : G.2.2.2.2.size = G.2.2.2.1) {fu : Nat} {mi mi_ : Mem} {w sp rw w_ sp_ rw_ : Nat} (hq : isQ w sp rw) {x3 y3 : Int32} (hf : f_L_c217 fu L xs mi w sp rw x3 = some (y3, mi_, w_, sp_, rw_)) {H : Heap} {locs : List Loc} {ls : Array Slot} (hR : RM G S0 (mr0 w sp rw) mi H locs) (hl : lv_has ls 4 [(0, .ref b), (1, .ref (G.2.2.2.1 + 0)), (2, .ref (G.2.2.2.1 + 206)), (3, .int x3)]) (kk : ∀ (H : Heap) (locs : List Loc) (ls : Array Slot), isQ w_ sp_ rw_ → RM G S0 (mr0 w_ sp_ rw_) mi_ H locs → lv_has ls 4 [(0, .ref b), (1, .ref (G.2.2.2.1 + 0)), (2, .ref (G.2.2.2.1 + 206)), (3, .int y3)] → W p l e room_1 s m #[Value.ref b] below meth c H locs 227 8058 (lw_Z below #[Value.ref b] s) (F0 m 18 ls [])) : W p l e room_1 s m #[Value.ref b] below meth c H locs 227 8058 (lw_Z below #[Value.ref b] s) (F0 m 217 ls []) := by
  have hx := C.1
  have hb := C.2.1
  have hts := C.2.2.2.2.1
  have hbA : ¬ (fun q => G.2.2.2.1 ≤ q) b := by show ¬ _ ≤ _; rw [← hz]; exact Nat.not_le.mpr hbl
  rw [f_L_c217] at hf
  refine lv_aload_n hx hb dL_law_217 rfl (lv_at hl 1 rfl) ?_
  refine lv_aload_n hx hb dL_law_218 rfl (lv_at hl 0 rfl) ?_
  refine lv_iload_n hx hb dL_law_219 rfl (lv_at hl 3 rfl) ?_
  refine lv_iconst (v := (nI 1)) hx hb dL_law_220 (by decide) ?_
  refine lv_iadd hx hb dL_law_221 ?_
  obtain ⟨hg1, hf⟩ := gd_some hf
  refine va_sld hx hb hX hbl hbA (RM.S hR hz) (inB_vp hg1) dL_law_222 ?_
  obtain ⟨r2, mi3, w4, sp5, rw6, hc, hf⟩ := bd5_some hf
  refine x_callV (cells := 227) (slots := 8058) (mc := 0) (ms := 0) (rest := []) C hR co_L_27 (m_X7_told hq hc) v_0 rfl rfl (Nat.le_of_ble_eq_true rfl) hl.1 ⟨by decide, by decide⟩ ⟨by decide, by decide⟩ dL_law_223 (fun H locs hR => ?_)
  obtain ⟨hg7, hf⟩ := gd_some hf
  have hq8 := isQ_of hg7
  refine lv_aload_n hx hb dL_law_226 rfl (lv_at hl 2 rfl) ?_
  refine lv_aload_n hx hb dL_law_227 rfl (lv_at hl 0 rfl) ?_
  refine lv_iload_n hx hb dL_law_228 rfl (lv_at hl 3 rfl) ?_
  refine lv_iconst (v := (nI 1)) hx hb dL_law_229 (by decide) ?_
  refine lv_iadd hx hb dL_law_230 ?_
  obtain ⟨hg9, hf⟩ := gd_some hf
  refine va_sld hx hb hX hbl hbA (RM.S hR hz) (inB_vp hg9) dL_law_231 ?_
  obtain ⟨r10, mi11, hc, hf⟩ := bd2_some hf
  refine x_callV (cells := 227) (slots := 8058) (mc := 0) (ms := 0) (rest := [.int r2]) C hR co_L_30 (m_X8_told hq8 hc) v_206 rfl rfl (Nat.le_of_ble_eq_true rfl) hl.1 ⟨by decide, by decide⟩ ⟨by decide, by decide⟩ dL_law_232 (fun H locs hR => ?_)
  refine lv_icmp_eq (tgt := 928) hx hb dL_law_235 (by decide) (fun c12 => ?_) (fun c12 => ?_)
  · rw [if_pos c12] at hf
    obtain ⟨y13, ey13, hf⟩ := nm_at hf
    refine lv_iinc (v := y13) (lv' := [(3, .int y13), (0, .ref b), (1, .ref (G.2.2.2.1 + 0)), (2, .ref (G.2.2.2.1 + 206))]) hx hb dL_law_928 hl (k := 3) rfl (by rw [ey13]; rfl) (by decide) rfl (fun ls hl => ?_)
    refine lv_goto (tgt := 18) hx hb dL_law_931 (by decide) ?_
    obtain ⟨rfl, rfl, rfl, rfl, rfl⟩ := p5_inj hf
    exact kk H locs ls hq8 hR (lv_sub hl [1, 2, 3, 0] rfl)
  · rw [if_neg c12] at hf
    cases hf
def f_L_c240 (fu L : Nat) (xs : Nat → Int32) (mi : Mem) (w sp rw : Nat) (x3 : Int32) : Option (Int32 × Mem × Nat × Nat × Nat) := gd (inB (x3 + (nI 1)) L) (gd (inB (x3 + (nI 2)) L) (Option.bind (f_X7_letters mi w sp rw (xs (ix (x3 + (nI 1)))) (xs (ix (x3 + (nI 2))))) fun r3 => gd (inB (x3 + (nI 1)) L) (gd (inB (x3 + (nI 2)) L) (Option.bind (f_X8_letters mi (xs (ix (x3 + (nI 1)))) (xs (ix (x3 + (nI 2))))) fun r6 => if r3 = r6 then (nm (x3 + (nI 4)) fun y8 => some (y8, mi, w, sp, rw)) else (none)))))
set_option maxHeartbeats 4000000 in
set_option maxRecDepth 100000 in
theorem law_c240 {p : Program} {l : Launch} {e : Env} {s : State} {m : MethodId} {below : List Frame} {meth : Method} {c : Code} {G : GT} {b L : Nat} {xs : Nat → Int32} (C : Cx G p s m c #[Value.ref b] RL cL_law 4) (hX : va_X b L xs s G.2.2.2.2) (hbl : b < G.2.2.2.2.size) (hz : G.2.2.2.2.size = G.2.2.2.1) {fu : Nat} {mi mi_ : Mem} {w sp rw w_ sp_ rw_ : Nat} (hq : isQ w sp rw) {x3 y3 : Int32} (hf : f_L_c240 fu L xs mi w sp rw x3 = some (y3, mi_, w_, sp_, rw_)) {H : Heap} {locs : List Loc} {ls : Array Slot} (hR : RM G S0 (mr0 w sp rw) mi H locs) (hl : lv_has ls 4 [(0, .ref b), (1, .ref (G.2.2.2.1 + 0)), (2, .ref (G.2.2.2.1 + 206)), (3, .int x3)]) (kk : ∀ (H : Heap) (locs : List Loc) (ls : Array Slot), isQ w_ sp_ rw_ → RM G S0 (mr0 w_ sp_ rw_) mi_ H locs → lv_has ls 4 [(0, .ref b), (1, .ref (G.2.2.2.1 + 0)), (2, .ref (G.2.2.2.1 + 206)), (3, .int y3)] → W p l e room_1 s m #[Value.ref b] below meth c H locs 227 8058 (lw_Z below #[Value.ref b] s) (F0 m 18 ls [])) : W p l e room_1 s m #[Value.ref b] below meth c H locs 227 8058 (lw_Z below #[Value.ref b] s) (F0 m 240 ls []) := by
  have hx := C.1
  have hb := C.2.1
  have hts := C.2.2.2.2.1
  have hbA : ¬ (fun q => G.2.2.2.1 ≤ q) b := by show ¬ _ ≤ _; rw [← hz]; exact Nat.not_le.mpr hbl
  rw [f_L_c240] at hf
  refine lv_aload_n hx hb dL_law_240 rfl (lv_at hl 1 rfl) ?_
  refine lv_aload_n hx hb dL_law_241 rfl (lv_at hl 0 rfl) ?_
  refine lv_iload_n hx hb dL_law_242 rfl (lv_at hl 3 rfl) ?_
  refine lv_iconst (v := (nI 1)) hx hb dL_law_243 (by decide) ?_
  refine lv_iadd hx hb dL_law_244 ?_
  obtain ⟨hg1, hf⟩ := gd_some hf
  refine va_sld hx hb hX hbl hbA (RM.S hR hz) (inB_vp hg1) dL_law_245 ?_
  refine lv_aload_n hx hb dL_law_246 rfl (lv_at hl 0 rfl) ?_
  refine lv_iload_n hx hb dL_law_247 rfl (lv_at hl 3 rfl) ?_
  refine lv_iconst (v := (nI 2)) hx hb dL_law_248 (by decide) ?_
  refine lv_iadd hx hb dL_law_249 ?_
  obtain ⟨hg2, hf⟩ := gd_some hf
  refine va_sld hx hb hX hbl hbA (RM.S hR hz) (inB_vp hg2) dL_law_250 ?_
  obtain ⟨r3, hc, hf⟩ := bd_some hf
  refine x_callV (cells := 227) (slots := 8058) (mc := 0) (ms := 0) (rest := []) C hR co_L_31 (m_X7_letters hq hc) v_0 rfl rfl (Nat.le_of_ble_eq_true rfl) hl.1 ⟨by decide, by decide⟩ ⟨by decide, by decide⟩ dL_law_251 (fun H locs hR => ?_)
  refine lv_aload_n hx hb dL_law_254 rfl (lv_at hl 2 rfl) ?_
  refine lv_aload_n hx hb dL_law_255 rfl (lv_at hl 0 rfl) ?_
  refine lv_iload_n hx hb dL_law_256 rfl (lv_at hl 3 rfl) ?_
  refine lv_iconst (v := (nI 1)) hx hb dL_law_257 (by decide) ?_
  refine lv_iadd hx hb dL_law_258 ?_
  obtain ⟨hg4, hf⟩ := gd_some hf
  refine va_sld hx hb hX hbl hbA (RM.S hR hz) (inB_vp hg4) dL_law_259 ?_
  refine lv_aload_n hx hb dL_law_260 rfl (lv_at hl 0 rfl) ?_
  refine lv_iload_n hx hb dL_law_261 rfl (lv_at hl 3 rfl) ?_
  refine lv_iconst (v := (nI 2)) hx hb dL_law_262 (by decide) ?_
  refine lv_iadd hx hb dL_law_263 ?_
  obtain ⟨hg5, hf⟩ := gd_some hf
  refine va_sld hx hb hX hbl hbA (RM.S hR hz) (inB_vp hg5) dL_law_264 ?_
  obtain ⟨r6, hc, hf⟩ := bd_some hf
  refine x_callV (cells := 227) (slots := 8058) (mc := 0) (ms := 0) (rest := [.int r3]) C hR co_L_35 (m_X8_letters hq hc) v_206 rfl rfl (Nat.le_of_ble_eq_true rfl) hl.1 ⟨by decide, by decide⟩ ⟨by decide, by decide⟩ dL_law_265 (fun H locs hR => ?_)
  refine lv_icmp_eq (tgt := 928) hx hb dL_law_268 (by decide) (fun c7 => ?_) (fun c7 => ?_)
  · rw [if_pos c7] at hf
    obtain ⟨y8, ey8, hf⟩ := nm_at hf
    refine lv_iinc (v := y8) (lv' := [(3, .int y8), (0, .ref b), (1, .ref (G.2.2.2.1 + 0)), (2, .ref (G.2.2.2.1 + 206))]) hx hb dL_law_928 hl (k := 3) rfl (by rw [ey8]; rfl) (by decide) rfl (fun ls hl => ?_)
    refine lv_goto (tgt := 18) hx hb dL_law_931 (by decide) ?_
    obtain ⟨rfl, rfl, rfl, rfl, rfl⟩ := p5_inj hf
    exact kk H locs ls hq hR (lv_sub hl [1, 2, 3, 0] rfl)
  · rw [if_neg c7] at hf
    cases hf
def f_L_c273 (fu L : Nat) (xs : Nat → Int32) (mi : Mem) (w sp rw : Nat) (x3 : Int32) : Option (Int32 × Mem × Nat × Nat × Nat) := gd (inB (x3 + (nI 1)) L) (gd (inB (x3 + (nI 2)) L) (Option.bind (f_X7_word fu mi w sp rw (xs (ix (x3 + (nI 1)))) (xs (ix (x3 + (nI 2))))) fun r3 => gd (inB (x3 + (nI 1)) L) (gd (inB (x3 + (nI 2)) L) (bd2 (f_X8_word fu mi (xs (ix (x3 + (nI 1)))) (xs (ix (x3 + (nI 2))))) fun r6 mi7 => if r3 = r6 then (nm (x3 + (nI 4)) fun y9 => some (y9, mi7, w, sp, rw)) else (none)))))
set_option maxHeartbeats 4000000 in
set_option maxRecDepth 100000 in
theorem law_c273 {p : Program} {l : Launch} {e : Env} {s : State} {m : MethodId} {below : List Frame} {meth : Method} {c : Code} {G : GT} {b L : Nat} {xs : Nat → Int32} (C : Cx G p s m c #[Value.ref b] RL cL_law 4) (hX : va_X b L xs s G.2.2.2.2) (hbl : b < G.2.2.2.2.size) (hz : G.2.2.2.2.size = G.2.2.2.1) {fu : Nat} {mi mi_ : Mem} {w sp rw w_ sp_ rw_ : Nat} (hq : isQ w sp rw) {x3 y3 : Int32} (hf : f_L_c273 fu L xs mi w sp rw x3 = some (y3, mi_, w_, sp_, rw_)) {H : Heap} {locs : List Loc} {ls : Array Slot} (hR : RM G S0 (mr0 w sp rw) mi H locs) (hl : lv_has ls 4 [(0, .ref b), (1, .ref (G.2.2.2.1 + 0)), (2, .ref (G.2.2.2.1 + 206)), (3, .int x3)]) (kk : ∀ (H : Heap) (locs : List Loc) (ls : Array Slot), isQ w_ sp_ rw_ → RM G S0 (mr0 w_ sp_ rw_) mi_ H locs → lv_has ls 4 [(0, .ref b), (1, .ref (G.2.2.2.1 + 0)), (2, .ref (G.2.2.2.1 + 206)), (3, .int y3)] → W p l e room_1 s m #[Value.ref b] below meth c H locs 227 8058 (lw_Z below #[Value.ref b] s) (F0 m 18 ls [])) : W p l e room_1 s m #[Value.ref b] below meth c H locs 227 8058 (lw_Z below #[Value.ref b] s) (F0 m 273 ls []) := by
  have hx := C.1
  have hb := C.2.1
  have hts := C.2.2.2.2.1
  have hbA : ¬ (fun q => G.2.2.2.1 ≤ q) b := by show ¬ _ ≤ _; rw [← hz]; exact Nat.not_le.mpr hbl
  rw [f_L_c273] at hf
  refine lv_aload_n hx hb dL_law_273 rfl (lv_at hl 1 rfl) ?_
  refine lv_aload_n hx hb dL_law_274 rfl (lv_at hl 0 rfl) ?_
  refine lv_iload_n hx hb dL_law_275 rfl (lv_at hl 3 rfl) ?_
  refine lv_iconst (v := (nI 1)) hx hb dL_law_276 (by decide) ?_
  refine lv_iadd hx hb dL_law_277 ?_
  obtain ⟨hg1, hf⟩ := gd_some hf
  refine va_sld hx hb hX hbl hbA (RM.S hR hz) (inB_vp hg1) dL_law_278 ?_
  refine lv_aload_n hx hb dL_law_279 rfl (lv_at hl 0 rfl) ?_
  refine lv_iload_n hx hb dL_law_280 rfl (lv_at hl 3 rfl) ?_
  refine lv_iconst (v := (nI 2)) hx hb dL_law_281 (by decide) ?_
  refine lv_iadd hx hb dL_law_282 ?_
  obtain ⟨hg2, hf⟩ := gd_some hf
  refine va_sld hx hb hX hbl hbA (RM.S hR hz) (inB_vp hg2) dL_law_283 ?_
  obtain ⟨r3, hc, hf⟩ := bd_some hf
  refine x_callV (cells := 227) (slots := 8058) (mc := 0) (ms := 0) (rest := []) C hR co_L_36 (m_X7_word hq hc) v_0 rfl rfl (Nat.le_of_ble_eq_true rfl) hl.1 ⟨by decide, by decide⟩ ⟨by decide, by decide⟩ dL_law_284 (fun H locs hR => ?_)
  refine lv_aload_n hx hb dL_law_287 rfl (lv_at hl 2 rfl) ?_
  refine lv_aload_n hx hb dL_law_288 rfl (lv_at hl 0 rfl) ?_
  refine lv_iload_n hx hb dL_law_289 rfl (lv_at hl 3 rfl) ?_
  refine lv_iconst (v := (nI 1)) hx hb dL_law_290 (by decide) ?_
  refine lv_iadd hx hb dL_law_291 ?_
  obtain ⟨hg4, hf⟩ := gd_some hf
  refine va_sld hx hb hX hbl hbA (RM.S hR hz) (inB_vp hg4) dL_law_292 ?_
  refine lv_aload_n hx hb dL_law_293 rfl (lv_at hl 0 rfl) ?_
  refine lv_iload_n hx hb dL_law_294 rfl (lv_at hl 3 rfl) ?_
  refine lv_iconst (v := (nI 2)) hx hb dL_law_295 (by decide) ?_
  refine lv_iadd hx hb dL_law_296 ?_
  obtain ⟨hg5, hf⟩ := gd_some hf
  refine va_sld hx hb hX hbl hbA (RM.S hR hz) (inB_vp hg5) dL_law_297 ?_
  obtain ⟨r6, mi7, hc, hf⟩ := bd2_some hf
  refine x_callV (cells := 227) (slots := 8058) (mc := 0) (ms := 0) (rest := [.int r3]) C hR co_L_39 (m_X8_word hq hc) v_206 rfl rfl (Nat.le_of_ble_eq_true rfl) hl.1 ⟨by decide, by decide⟩ ⟨by decide, by decide⟩ dL_law_298 (fun H locs hR => ?_)
  refine lv_icmp_eq (tgt := 928) hx hb dL_law_301 (by decide) (fun c8 => ?_) (fun c8 => ?_)
  · rw [if_pos c8] at hf
    obtain ⟨y9, ey9, hf⟩ := nm_at hf
    refine lv_iinc (v := y9) (lv' := [(3, .int y9), (0, .ref b), (1, .ref (G.2.2.2.1 + 0)), (2, .ref (G.2.2.2.1 + 206))]) hx hb dL_law_928 hl (k := 3) rfl (by rw [ey9]; rfl) (by decide) rfl (fun ls hl => ?_)
    refine lv_goto (tgt := 18) hx hb dL_law_931 (by decide) ?_
    obtain ⟨rfl, rfl, rfl, rfl, rfl⟩ := p5_inj hf
    exact kk H locs ls hq hR (lv_sub hl [1, 2, 3, 0] rfl)
  · rw [if_neg c8] at hf
    cases hf
def f_L_c306 (fu L : Nat) (xs : Nat → Int32) (mi : Mem) (w sp rw : Nat) (x3 : Int32) : Option (Int32 × Mem × Nat × Nat × Nat) := gd (inB (x3 + (nI 1)) L) (gd (inB (x3 + (nI 2)) L) (Option.bind (f_X7_spelt mi w sp rw (xs (ix (x3 + (nI 1)))) (xs (ix (x3 + (nI 2))))) fun r3 => gd (inB (x3 + (nI 1)) L) (gd (inB (x3 + (nI 2)) L) (Option.bind (f_X8_spelt mi (xs (ix (x3 + (nI 1)))) (xs (ix (x3 + (nI 2))))) fun r6 => if r3 = r6 then (nm (x3 + (nI 4)) fun y8 => some (y8, mi, w, sp, rw)) else (none)))))
set_option maxHeartbeats 4000000 in
set_option maxRecDepth 100000 in
theorem law_c306 {p : Program} {l : Launch} {e : Env} {s : State} {m : MethodId} {below : List Frame} {meth : Method} {c : Code} {G : GT} {b L : Nat} {xs : Nat → Int32} (C : Cx G p s m c #[Value.ref b] RL cL_law 4) (hX : va_X b L xs s G.2.2.2.2) (hbl : b < G.2.2.2.2.size) (hz : G.2.2.2.2.size = G.2.2.2.1) {fu : Nat} {mi mi_ : Mem} {w sp rw w_ sp_ rw_ : Nat} (hq : isQ w sp rw) {x3 y3 : Int32} (hf : f_L_c306 fu L xs mi w sp rw x3 = some (y3, mi_, w_, sp_, rw_)) {H : Heap} {locs : List Loc} {ls : Array Slot} (hR : RM G S0 (mr0 w sp rw) mi H locs) (hl : lv_has ls 4 [(0, .ref b), (1, .ref (G.2.2.2.1 + 0)), (2, .ref (G.2.2.2.1 + 206)), (3, .int x3)]) (kk : ∀ (H : Heap) (locs : List Loc) (ls : Array Slot), isQ w_ sp_ rw_ → RM G S0 (mr0 w_ sp_ rw_) mi_ H locs → lv_has ls 4 [(0, .ref b), (1, .ref (G.2.2.2.1 + 0)), (2, .ref (G.2.2.2.1 + 206)), (3, .int y3)] → W p l e room_1 s m #[Value.ref b] below meth c H locs 227 8058 (lw_Z below #[Value.ref b] s) (F0 m 18 ls [])) : W p l e room_1 s m #[Value.ref b] below meth c H locs 227 8058 (lw_Z below #[Value.ref b] s) (F0 m 306 ls []) := by
  have hx := C.1
  have hb := C.2.1
  have hts := C.2.2.2.2.1
  have hbA : ¬ (fun q => G.2.2.2.1 ≤ q) b := by show ¬ _ ≤ _; rw [← hz]; exact Nat.not_le.mpr hbl
  rw [f_L_c306] at hf
  refine lv_aload_n hx hb dL_law_306 rfl (lv_at hl 1 rfl) ?_
  refine lv_aload_n hx hb dL_law_307 rfl (lv_at hl 0 rfl) ?_
  refine lv_iload_n hx hb dL_law_308 rfl (lv_at hl 3 rfl) ?_
  refine lv_iconst (v := (nI 1)) hx hb dL_law_309 (by decide) ?_
  refine lv_iadd hx hb dL_law_310 ?_
  obtain ⟨hg1, hf⟩ := gd_some hf
  refine va_sld hx hb hX hbl hbA (RM.S hR hz) (inB_vp hg1) dL_law_311 ?_
  refine lv_aload_n hx hb dL_law_312 rfl (lv_at hl 0 rfl) ?_
  refine lv_iload_n hx hb dL_law_313 rfl (lv_at hl 3 rfl) ?_
  refine lv_iconst (v := (nI 2)) hx hb dL_law_314 (by decide) ?_
  refine lv_iadd hx hb dL_law_315 ?_
  obtain ⟨hg2, hf⟩ := gd_some hf
  refine va_sld hx hb hX hbl hbA (RM.S hR hz) (inB_vp hg2) dL_law_316 ?_
  obtain ⟨r3, hc, hf⟩ := bd_some hf
  refine x_callV (cells := 227) (slots := 8058) (mc := 0) (ms := 0) (rest := []) C hR co_L_40 (m_X7_spelt hq hc) v_0 rfl rfl (Nat.le_of_ble_eq_true rfl) hl.1 ⟨by decide, by decide⟩ ⟨by decide, by decide⟩ dL_law_317 (fun H locs hR => ?_)
  refine lv_aload_n hx hb dL_law_320 rfl (lv_at hl 2 rfl) ?_
  refine lv_aload_n hx hb dL_law_321 rfl (lv_at hl 0 rfl) ?_
  refine lv_iload_n hx hb dL_law_322 rfl (lv_at hl 3 rfl) ?_
  refine lv_iconst (v := (nI 1)) hx hb dL_law_323 (by decide) ?_
  refine lv_iadd hx hb dL_law_324 ?_
  obtain ⟨hg4, hf⟩ := gd_some hf
  refine va_sld hx hb hX hbl hbA (RM.S hR hz) (inB_vp hg4) dL_law_325 ?_
  refine lv_aload_n hx hb dL_law_326 rfl (lv_at hl 0 rfl) ?_
  refine lv_iload_n hx hb dL_law_327 rfl (lv_at hl 3 rfl) ?_
  refine lv_iconst (v := (nI 2)) hx hb dL_law_328 (by decide) ?_
  refine lv_iadd hx hb dL_law_329 ?_
  obtain ⟨hg5, hf⟩ := gd_some hf
  refine va_sld hx hb hX hbl hbA (RM.S hR hz) (inB_vp hg5) dL_law_330 ?_
  obtain ⟨r6, hc, hf⟩ := bd_some hf
  refine x_callV (cells := 227) (slots := 8058) (mc := 0) (ms := 0) (rest := [.int r3]) C hR co_L_43 (m_X8_spelt hq hc) v_206 rfl rfl (Nat.le_of_ble_eq_true rfl) hl.1 ⟨by decide, by decide⟩ ⟨by decide, by decide⟩ dL_law_331 (fun H locs hR => ?_)
  refine lv_icmp_eq (tgt := 928) hx hb dL_law_334 (by decide) (fun c7 => ?_) (fun c7 => ?_)
  · rw [if_pos c7] at hf
    obtain ⟨y8, ey8, hf⟩ := nm_at hf
    refine lv_iinc (v := y8) (lv' := [(3, .int y8), (0, .ref b), (1, .ref (G.2.2.2.1 + 0)), (2, .ref (G.2.2.2.1 + 206))]) hx hb dL_law_928 hl (k := 3) rfl (by rw [ey8]; rfl) (by decide) rfl (fun ls hl => ?_)
    refine lv_goto (tgt := 18) hx hb dL_law_931 (by decide) ?_
    obtain ⟨rfl, rfl, rfl, rfl, rfl⟩ := p5_inj hf
    exact kk H locs ls hq hR (lv_sub hl [1, 2, 3, 0] rfl)
  · rw [if_neg c7] at hf
    cases hf
def f_L_c339 (fu L : Nat) (xs : Nat → Int32) (mi : Mem) (w sp rw : Nat) (x3 : Int32) : Option (Int32 × Mem × Nat × Nat × Nat) := gd (inB (x3 + (nI 1)) L) (gd (inB (x3 + (nI 2)) L) (Option.bind (f_X7_laid mi (xs (ix (x3 + (nI 1)))) (xs (ix (x3 + (nI 2))))) fun r3 => gd (inB (x3 + (nI 1)) L) (gd (inB (x3 + (nI 2)) L) (Option.bind (f_X8_laid mi (xs (ix (x3 + (nI 1)))) (xs (ix (x3 + (nI 2))))) fun r6 => if r3 = r6 then (nm (x3 + (nI 4)) fun y8 => some (y8, mi, w, sp, rw)) else (none)))))
set_option maxHeartbeats 4000000 in
set_option maxRecDepth 100000 in
theorem law_c339 {p : Program} {l : Launch} {e : Env} {s : State} {m : MethodId} {below : List Frame} {meth : Method} {c : Code} {G : GT} {b L : Nat} {xs : Nat → Int32} (C : Cx G p s m c #[Value.ref b] RL cL_law 4) (hX : va_X b L xs s G.2.2.2.2) (hbl : b < G.2.2.2.2.size) (hz : G.2.2.2.2.size = G.2.2.2.1) {fu : Nat} {mi mi_ : Mem} {w sp rw w_ sp_ rw_ : Nat} (hq : isQ w sp rw) {x3 y3 : Int32} (hf : f_L_c339 fu L xs mi w sp rw x3 = some (y3, mi_, w_, sp_, rw_)) {H : Heap} {locs : List Loc} {ls : Array Slot} (hR : RM G S0 (mr0 w sp rw) mi H locs) (hl : lv_has ls 4 [(0, .ref b), (1, .ref (G.2.2.2.1 + 0)), (2, .ref (G.2.2.2.1 + 206)), (3, .int x3)]) (kk : ∀ (H : Heap) (locs : List Loc) (ls : Array Slot), isQ w_ sp_ rw_ → RM G S0 (mr0 w_ sp_ rw_) mi_ H locs → lv_has ls 4 [(0, .ref b), (1, .ref (G.2.2.2.1 + 0)), (2, .ref (G.2.2.2.1 + 206)), (3, .int y3)] → W p l e room_1 s m #[Value.ref b] below meth c H locs 227 8058 (lw_Z below #[Value.ref b] s) (F0 m 18 ls [])) : W p l e room_1 s m #[Value.ref b] below meth c H locs 227 8058 (lw_Z below #[Value.ref b] s) (F0 m 339 ls []) := by
  have hx := C.1
  have hb := C.2.1
  have hts := C.2.2.2.2.1
  have hbA : ¬ (fun q => G.2.2.2.1 ≤ q) b := by show ¬ _ ≤ _; rw [← hz]; exact Nat.not_le.mpr hbl
  rw [f_L_c339] at hf
  refine lv_aload_n hx hb dL_law_339 rfl (lv_at hl 1 rfl) ?_
  refine lv_aload_n hx hb dL_law_340 rfl (lv_at hl 0 rfl) ?_
  refine lv_iload_n hx hb dL_law_341 rfl (lv_at hl 3 rfl) ?_
  refine lv_iconst (v := (nI 1)) hx hb dL_law_342 (by decide) ?_
  refine lv_iadd hx hb dL_law_343 ?_
  obtain ⟨hg1, hf⟩ := gd_some hf
  refine va_sld hx hb hX hbl hbA (RM.S hR hz) (inB_vp hg1) dL_law_344 ?_
  refine lv_aload_n hx hb dL_law_345 rfl (lv_at hl 0 rfl) ?_
  refine lv_iload_n hx hb dL_law_346 rfl (lv_at hl 3 rfl) ?_
  refine lv_iconst (v := (nI 2)) hx hb dL_law_347 (by decide) ?_
  refine lv_iadd hx hb dL_law_348 ?_
  obtain ⟨hg2, hf⟩ := gd_some hf
  refine va_sld hx hb hX hbl hbA (RM.S hR hz) (inB_vp hg2) dL_law_349 ?_
  obtain ⟨r3, hc, hf⟩ := bd_some hf
  refine x_callV (cells := 227) (slots := 8058) (mc := 0) (ms := 0) (rest := []) C hR co_L_44 (m_X7_laid hq hc) v_0 rfl rfl (Nat.le_of_ble_eq_true rfl) hl.1 ⟨by decide, by decide⟩ ⟨by decide, by decide⟩ dL_law_350 (fun H locs hR => ?_)
  refine lv_aload_n hx hb dL_law_353 rfl (lv_at hl 2 rfl) ?_
  refine lv_aload_n hx hb dL_law_354 rfl (lv_at hl 0 rfl) ?_
  refine lv_iload_n hx hb dL_law_355 rfl (lv_at hl 3 rfl) ?_
  refine lv_iconst (v := (nI 1)) hx hb dL_law_356 (by decide) ?_
  refine lv_iadd hx hb dL_law_357 ?_
  obtain ⟨hg4, hf⟩ := gd_some hf
  refine va_sld hx hb hX hbl hbA (RM.S hR hz) (inB_vp hg4) dL_law_358 ?_
  refine lv_aload_n hx hb dL_law_359 rfl (lv_at hl 0 rfl) ?_
  refine lv_iload_n hx hb dL_law_360 rfl (lv_at hl 3 rfl) ?_
  refine lv_iconst (v := (nI 2)) hx hb dL_law_361 (by decide) ?_
  refine lv_iadd hx hb dL_law_362 ?_
  obtain ⟨hg5, hf⟩ := gd_some hf
  refine va_sld hx hb hX hbl hbA (RM.S hR hz) (inB_vp hg5) dL_law_363 ?_
  obtain ⟨r6, hc, hf⟩ := bd_some hf
  refine x_callV (cells := 227) (slots := 8058) (mc := 0) (ms := 0) (rest := [.int r3]) C hR co_L_47 (m_X8_laid hq hc) v_206 rfl rfl (Nat.le_of_ble_eq_true rfl) hl.1 ⟨by decide, by decide⟩ ⟨by decide, by decide⟩ dL_law_364 (fun H locs hR => ?_)
  refine lv_icmp_eq (tgt := 928) hx hb dL_law_367 (by decide) (fun c7 => ?_) (fun c7 => ?_)
  · rw [if_pos c7] at hf
    obtain ⟨y8, ey8, hf⟩ := nm_at hf
    refine lv_iinc (v := y8) (lv' := [(3, .int y8), (0, .ref b), (1, .ref (G.2.2.2.1 + 0)), (2, .ref (G.2.2.2.1 + 206))]) hx hb dL_law_928 hl (k := 3) rfl (by rw [ey8]; rfl) (by decide) rfl (fun ls hl => ?_)
    refine lv_goto (tgt := 18) hx hb dL_law_931 (by decide) ?_
    obtain ⟨rfl, rfl, rfl, rfl, rfl⟩ := p5_inj hf
    exact kk H locs ls hq hR (lv_sub hl [1, 2, 3, 0] rfl)
  · rw [if_neg c7] at hf
    cases hf
def f_L_c372 (fu L : Nat) (xs : Nat → Int32) (mi : Mem) (w sp rw : Nat) (x3 : Int32) : Option (Int32 × Mem × Nat × Nat × Nat) := bd2 (f_X7_draw fu mi) fun r1 mi2 => bd2 (f_X8_draw fu mi2) fun r3 mi4 => if r1 = r3 then (nm (x3 + (nI 4)) fun y6 => some (y6, mi4, w, sp, rw)) else (none)
set_option maxHeartbeats 4000000 in
set_option maxRecDepth 100000 in
theorem law_c372 {p : Program} {l : Launch} {e : Env} {s : State} {m : MethodId} {below : List Frame} {meth : Method} {c : Code} {G : GT} {b L : Nat} {xs : Nat → Int32} (C : Cx G p s m c #[Value.ref b] RL cL_law 4) (hX : va_X b L xs s G.2.2.2.2) (hbl : b < G.2.2.2.2.size) (hz : G.2.2.2.2.size = G.2.2.2.1) {fu : Nat} {mi mi_ : Mem} {w sp rw w_ sp_ rw_ : Nat} (hq : isQ w sp rw) {x3 y3 : Int32} (hf : f_L_c372 fu L xs mi w sp rw x3 = some (y3, mi_, w_, sp_, rw_)) {H : Heap} {locs : List Loc} {ls : Array Slot} (hR : RM G S0 (mr0 w sp rw) mi H locs) (hl : lv_has ls 4 [(0, .ref b), (1, .ref (G.2.2.2.1 + 0)), (2, .ref (G.2.2.2.1 + 206)), (3, .int x3)]) (kk : ∀ (H : Heap) (locs : List Loc) (ls : Array Slot), isQ w_ sp_ rw_ → RM G S0 (mr0 w_ sp_ rw_) mi_ H locs → lv_has ls 4 [(0, .ref b), (1, .ref (G.2.2.2.1 + 0)), (2, .ref (G.2.2.2.1 + 206)), (3, .int y3)] → W p l e room_1 s m #[Value.ref b] below meth c H locs 227 8058 (lw_Z below #[Value.ref b] s) (F0 m 18 ls [])) : W p l e room_1 s m #[Value.ref b] below meth c H locs 227 8058 (lw_Z below #[Value.ref b] s) (F0 m 372 ls []) := by
  have hx := C.1
  have hb := C.2.1
  have hts := C.2.2.2.2.1
  have hbA : ¬ (fun q => G.2.2.2.1 ≤ q) b := by show ¬ _ ≤ _; rw [← hz]; exact Nat.not_le.mpr hbl
  rw [f_L_c372] at hf
  refine lv_aload_n hx hb dL_law_372 rfl (lv_at hl 1 rfl) ?_
  obtain ⟨r1, mi2, hc, hf⟩ := bd2_some hf
  refine x_callV (cells := 227) (slots := 8058) (mc := 0) (ms := 0) (rest := []) C hR co_L_48 (m_X7_draw hq hc) v_0 rfl rfl (Nat.le_of_ble_eq_true rfl) hl.1 ⟨by decide, by decide⟩ ⟨by decide, by decide⟩ dL_law_373 (fun H locs hR => ?_)
  refine lv_aload_n hx hb dL_law_376 rfl (lv_at hl 2 rfl) ?_
  obtain ⟨r3, mi4, hc, hf⟩ := bd2_some hf
  refine x_callV (cells := 227) (slots := 8058) (mc := 0) (ms := 0) (rest := [.int r1]) C hR co_L_51 (m_X8_draw hq hc) v_206 rfl rfl (Nat.le_of_ble_eq_true rfl) hl.1 ⟨by decide, by decide⟩ ⟨by decide, by decide⟩ dL_law_377 (fun H locs hR => ?_)
  refine lv_icmp_eq (tgt := 928) hx hb dL_law_380 (by decide) (fun c5 => ?_) (fun c5 => ?_)
  · rw [if_pos c5] at hf
    obtain ⟨y6, ey6, hf⟩ := nm_at hf
    refine lv_iinc (v := y6) (lv' := [(3, .int y6), (0, .ref b), (1, .ref (G.2.2.2.1 + 0)), (2, .ref (G.2.2.2.1 + 206))]) hx hb dL_law_928 hl (k := 3) rfl (by rw [ey6]; rfl) (by decide) rfl (fun ls hl => ?_)
    refine lv_goto (tgt := 18) hx hb dL_law_931 (by decide) ?_
    obtain ⟨rfl, rfl, rfl, rfl, rfl⟩ := p5_inj hf
    exact kk H locs ls hq hR (lv_sub hl [1, 2, 3, 0] rfl)
  · rw [if_neg c5] at hf
    cases hf
def f_L_c385 (fu L : Nat) (xs : Nat → Int32) (mi : Mem) (w sp rw : Nat) (x3 : Int32) : Option (Int32 × Mem × Nat × Nat × Nat) := gd (inB (x3 + (nI 1)) L) (bd2 (f_X7_give fu mi (xs (ix (x3 + (nI 1))))) fun r2 mi3 => gd (inB (x3 + (nI 1)) L) (bd2 (f_X8_give fu mi3 (xs (ix (x3 + (nI 1))))) fun r5 mi6 => if r2 = r5 then (nm (x3 + (nI 4)) fun y8 => some (y8, mi6, w, sp, rw)) else (none)))
set_option maxHeartbeats 4000000 in
set_option maxRecDepth 100000 in
theorem law_c385 {p : Program} {l : Launch} {e : Env} {s : State} {m : MethodId} {below : List Frame} {meth : Method} {c : Code} {G : GT} {b L : Nat} {xs : Nat → Int32} (C : Cx G p s m c #[Value.ref b] RL cL_law 4) (hX : va_X b L xs s G.2.2.2.2) (hbl : b < G.2.2.2.2.size) (hz : G.2.2.2.2.size = G.2.2.2.1) {fu : Nat} {mi mi_ : Mem} {w sp rw w_ sp_ rw_ : Nat} (hq : isQ w sp rw) {x3 y3 : Int32} (hf : f_L_c385 fu L xs mi w sp rw x3 = some (y3, mi_, w_, sp_, rw_)) {H : Heap} {locs : List Loc} {ls : Array Slot} (hR : RM G S0 (mr0 w sp rw) mi H locs) (hl : lv_has ls 4 [(0, .ref b), (1, .ref (G.2.2.2.1 + 0)), (2, .ref (G.2.2.2.1 + 206)), (3, .int x3)]) (kk : ∀ (H : Heap) (locs : List Loc) (ls : Array Slot), isQ w_ sp_ rw_ → RM G S0 (mr0 w_ sp_ rw_) mi_ H locs → lv_has ls 4 [(0, .ref b), (1, .ref (G.2.2.2.1 + 0)), (2, .ref (G.2.2.2.1 + 206)), (3, .int y3)] → W p l e room_1 s m #[Value.ref b] below meth c H locs 227 8058 (lw_Z below #[Value.ref b] s) (F0 m 18 ls [])) : W p l e room_1 s m #[Value.ref b] below meth c H locs 227 8058 (lw_Z below #[Value.ref b] s) (F0 m 385 ls []) := by
  have hx := C.1
  have hb := C.2.1
  have hts := C.2.2.2.2.1
  have hbA : ¬ (fun q => G.2.2.2.1 ≤ q) b := by show ¬ _ ≤ _; rw [← hz]; exact Nat.not_le.mpr hbl
  rw [f_L_c385] at hf
  refine lv_aload_n hx hb dL_law_385 rfl (lv_at hl 1 rfl) ?_
  refine lv_aload_n hx hb dL_law_386 rfl (lv_at hl 0 rfl) ?_
  refine lv_iload_n hx hb dL_law_387 rfl (lv_at hl 3 rfl) ?_
  refine lv_iconst (v := (nI 1)) hx hb dL_law_388 (by decide) ?_
  refine lv_iadd hx hb dL_law_389 ?_
  obtain ⟨hg1, hf⟩ := gd_some hf
  refine va_sld hx hb hX hbl hbA (RM.S hR hz) (inB_vp hg1) dL_law_390 ?_
  obtain ⟨r2, mi3, hc, hf⟩ := bd2_some hf
  refine x_callV (cells := 227) (slots := 8058) (mc := 0) (ms := 0) (rest := []) C hR co_L_52 (m_X7_give hq hc) v_0 rfl rfl (Nat.le_of_ble_eq_true rfl) hl.1 ⟨by decide, by decide⟩ ⟨by decide, by decide⟩ dL_law_391 (fun H locs hR => ?_)
  refine lv_aload_n hx hb dL_law_394 rfl (lv_at hl 2 rfl) ?_
  refine lv_aload_n hx hb dL_law_395 rfl (lv_at hl 0 rfl) ?_
  refine lv_iload_n hx hb dL_law_396 rfl (lv_at hl 3 rfl) ?_
  refine lv_iconst (v := (nI 1)) hx hb dL_law_397 (by decide) ?_
  refine lv_iadd hx hb dL_law_398 ?_
  obtain ⟨hg4, hf⟩ := gd_some hf
  refine va_sld hx hb hX hbl hbA (RM.S hR hz) (inB_vp hg4) dL_law_399 ?_
  obtain ⟨r5, mi6, hc, hf⟩ := bd2_some hf
  refine x_callV (cells := 227) (slots := 8058) (mc := 0) (ms := 0) (rest := [.int r2]) C hR co_L_55 (m_X8_give hq hc) v_206 rfl rfl (Nat.le_of_ble_eq_true rfl) hl.1 ⟨by decide, by decide⟩ ⟨by decide, by decide⟩ dL_law_400 (fun H locs hR => ?_)
  refine lv_icmp_eq (tgt := 928) hx hb dL_law_403 (by decide) (fun c7 => ?_) (fun c7 => ?_)
  · rw [if_pos c7] at hf
    obtain ⟨y8, ey8, hf⟩ := nm_at hf
    refine lv_iinc (v := y8) (lv' := [(3, .int y8), (0, .ref b), (1, .ref (G.2.2.2.1 + 0)), (2, .ref (G.2.2.2.1 + 206))]) hx hb dL_law_928 hl (k := 3) rfl (by rw [ey8]; rfl) (by decide) rfl (fun ls hl => ?_)
    refine lv_goto (tgt := 18) hx hb dL_law_931 (by decide) ?_
    obtain ⟨rfl, rfl, rfl, rfl, rfl⟩ := p5_inj hf
    exact kk H locs ls hq hR (lv_sub hl [1, 2, 3, 0] rfl)
  · rw [if_neg c7] at hf
    cases hf
def f_L_c408 (fu L : Nat) (xs : Nat → Int32) (mi : Mem) (w sp rw : Nat) (x3 : Int32) : Option (Int32 × Mem × Nat × Nat × Nat) := gd (inB (x3 + (nI 1)) L) (bd2 (f_X7_change fu mi (xs (ix (x3 + (nI 1))))) fun r2 mi3 => gd (inB (x3 + (nI 1)) L) (bd2 (f_X8_change fu mi3 (xs (ix (x3 + (nI 1))))) fun r5 mi6 => if r2 = r5 then (nm (x3 + (nI 4)) fun y8 => some (y8, mi6, w, sp, rw)) else (none)))
set_option maxHeartbeats 4000000 in
set_option maxRecDepth 100000 in
theorem law_c408 {p : Program} {l : Launch} {e : Env} {s : State} {m : MethodId} {below : List Frame} {meth : Method} {c : Code} {G : GT} {b L : Nat} {xs : Nat → Int32} (C : Cx G p s m c #[Value.ref b] RL cL_law 4) (hX : va_X b L xs s G.2.2.2.2) (hbl : b < G.2.2.2.2.size) (hz : G.2.2.2.2.size = G.2.2.2.1) {fu : Nat} {mi mi_ : Mem} {w sp rw w_ sp_ rw_ : Nat} (hq : isQ w sp rw) {x3 y3 : Int32} (hf : f_L_c408 fu L xs mi w sp rw x3 = some (y3, mi_, w_, sp_, rw_)) {H : Heap} {locs : List Loc} {ls : Array Slot} (hR : RM G S0 (mr0 w sp rw) mi H locs) (hl : lv_has ls 4 [(0, .ref b), (1, .ref (G.2.2.2.1 + 0)), (2, .ref (G.2.2.2.1 + 206)), (3, .int x3)]) (kk : ∀ (H : Heap) (locs : List Loc) (ls : Array Slot), isQ w_ sp_ rw_ → RM G S0 (mr0 w_ sp_ rw_) mi_ H locs → lv_has ls 4 [(0, .ref b), (1, .ref (G.2.2.2.1 + 0)), (2, .ref (G.2.2.2.1 + 206)), (3, .int y3)] → W p l e room_1 s m #[Value.ref b] below meth c H locs 227 8058 (lw_Z below #[Value.ref b] s) (F0 m 18 ls [])) : W p l e room_1 s m #[Value.ref b] below meth c H locs 227 8058 (lw_Z below #[Value.ref b] s) (F0 m 408 ls []) := by
  have hx := C.1
  have hb := C.2.1
  have hts := C.2.2.2.2.1
  have hbA : ¬ (fun q => G.2.2.2.1 ≤ q) b := by show ¬ _ ≤ _; rw [← hz]; exact Nat.not_le.mpr hbl
  rw [f_L_c408] at hf
  refine lv_aload_n hx hb dL_law_408 rfl (lv_at hl 1 rfl) ?_
  refine lv_aload_n hx hb dL_law_409 rfl (lv_at hl 0 rfl) ?_
  refine lv_iload_n hx hb dL_law_410 rfl (lv_at hl 3 rfl) ?_
  refine lv_iconst (v := (nI 1)) hx hb dL_law_411 (by decide) ?_
  refine lv_iadd hx hb dL_law_412 ?_
  obtain ⟨hg1, hf⟩ := gd_some hf
  refine va_sld hx hb hX hbl hbA (RM.S hR hz) (inB_vp hg1) dL_law_413 ?_
  obtain ⟨r2, mi3, hc, hf⟩ := bd2_some hf
  refine x_callV (cells := 227) (slots := 8058) (mc := 0) (ms := 0) (rest := []) C hR co_L_56 (m_X7_change hq hc) v_0 rfl rfl (Nat.le_of_ble_eq_true rfl) hl.1 ⟨by decide, by decide⟩ ⟨by decide, by decide⟩ dL_law_414 (fun H locs hR => ?_)
  refine lv_aload_n hx hb dL_law_417 rfl (lv_at hl 2 rfl) ?_
  refine lv_aload_n hx hb dL_law_418 rfl (lv_at hl 0 rfl) ?_
  refine lv_iload_n hx hb dL_law_419 rfl (lv_at hl 3 rfl) ?_
  refine lv_iconst (v := (nI 1)) hx hb dL_law_420 (by decide) ?_
  refine lv_iadd hx hb dL_law_421 ?_
  obtain ⟨hg4, hf⟩ := gd_some hf
  refine va_sld hx hb hX hbl hbA (RM.S hR hz) (inB_vp hg4) dL_law_422 ?_
  obtain ⟨r5, mi6, hc, hf⟩ := bd2_some hf
  refine x_callV (cells := 227) (slots := 8058) (mc := 0) (ms := 0) (rest := [.int r2]) C hR co_L_59 (m_X8_change hq hc) v_206 rfl rfl (Nat.le_of_ble_eq_true rfl) hl.1 ⟨by decide, by decide⟩ ⟨by decide, by decide⟩ dL_law_423 (fun H locs hR => ?_)
  refine lv_icmp_eq (tgt := 928) hx hb dL_law_426 (by decide) (fun c7 => ?_) (fun c7 => ?_)
  · rw [if_pos c7] at hf
    obtain ⟨y8, ey8, hf⟩ := nm_at hf
    refine lv_iinc (v := y8) (lv' := [(3, .int y8), (0, .ref b), (1, .ref (G.2.2.2.1 + 0)), (2, .ref (G.2.2.2.1 + 206))]) hx hb dL_law_928 hl (k := 3) rfl (by rw [ey8]; rfl) (by decide) rfl (fun ls hl => ?_)
    refine lv_goto (tgt := 18) hx hb dL_law_931 (by decide) ?_
    obtain ⟨rfl, rfl, rfl, rfl, rfl⟩ := p5_inj hf
    exact kk H locs ls hq hR (lv_sub hl [1, 2, 3, 0] rfl)
  · rw [if_neg c7] at hf
    cases hf
def f_L_c431 (fu L : Nat) (xs : Nat → Int32) (mi : Mem) (w sp rw : Nat) (x3 : Int32) : Option (Int32 × Mem × Nat × Nat × Nat) := gd (inB (x3 + (nI 1)) L) (bd2 (f_X7_lay fu mi w sp rw (xs (ix (x3 + (nI 1))))) fun r2 mi3 => gd (inB (x3 + (nI 1)) L) (bd2 (f_X8_lay fu mi3 (xs (ix (x3 + (nI 1))))) fun r5 mi6 => if r2 = r5 then (nm (x3 + (nI 4)) fun y8 => some (y8, mi6, w, sp, rw)) else (none)))
set_option maxHeartbeats 4000000 in
set_option maxRecDepth 100000 in
theorem law_c431 {p : Program} {l : Launch} {e : Env} {s : State} {m : MethodId} {below : List Frame} {meth : Method} {c : Code} {G : GT} {b L : Nat} {xs : Nat → Int32} (C : Cx G p s m c #[Value.ref b] RL cL_law 4) (hX : va_X b L xs s G.2.2.2.2) (hbl : b < G.2.2.2.2.size) (hz : G.2.2.2.2.size = G.2.2.2.1) {fu : Nat} {mi mi_ : Mem} {w sp rw w_ sp_ rw_ : Nat} (hq : isQ w sp rw) {x3 y3 : Int32} (hf : f_L_c431 fu L xs mi w sp rw x3 = some (y3, mi_, w_, sp_, rw_)) {H : Heap} {locs : List Loc} {ls : Array Slot} (hR : RM G S0 (mr0 w sp rw) mi H locs) (hl : lv_has ls 4 [(0, .ref b), (1, .ref (G.2.2.2.1 + 0)), (2, .ref (G.2.2.2.1 + 206)), (3, .int x3)]) (kk : ∀ (H : Heap) (locs : List Loc) (ls : Array Slot), isQ w_ sp_ rw_ → RM G S0 (mr0 w_ sp_ rw_) mi_ H locs → lv_has ls 4 [(0, .ref b), (1, .ref (G.2.2.2.1 + 0)), (2, .ref (G.2.2.2.1 + 206)), (3, .int y3)] → W p l e room_1 s m #[Value.ref b] below meth c H locs 227 8058 (lw_Z below #[Value.ref b] s) (F0 m 18 ls [])) : W p l e room_1 s m #[Value.ref b] below meth c H locs 227 8058 (lw_Z below #[Value.ref b] s) (F0 m 431 ls []) := by
  have hx := C.1
  have hb := C.2.1
  have hts := C.2.2.2.2.1
  have hbA : ¬ (fun q => G.2.2.2.1 ≤ q) b := by show ¬ _ ≤ _; rw [← hz]; exact Nat.not_le.mpr hbl
  rw [f_L_c431] at hf
  refine lv_aload_n hx hb dL_law_431 rfl (lv_at hl 1 rfl) ?_
  refine lv_aload_n hx hb dL_law_432 rfl (lv_at hl 0 rfl) ?_
  refine lv_iload_n hx hb dL_law_433 rfl (lv_at hl 3 rfl) ?_
  refine lv_iconst (v := (nI 1)) hx hb dL_law_434 (by decide) ?_
  refine lv_iadd hx hb dL_law_435 ?_
  obtain ⟨hg1, hf⟩ := gd_some hf
  refine va_sld hx hb hX hbl hbA (RM.S hR hz) (inB_vp hg1) dL_law_436 ?_
  obtain ⟨r2, mi3, hc, hf⟩ := bd2_some hf
  refine x_callV (cells := 227) (slots := 8058) (mc := 0) (ms := 0) (rest := []) C hR co_L_60 (m_X7_lay hq hc) v_0 rfl rfl (Nat.le_of_ble_eq_true rfl) hl.1 ⟨by decide, by decide⟩ ⟨by decide, by decide⟩ dL_law_437 (fun H locs hR => ?_)
  refine lv_aload_n hx hb dL_law_440 rfl (lv_at hl 2 rfl) ?_
  refine lv_aload_n hx hb dL_law_441 rfl (lv_at hl 0 rfl) ?_
  refine lv_iload_n hx hb dL_law_442 rfl (lv_at hl 3 rfl) ?_
  refine lv_iconst (v := (nI 1)) hx hb dL_law_443 (by decide) ?_
  refine lv_iadd hx hb dL_law_444 ?_
  obtain ⟨hg4, hf⟩ := gd_some hf
  refine va_sld hx hb hX hbl hbA (RM.S hR hz) (inB_vp hg4) dL_law_445 ?_
  obtain ⟨r5, mi6, hc, hf⟩ := bd2_some hf
  refine x_callV (cells := 227) (slots := 8058) (mc := 0) (ms := 0) (rest := [.int r2]) C hR co_L_63 (m_X8_lay hq hc) v_206 rfl rfl (Nat.le_of_ble_eq_true rfl) hl.1 ⟨by decide, by decide⟩ ⟨by decide, by decide⟩ dL_law_446 (fun H locs hR => ?_)
  refine lv_icmp_eq (tgt := 928) hx hb dL_law_449 (by decide) (fun c7 => ?_) (fun c7 => ?_)
  · rw [if_pos c7] at hf
    obtain ⟨y8, ey8, hf⟩ := nm_at hf
    refine lv_iinc (v := y8) (lv' := [(3, .int y8), (0, .ref b), (1, .ref (G.2.2.2.1 + 0)), (2, .ref (G.2.2.2.1 + 206))]) hx hb dL_law_928 hl (k := 3) rfl (by rw [ey8]; rfl) (by decide) rfl (fun ls hl => ?_)
    refine lv_goto (tgt := 18) hx hb dL_law_931 (by decide) ?_
    obtain ⟨rfl, rfl, rfl, rfl, rfl⟩ := p5_inj hf
    exact kk H locs ls hq hR (lv_sub hl [1, 2, 3, 0] rfl)
  · rw [if_neg c7] at hf
    cases hf
def f_L_c454 (fu L : Nat) (xs : Nat → Int32) (mi : Mem) (w sp rw : Nat) (x3 : Int32) : Option (Int32 × Mem × Nat × Nat × Nat) := gd (inB (x3 + (nI 1)) L) (bd2 (f_X7_take fu mi w sp rw (xs (ix (x3 + (nI 1))))) fun r2 mi3 => gd (inB (x3 + (nI 1)) L) (bd2 (f_X8_take fu mi3 (xs (ix (x3 + (nI 1))))) fun r5 mi6 => if r2 = r5 then (nm (x3 + (nI 4)) fun y8 => some (y8, mi6, w, sp, rw)) else (none)))
set_option maxHeartbeats 4000000 in
set_option maxRecDepth 100000 in
theorem law_c454 {p : Program} {l : Launch} {e : Env} {s : State} {m : MethodId} {below : List Frame} {meth : Method} {c : Code} {G : GT} {b L : Nat} {xs : Nat → Int32} (C : Cx G p s m c #[Value.ref b] RL cL_law 4) (hX : va_X b L xs s G.2.2.2.2) (hbl : b < G.2.2.2.2.size) (hz : G.2.2.2.2.size = G.2.2.2.1) {fu : Nat} {mi mi_ : Mem} {w sp rw w_ sp_ rw_ : Nat} (hq : isQ w sp rw) {x3 y3 : Int32} (hf : f_L_c454 fu L xs mi w sp rw x3 = some (y3, mi_, w_, sp_, rw_)) {H : Heap} {locs : List Loc} {ls : Array Slot} (hR : RM G S0 (mr0 w sp rw) mi H locs) (hl : lv_has ls 4 [(0, .ref b), (1, .ref (G.2.2.2.1 + 0)), (2, .ref (G.2.2.2.1 + 206)), (3, .int x3)]) (kk : ∀ (H : Heap) (locs : List Loc) (ls : Array Slot), isQ w_ sp_ rw_ → RM G S0 (mr0 w_ sp_ rw_) mi_ H locs → lv_has ls 4 [(0, .ref b), (1, .ref (G.2.2.2.1 + 0)), (2, .ref (G.2.2.2.1 + 206)), (3, .int y3)] → W p l e room_1 s m #[Value.ref b] below meth c H locs 227 8058 (lw_Z below #[Value.ref b] s) (F0 m 18 ls [])) : W p l e room_1 s m #[Value.ref b] below meth c H locs 227 8058 (lw_Z below #[Value.ref b] s) (F0 m 454 ls []) := by
  have hx := C.1
  have hb := C.2.1
  have hts := C.2.2.2.2.1
  have hbA : ¬ (fun q => G.2.2.2.1 ≤ q) b := by show ¬ _ ≤ _; rw [← hz]; exact Nat.not_le.mpr hbl
  rw [f_L_c454] at hf
  refine lv_aload_n hx hb dL_law_454 rfl (lv_at hl 1 rfl) ?_
  refine lv_aload_n hx hb dL_law_455 rfl (lv_at hl 0 rfl) ?_
  refine lv_iload_n hx hb dL_law_456 rfl (lv_at hl 3 rfl) ?_
  refine lv_iconst (v := (nI 1)) hx hb dL_law_457 (by decide) ?_
  refine lv_iadd hx hb dL_law_458 ?_
  obtain ⟨hg1, hf⟩ := gd_some hf
  refine va_sld hx hb hX hbl hbA (RM.S hR hz) (inB_vp hg1) dL_law_459 ?_
  obtain ⟨r2, mi3, hc, hf⟩ := bd2_some hf
  refine x_callV (cells := 227) (slots := 8058) (mc := 0) (ms := 0) (rest := []) C hR co_L_64 (m_X7_take hq hc) v_0 rfl rfl (Nat.le_of_ble_eq_true rfl) hl.1 ⟨by decide, by decide⟩ ⟨by decide, by decide⟩ dL_law_460 (fun H locs hR => ?_)
  refine lv_aload_n hx hb dL_law_463 rfl (lv_at hl 2 rfl) ?_
  refine lv_aload_n hx hb dL_law_464 rfl (lv_at hl 0 rfl) ?_
  refine lv_iload_n hx hb dL_law_465 rfl (lv_at hl 3 rfl) ?_
  refine lv_iconst (v := (nI 1)) hx hb dL_law_466 (by decide) ?_
  refine lv_iadd hx hb dL_law_467 ?_
  obtain ⟨hg4, hf⟩ := gd_some hf
  refine va_sld hx hb hX hbl hbA (RM.S hR hz) (inB_vp hg4) dL_law_468 ?_
  obtain ⟨r5, mi6, hc, hf⟩ := bd2_some hf
  refine x_callV (cells := 227) (slots := 8058) (mc := 0) (ms := 0) (rest := [.int r2]) C hR co_L_67 (m_X8_take hq hc) v_206 rfl rfl (Nat.le_of_ble_eq_true rfl) hl.1 ⟨by decide, by decide⟩ ⟨by decide, by decide⟩ dL_law_469 (fun H locs hR => ?_)
  refine lv_icmp_eq (tgt := 928) hx hb dL_law_472 (by decide) (fun c7 => ?_) (fun c7 => ?_)
  · rw [if_pos c7] at hf
    obtain ⟨y8, ey8, hf⟩ := nm_at hf
    refine lv_iinc (v := y8) (lv' := [(3, .int y8), (0, .ref b), (1, .ref (G.2.2.2.1 + 0)), (2, .ref (G.2.2.2.1 + 206))]) hx hb dL_law_928 hl (k := 3) rfl (by rw [ey8]; rfl) (by decide) rfl (fun ls hl => ?_)
    refine lv_goto (tgt := 18) hx hb dL_law_931 (by decide) ?_
    obtain ⟨rfl, rfl, rfl, rfl, rfl⟩ := p5_inj hf
    exact kk H locs ls hq hR (lv_sub hl [1, 2, 3, 0] rfl)
  · rw [if_neg c7] at hf
    cases hf
def f_L_c477 (fu L : Nat) (xs : Nat → Int32) (mi : Mem) (w sp rw : Nat) (x3 : Int32) : Option (Int32 × Mem × Nat × Nat × Nat) := gd (inB (x3 + (nI 1)) L) (bd2 (f_X7_drift fu mi w sp rw (xs (ix (x3 + (nI 1))))) fun r2 mi3 => gd (inB (x3 + (nI 1)) L) (bd2 (f_X8_drift fu mi3 (xs (ix (x3 + (nI 1))))) fun r5 mi6 => if r2 = r5 then (nm (x3 + (nI 4)) fun y8 => some (y8, mi6, w, sp, rw)) else (none)))
set_option maxHeartbeats 4000000 in
set_option maxRecDepth 100000 in
theorem law_c477 {p : Program} {l : Launch} {e : Env} {s : State} {m : MethodId} {below : List Frame} {meth : Method} {c : Code} {G : GT} {b L : Nat} {xs : Nat → Int32} (C : Cx G p s m c #[Value.ref b] RL cL_law 4) (hX : va_X b L xs s G.2.2.2.2) (hbl : b < G.2.2.2.2.size) (hz : G.2.2.2.2.size = G.2.2.2.1) {fu : Nat} {mi mi_ : Mem} {w sp rw w_ sp_ rw_ : Nat} (hq : isQ w sp rw) {x3 y3 : Int32} (hf : f_L_c477 fu L xs mi w sp rw x3 = some (y3, mi_, w_, sp_, rw_)) {H : Heap} {locs : List Loc} {ls : Array Slot} (hR : RM G S0 (mr0 w sp rw) mi H locs) (hl : lv_has ls 4 [(0, .ref b), (1, .ref (G.2.2.2.1 + 0)), (2, .ref (G.2.2.2.1 + 206)), (3, .int x3)]) (kk : ∀ (H : Heap) (locs : List Loc) (ls : Array Slot), isQ w_ sp_ rw_ → RM G S0 (mr0 w_ sp_ rw_) mi_ H locs → lv_has ls 4 [(0, .ref b), (1, .ref (G.2.2.2.1 + 0)), (2, .ref (G.2.2.2.1 + 206)), (3, .int y3)] → W p l e room_1 s m #[Value.ref b] below meth c H locs 227 8058 (lw_Z below #[Value.ref b] s) (F0 m 18 ls [])) : W p l e room_1 s m #[Value.ref b] below meth c H locs 227 8058 (lw_Z below #[Value.ref b] s) (F0 m 477 ls []) := by
  have hx := C.1
  have hb := C.2.1
  have hts := C.2.2.2.2.1
  have hbA : ¬ (fun q => G.2.2.2.1 ≤ q) b := by show ¬ _ ≤ _; rw [← hz]; exact Nat.not_le.mpr hbl
  rw [f_L_c477] at hf
  refine lv_aload_n hx hb dL_law_477 rfl (lv_at hl 1 rfl) ?_
  refine lv_aload_n hx hb dL_law_478 rfl (lv_at hl 0 rfl) ?_
  refine lv_iload_n hx hb dL_law_479 rfl (lv_at hl 3 rfl) ?_
  refine lv_iconst (v := (nI 1)) hx hb dL_law_480 (by decide) ?_
  refine lv_iadd hx hb dL_law_481 ?_
  obtain ⟨hg1, hf⟩ := gd_some hf
  refine va_sld hx hb hX hbl hbA (RM.S hR hz) (inB_vp hg1) dL_law_482 ?_
  obtain ⟨r2, mi3, hc, hf⟩ := bd2_some hf
  refine x_callV (cells := 227) (slots := 8058) (mc := 0) (ms := 0) (rest := []) C hR co_L_68 (m_X7_drift hq hc) v_0 rfl rfl (Nat.le_of_ble_eq_true rfl) hl.1 ⟨by decide, by decide⟩ ⟨by decide, by decide⟩ dL_law_483 (fun H locs hR => ?_)
  refine lv_aload_n hx hb dL_law_486 rfl (lv_at hl 2 rfl) ?_
  refine lv_aload_n hx hb dL_law_487 rfl (lv_at hl 0 rfl) ?_
  refine lv_iload_n hx hb dL_law_488 rfl (lv_at hl 3 rfl) ?_
  refine lv_iconst (v := (nI 1)) hx hb dL_law_489 (by decide) ?_
  refine lv_iadd hx hb dL_law_490 ?_
  obtain ⟨hg4, hf⟩ := gd_some hf
  refine va_sld hx hb hX hbl hbA (RM.S hR hz) (inB_vp hg4) dL_law_491 ?_
  obtain ⟨r5, mi6, hc, hf⟩ := bd2_some hf
  refine x_callV (cells := 227) (slots := 8058) (mc := 0) (ms := 0) (rest := [.int r2]) C hR co_L_71 (m_X8_drift hq hc) v_206 rfl rfl (Nat.le_of_ble_eq_true rfl) hl.1 ⟨by decide, by decide⟩ ⟨by decide, by decide⟩ dL_law_492 (fun H locs hR => ?_)
  refine lv_icmp_eq (tgt := 928) hx hb dL_law_495 (by decide) (fun c7 => ?_) (fun c7 => ?_)
  · rw [if_pos c7] at hf
    obtain ⟨y8, ey8, hf⟩ := nm_at hf
    refine lv_iinc (v := y8) (lv' := [(3, .int y8), (0, .ref b), (1, .ref (G.2.2.2.1 + 0)), (2, .ref (G.2.2.2.1 + 206))]) hx hb dL_law_928 hl (k := 3) rfl (by rw [ey8]; rfl) (by decide) rfl (fun ls hl => ?_)
    refine lv_goto (tgt := 18) hx hb dL_law_931 (by decide) ?_
    obtain ⟨rfl, rfl, rfl, rfl, rfl⟩ := p5_inj hf
    exact kk H locs ls hq hR (lv_sub hl [1, 2, 3, 0] rfl)
  · rw [if_neg c7] at hf
    cases hf
def f_L_c500 (fu L : Nat) (xs : Nat → Int32) (mi : Mem) (w sp rw : Nat) (x3 : Int32) : Option (Int32 × Mem × Nat × Nat × Nat) := gd (inB (x3 + (nI 1)) L) (bd2 (f_X7_undo mi (xs (ix (x3 + (nI 1))))) fun r2 mi3 => gd (inB (x3 + (nI 1)) L) (bd2 (f_X8_undo fu mi3 (xs (ix (x3 + (nI 1))))) fun r5 mi6 => if r2 = r5 then (nm (x3 + (nI 4)) fun y8 => some (y8, mi6, w, sp, rw)) else (none)))
set_option maxHeartbeats 4000000 in
set_option maxRecDepth 100000 in
theorem law_c500 {p : Program} {l : Launch} {e : Env} {s : State} {m : MethodId} {below : List Frame} {meth : Method} {c : Code} {G : GT} {b L : Nat} {xs : Nat → Int32} (C : Cx G p s m c #[Value.ref b] RL cL_law 4) (hX : va_X b L xs s G.2.2.2.2) (hbl : b < G.2.2.2.2.size) (hz : G.2.2.2.2.size = G.2.2.2.1) {fu : Nat} {mi mi_ : Mem} {w sp rw w_ sp_ rw_ : Nat} (hq : isQ w sp rw) {x3 y3 : Int32} (hf : f_L_c500 fu L xs mi w sp rw x3 = some (y3, mi_, w_, sp_, rw_)) {H : Heap} {locs : List Loc} {ls : Array Slot} (hR : RM G S0 (mr0 w sp rw) mi H locs) (hl : lv_has ls 4 [(0, .ref b), (1, .ref (G.2.2.2.1 + 0)), (2, .ref (G.2.2.2.1 + 206)), (3, .int x3)]) (kk : ∀ (H : Heap) (locs : List Loc) (ls : Array Slot), isQ w_ sp_ rw_ → RM G S0 (mr0 w_ sp_ rw_) mi_ H locs → lv_has ls 4 [(0, .ref b), (1, .ref (G.2.2.2.1 + 0)), (2, .ref (G.2.2.2.1 + 206)), (3, .int y3)] → W p l e room_1 s m #[Value.ref b] below meth c H locs 227 8058 (lw_Z below #[Value.ref b] s) (F0 m 18 ls [])) : W p l e room_1 s m #[Value.ref b] below meth c H locs 227 8058 (lw_Z below #[Value.ref b] s) (F0 m 500 ls []) := by
  have hx := C.1
  have hb := C.2.1
  have hts := C.2.2.2.2.1
  have hbA : ¬ (fun q => G.2.2.2.1 ≤ q) b := by show ¬ _ ≤ _; rw [← hz]; exact Nat.not_le.mpr hbl
  rw [f_L_c500] at hf
  refine lv_aload_n hx hb dL_law_500 rfl (lv_at hl 1 rfl) ?_
  refine lv_aload_n hx hb dL_law_501 rfl (lv_at hl 0 rfl) ?_
  refine lv_iload_n hx hb dL_law_502 rfl (lv_at hl 3 rfl) ?_
  refine lv_iconst (v := (nI 1)) hx hb dL_law_503 (by decide) ?_
  refine lv_iadd hx hb dL_law_504 ?_
  obtain ⟨hg1, hf⟩ := gd_some hf
  refine va_sld hx hb hX hbl hbA (RM.S hR hz) (inB_vp hg1) dL_law_505 ?_
  obtain ⟨r2, mi3, hc, hf⟩ := bd2_some hf
  refine x_callV (cells := 227) (slots := 8058) (mc := 0) (ms := 0) (rest := []) C hR co_L_72 (m_X7_undo hq hc) v_0 rfl rfl (Nat.le_of_ble_eq_true rfl) hl.1 ⟨by decide, by decide⟩ ⟨by decide, by decide⟩ dL_law_506 (fun H locs hR => ?_)
  refine lv_aload_n hx hb dL_law_509 rfl (lv_at hl 2 rfl) ?_
  refine lv_aload_n hx hb dL_law_510 rfl (lv_at hl 0 rfl) ?_
  refine lv_iload_n hx hb dL_law_511 rfl (lv_at hl 3 rfl) ?_
  refine lv_iconst (v := (nI 1)) hx hb dL_law_512 (by decide) ?_
  refine lv_iadd hx hb dL_law_513 ?_
  obtain ⟨hg4, hf⟩ := gd_some hf
  refine va_sld hx hb hX hbl hbA (RM.S hR hz) (inB_vp hg4) dL_law_514 ?_
  obtain ⟨r5, mi6, hc, hf⟩ := bd2_some hf
  refine x_callV (cells := 227) (slots := 8058) (mc := 0) (ms := 0) (rest := [.int r2]) C hR co_L_75 (m_X8_undo hq hc) v_206 rfl rfl (Nat.le_of_ble_eq_true rfl) hl.1 ⟨by decide, by decide⟩ ⟨by decide, by decide⟩ dL_law_515 (fun H locs hR => ?_)
  refine lv_icmp_eq (tgt := 928) hx hb dL_law_518 (by decide) (fun c7 => ?_) (fun c7 => ?_)
  · rw [if_pos c7] at hf
    obtain ⟨y8, ey8, hf⟩ := nm_at hf
    refine lv_iinc (v := y8) (lv' := [(3, .int y8), (0, .ref b), (1, .ref (G.2.2.2.1 + 0)), (2, .ref (G.2.2.2.1 + 206))]) hx hb dL_law_928 hl (k := 3) rfl (by rw [ey8]; rfl) (by decide) rfl (fun ls hl => ?_)
    refine lv_goto (tgt := 18) hx hb dL_law_931 (by decide) ?_
    obtain ⟨rfl, rfl, rfl, rfl, rfl⟩ := p5_inj hf
    exact kk H locs ls hq hR (lv_sub hl [1, 2, 3, 0] rfl)
  · rw [if_neg c7] at hf
    cases hf
def f_L_c523 (fu L : Nat) (xs : Nat → Int32) (mi : Mem) (w sp rw : Nat) (x3 : Int32) : Option (Int32 × Mem × Nat × Nat × Nat) := gd (inB (x3 + (nI 1)) L) (gd (inB (x3 + (nI 2)) L) (Option.bind (f_X7_needs mi w sp rw (xs (ix (x3 + (nI 1)))) (xs (ix (x3 + (nI 2))))) fun r3 => gd (inB (x3 + (nI 1)) L) (gd (inB (x3 + (nI 2)) L) (Option.bind (f_X8_needs mi (xs (ix (x3 + (nI 1)))) (xs (ix (x3 + (nI 2))))) fun r6 => if r3 = r6 then (nm (x3 + (nI 4)) fun y8 => some (y8, mi, w, sp, rw)) else (none)))))
set_option maxHeartbeats 4000000 in
set_option maxRecDepth 100000 in
theorem law_c523 {p : Program} {l : Launch} {e : Env} {s : State} {m : MethodId} {below : List Frame} {meth : Method} {c : Code} {G : GT} {b L : Nat} {xs : Nat → Int32} (C : Cx G p s m c #[Value.ref b] RL cL_law 4) (hX : va_X b L xs s G.2.2.2.2) (hbl : b < G.2.2.2.2.size) (hz : G.2.2.2.2.size = G.2.2.2.1) {fu : Nat} {mi mi_ : Mem} {w sp rw w_ sp_ rw_ : Nat} (hq : isQ w sp rw) {x3 y3 : Int32} (hf : f_L_c523 fu L xs mi w sp rw x3 = some (y3, mi_, w_, sp_, rw_)) {H : Heap} {locs : List Loc} {ls : Array Slot} (hR : RM G S0 (mr0 w sp rw) mi H locs) (hl : lv_has ls 4 [(0, .ref b), (1, .ref (G.2.2.2.1 + 0)), (2, .ref (G.2.2.2.1 + 206)), (3, .int x3)]) (kk : ∀ (H : Heap) (locs : List Loc) (ls : Array Slot), isQ w_ sp_ rw_ → RM G S0 (mr0 w_ sp_ rw_) mi_ H locs → lv_has ls 4 [(0, .ref b), (1, .ref (G.2.2.2.1 + 0)), (2, .ref (G.2.2.2.1 + 206)), (3, .int y3)] → W p l e room_1 s m #[Value.ref b] below meth c H locs 227 8058 (lw_Z below #[Value.ref b] s) (F0 m 18 ls [])) : W p l e room_1 s m #[Value.ref b] below meth c H locs 227 8058 (lw_Z below #[Value.ref b] s) (F0 m 523 ls []) := by
  have hx := C.1
  have hb := C.2.1
  have hts := C.2.2.2.2.1
  have hbA : ¬ (fun q => G.2.2.2.1 ≤ q) b := by show ¬ _ ≤ _; rw [← hz]; exact Nat.not_le.mpr hbl
  rw [f_L_c523] at hf
  refine lv_aload_n hx hb dL_law_523 rfl (lv_at hl 1 rfl) ?_
  refine lv_aload_n hx hb dL_law_524 rfl (lv_at hl 0 rfl) ?_
  refine lv_iload_n hx hb dL_law_525 rfl (lv_at hl 3 rfl) ?_
  refine lv_iconst (v := (nI 1)) hx hb dL_law_526 (by decide) ?_
  refine lv_iadd hx hb dL_law_527 ?_
  obtain ⟨hg1, hf⟩ := gd_some hf
  refine va_sld hx hb hX hbl hbA (RM.S hR hz) (inB_vp hg1) dL_law_528 ?_
  refine lv_aload_n hx hb dL_law_529 rfl (lv_at hl 0 rfl) ?_
  refine lv_iload_n hx hb dL_law_530 rfl (lv_at hl 3 rfl) ?_
  refine lv_iconst (v := (nI 2)) hx hb dL_law_531 (by decide) ?_
  refine lv_iadd hx hb dL_law_532 ?_
  obtain ⟨hg2, hf⟩ := gd_some hf
  refine va_sld hx hb hX hbl hbA (RM.S hR hz) (inB_vp hg2) dL_law_533 ?_
  obtain ⟨r3, hc, hf⟩ := bd_some hf
  refine x_callV (cells := 227) (slots := 8058) (mc := 0) (ms := 0) (rest := []) C hR co_L_76 (m_X7_needs hq hc) v_0 rfl rfl (Nat.le_of_ble_eq_true rfl) hl.1 ⟨by decide, by decide⟩ ⟨by decide, by decide⟩ dL_law_534 (fun H locs hR => ?_)
  refine lv_aload_n hx hb dL_law_537 rfl (lv_at hl 2 rfl) ?_
  refine lv_aload_n hx hb dL_law_538 rfl (lv_at hl 0 rfl) ?_
  refine lv_iload_n hx hb dL_law_539 rfl (lv_at hl 3 rfl) ?_
  refine lv_iconst (v := (nI 1)) hx hb dL_law_540 (by decide) ?_
  refine lv_iadd hx hb dL_law_541 ?_
  obtain ⟨hg4, hf⟩ := gd_some hf
  refine va_sld hx hb hX hbl hbA (RM.S hR hz) (inB_vp hg4) dL_law_542 ?_
  refine lv_aload_n hx hb dL_law_543 rfl (lv_at hl 0 rfl) ?_
  refine lv_iload_n hx hb dL_law_544 rfl (lv_at hl 3 rfl) ?_
  refine lv_iconst (v := (nI 2)) hx hb dL_law_545 (by decide) ?_
  refine lv_iadd hx hb dL_law_546 ?_
  obtain ⟨hg5, hf⟩ := gd_some hf
  refine va_sld hx hb hX hbl hbA (RM.S hR hz) (inB_vp hg5) dL_law_547 ?_
  obtain ⟨r6, hc, hf⟩ := bd_some hf
  refine x_callV (cells := 227) (slots := 8058) (mc := 0) (ms := 0) (rest := [.int r3]) C hR co_L_79 (m_X8_needs hq hc) v_206 rfl rfl (Nat.le_of_ble_eq_true rfl) hl.1 ⟨by decide, by decide⟩ ⟨by decide, by decide⟩ dL_law_548 (fun H locs hR => ?_)
  refine lv_icmp_eq (tgt := 928) hx hb dL_law_551 (by decide) (fun c7 => ?_) (fun c7 => ?_)
  · rw [if_pos c7] at hf
    obtain ⟨y8, ey8, hf⟩ := nm_at hf
    refine lv_iinc (v := y8) (lv' := [(3, .int y8), (0, .ref b), (1, .ref (G.2.2.2.1 + 0)), (2, .ref (G.2.2.2.1 + 206))]) hx hb dL_law_928 hl (k := 3) rfl (by rw [ey8]; rfl) (by decide) rfl (fun ls hl => ?_)
    refine lv_goto (tgt := 18) hx hb dL_law_931 (by decide) ?_
    obtain ⟨rfl, rfl, rfl, rfl, rfl⟩ := p5_inj hf
    exact kk H locs ls hq hR (lv_sub hl [1, 2, 3, 0] rfl)
  · rw [if_neg c7] at hf
    cases hf
def f_L_c556 (fu L : Nat) (xs : Nat → Int32) (mi : Mem) (w sp rw : Nat) (x3 : Int32) : Option (Int32 × Mem × Nat × Nat × Nat) := gd (inB (x3 + (nI 1)) L) (bd5 (f_X7_first fu mi w sp rw (xs (ix (x3 + (nI 1))))) fun r2 mi3 w4 sp5 rw6 => gd (isQb w4 sp5 rw6) (gd (inB (x3 + (nI 1)) L) (bd2 (f_X8_first fu mi3 (xs (ix (x3 + (nI 1))))) fun r10 mi11 => if r2 = r10 then (nm (x3 + (nI 4)) fun y13 => some (y13, mi11, w4, sp5, rw6)) else (none))))
set_option maxHeartbeats 4000000 in
set_option maxRecDepth 100000 in
theorem law_c556 {p : Program} {l : Launch} {e : Env} {s : State} {m : MethodId} {below : List Frame} {meth : Method} {c : Code} {G : GT} {b L : Nat} {xs : Nat → Int32} (C : Cx G p s m c #[Value.ref b] RL cL_law 4) (hX : va_X b L xs s G.2.2.2.2) (hbl : b < G.2.2.2.2.size) (hz : G.2.2.2.2.size = G.2.2.2.1) {fu : Nat} {mi mi_ : Mem} {w sp rw w_ sp_ rw_ : Nat} (hq : isQ w sp rw) {x3 y3 : Int32} (hf : f_L_c556 fu L xs mi w sp rw x3 = some (y3, mi_, w_, sp_, rw_)) {H : Heap} {locs : List Loc} {ls : Array Slot} (hR : RM G S0 (mr0 w sp rw) mi H locs) (hl : lv_has ls 4 [(0, .ref b), (1, .ref (G.2.2.2.1 + 0)), (2, .ref (G.2.2.2.1 + 206)), (3, .int x3)]) (kk : ∀ (H : Heap) (locs : List Loc) (ls : Array Slot), isQ w_ sp_ rw_ → RM G S0 (mr0 w_ sp_ rw_) mi_ H locs → lv_has ls 4 [(0, .ref b), (1, .ref (G.2.2.2.1 + 0)), (2, .ref (G.2.2.2.1 + 206)), (3, .int y3)] → W p l e room_1 s m #[Value.ref b] below meth c H locs 227 8058 (lw_Z below #[Value.ref b] s) (F0 m 18 ls [])) : W p l e room_1 s m #[Value.ref b] below meth c H locs 227 8058 (lw_Z below #[Value.ref b] s) (F0 m 556 ls []) := by
  have hx := C.1
  have hb := C.2.1
  have hts := C.2.2.2.2.1
  have hbA : ¬ (fun q => G.2.2.2.1 ≤ q) b := by show ¬ _ ≤ _; rw [← hz]; exact Nat.not_le.mpr hbl
  rw [f_L_c556] at hf
  refine lv_aload_n hx hb dL_law_556 rfl (lv_at hl 1 rfl) ?_
  refine lv_aload_n hx hb dL_law_557 rfl (lv_at hl 0 rfl) ?_
  refine lv_iload_n hx hb dL_law_558 rfl (lv_at hl 3 rfl) ?_
  refine lv_iconst (v := (nI 1)) hx hb dL_law_559 (by decide) ?_
  refine lv_iadd hx hb dL_law_560 ?_
  obtain ⟨hg1, hf⟩ := gd_some hf
  refine va_sld hx hb hX hbl hbA (RM.S hR hz) (inB_vp hg1) dL_law_561 ?_
  obtain ⟨r2, mi3, w4, sp5, rw6, hc, hf⟩ := bd5_some hf
  refine x_callV (cells := 227) (slots := 8058) (mc := 0) (ms := 0) (rest := []) C hR co_L_80 (m_X7_first hq hc) v_0 rfl rfl (Nat.le_of_ble_eq_true rfl) hl.1 ⟨by decide, by decide⟩ ⟨by decide, by decide⟩ dL_law_562 (fun H locs hR => ?_)
  obtain ⟨hg7, hf⟩ := gd_some hf
  have hq8 := isQ_of hg7
  refine lv_aload_n hx hb dL_law_565 rfl (lv_at hl 2 rfl) ?_
  refine lv_aload_n hx hb dL_law_566 rfl (lv_at hl 0 rfl) ?_
  refine lv_iload_n hx hb dL_law_567 rfl (lv_at hl 3 rfl) ?_
  refine lv_iconst (v := (nI 1)) hx hb dL_law_568 (by decide) ?_
  refine lv_iadd hx hb dL_law_569 ?_
  obtain ⟨hg9, hf⟩ := gd_some hf
  refine va_sld hx hb hX hbl hbA (RM.S hR hz) (inB_vp hg9) dL_law_570 ?_
  obtain ⟨r10, mi11, hc, hf⟩ := bd2_some hf
  refine x_callV (cells := 227) (slots := 8058) (mc := 0) (ms := 0) (rest := [.int r2]) C hR co_L_83 (m_X8_first hq8 hc) v_206 rfl rfl (Nat.le_of_ble_eq_true rfl) hl.1 ⟨by decide, by decide⟩ ⟨by decide, by decide⟩ dL_law_571 (fun H locs hR => ?_)
  refine lv_icmp_eq (tgt := 928) hx hb dL_law_574 (by decide) (fun c12 => ?_) (fun c12 => ?_)
  · rw [if_pos c12] at hf
    obtain ⟨y13, ey13, hf⟩ := nm_at hf
    refine lv_iinc (v := y13) (lv' := [(3, .int y13), (0, .ref b), (1, .ref (G.2.2.2.1 + 0)), (2, .ref (G.2.2.2.1 + 206))]) hx hb dL_law_928 hl (k := 3) rfl (by rw [ey13]; rfl) (by decide) rfl (fun ls hl => ?_)
    refine lv_goto (tgt := 18) hx hb dL_law_931 (by decide) ?_
    obtain ⟨rfl, rfl, rfl, rfl, rfl⟩ := p5_inj hf
    exact kk H locs ls hq8 hR (lv_sub hl [1, 2, 3, 0] rfl)
  · rw [if_neg c12] at hf
    cases hf
def f_L_c579 (fu L : Nat) (xs : Nat → Int32) (mi : Mem) (w sp rw : Nat) (x3 : Int32) : Option (Int32 × Mem × Nat × Nat × Nat) := gd (inB (x3 + (nI 1)) L) (gd (inB (x3 + (nI 2)) L) (gd (inB (x3 + (nI 3)) L) (Option.bind (f_X7_ladder fu mi w sp rw (xs (ix (x3 + (nI 1)))) (xs (ix (x3 + (nI 2)))) (xs (ix (x3 + (nI 3))))) fun r4 => gd (inB (x3 + (nI 1)) L) (gd (inB (x3 + (nI 2)) L) (gd (inB (x3 + (nI 3)) L) (Option.bind (f_X8_ladder fu mi (xs (ix (x3 + (nI 1)))) (xs (ix (x3 + (nI 2)))) (xs (ix (x3 + (nI 3))))) fun r8 => if r4 = r8 then (nm (x3 + (nI 4)) fun y10 => some (y10, mi, w, sp, rw)) else (none)))))))
set_option maxHeartbeats 4000000 in
set_option maxRecDepth 100000 in
theorem law_c579 {p : Program} {l : Launch} {e : Env} {s : State} {m : MethodId} {below : List Frame} {meth : Method} {c : Code} {G : GT} {b L : Nat} {xs : Nat → Int32} (C : Cx G p s m c #[Value.ref b] RL cL_law 4) (hX : va_X b L xs s G.2.2.2.2) (hbl : b < G.2.2.2.2.size) (hz : G.2.2.2.2.size = G.2.2.2.1) {fu : Nat} {mi mi_ : Mem} {w sp rw w_ sp_ rw_ : Nat} (hq : isQ w sp rw) {x3 y3 : Int32} (hf : f_L_c579 fu L xs mi w sp rw x3 = some (y3, mi_, w_, sp_, rw_)) {H : Heap} {locs : List Loc} {ls : Array Slot} (hR : RM G S0 (mr0 w sp rw) mi H locs) (hl : lv_has ls 4 [(0, .ref b), (1, .ref (G.2.2.2.1 + 0)), (2, .ref (G.2.2.2.1 + 206)), (3, .int x3)]) (kk : ∀ (H : Heap) (locs : List Loc) (ls : Array Slot), isQ w_ sp_ rw_ → RM G S0 (mr0 w_ sp_ rw_) mi_ H locs → lv_has ls 4 [(0, .ref b), (1, .ref (G.2.2.2.1 + 0)), (2, .ref (G.2.2.2.1 + 206)), (3, .int y3)] → W p l e room_1 s m #[Value.ref b] below meth c H locs 227 8058 (lw_Z below #[Value.ref b] s) (F0 m 18 ls [])) : W p l e room_1 s m #[Value.ref b] below meth c H locs 227 8058 (lw_Z below #[Value.ref b] s) (F0 m 579 ls []) := by
  have hx := C.1
  have hb := C.2.1
  have hts := C.2.2.2.2.1
  have hbA : ¬ (fun q => G.2.2.2.1 ≤ q) b := by show ¬ _ ≤ _; rw [← hz]; exact Nat.not_le.mpr hbl
  rw [f_L_c579] at hf
  refine lv_aload_n hx hb dL_law_579 rfl (lv_at hl 1 rfl) ?_
  refine lv_aload_n hx hb dL_law_580 rfl (lv_at hl 0 rfl) ?_
  refine lv_iload_n hx hb dL_law_581 rfl (lv_at hl 3 rfl) ?_
  refine lv_iconst (v := (nI 1)) hx hb dL_law_582 (by decide) ?_
  refine lv_iadd hx hb dL_law_583 ?_
  obtain ⟨hg1, hf⟩ := gd_some hf
  refine va_sld hx hb hX hbl hbA (RM.S hR hz) (inB_vp hg1) dL_law_584 ?_
  refine lv_aload_n hx hb dL_law_585 rfl (lv_at hl 0 rfl) ?_
  refine lv_iload_n hx hb dL_law_586 rfl (lv_at hl 3 rfl) ?_
  refine lv_iconst (v := (nI 2)) hx hb dL_law_587 (by decide) ?_
  refine lv_iadd hx hb dL_law_588 ?_
  obtain ⟨hg2, hf⟩ := gd_some hf
  refine va_sld hx hb hX hbl hbA (RM.S hR hz) (inB_vp hg2) dL_law_589 ?_
  refine lv_aload_n hx hb dL_law_590 rfl (lv_at hl 0 rfl) ?_
  refine lv_iload_n hx hb dL_law_591 rfl (lv_at hl 3 rfl) ?_
  refine lv_iconst (v := (nI 3)) hx hb dL_law_592 (by decide) ?_
  refine lv_iadd hx hb dL_law_593 ?_
  obtain ⟨hg3, hf⟩ := gd_some hf
  refine va_sld hx hb hX hbl hbA (RM.S hR hz) (inB_vp hg3) dL_law_594 ?_
  obtain ⟨r4, hc, hf⟩ := bd_some hf
  refine x_callV (cells := 227) (slots := 8058) (mc := 0) (ms := 0) (rest := []) C hR co_L_84 (m_X7_ladder hq hc) v_0 rfl rfl (Nat.le_of_ble_eq_true rfl) hl.1 ⟨by decide, by decide⟩ ⟨by decide, by decide⟩ dL_law_595 (fun H locs hR => ?_)
  refine lv_aload_n hx hb dL_law_598 rfl (lv_at hl 2 rfl) ?_
  refine lv_aload_n hx hb dL_law_599 rfl (lv_at hl 0 rfl) ?_
  refine lv_iload_n hx hb dL_law_600 rfl (lv_at hl 3 rfl) ?_
  refine lv_iconst (v := (nI 1)) hx hb dL_law_601 (by decide) ?_
  refine lv_iadd hx hb dL_law_602 ?_
  obtain ⟨hg5, hf⟩ := gd_some hf
  refine va_sld hx hb hX hbl hbA (RM.S hR hz) (inB_vp hg5) dL_law_603 ?_
  refine lv_aload_n hx hb dL_law_604 rfl (lv_at hl 0 rfl) ?_
  refine lv_iload_n hx hb dL_law_605 rfl (lv_at hl 3 rfl) ?_
  refine lv_iconst (v := (nI 2)) hx hb dL_law_606 (by decide) ?_
  refine lv_iadd hx hb dL_law_607 ?_
  obtain ⟨hg6, hf⟩ := gd_some hf
  refine va_sld hx hb hX hbl hbA (RM.S hR hz) (inB_vp hg6) dL_law_608 ?_
  refine lv_aload_n hx hb dL_law_609 rfl (lv_at hl 0 rfl) ?_
  refine lv_iload_n hx hb dL_law_610 rfl (lv_at hl 3 rfl) ?_
  refine lv_iconst (v := (nI 3)) hx hb dL_law_611 (by decide) ?_
  refine lv_iadd hx hb dL_law_612 ?_
  obtain ⟨hg7, hf⟩ := gd_some hf
  refine va_sld hx hb hX hbl hbA (RM.S hR hz) (inB_vp hg7) dL_law_613 ?_
  obtain ⟨r8, hc, hf⟩ := bd_some hf
  refine x_callV (cells := 227) (slots := 8058) (mc := 0) (ms := 0) (rest := [.int r4]) C hR co_L_88 (m_X8_ladder hq hc) v_206 rfl rfl (Nat.le_of_ble_eq_true rfl) hl.1 ⟨by decide, by decide⟩ ⟨by decide, by decide⟩ dL_law_614 (fun H locs hR => ?_)
  refine lv_icmp_eq (tgt := 928) hx hb dL_law_617 (by decide) (fun c9 => ?_) (fun c9 => ?_)
  · rw [if_pos c9] at hf
    obtain ⟨y10, ey10, hf⟩ := nm_at hf
    refine lv_iinc (v := y10) (lv' := [(3, .int y10), (0, .ref b), (1, .ref (G.2.2.2.1 + 0)), (2, .ref (G.2.2.2.1 + 206))]) hx hb dL_law_928 hl (k := 3) rfl (by rw [ey10]; rfl) (by decide) rfl (fun ls hl => ?_)
    refine lv_goto (tgt := 18) hx hb dL_law_931 (by decide) ?_
    obtain ⟨rfl, rfl, rfl, rfl, rfl⟩ := p5_inj hf
    exact kk H locs ls hq hR (lv_sub hl [1, 2, 3, 0] rfl)
  · rw [if_neg c9] at hf
    cases hf
def f_L_c622 (fu L : Nat) (xs : Nat → Int32) (mi : Mem) (w sp rw : Nat) (x3 : Int32) : Option (Int32 × Mem × Nat × Nat × Nat) := gd (inB (x3 + (nI 1)) L) (gd (inB (x3 + (nI 2)) L) (Option.bind (f_X7_far fu mi w sp rw (xs (ix (x3 + (nI 1)))) (xs (ix (x3 + (nI 2))))) fun r3 => gd (inB (x3 + (nI 1)) L) (gd (inB (x3 + (nI 2)) L) (Option.bind (f_X8_far fu mi (xs (ix (x3 + (nI 1)))) (xs (ix (x3 + (nI 2))))) fun r6 => if r3 = r6 then (nm (x3 + (nI 4)) fun y8 => some (y8, mi, w, sp, rw)) else (none)))))
set_option maxHeartbeats 4000000 in
set_option maxRecDepth 100000 in
theorem law_c622 {p : Program} {l : Launch} {e : Env} {s : State} {m : MethodId} {below : List Frame} {meth : Method} {c : Code} {G : GT} {b L : Nat} {xs : Nat → Int32} (C : Cx G p s m c #[Value.ref b] RL cL_law 4) (hX : va_X b L xs s G.2.2.2.2) (hbl : b < G.2.2.2.2.size) (hz : G.2.2.2.2.size = G.2.2.2.1) {fu : Nat} {mi mi_ : Mem} {w sp rw w_ sp_ rw_ : Nat} (hq : isQ w sp rw) {x3 y3 : Int32} (hf : f_L_c622 fu L xs mi w sp rw x3 = some (y3, mi_, w_, sp_, rw_)) {H : Heap} {locs : List Loc} {ls : Array Slot} (hR : RM G S0 (mr0 w sp rw) mi H locs) (hl : lv_has ls 4 [(0, .ref b), (1, .ref (G.2.2.2.1 + 0)), (2, .ref (G.2.2.2.1 + 206)), (3, .int x3)]) (kk : ∀ (H : Heap) (locs : List Loc) (ls : Array Slot), isQ w_ sp_ rw_ → RM G S0 (mr0 w_ sp_ rw_) mi_ H locs → lv_has ls 4 [(0, .ref b), (1, .ref (G.2.2.2.1 + 0)), (2, .ref (G.2.2.2.1 + 206)), (3, .int y3)] → W p l e room_1 s m #[Value.ref b] below meth c H locs 227 8058 (lw_Z below #[Value.ref b] s) (F0 m 18 ls [])) : W p l e room_1 s m #[Value.ref b] below meth c H locs 227 8058 (lw_Z below #[Value.ref b] s) (F0 m 622 ls []) := by
  have hx := C.1
  have hb := C.2.1
  have hts := C.2.2.2.2.1
  have hbA : ¬ (fun q => G.2.2.2.1 ≤ q) b := by show ¬ _ ≤ _; rw [← hz]; exact Nat.not_le.mpr hbl
  rw [f_L_c622] at hf
  refine lv_aload_n hx hb dL_law_622 rfl (lv_at hl 1 rfl) ?_
  refine lv_aload_n hx hb dL_law_623 rfl (lv_at hl 0 rfl) ?_
  refine lv_iload_n hx hb dL_law_624 rfl (lv_at hl 3 rfl) ?_
  refine lv_iconst (v := (nI 1)) hx hb dL_law_625 (by decide) ?_
  refine lv_iadd hx hb dL_law_626 ?_
  obtain ⟨hg1, hf⟩ := gd_some hf
  refine va_sld hx hb hX hbl hbA (RM.S hR hz) (inB_vp hg1) dL_law_627 ?_
  refine lv_aload_n hx hb dL_law_628 rfl (lv_at hl 0 rfl) ?_
  refine lv_iload_n hx hb dL_law_629 rfl (lv_at hl 3 rfl) ?_
  refine lv_iconst (v := (nI 2)) hx hb dL_law_630 (by decide) ?_
  refine lv_iadd hx hb dL_law_631 ?_
  obtain ⟨hg2, hf⟩ := gd_some hf
  refine va_sld hx hb hX hbl hbA (RM.S hR hz) (inB_vp hg2) dL_law_632 ?_
  obtain ⟨r3, hc, hf⟩ := bd_some hf
  refine x_callV (cells := 227) (slots := 8058) (mc := 0) (ms := 0) (rest := []) C hR co_L_89 (m_X7_far hq hc) v_0 rfl rfl (Nat.le_of_ble_eq_true rfl) hl.1 ⟨by decide, by decide⟩ ⟨by decide, by decide⟩ dL_law_633 (fun H locs hR => ?_)
  refine lv_aload_n hx hb dL_law_636 rfl (lv_at hl 2 rfl) ?_
  refine lv_aload_n hx hb dL_law_637 rfl (lv_at hl 0 rfl) ?_
  refine lv_iload_n hx hb dL_law_638 rfl (lv_at hl 3 rfl) ?_
  refine lv_iconst (v := (nI 1)) hx hb dL_law_639 (by decide) ?_
  refine lv_iadd hx hb dL_law_640 ?_
  obtain ⟨hg4, hf⟩ := gd_some hf
  refine va_sld hx hb hX hbl hbA (RM.S hR hz) (inB_vp hg4) dL_law_641 ?_
  refine lv_aload_n hx hb dL_law_642 rfl (lv_at hl 0 rfl) ?_
  refine lv_iload_n hx hb dL_law_643 rfl (lv_at hl 3 rfl) ?_
  refine lv_iconst (v := (nI 2)) hx hb dL_law_644 (by decide) ?_
  refine lv_iadd hx hb dL_law_645 ?_
  obtain ⟨hg5, hf⟩ := gd_some hf
  refine va_sld hx hb hX hbl hbA (RM.S hR hz) (inB_vp hg5) dL_law_646 ?_
  obtain ⟨r6, hc, hf⟩ := bd_some hf
  refine x_callV (cells := 227) (slots := 8058) (mc := 0) (ms := 0) (rest := [.int r3]) C hR co_L_92 (m_X8_far hq hc) v_206 rfl rfl (Nat.le_of_ble_eq_true rfl) hl.1 ⟨by decide, by decide⟩ ⟨by decide, by decide⟩ dL_law_647 (fun H locs hR => ?_)
  refine lv_icmp_eq (tgt := 928) hx hb dL_law_650 (by decide) (fun c7 => ?_) (fun c7 => ?_)
  · rw [if_pos c7] at hf
    obtain ⟨y8, ey8, hf⟩ := nm_at hf
    refine lv_iinc (v := y8) (lv' := [(3, .int y8), (0, .ref b), (1, .ref (G.2.2.2.1 + 0)), (2, .ref (G.2.2.2.1 + 206))]) hx hb dL_law_928 hl (k := 3) rfl (by rw [ey8]; rfl) (by decide) rfl (fun ls hl => ?_)
    refine lv_goto (tgt := 18) hx hb dL_law_931 (by decide) ?_
    obtain ⟨rfl, rfl, rfl, rfl, rfl⟩ := p5_inj hf
    exact kk H locs ls hq hR (lv_sub hl [1, 2, 3, 0] rfl)
  · rw [if_neg c7] at hf
    cases hf
def f_L_c655 (fu L : Nat) (xs : Nat → Int32) (mi : Mem) (w sp rw : Nat) (x3 : Int32) : Option (Int32 × Mem × Nat × Nat × Nat) := gd (inB (x3 + (nI 1)) L) (gd (inB (x3 + (nI 2)) L) (gd (inB (x3 + (nI 3)) L) (Option.bind (f_X7_right mi w sp rw (xs (ix (x3 + (nI 1)))) (xs (ix (x3 + (nI 2)))) (xs (ix (x3 + (nI 3))))) fun r4 => gd (inB (x3 + (nI 1)) L) (gd (inB (x3 + (nI 2)) L) (gd (inB (x3 + (nI 3)) L) (Option.bind (f_X8_right fu mi (xs (ix (x3 + (nI 1)))) (xs (ix (x3 + (nI 2)))) (xs (ix (x3 + (nI 3))))) fun r8 => if r4 = r8 then (nm (x3 + (nI 4)) fun y10 => some (y10, mi, w, sp, rw)) else (none)))))))
set_option maxHeartbeats 4000000 in
set_option maxRecDepth 100000 in
theorem law_c655 {p : Program} {l : Launch} {e : Env} {s : State} {m : MethodId} {below : List Frame} {meth : Method} {c : Code} {G : GT} {b L : Nat} {xs : Nat → Int32} (C : Cx G p s m c #[Value.ref b] RL cL_law 4) (hX : va_X b L xs s G.2.2.2.2) (hbl : b < G.2.2.2.2.size) (hz : G.2.2.2.2.size = G.2.2.2.1) {fu : Nat} {mi mi_ : Mem} {w sp rw w_ sp_ rw_ : Nat} (hq : isQ w sp rw) {x3 y3 : Int32} (hf : f_L_c655 fu L xs mi w sp rw x3 = some (y3, mi_, w_, sp_, rw_)) {H : Heap} {locs : List Loc} {ls : Array Slot} (hR : RM G S0 (mr0 w sp rw) mi H locs) (hl : lv_has ls 4 [(0, .ref b), (1, .ref (G.2.2.2.1 + 0)), (2, .ref (G.2.2.2.1 + 206)), (3, .int x3)]) (kk : ∀ (H : Heap) (locs : List Loc) (ls : Array Slot), isQ w_ sp_ rw_ → RM G S0 (mr0 w_ sp_ rw_) mi_ H locs → lv_has ls 4 [(0, .ref b), (1, .ref (G.2.2.2.1 + 0)), (2, .ref (G.2.2.2.1 + 206)), (3, .int y3)] → W p l e room_1 s m #[Value.ref b] below meth c H locs 227 8058 (lw_Z below #[Value.ref b] s) (F0 m 18 ls [])) : W p l e room_1 s m #[Value.ref b] below meth c H locs 227 8058 (lw_Z below #[Value.ref b] s) (F0 m 655 ls []) := by
  have hx := C.1
  have hb := C.2.1
  have hts := C.2.2.2.2.1
  have hbA : ¬ (fun q => G.2.2.2.1 ≤ q) b := by show ¬ _ ≤ _; rw [← hz]; exact Nat.not_le.mpr hbl
  rw [f_L_c655] at hf
  refine lv_aload_n hx hb dL_law_655 rfl (lv_at hl 1 rfl) ?_
  refine lv_aload_n hx hb dL_law_656 rfl (lv_at hl 0 rfl) ?_
  refine lv_iload_n hx hb dL_law_657 rfl (lv_at hl 3 rfl) ?_
  refine lv_iconst (v := (nI 1)) hx hb dL_law_658 (by decide) ?_
  refine lv_iadd hx hb dL_law_659 ?_
  obtain ⟨hg1, hf⟩ := gd_some hf
  refine va_sld hx hb hX hbl hbA (RM.S hR hz) (inB_vp hg1) dL_law_660 ?_
  refine lv_aload_n hx hb dL_law_661 rfl (lv_at hl 0 rfl) ?_
  refine lv_iload_n hx hb dL_law_662 rfl (lv_at hl 3 rfl) ?_
  refine lv_iconst (v := (nI 2)) hx hb dL_law_663 (by decide) ?_
  refine lv_iadd hx hb dL_law_664 ?_
  obtain ⟨hg2, hf⟩ := gd_some hf
  refine va_sld hx hb hX hbl hbA (RM.S hR hz) (inB_vp hg2) dL_law_665 ?_
  refine lv_aload_n hx hb dL_law_666 rfl (lv_at hl 0 rfl) ?_
  refine lv_iload_n hx hb dL_law_667 rfl (lv_at hl 3 rfl) ?_
  refine lv_iconst (v := (nI 3)) hx hb dL_law_668 (by decide) ?_
  refine lv_iadd hx hb dL_law_669 ?_
  obtain ⟨hg3, hf⟩ := gd_some hf
  refine va_sld hx hb hX hbl hbA (RM.S hR hz) (inB_vp hg3) dL_law_670 ?_
  obtain ⟨r4, hc, hf⟩ := bd_some hf
  refine x_callV (cells := 227) (slots := 8058) (mc := 0) (ms := 0) (rest := []) C hR co_L_93 (m_X7_right hq hc) v_0 rfl rfl (Nat.le_of_ble_eq_true rfl) hl.1 ⟨by decide, by decide⟩ ⟨by decide, by decide⟩ dL_law_671 (fun H locs hR => ?_)
  refine lv_aload_n hx hb dL_law_674 rfl (lv_at hl 2 rfl) ?_
  refine lv_aload_n hx hb dL_law_675 rfl (lv_at hl 0 rfl) ?_
  refine lv_iload_n hx hb dL_law_676 rfl (lv_at hl 3 rfl) ?_
  refine lv_iconst (v := (nI 1)) hx hb dL_law_677 (by decide) ?_
  refine lv_iadd hx hb dL_law_678 ?_
  obtain ⟨hg5, hf⟩ := gd_some hf
  refine va_sld hx hb hX hbl hbA (RM.S hR hz) (inB_vp hg5) dL_law_679 ?_
  refine lv_aload_n hx hb dL_law_680 rfl (lv_at hl 0 rfl) ?_
  refine lv_iload_n hx hb dL_law_681 rfl (lv_at hl 3 rfl) ?_
  refine lv_iconst (v := (nI 2)) hx hb dL_law_682 (by decide) ?_
  refine lv_iadd hx hb dL_law_683 ?_
  obtain ⟨hg6, hf⟩ := gd_some hf
  refine va_sld hx hb hX hbl hbA (RM.S hR hz) (inB_vp hg6) dL_law_684 ?_
  refine lv_aload_n hx hb dL_law_685 rfl (lv_at hl 0 rfl) ?_
  refine lv_iload_n hx hb dL_law_686 rfl (lv_at hl 3 rfl) ?_
  refine lv_iconst (v := (nI 3)) hx hb dL_law_687 (by decide) ?_
  refine lv_iadd hx hb dL_law_688 ?_
  obtain ⟨hg7, hf⟩ := gd_some hf
  refine va_sld hx hb hX hbl hbA (RM.S hR hz) (inB_vp hg7) dL_law_689 ?_
  obtain ⟨r8, hc, hf⟩ := bd_some hf
  refine x_callV (cells := 227) (slots := 8058) (mc := 0) (ms := 0) (rest := [.int r4]) C hR co_L_96 (m_X8_right hq hc) v_206 rfl rfl (Nat.le_of_ble_eq_true rfl) hl.1 ⟨by decide, by decide⟩ ⟨by decide, by decide⟩ dL_law_690 (fun H locs hR => ?_)
  refine lv_icmp_eq (tgt := 928) hx hb dL_law_693 (by decide) (fun c9 => ?_) (fun c9 => ?_)
  · rw [if_pos c9] at hf
    obtain ⟨y10, ey10, hf⟩ := nm_at hf
    refine lv_iinc (v := y10) (lv' := [(3, .int y10), (0, .ref b), (1, .ref (G.2.2.2.1 + 0)), (2, .ref (G.2.2.2.1 + 206))]) hx hb dL_law_928 hl (k := 3) rfl (by rw [ey10]; rfl) (by decide) rfl (fun ls hl => ?_)
    refine lv_goto (tgt := 18) hx hb dL_law_931 (by decide) ?_
    obtain ⟨rfl, rfl, rfl, rfl, rfl⟩ := p5_inj hf
    exact kk H locs ls hq hR (lv_sub hl [1, 2, 3, 0] rfl)
  · rw [if_neg c9] at hf
    cases hf
def f_L_c698 (fu L : Nat) (xs : Nat → Int32) (mi : Mem) (w sp rw : Nat) (x3 : Int32) : Option (Int32 × Mem × Nat × Nat × Nat) := gd (inB (x3 + (nI 1)) L) (gd (inB (x3 + (nI 2)) L) (Option.bind (f_X7_luck fu mi (xs (ix (x3 + (nI 1)))) (xs (ix (x3 + (nI 2))))) fun r3 => gd (inB (x3 + (nI 1)) L) (gd (inB (x3 + (nI 2)) L) (Option.bind (f_X8_luck fu mi (xs (ix (x3 + (nI 1)))) (xs (ix (x3 + (nI 2))))) fun r6 => if r3 = r6 then (nm (x3 + (nI 4)) fun y8 => some (y8, mi, w, sp, rw)) else (none)))))
set_option maxHeartbeats 4000000 in
set_option maxRecDepth 100000 in
theorem law_c698 {p : Program} {l : Launch} {e : Env} {s : State} {m : MethodId} {below : List Frame} {meth : Method} {c : Code} {G : GT} {b L : Nat} {xs : Nat → Int32} (C : Cx G p s m c #[Value.ref b] RL cL_law 4) (hX : va_X b L xs s G.2.2.2.2) (hbl : b < G.2.2.2.2.size) (hz : G.2.2.2.2.size = G.2.2.2.1) {fu : Nat} {mi mi_ : Mem} {w sp rw w_ sp_ rw_ : Nat} (hq : isQ w sp rw) {x3 y3 : Int32} (hf : f_L_c698 fu L xs mi w sp rw x3 = some (y3, mi_, w_, sp_, rw_)) {H : Heap} {locs : List Loc} {ls : Array Slot} (hR : RM G S0 (mr0 w sp rw) mi H locs) (hl : lv_has ls 4 [(0, .ref b), (1, .ref (G.2.2.2.1 + 0)), (2, .ref (G.2.2.2.1 + 206)), (3, .int x3)]) (kk : ∀ (H : Heap) (locs : List Loc) (ls : Array Slot), isQ w_ sp_ rw_ → RM G S0 (mr0 w_ sp_ rw_) mi_ H locs → lv_has ls 4 [(0, .ref b), (1, .ref (G.2.2.2.1 + 0)), (2, .ref (G.2.2.2.1 + 206)), (3, .int y3)] → W p l e room_1 s m #[Value.ref b] below meth c H locs 227 8058 (lw_Z below #[Value.ref b] s) (F0 m 18 ls [])) : W p l e room_1 s m #[Value.ref b] below meth c H locs 227 8058 (lw_Z below #[Value.ref b] s) (F0 m 698 ls []) := by
  have hx := C.1
  have hb := C.2.1
  have hts := C.2.2.2.2.1
  have hbA : ¬ (fun q => G.2.2.2.1 ≤ q) b := by show ¬ _ ≤ _; rw [← hz]; exact Nat.not_le.mpr hbl
  rw [f_L_c698] at hf
  refine lv_aload_n hx hb dL_law_698 rfl (lv_at hl 1 rfl) ?_
  refine lv_aload_n hx hb dL_law_699 rfl (lv_at hl 0 rfl) ?_
  refine lv_iload_n hx hb dL_law_700 rfl (lv_at hl 3 rfl) ?_
  refine lv_iconst (v := (nI 1)) hx hb dL_law_701 (by decide) ?_
  refine lv_iadd hx hb dL_law_702 ?_
  obtain ⟨hg1, hf⟩ := gd_some hf
  refine va_sld hx hb hX hbl hbA (RM.S hR hz) (inB_vp hg1) dL_law_703 ?_
  refine lv_aload_n hx hb dL_law_704 rfl (lv_at hl 0 rfl) ?_
  refine lv_iload_n hx hb dL_law_705 rfl (lv_at hl 3 rfl) ?_
  refine lv_iconst (v := (nI 2)) hx hb dL_law_706 (by decide) ?_
  refine lv_iadd hx hb dL_law_707 ?_
  obtain ⟨hg2, hf⟩ := gd_some hf
  refine va_sld hx hb hX hbl hbA (RM.S hR hz) (inB_vp hg2) dL_law_708 ?_
  obtain ⟨r3, hc, hf⟩ := bd_some hf
  refine x_callV (cells := 227) (slots := 8058) (mc := 0) (ms := 0) (rest := []) C hR co_L_97 (m_X7_luck hq hc) v_0 rfl rfl (Nat.le_of_ble_eq_true rfl) hl.1 ⟨by decide, by decide⟩ ⟨by decide, by decide⟩ dL_law_709 (fun H locs hR => ?_)
  refine lv_aload_n hx hb dL_law_712 rfl (lv_at hl 2 rfl) ?_
  refine lv_aload_n hx hb dL_law_713 rfl (lv_at hl 0 rfl) ?_
  refine lv_iload_n hx hb dL_law_714 rfl (lv_at hl 3 rfl) ?_
  refine lv_iconst (v := (nI 1)) hx hb dL_law_715 (by decide) ?_
  refine lv_iadd hx hb dL_law_716 ?_
  obtain ⟨hg4, hf⟩ := gd_some hf
  refine va_sld hx hb hX hbl hbA (RM.S hR hz) (inB_vp hg4) dL_law_717 ?_
  refine lv_aload_n hx hb dL_law_718 rfl (lv_at hl 0 rfl) ?_
  refine lv_iload_n hx hb dL_law_719 rfl (lv_at hl 3 rfl) ?_
  refine lv_iconst (v := (nI 2)) hx hb dL_law_720 (by decide) ?_
  refine lv_iadd hx hb dL_law_721 ?_
  obtain ⟨hg5, hf⟩ := gd_some hf
  refine va_sld hx hb hX hbl hbA (RM.S hR hz) (inB_vp hg5) dL_law_722 ?_
  obtain ⟨r6, hc, hf⟩ := bd_some hf
  refine x_callV (cells := 227) (slots := 8058) (mc := 0) (ms := 0) (rest := [.int r3]) C hR co_L_100 (m_X8_luck hq hc) v_206 rfl rfl (Nat.le_of_ble_eq_true rfl) hl.1 ⟨by decide, by decide⟩ ⟨by decide, by decide⟩ dL_law_723 (fun H locs hR => ?_)
  refine lv_icmp_eq (tgt := 928) hx hb dL_law_726 (by decide) (fun c7 => ?_) (fun c7 => ?_)
  · rw [if_pos c7] at hf
    obtain ⟨y8, ey8, hf⟩ := nm_at hf
    refine lv_iinc (v := y8) (lv' := [(3, .int y8), (0, .ref b), (1, .ref (G.2.2.2.1 + 0)), (2, .ref (G.2.2.2.1 + 206))]) hx hb dL_law_928 hl (k := 3) rfl (by rw [ey8]; rfl) (by decide) rfl (fun ls hl => ?_)
    refine lv_goto (tgt := 18) hx hb dL_law_931 (by decide) ?_
    obtain ⟨rfl, rfl, rfl, rfl, rfl⟩ := p5_inj hf
    exact kk H locs ls hq hR (lv_sub hl [1, 2, 3, 0] rfl)
  · rw [if_neg c7] at hf
    cases hf
def f_L_c731 (fu L : Nat) (xs : Nat → Int32) (mi : Mem) (w sp rw : Nat) (x3 : Int32) : Option (Int32 × Mem × Nat × Nat × Nat) := gd (inB (x3 + (nI 1)) L) (gd (inB (x3 + (nI 2)) L) (gd (inB (x3 + (nI 3)) L) (bd2 (f_X7_say mi w sp rw (xs (ix (x3 + (nI 1)))) (xs (ix (x3 + (nI 2)))) (xs (ix (x3 + (nI 3))))) fun r4 mi5 => gd (inB (x3 + (nI 1)) L) (gd (inB (x3 + (nI 2)) L) (gd (inB (x3 + (nI 3)) L) (bd2 (f_X8_say mi5 (xs (ix (x3 + (nI 1)))) (xs (ix (x3 + (nI 2)))) (xs (ix (x3 + (nI 3))))) fun r9 mi10 => if r4 = r9 then (nm (x3 + (nI 4)) fun y12 => some (y12, mi10, w, sp, rw)) else (none)))))))
set_option maxHeartbeats 4000000 in
set_option maxRecDepth 100000 in
theorem law_c731 {p : Program} {l : Launch} {e : Env} {s : State} {m : MethodId} {below : List Frame} {meth : Method} {c : Code} {G : GT} {b L : Nat} {xs : Nat → Int32} (C : Cx G p s m c #[Value.ref b] RL cL_law 4) (hX : va_X b L xs s G.2.2.2.2) (hbl : b < G.2.2.2.2.size) (hz : G.2.2.2.2.size = G.2.2.2.1) {fu : Nat} {mi mi_ : Mem} {w sp rw w_ sp_ rw_ : Nat} (hq : isQ w sp rw) {x3 y3 : Int32} (hf : f_L_c731 fu L xs mi w sp rw x3 = some (y3, mi_, w_, sp_, rw_)) {H : Heap} {locs : List Loc} {ls : Array Slot} (hR : RM G S0 (mr0 w sp rw) mi H locs) (hl : lv_has ls 4 [(0, .ref b), (1, .ref (G.2.2.2.1 + 0)), (2, .ref (G.2.2.2.1 + 206)), (3, .int x3)]) (kk : ∀ (H : Heap) (locs : List Loc) (ls : Array Slot), isQ w_ sp_ rw_ → RM G S0 (mr0 w_ sp_ rw_) mi_ H locs → lv_has ls 4 [(0, .ref b), (1, .ref (G.2.2.2.1 + 0)), (2, .ref (G.2.2.2.1 + 206)), (3, .int y3)] → W p l e room_1 s m #[Value.ref b] below meth c H locs 227 8058 (lw_Z below #[Value.ref b] s) (F0 m 18 ls [])) : W p l e room_1 s m #[Value.ref b] below meth c H locs 227 8058 (lw_Z below #[Value.ref b] s) (F0 m 731 ls []) := by
  have hx := C.1
  have hb := C.2.1
  have hts := C.2.2.2.2.1
  have hbA : ¬ (fun q => G.2.2.2.1 ≤ q) b := by show ¬ _ ≤ _; rw [← hz]; exact Nat.not_le.mpr hbl
  rw [f_L_c731] at hf
  refine lv_aload_n hx hb dL_law_731 rfl (lv_at hl 1 rfl) ?_
  refine lv_aload_n hx hb dL_law_732 rfl (lv_at hl 0 rfl) ?_
  refine lv_iload_n hx hb dL_law_733 rfl (lv_at hl 3 rfl) ?_
  refine lv_iconst (v := (nI 1)) hx hb dL_law_734 (by decide) ?_
  refine lv_iadd hx hb dL_law_735 ?_
  obtain ⟨hg1, hf⟩ := gd_some hf
  refine va_sld hx hb hX hbl hbA (RM.S hR hz) (inB_vp hg1) dL_law_736 ?_
  refine lv_aload_n hx hb dL_law_737 rfl (lv_at hl 0 rfl) ?_
  refine lv_iload_n hx hb dL_law_738 rfl (lv_at hl 3 rfl) ?_
  refine lv_iconst (v := (nI 2)) hx hb dL_law_739 (by decide) ?_
  refine lv_iadd hx hb dL_law_740 ?_
  obtain ⟨hg2, hf⟩ := gd_some hf
  refine va_sld hx hb hX hbl hbA (RM.S hR hz) (inB_vp hg2) dL_law_741 ?_
  refine lv_aload_n hx hb dL_law_742 rfl (lv_at hl 0 rfl) ?_
  refine lv_iload_n hx hb dL_law_743 rfl (lv_at hl 3 rfl) ?_
  refine lv_iconst (v := (nI 3)) hx hb dL_law_744 (by decide) ?_
  refine lv_iadd hx hb dL_law_745 ?_
  obtain ⟨hg3, hf⟩ := gd_some hf
  refine va_sld hx hb hX hbl hbA (RM.S hR hz) (inB_vp hg3) dL_law_746 ?_
  obtain ⟨r4, mi5, hc, hf⟩ := bd2_some hf
  refine x_callV (cells := 227) (slots := 8058) (mc := 0) (ms := 0) (rest := []) C hR co_L_101 (m_X7_say hq hc) v_0 rfl rfl (Nat.le_of_ble_eq_true rfl) hl.1 ⟨by decide, by decide⟩ ⟨by decide, by decide⟩ dL_law_747 (fun H locs hR => ?_)
  refine lv_aload_n hx hb dL_law_750 rfl (lv_at hl 2 rfl) ?_
  refine lv_aload_n hx hb dL_law_751 rfl (lv_at hl 0 rfl) ?_
  refine lv_iload_n hx hb dL_law_752 rfl (lv_at hl 3 rfl) ?_
  refine lv_iconst (v := (nI 1)) hx hb dL_law_753 (by decide) ?_
  refine lv_iadd hx hb dL_law_754 ?_
  obtain ⟨hg6, hf⟩ := gd_some hf
  refine va_sld hx hb hX hbl hbA (RM.S hR hz) (inB_vp hg6) dL_law_755 ?_
  refine lv_aload_n hx hb dL_law_756 rfl (lv_at hl 0 rfl) ?_
  refine lv_iload_n hx hb dL_law_757 rfl (lv_at hl 3 rfl) ?_
  refine lv_iconst (v := (nI 2)) hx hb dL_law_758 (by decide) ?_
  refine lv_iadd hx hb dL_law_759 ?_
  obtain ⟨hg7, hf⟩ := gd_some hf
  refine va_sld hx hb hX hbl hbA (RM.S hR hz) (inB_vp hg7) dL_law_760 ?_
  refine lv_aload_n hx hb dL_law_761 rfl (lv_at hl 0 rfl) ?_
  refine lv_iload_n hx hb dL_law_762 rfl (lv_at hl 3 rfl) ?_
  refine lv_iconst (v := (nI 3)) hx hb dL_law_763 (by decide) ?_
  refine lv_iadd hx hb dL_law_764 ?_
  obtain ⟨hg8, hf⟩ := gd_some hf
  refine va_sld hx hb hX hbl hbA (RM.S hR hz) (inB_vp hg8) dL_law_765 ?_
  obtain ⟨r9, mi10, hc, hf⟩ := bd2_some hf
  refine x_callV (cells := 227) (slots := 8058) (mc := 0) (ms := 0) (rest := [.int r4]) C hR co_L_104 (m_X8_say hq hc) v_206 rfl rfl (Nat.le_of_ble_eq_true rfl) hl.1 ⟨by decide, by decide⟩ ⟨by decide, by decide⟩ dL_law_766 (fun H locs hR => ?_)
  refine lv_icmp_eq (tgt := 928) hx hb dL_law_769 (by decide) (fun c11 => ?_) (fun c11 => ?_)
  · rw [if_pos c11] at hf
    obtain ⟨y12, ey12, hf⟩ := nm_at hf
    refine lv_iinc (v := y12) (lv' := [(3, .int y12), (0, .ref b), (1, .ref (G.2.2.2.1 + 0)), (2, .ref (G.2.2.2.1 + 206))]) hx hb dL_law_928 hl (k := 3) rfl (by rw [ey12]; rfl) (by decide) rfl (fun ls hl => ?_)
    refine lv_goto (tgt := 18) hx hb dL_law_931 (by decide) ?_
    obtain ⟨rfl, rfl, rfl, rfl, rfl⟩ := p5_inj hf
    exact kk H locs ls hq hR (lv_sub hl [1, 2, 3, 0] rfl)
  · rw [if_neg c11] at hf
    cases hf
def f_L_c774 (fu L : Nat) (xs : Nat → Int32) (mi : Mem) (w sp rw : Nat) (x3 : Int32) : Option (Int32 × Mem × Nat × Nat × Nat) := Option.bind (f_X7_couldBe fu mi w sp rw) fun r1 => Option.bind (f_X8_couldBe fu mi) fun r2 => if r1 = r2 then (nm (x3 + (nI 4)) fun y4 => some (y4, mi, w, sp, rw)) else (none)
set_option maxHeartbeats 4000000 in
set_option maxRecDepth 100000 in
theorem law_c774 {p : Program} {l : Launch} {e : Env} {s : State} {m : MethodId} {below : List Frame} {meth : Method} {c : Code} {G : GT} {b L : Nat} {xs : Nat → Int32} (C : Cx G p s m c #[Value.ref b] RL cL_law 4) (hX : va_X b L xs s G.2.2.2.2) (hbl : b < G.2.2.2.2.size) (hz : G.2.2.2.2.size = G.2.2.2.1) {fu : Nat} {mi mi_ : Mem} {w sp rw w_ sp_ rw_ : Nat} (hq : isQ w sp rw) {x3 y3 : Int32} (hf : f_L_c774 fu L xs mi w sp rw x3 = some (y3, mi_, w_, sp_, rw_)) {H : Heap} {locs : List Loc} {ls : Array Slot} (hR : RM G S0 (mr0 w sp rw) mi H locs) (hl : lv_has ls 4 [(0, .ref b), (1, .ref (G.2.2.2.1 + 0)), (2, .ref (G.2.2.2.1 + 206)), (3, .int x3)]) (kk : ∀ (H : Heap) (locs : List Loc) (ls : Array Slot), isQ w_ sp_ rw_ → RM G S0 (mr0 w_ sp_ rw_) mi_ H locs → lv_has ls 4 [(0, .ref b), (1, .ref (G.2.2.2.1 + 0)), (2, .ref (G.2.2.2.1 + 206)), (3, .int y3)] → W p l e room_1 s m #[Value.ref b] below meth c H locs 227 8058 (lw_Z below #[Value.ref b] s) (F0 m 18 ls [])) : W p l e room_1 s m #[Value.ref b] below meth c H locs 227 8058 (lw_Z below #[Value.ref b] s) (F0 m 774 ls []) := by
  have hx := C.1
  have hb := C.2.1
  have hts := C.2.2.2.2.1
  have hbA : ¬ (fun q => G.2.2.2.1 ≤ q) b := by show ¬ _ ≤ _; rw [← hz]; exact Nat.not_le.mpr hbl
  rw [f_L_c774] at hf
  refine lv_aload_n hx hb dL_law_774 rfl (lv_at hl 1 rfl) ?_
  obtain ⟨r1, hc, hf⟩ := bd_some hf
  refine x_callV (cells := 227) (slots := 8058) (mc := 0) (ms := 0) (rest := []) C hR co_L_105 (m_X7_couldBe hq hc) v_0 rfl rfl (Nat.le_of_ble_eq_true rfl) hl.1 ⟨by decide, by decide⟩ ⟨by decide, by decide⟩ dL_law_775 (fun H locs hR => ?_)
  refine lv_aload_n hx hb dL_law_778 rfl (lv_at hl 2 rfl) ?_
  obtain ⟨r2, hc, hf⟩ := bd_some hf
  refine x_callV (cells := 227) (slots := 8058) (mc := 0) (ms := 0) (rest := [.int r1]) C hR co_L_108 (m_X8_couldBe hq hc) v_206 rfl rfl (Nat.le_of_ble_eq_true rfl) hl.1 ⟨by decide, by decide⟩ ⟨by decide, by decide⟩ dL_law_779 (fun H locs hR => ?_)
  refine lv_icmp_eq (tgt := 928) hx hb dL_law_782 (by decide) (fun c3 => ?_) (fun c3 => ?_)
  · rw [if_pos c3] at hf
    obtain ⟨y4, ey4, hf⟩ := nm_at hf
    refine lv_iinc (v := y4) (lv' := [(3, .int y4), (0, .ref b), (1, .ref (G.2.2.2.1 + 0)), (2, .ref (G.2.2.2.1 + 206))]) hx hb dL_law_928 hl (k := 3) rfl (by rw [ey4]; rfl) (by decide) rfl (fun ls hl => ?_)
    refine lv_goto (tgt := 18) hx hb dL_law_931 (by decide) ?_
    obtain ⟨rfl, rfl, rfl, rfl, rfl⟩ := p5_inj hf
    exact kk H locs ls hq hR (lv_sub hl [1, 2, 3, 0] rfl)
  · rw [if_neg c3] at hf
    cases hf
def f_L_c787 (fu L : Nat) (xs : Nat → Int32) (mi : Mem) (w sp rw : Nat) (x3 : Int32) : Option (Int32 × Mem × Nat × Nat × Nat) := Option.bind (f_X7_ask fu mi w sp rw) fun r1 => Option.bind (f_X8_ask fu mi) fun r2 => if r1 = r2 then (nm (x3 + (nI 4)) fun y4 => some (y4, mi, w, sp, rw)) else (none)
set_option maxHeartbeats 4000000 in
set_option maxRecDepth 100000 in
theorem law_c787 {p : Program} {l : Launch} {e : Env} {s : State} {m : MethodId} {below : List Frame} {meth : Method} {c : Code} {G : GT} {b L : Nat} {xs : Nat → Int32} (C : Cx G p s m c #[Value.ref b] RL cL_law 4) (hX : va_X b L xs s G.2.2.2.2) (hbl : b < G.2.2.2.2.size) (hz : G.2.2.2.2.size = G.2.2.2.1) {fu : Nat} {mi mi_ : Mem} {w sp rw w_ sp_ rw_ : Nat} (hq : isQ w sp rw) {x3 y3 : Int32} (hf : f_L_c787 fu L xs mi w sp rw x3 = some (y3, mi_, w_, sp_, rw_)) {H : Heap} {locs : List Loc} {ls : Array Slot} (hR : RM G S0 (mr0 w sp rw) mi H locs) (hl : lv_has ls 4 [(0, .ref b), (1, .ref (G.2.2.2.1 + 0)), (2, .ref (G.2.2.2.1 + 206)), (3, .int x3)]) (kk : ∀ (H : Heap) (locs : List Loc) (ls : Array Slot), isQ w_ sp_ rw_ → RM G S0 (mr0 w_ sp_ rw_) mi_ H locs → lv_has ls 4 [(0, .ref b), (1, .ref (G.2.2.2.1 + 0)), (2, .ref (G.2.2.2.1 + 206)), (3, .int y3)] → W p l e room_1 s m #[Value.ref b] below meth c H locs 227 8058 (lw_Z below #[Value.ref b] s) (F0 m 18 ls [])) : W p l e room_1 s m #[Value.ref b] below meth c H locs 227 8058 (lw_Z below #[Value.ref b] s) (F0 m 787 ls []) := by
  have hx := C.1
  have hb := C.2.1
  have hts := C.2.2.2.2.1
  have hbA : ¬ (fun q => G.2.2.2.1 ≤ q) b := by show ¬ _ ≤ _; rw [← hz]; exact Nat.not_le.mpr hbl
  rw [f_L_c787] at hf
  refine lv_aload_n hx hb dL_law_787 rfl (lv_at hl 1 rfl) ?_
  obtain ⟨r1, hc, hf⟩ := bd_some hf
  refine x_callV (cells := 227) (slots := 8058) (mc := 0) (ms := 0) (rest := []) C hR co_L_109 (m_X7_ask hq hc) v_0 rfl rfl (Nat.le_of_ble_eq_true rfl) hl.1 ⟨by decide, by decide⟩ ⟨by decide, by decide⟩ dL_law_788 (fun H locs hR => ?_)
  refine lv_aload_n hx hb dL_law_791 rfl (lv_at hl 2 rfl) ?_
  obtain ⟨r2, hc, hf⟩ := bd_some hf
  refine x_callV (cells := 227) (slots := 8058) (mc := 0) (ms := 0) (rest := [.int r1]) C hR co_L_112 (m_X8_ask hq hc) v_206 rfl rfl (Nat.le_of_ble_eq_true rfl) hl.1 ⟨by decide, by decide⟩ ⟨by decide, by decide⟩ dL_law_792 (fun H locs hR => ?_)
  refine lv_icmp_eq (tgt := 928) hx hb dL_law_795 (by decide) (fun c3 => ?_) (fun c3 => ?_)
  · rw [if_pos c3] at hf
    obtain ⟨y4, ey4, hf⟩ := nm_at hf
    refine lv_iinc (v := y4) (lv' := [(3, .int y4), (0, .ref b), (1, .ref (G.2.2.2.1 + 0)), (2, .ref (G.2.2.2.1 + 206))]) hx hb dL_law_928 hl (k := 3) rfl (by rw [ey4]; rfl) (by decide) rfl (fun ls hl => ?_)
    refine lv_goto (tgt := 18) hx hb dL_law_931 (by decide) ?_
    obtain ⟨rfl, rfl, rfl, rfl, rfl⟩ := p5_inj hf
    exact kk H locs ls hq hR (lv_sub hl [1, 2, 3, 0] rfl)
  · rw [if_neg c3] at hf
    cases hf
def f_L_c800 (fu L : Nat) (xs : Nat → Int32) (mi : Mem) (w sp rw : Nat) (x3 : Int32) : Option (Int32 × Mem × Nat × Nat × Nat) := gd (inB (x3 + (nI 1)) L) (gd (inB (x3 + (nI 2)) L) (bd2 (f_X7_write mi w sp rw (xs (ix (x3 + (nI 1)))) (xs (ix (x3 + (nI 2))))) fun r3 mi4 => gd (inB (x3 + (nI 1)) L) (gd (inB (x3 + (nI 2)) L) (bd2 (f_X8_write mi4 (xs (ix (x3 + (nI 1)))) (xs (ix (x3 + (nI 2))))) fun r7 mi8 => if r3 = r7 then (nm (x3 + (nI 4)) fun y10 => some (y10, mi8, w, sp, rw)) else (none)))))
set_option maxHeartbeats 4000000 in
set_option maxRecDepth 100000 in
theorem law_c800 {p : Program} {l : Launch} {e : Env} {s : State} {m : MethodId} {below : List Frame} {meth : Method} {c : Code} {G : GT} {b L : Nat} {xs : Nat → Int32} (C : Cx G p s m c #[Value.ref b] RL cL_law 4) (hX : va_X b L xs s G.2.2.2.2) (hbl : b < G.2.2.2.2.size) (hz : G.2.2.2.2.size = G.2.2.2.1) {fu : Nat} {mi mi_ : Mem} {w sp rw w_ sp_ rw_ : Nat} (hq : isQ w sp rw) {x3 y3 : Int32} (hf : f_L_c800 fu L xs mi w sp rw x3 = some (y3, mi_, w_, sp_, rw_)) {H : Heap} {locs : List Loc} {ls : Array Slot} (hR : RM G S0 (mr0 w sp rw) mi H locs) (hl : lv_has ls 4 [(0, .ref b), (1, .ref (G.2.2.2.1 + 0)), (2, .ref (G.2.2.2.1 + 206)), (3, .int x3)]) (kk : ∀ (H : Heap) (locs : List Loc) (ls : Array Slot), isQ w_ sp_ rw_ → RM G S0 (mr0 w_ sp_ rw_) mi_ H locs → lv_has ls 4 [(0, .ref b), (1, .ref (G.2.2.2.1 + 0)), (2, .ref (G.2.2.2.1 + 206)), (3, .int y3)] → W p l e room_1 s m #[Value.ref b] below meth c H locs 227 8058 (lw_Z below #[Value.ref b] s) (F0 m 18 ls [])) : W p l e room_1 s m #[Value.ref b] below meth c H locs 227 8058 (lw_Z below #[Value.ref b] s) (F0 m 800 ls []) := by
  have hx := C.1
  have hb := C.2.1
  have hts := C.2.2.2.2.1
  have hbA : ¬ (fun q => G.2.2.2.1 ≤ q) b := by show ¬ _ ≤ _; rw [← hz]; exact Nat.not_le.mpr hbl
  rw [f_L_c800] at hf
  refine lv_aload_n hx hb dL_law_800 rfl (lv_at hl 1 rfl) ?_
  refine lv_aload_n hx hb dL_law_801 rfl (lv_at hl 0 rfl) ?_
  refine lv_iload_n hx hb dL_law_802 rfl (lv_at hl 3 rfl) ?_
  refine lv_iconst (v := (nI 1)) hx hb dL_law_803 (by decide) ?_
  refine lv_iadd hx hb dL_law_804 ?_
  obtain ⟨hg1, hf⟩ := gd_some hf
  refine va_sld hx hb hX hbl hbA (RM.S hR hz) (inB_vp hg1) dL_law_805 ?_
  refine lv_aload_n hx hb dL_law_806 rfl (lv_at hl 0 rfl) ?_
  refine lv_iload_n hx hb dL_law_807 rfl (lv_at hl 3 rfl) ?_
  refine lv_iconst (v := (nI 2)) hx hb dL_law_808 (by decide) ?_
  refine lv_iadd hx hb dL_law_809 ?_
  obtain ⟨hg2, hf⟩ := gd_some hf
  refine va_sld hx hb hX hbl hbA (RM.S hR hz) (inB_vp hg2) dL_law_810 ?_
  obtain ⟨r3, mi4, hc, hf⟩ := bd2_some hf
  refine x_callV (cells := 227) (slots := 8058) (mc := 0) (ms := 0) (rest := []) C hR co_L_113 (m_X7_write hq hc) v_0 rfl rfl (Nat.le_of_ble_eq_true rfl) hl.1 ⟨by decide, by decide⟩ ⟨by decide, by decide⟩ dL_law_811 (fun H locs hR => ?_)
  refine lv_aload_n hx hb dL_law_814 rfl (lv_at hl 2 rfl) ?_
  refine lv_aload_n hx hb dL_law_815 rfl (lv_at hl 0 rfl) ?_
  refine lv_iload_n hx hb dL_law_816 rfl (lv_at hl 3 rfl) ?_
  refine lv_iconst (v := (nI 1)) hx hb dL_law_817 (by decide) ?_
  refine lv_iadd hx hb dL_law_818 ?_
  obtain ⟨hg5, hf⟩ := gd_some hf
  refine va_sld hx hb hX hbl hbA (RM.S hR hz) (inB_vp hg5) dL_law_819 ?_
  refine lv_aload_n hx hb dL_law_820 rfl (lv_at hl 0 rfl) ?_
  refine lv_iload_n hx hb dL_law_821 rfl (lv_at hl 3 rfl) ?_
  refine lv_iconst (v := (nI 2)) hx hb dL_law_822 (by decide) ?_
  refine lv_iadd hx hb dL_law_823 ?_
  obtain ⟨hg6, hf⟩ := gd_some hf
  refine va_sld hx hb hX hbl hbA (RM.S hR hz) (inB_vp hg6) dL_law_824 ?_
  obtain ⟨r7, mi8, hc, hf⟩ := bd2_some hf
  refine x_callV (cells := 227) (slots := 8058) (mc := 0) (ms := 0) (rest := [.int r3]) C hR co_L_116 (m_X8_write hq hc) v_206 rfl rfl (Nat.le_of_ble_eq_true rfl) hl.1 ⟨by decide, by decide⟩ ⟨by decide, by decide⟩ dL_law_825 (fun H locs hR => ?_)
  refine lv_icmp_eq (tgt := 928) hx hb dL_law_828 (by decide) (fun c9 => ?_) (fun c9 => ?_)
  · rw [if_pos c9] at hf
    obtain ⟨y10, ey10, hf⟩ := nm_at hf
    refine lv_iinc (v := y10) (lv' := [(3, .int y10), (0, .ref b), (1, .ref (G.2.2.2.1 + 0)), (2, .ref (G.2.2.2.1 + 206))]) hx hb dL_law_928 hl (k := 3) rfl (by rw [ey10]; rfl) (by decide) rfl (fun ls hl => ?_)
    refine lv_goto (tgt := 18) hx hb dL_law_931 (by decide) ?_
    obtain ⟨rfl, rfl, rfl, rfl, rfl⟩ := p5_inj hf
    exact kk H locs ls hq hR (lv_sub hl [1, 2, 3, 0] rfl)
  · rw [if_neg c9] at hf
    cases hf
def f_L_c833 (fu L : Nat) (xs : Nat → Int32) (mi : Mem) (w sp rw : Nat) (x3 : Int32) : Option (Int32 × Mem × Nat × Nat × Nat) := Option.bind (f_X7_judge fu mi) fun r1 => Option.bind (f_X8_judge fu mi) fun r2 => if r1 = r2 then (nm (x3 + (nI 4)) fun y4 => some (y4, mi, w, sp, rw)) else (none)
set_option maxHeartbeats 4000000 in
set_option maxRecDepth 100000 in
theorem law_c833 {p : Program} {l : Launch} {e : Env} {s : State} {m : MethodId} {below : List Frame} {meth : Method} {c : Code} {G : GT} {b L : Nat} {xs : Nat → Int32} (C : Cx G p s m c #[Value.ref b] RL cL_law 4) (hX : va_X b L xs s G.2.2.2.2) (hbl : b < G.2.2.2.2.size) (hz : G.2.2.2.2.size = G.2.2.2.1) {fu : Nat} {mi mi_ : Mem} {w sp rw w_ sp_ rw_ : Nat} (hq : isQ w sp rw) {x3 y3 : Int32} (hf : f_L_c833 fu L xs mi w sp rw x3 = some (y3, mi_, w_, sp_, rw_)) {H : Heap} {locs : List Loc} {ls : Array Slot} (hR : RM G S0 (mr0 w sp rw) mi H locs) (hl : lv_has ls 4 [(0, .ref b), (1, .ref (G.2.2.2.1 + 0)), (2, .ref (G.2.2.2.1 + 206)), (3, .int x3)]) (kk : ∀ (H : Heap) (locs : List Loc) (ls : Array Slot), isQ w_ sp_ rw_ → RM G S0 (mr0 w_ sp_ rw_) mi_ H locs → lv_has ls 4 [(0, .ref b), (1, .ref (G.2.2.2.1 + 0)), (2, .ref (G.2.2.2.1 + 206)), (3, .int y3)] → W p l e room_1 s m #[Value.ref b] below meth c H locs 227 8058 (lw_Z below #[Value.ref b] s) (F0 m 18 ls [])) : W p l e room_1 s m #[Value.ref b] below meth c H locs 227 8058 (lw_Z below #[Value.ref b] s) (F0 m 833 ls []) := by
  have hx := C.1
  have hb := C.2.1
  have hts := C.2.2.2.2.1
  have hbA : ¬ (fun q => G.2.2.2.1 ≤ q) b := by show ¬ _ ≤ _; rw [← hz]; exact Nat.not_le.mpr hbl
  rw [f_L_c833] at hf
  refine lv_aload_n hx hb dL_law_833 rfl (lv_at hl 1 rfl) ?_
  obtain ⟨r1, hc, hf⟩ := bd_some hf
  refine x_callV (cells := 227) (slots := 8058) (mc := 0) (ms := 0) (rest := []) C hR co_L_117 (m_X7_judge hq hc) v_0 rfl rfl (Nat.le_of_ble_eq_true rfl) hl.1 ⟨by decide, by decide⟩ ⟨by decide, by decide⟩ dL_law_834 (fun H locs hR => ?_)
  refine lv_aload_n hx hb dL_law_837 rfl (lv_at hl 2 rfl) ?_
  obtain ⟨r2, hc, hf⟩ := bd_some hf
  refine x_callV (cells := 227) (slots := 8058) (mc := 0) (ms := 0) (rest := [.int r1]) C hR co_L_120 (m_X8_judge hq hc) v_206 rfl rfl (Nat.le_of_ble_eq_true rfl) hl.1 ⟨by decide, by decide⟩ ⟨by decide, by decide⟩ dL_law_838 (fun H locs hR => ?_)
  refine lv_icmp_eq (tgt := 928) hx hb dL_law_841 (by decide) (fun c3 => ?_) (fun c3 => ?_)
  · rw [if_pos c3] at hf
    obtain ⟨y4, ey4, hf⟩ := nm_at hf
    refine lv_iinc (v := y4) (lv' := [(3, .int y4), (0, .ref b), (1, .ref (G.2.2.2.1 + 0)), (2, .ref (G.2.2.2.1 + 206))]) hx hb dL_law_928 hl (k := 3) rfl (by rw [ey4]; rfl) (by decide) rfl (fun ls hl => ?_)
    refine lv_goto (tgt := 18) hx hb dL_law_931 (by decide) ?_
    obtain ⟨rfl, rfl, rfl, rfl, rfl⟩ := p5_inj hf
    exact kk H locs ls hq hR (lv_sub hl [1, 2, 3, 0] rfl)
  · rw [if_neg c3] at hf
    cases hf
def f_L_c846 (fu L : Nat) (xs : Nat → Int32) (mi : Mem) (w sp rw : Nat) (x3 : Int32) : Option (Int32 × Mem × Nat × Nat × Nat) := bd2 (f_X7_tear mi) fun r1 mi2 => bd2 (f_X8_tear mi2) fun r3 mi4 => if r1 = r3 then (nm (x3 + (nI 4)) fun y6 => some (y6, mi4, w, sp, rw)) else (none)
set_option maxHeartbeats 4000000 in
set_option maxRecDepth 100000 in
theorem law_c846 {p : Program} {l : Launch} {e : Env} {s : State} {m : MethodId} {below : List Frame} {meth : Method} {c : Code} {G : GT} {b L : Nat} {xs : Nat → Int32} (C : Cx G p s m c #[Value.ref b] RL cL_law 4) (hX : va_X b L xs s G.2.2.2.2) (hbl : b < G.2.2.2.2.size) (hz : G.2.2.2.2.size = G.2.2.2.1) {fu : Nat} {mi mi_ : Mem} {w sp rw w_ sp_ rw_ : Nat} (hq : isQ w sp rw) {x3 y3 : Int32} (hf : f_L_c846 fu L xs mi w sp rw x3 = some (y3, mi_, w_, sp_, rw_)) {H : Heap} {locs : List Loc} {ls : Array Slot} (hR : RM G S0 (mr0 w sp rw) mi H locs) (hl : lv_has ls 4 [(0, .ref b), (1, .ref (G.2.2.2.1 + 0)), (2, .ref (G.2.2.2.1 + 206)), (3, .int x3)]) (kk : ∀ (H : Heap) (locs : List Loc) (ls : Array Slot), isQ w_ sp_ rw_ → RM G S0 (mr0 w_ sp_ rw_) mi_ H locs → lv_has ls 4 [(0, .ref b), (1, .ref (G.2.2.2.1 + 0)), (2, .ref (G.2.2.2.1 + 206)), (3, .int y3)] → W p l e room_1 s m #[Value.ref b] below meth c H locs 227 8058 (lw_Z below #[Value.ref b] s) (F0 m 18 ls [])) : W p l e room_1 s m #[Value.ref b] below meth c H locs 227 8058 (lw_Z below #[Value.ref b] s) (F0 m 846 ls []) := by
  have hx := C.1
  have hb := C.2.1
  have hts := C.2.2.2.2.1
  have hbA : ¬ (fun q => G.2.2.2.1 ≤ q) b := by show ¬ _ ≤ _; rw [← hz]; exact Nat.not_le.mpr hbl
  rw [f_L_c846] at hf
  refine lv_aload_n hx hb dL_law_846 rfl (lv_at hl 1 rfl) ?_
  obtain ⟨r1, mi2, hc, hf⟩ := bd2_some hf
  refine x_callV (cells := 227) (slots := 8058) (mc := 0) (ms := 0) (rest := []) C hR co_L_121 (m_X7_tear hq hc) v_0 rfl rfl (Nat.le_of_ble_eq_true rfl) hl.1 ⟨by decide, by decide⟩ ⟨by decide, by decide⟩ dL_law_847 (fun H locs hR => ?_)
  refine lv_aload_n hx hb dL_law_850 rfl (lv_at hl 2 rfl) ?_
  obtain ⟨r3, mi4, hc, hf⟩ := bd2_some hf
  refine x_callV (cells := 227) (slots := 8058) (mc := 0) (ms := 0) (rest := [.int r1]) C hR co_L_124 (m_X8_tear hq hc) v_206 rfl rfl (Nat.le_of_ble_eq_true rfl) hl.1 ⟨by decide, by decide⟩ ⟨by decide, by decide⟩ dL_law_851 (fun H locs hR => ?_)
  refine lv_icmp_eq (tgt := 928) hx hb dL_law_854 (by decide) (fun c5 => ?_) (fun c5 => ?_)
  · rw [if_pos c5] at hf
    obtain ⟨y6, ey6, hf⟩ := nm_at hf
    refine lv_iinc (v := y6) (lv' := [(3, .int y6), (0, .ref b), (1, .ref (G.2.2.2.1 + 0)), (2, .ref (G.2.2.2.1 + 206))]) hx hb dL_law_928 hl (k := 3) rfl (by rw [ey6]; rfl) (by decide) rfl (fun ls hl => ?_)
    refine lv_goto (tgt := 18) hx hb dL_law_931 (by decide) ?_
    obtain ⟨rfl, rfl, rfl, rfl, rfl⟩ := p5_inj hf
    exact kk H locs ls hq hR (lv_sub hl [1, 2, 3, 0] rfl)
  · rw [if_neg c5] at hf
    cases hf
def f_L_c859 (fu L : Nat) (xs : Nat → Int32) (mi : Mem) (w sp rw : Nat) (x3 : Int32) : Option (Int32 × Mem × Nat × Nat × Nat) := gd (inB (x3 + (nI 1)) L) (bd2 (f_X7_seed mi (xs (ix (x3 + (nI 1))))) fun r2 mi3 => gd (inB (x3 + (nI 1)) L) (bd2 (f_X8_seed mi3 (xs (ix (x3 + (nI 1))))) fun r5 mi6 => if r2 = r5 then (nm (x3 + (nI 4)) fun y8 => some (y8, mi6, w, sp, rw)) else (none)))
set_option maxHeartbeats 4000000 in
set_option maxRecDepth 100000 in
theorem law_c859 {p : Program} {l : Launch} {e : Env} {s : State} {m : MethodId} {below : List Frame} {meth : Method} {c : Code} {G : GT} {b L : Nat} {xs : Nat → Int32} (C : Cx G p s m c #[Value.ref b] RL cL_law 4) (hX : va_X b L xs s G.2.2.2.2) (hbl : b < G.2.2.2.2.size) (hz : G.2.2.2.2.size = G.2.2.2.1) {fu : Nat} {mi mi_ : Mem} {w sp rw w_ sp_ rw_ : Nat} (hq : isQ w sp rw) {x3 y3 : Int32} (hf : f_L_c859 fu L xs mi w sp rw x3 = some (y3, mi_, w_, sp_, rw_)) {H : Heap} {locs : List Loc} {ls : Array Slot} (hR : RM G S0 (mr0 w sp rw) mi H locs) (hl : lv_has ls 4 [(0, .ref b), (1, .ref (G.2.2.2.1 + 0)), (2, .ref (G.2.2.2.1 + 206)), (3, .int x3)]) (kk : ∀ (H : Heap) (locs : List Loc) (ls : Array Slot), isQ w_ sp_ rw_ → RM G S0 (mr0 w_ sp_ rw_) mi_ H locs → lv_has ls 4 [(0, .ref b), (1, .ref (G.2.2.2.1 + 0)), (2, .ref (G.2.2.2.1 + 206)), (3, .int y3)] → W p l e room_1 s m #[Value.ref b] below meth c H locs 227 8058 (lw_Z below #[Value.ref b] s) (F0 m 18 ls [])) : W p l e room_1 s m #[Value.ref b] below meth c H locs 227 8058 (lw_Z below #[Value.ref b] s) (F0 m 859 ls []) := by
  have hx := C.1
  have hb := C.2.1
  have hts := C.2.2.2.2.1
  have hbA : ¬ (fun q => G.2.2.2.1 ≤ q) b := by show ¬ _ ≤ _; rw [← hz]; exact Nat.not_le.mpr hbl
  rw [f_L_c859] at hf
  refine lv_aload_n hx hb dL_law_859 rfl (lv_at hl 1 rfl) ?_
  refine lv_aload_n hx hb dL_law_860 rfl (lv_at hl 0 rfl) ?_
  refine lv_iload_n hx hb dL_law_861 rfl (lv_at hl 3 rfl) ?_
  refine lv_iconst (v := (nI 1)) hx hb dL_law_862 (by decide) ?_
  refine lv_iadd hx hb dL_law_863 ?_
  obtain ⟨hg1, hf⟩ := gd_some hf
  refine va_sld hx hb hX hbl hbA (RM.S hR hz) (inB_vp hg1) dL_law_864 ?_
  obtain ⟨r2, mi3, hc, hf⟩ := bd2_some hf
  refine x_callV (cells := 227) (slots := 8058) (mc := 0) (ms := 0) (rest := []) C hR co_L_125 (m_X7_seed hq hc) v_0 rfl rfl (Nat.le_of_ble_eq_true rfl) hl.1 ⟨by decide, by decide⟩ ⟨by decide, by decide⟩ dL_law_865 (fun H locs hR => ?_)
  refine lv_aload_n hx hb dL_law_868 rfl (lv_at hl 2 rfl) ?_
  refine lv_aload_n hx hb dL_law_869 rfl (lv_at hl 0 rfl) ?_
  refine lv_iload_n hx hb dL_law_870 rfl (lv_at hl 3 rfl) ?_
  refine lv_iconst (v := (nI 1)) hx hb dL_law_871 (by decide) ?_
  refine lv_iadd hx hb dL_law_872 ?_
  obtain ⟨hg4, hf⟩ := gd_some hf
  refine va_sld hx hb hX hbl hbA (RM.S hR hz) (inB_vp hg4) dL_law_873 ?_
  obtain ⟨r5, mi6, hc, hf⟩ := bd2_some hf
  refine x_callV (cells := 227) (slots := 8058) (mc := 0) (ms := 0) (rest := [.int r2]) C hR co_L_128 (m_X8_seed hq hc) v_206 rfl rfl (Nat.le_of_ble_eq_true rfl) hl.1 ⟨by decide, by decide⟩ ⟨by decide, by decide⟩ dL_law_874 (fun H locs hR => ?_)
  refine lv_icmp_eq (tgt := 928) hx hb dL_law_877 (by decide) (fun c7 => ?_) (fun c7 => ?_)
  · rw [if_pos c7] at hf
    obtain ⟨y8, ey8, hf⟩ := nm_at hf
    refine lv_iinc (v := y8) (lv' := [(3, .int y8), (0, .ref b), (1, .ref (G.2.2.2.1 + 0)), (2, .ref (G.2.2.2.1 + 206))]) hx hb dL_law_928 hl (k := 3) rfl (by rw [ey8]; rfl) (by decide) rfl (fun ls hl => ?_)
    refine lv_goto (tgt := 18) hx hb dL_law_931 (by decide) ?_
    obtain ⟨rfl, rfl, rfl, rfl, rfl⟩ := p5_inj hf
    exact kk H locs ls hq hR (lv_sub hl [1, 2, 3, 0] rfl)
  · rw [if_neg c7] at hf
    cases hf
def f_L_c882 (fu L : Nat) (xs : Nat → Int32) (mi : Mem) (w sp rw : Nat) (x3 : Int32) : Option (Int32 × Mem × Nat × Nat × Nat) := gd (inB (x3 + (nI 1)) L) (bd2 (f_X7_keep mi (xs (ix (x3 + (nI 1))))) fun r2 mi3 => gd (inB (x3 + (nI 1)) L) (bd2 (f_X8_keep fu mi3 (xs (ix (x3 + (nI 1))))) fun r5 mi6 => if r2 = r5 then (nm (x3 + (nI 4)) fun y8 => some (y8, mi6, w, sp, rw)) else (none)))
set_option maxHeartbeats 4000000 in
set_option maxRecDepth 100000 in
theorem law_c882 {p : Program} {l : Launch} {e : Env} {s : State} {m : MethodId} {below : List Frame} {meth : Method} {c : Code} {G : GT} {b L : Nat} {xs : Nat → Int32} (C : Cx G p s m c #[Value.ref b] RL cL_law 4) (hX : va_X b L xs s G.2.2.2.2) (hbl : b < G.2.2.2.2.size) (hz : G.2.2.2.2.size = G.2.2.2.1) {fu : Nat} {mi mi_ : Mem} {w sp rw w_ sp_ rw_ : Nat} (hq : isQ w sp rw) {x3 y3 : Int32} (hf : f_L_c882 fu L xs mi w sp rw x3 = some (y3, mi_, w_, sp_, rw_)) {H : Heap} {locs : List Loc} {ls : Array Slot} (hR : RM G S0 (mr0 w sp rw) mi H locs) (hl : lv_has ls 4 [(0, .ref b), (1, .ref (G.2.2.2.1 + 0)), (2, .ref (G.2.2.2.1 + 206)), (3, .int x3)]) (kk : ∀ (H : Heap) (locs : List Loc) (ls : Array Slot), isQ w_ sp_ rw_ → RM G S0 (mr0 w_ sp_ rw_) mi_ H locs → lv_has ls 4 [(0, .ref b), (1, .ref (G.2.2.2.1 + 0)), (2, .ref (G.2.2.2.1 + 206)), (3, .int y3)] → W p l e room_1 s m #[Value.ref b] below meth c H locs 227 8058 (lw_Z below #[Value.ref b] s) (F0 m 18 ls [])) : W p l e room_1 s m #[Value.ref b] below meth c H locs 227 8058 (lw_Z below #[Value.ref b] s) (F0 m 882 ls []) := by
  have hx := C.1
  have hb := C.2.1
  have hts := C.2.2.2.2.1
  have hbA : ¬ (fun q => G.2.2.2.1 ≤ q) b := by show ¬ _ ≤ _; rw [← hz]; exact Nat.not_le.mpr hbl
  rw [f_L_c882] at hf
  refine lv_aload_n hx hb dL_law_882 rfl (lv_at hl 1 rfl) ?_
  refine lv_aload_n hx hb dL_law_883 rfl (lv_at hl 0 rfl) ?_
  refine lv_iload_n hx hb dL_law_884 rfl (lv_at hl 3 rfl) ?_
  refine lv_iconst (v := (nI 1)) hx hb dL_law_885 (by decide) ?_
  refine lv_iadd hx hb dL_law_886 ?_
  obtain ⟨hg1, hf⟩ := gd_some hf
  refine va_sld hx hb hX hbl hbA (RM.S hR hz) (inB_vp hg1) dL_law_887 ?_
  obtain ⟨r2, mi3, hc, hf⟩ := bd2_some hf
  refine x_callV (cells := 227) (slots := 8058) (mc := 0) (ms := 0) (rest := []) C hR co_L_129 (m_X7_keep hq hc) v_0 rfl rfl (Nat.le_of_ble_eq_true rfl) hl.1 ⟨by decide, by decide⟩ ⟨by decide, by decide⟩ dL_law_888 (fun H locs hR => ?_)
  refine lv_aload_n hx hb dL_law_891 rfl (lv_at hl 2 rfl) ?_
  refine lv_aload_n hx hb dL_law_892 rfl (lv_at hl 0 rfl) ?_
  refine lv_iload_n hx hb dL_law_893 rfl (lv_at hl 3 rfl) ?_
  refine lv_iconst (v := (nI 1)) hx hb dL_law_894 (by decide) ?_
  refine lv_iadd hx hb dL_law_895 ?_
  obtain ⟨hg4, hf⟩ := gd_some hf
  refine va_sld hx hb hX hbl hbA (RM.S hR hz) (inB_vp hg4) dL_law_896 ?_
  obtain ⟨r5, mi6, hc, hf⟩ := bd2_some hf
  refine x_callV (cells := 227) (slots := 8058) (mc := 0) (ms := 0) (rest := [.int r2]) C hR co_L_132 (m_X8_keep hq hc) v_206 rfl rfl (Nat.le_of_ble_eq_true rfl) hl.1 ⟨by decide, by decide⟩ ⟨by decide, by decide⟩ dL_law_897 (fun H locs hR => ?_)
  refine lv_icmp_eq (tgt := 928) hx hb dL_law_900 (by decide) (fun c7 => ?_) (fun c7 => ?_)
  · rw [if_pos c7] at hf
    obtain ⟨y8, ey8, hf⟩ := nm_at hf
    refine lv_iinc (v := y8) (lv' := [(3, .int y8), (0, .ref b), (1, .ref (G.2.2.2.1 + 0)), (2, .ref (G.2.2.2.1 + 206))]) hx hb dL_law_928 hl (k := 3) rfl (by rw [ey8]; rfl) (by decide) rfl (fun ls hl => ?_)
    refine lv_goto (tgt := 18) hx hb dL_law_931 (by decide) ?_
    obtain ⟨rfl, rfl, rfl, rfl, rfl⟩ := p5_inj hf
    exact kk H locs ls hq hR (lv_sub hl [1, 2, 3, 0] rfl)
  · rw [if_neg c7] at hf
    cases hf
def f_L_c905 (fu L : Nat) (xs : Nat → Int32) (mi : Mem) (w sp rw : Nat) (x3 : Int32) : Option (Int32 × Mem × Nat × Nat × Nat) := gd (inB (x3 + (nI 1)) L) (bd2 (f_X7_goBack mi (xs (ix (x3 + (nI 1))))) fun r2 mi3 => gd (inB (x3 + (nI 1)) L) (bd2 (f_X8_goBack fu mi3 (xs (ix (x3 + (nI 1))))) fun r5 mi6 => if r2 = r5 then (nm (x3 + (nI 4)) fun y8 => some (y8, mi6, w, sp, rw)) else (none)))
set_option maxHeartbeats 4000000 in
set_option maxRecDepth 100000 in
theorem law_c905 {p : Program} {l : Launch} {e : Env} {s : State} {m : MethodId} {below : List Frame} {meth : Method} {c : Code} {G : GT} {b L : Nat} {xs : Nat → Int32} (C : Cx G p s m c #[Value.ref b] RL cL_law 4) (hX : va_X b L xs s G.2.2.2.2) (hbl : b < G.2.2.2.2.size) (hz : G.2.2.2.2.size = G.2.2.2.1) {fu : Nat} {mi mi_ : Mem} {w sp rw w_ sp_ rw_ : Nat} (hq : isQ w sp rw) {x3 y3 : Int32} (hf : f_L_c905 fu L xs mi w sp rw x3 = some (y3, mi_, w_, sp_, rw_)) {H : Heap} {locs : List Loc} {ls : Array Slot} (hR : RM G S0 (mr0 w sp rw) mi H locs) (hl : lv_has ls 4 [(0, .ref b), (1, .ref (G.2.2.2.1 + 0)), (2, .ref (G.2.2.2.1 + 206)), (3, .int x3)]) (kk : ∀ (H : Heap) (locs : List Loc) (ls : Array Slot), isQ w_ sp_ rw_ → RM G S0 (mr0 w_ sp_ rw_) mi_ H locs → lv_has ls 4 [(0, .ref b), (1, .ref (G.2.2.2.1 + 0)), (2, .ref (G.2.2.2.1 + 206)), (3, .int y3)] → W p l e room_1 s m #[Value.ref b] below meth c H locs 227 8058 (lw_Z below #[Value.ref b] s) (F0 m 18 ls [])) : W p l e room_1 s m #[Value.ref b] below meth c H locs 227 8058 (lw_Z below #[Value.ref b] s) (F0 m 905 ls []) := by
  have hx := C.1
  have hb := C.2.1
  have hts := C.2.2.2.2.1
  have hbA : ¬ (fun q => G.2.2.2.1 ≤ q) b := by show ¬ _ ≤ _; rw [← hz]; exact Nat.not_le.mpr hbl
  rw [f_L_c905] at hf
  refine lv_aload_n hx hb dL_law_905 rfl (lv_at hl 1 rfl) ?_
  refine lv_aload_n hx hb dL_law_906 rfl (lv_at hl 0 rfl) ?_
  refine lv_iload_n hx hb dL_law_907 rfl (lv_at hl 3 rfl) ?_
  refine lv_iconst (v := (nI 1)) hx hb dL_law_908 (by decide) ?_
  refine lv_iadd hx hb dL_law_909 ?_
  obtain ⟨hg1, hf⟩ := gd_some hf
  refine va_sld hx hb hX hbl hbA (RM.S hR hz) (inB_vp hg1) dL_law_910 ?_
  obtain ⟨r2, mi3, hc, hf⟩ := bd2_some hf
  refine x_callV (cells := 227) (slots := 8058) (mc := 0) (ms := 0) (rest := []) C hR co_L_133 (m_X7_goBack hq hc) v_0 rfl rfl (Nat.le_of_ble_eq_true rfl) hl.1 ⟨by decide, by decide⟩ ⟨by decide, by decide⟩ dL_law_911 (fun H locs hR => ?_)
  refine lv_aload_n hx hb dL_law_914 rfl (lv_at hl 2 rfl) ?_
  refine lv_aload_n hx hb dL_law_915 rfl (lv_at hl 0 rfl) ?_
  refine lv_iload_n hx hb dL_law_916 rfl (lv_at hl 3 rfl) ?_
  refine lv_iconst (v := (nI 1)) hx hb dL_law_917 (by decide) ?_
  refine lv_iadd hx hb dL_law_918 ?_
  obtain ⟨hg4, hf⟩ := gd_some hf
  refine va_sld hx hb hX hbl hbA (RM.S hR hz) (inB_vp hg4) dL_law_919 ?_
  obtain ⟨r5, mi6, hc, hf⟩ := bd2_some hf
  refine x_callV (cells := 227) (slots := 8058) (mc := 0) (ms := 0) (rest := [.int r2]) C hR co_L_136 (m_X8_goBack hq hc) v_206 rfl rfl (Nat.le_of_ble_eq_true rfl) hl.1 ⟨by decide, by decide⟩ ⟨by decide, by decide⟩ dL_law_920 (fun H locs hR => ?_)
  refine lv_icmp_eq (tgt := 928) hx hb dL_law_923 (by decide) (fun c7 => ?_) (fun c7 => ?_)
  · rw [if_pos c7] at hf
    obtain ⟨y8, ey8, hf⟩ := nm_at hf
    refine lv_iinc (v := y8) (lv' := [(3, .int y8), (0, .ref b), (1, .ref (G.2.2.2.1 + 0)), (2, .ref (G.2.2.2.1 + 206))]) hx hb dL_law_928 hl (k := 3) rfl (by rw [ey8]; rfl) (by decide) rfl (fun ls hl => ?_)
    refine lv_goto (tgt := 18) hx hb dL_law_931 (by decide) ?_
    obtain ⟨rfl, rfl, rfl, rfl, rfl⟩ := p5_inj hf
    exact kk H locs ls hq hR (lv_sub hl [1, 2, 3, 0] rfl)
  · rw [if_neg c7] at hf
    cases hf
def f_L_c928 (fu L : Nat) (xs : Nat → Int32) (mi : Mem) (w sp rw : Nat) (x3 : Int32) : Option (Int32 × Mem × Nat × Nat × Nat) := nm (x3 + (nI 4)) fun y1 => some (y1, mi, w, sp, rw)
set_option maxHeartbeats 4000000 in
set_option maxRecDepth 100000 in
theorem law_c928 {p : Program} {l : Launch} {e : Env} {s : State} {m : MethodId} {below : List Frame} {meth : Method} {c : Code} {G : GT} {b L : Nat} {xs : Nat → Int32} (C : Cx G p s m c #[Value.ref b] RL cL_law 4) (hX : va_X b L xs s G.2.2.2.2) (hbl : b < G.2.2.2.2.size) (hz : G.2.2.2.2.size = G.2.2.2.1) {fu : Nat} {mi mi_ : Mem} {w sp rw w_ sp_ rw_ : Nat} (hq : isQ w sp rw) {x3 y3 : Int32} (hf : f_L_c928 fu L xs mi w sp rw x3 = some (y3, mi_, w_, sp_, rw_)) {H : Heap} {locs : List Loc} {ls : Array Slot} (hR : RM G S0 (mr0 w sp rw) mi H locs) (hl : lv_has ls 4 [(0, .ref b), (1, .ref (G.2.2.2.1 + 0)), (2, .ref (G.2.2.2.1 + 206)), (3, .int x3)]) (kk : ∀ (H : Heap) (locs : List Loc) (ls : Array Slot), isQ w_ sp_ rw_ → RM G S0 (mr0 w_ sp_ rw_) mi_ H locs → lv_has ls 4 [(0, .ref b), (1, .ref (G.2.2.2.1 + 0)), (2, .ref (G.2.2.2.1 + 206)), (3, .int y3)] → W p l e room_1 s m #[Value.ref b] below meth c H locs 227 8058 (lw_Z below #[Value.ref b] s) (F0 m 18 ls [])) : W p l e room_1 s m #[Value.ref b] below meth c H locs 227 8058 (lw_Z below #[Value.ref b] s) (F0 m 928 ls []) := by
  have hx := C.1
  have hb := C.2.1
  have hts := C.2.2.2.2.1
  have hbA : ¬ (fun q => G.2.2.2.1 ≤ q) b := by show ¬ _ ≤ _; rw [← hz]; exact Nat.not_le.mpr hbl
  rw [f_L_c928] at hf
  obtain ⟨y1, ey1, hf⟩ := nm_at hf
  refine lv_iinc (v := y1) (lv' := [(3, .int y1), (0, .ref b), (1, .ref (G.2.2.2.1 + 0)), (2, .ref (G.2.2.2.1 + 206))]) hx hb dL_law_928 hl (k := 3) rfl (by rw [ey1]; rfl) (by decide) rfl (fun ls hl => ?_)
  refine lv_goto (tgt := 18) hx hb dL_law_931 (by decide) ?_
  obtain ⟨rfl, rfl, rfl, rfl, rfl⟩ := p5_inj hf
  exact kk H locs ls hq hR (lv_sub hl [1, 2, 3, 0] rfl)
def f_L_step (fu L : Nat) (xs : Nat → Int32) (mi : Mem) (w sp rw : Nat) (x3 : Int32) : Option (Int32 × Mem × Nat × Nat × Nat) := gd (inB x3 L) (if (xs (ix x3)) &&& 31 = 0 then (f_L_c168 fu L xs mi w sp rw x3) else (if (xs (ix x3)) &&& 31 = 1 then (f_L_c191 fu L xs mi w sp rw x3) else (if (xs (ix x3)) &&& 31 = 2 then (f_L_c204 fu L xs mi w sp rw x3) else (if (xs (ix x3)) &&& 31 = 3 then (f_L_c217 fu L xs mi w sp rw x3) else (if (xs (ix x3)) &&& 31 = 4 then (f_L_c240 fu L xs mi w sp rw x3) else (if (xs (ix x3)) &&& 31 = 5 then (f_L_c273 fu L xs mi w sp rw x3) else (if (xs (ix x3)) &&& 31 = 6 then (f_L_c306 fu L xs mi w sp rw x3) else (if (xs (ix x3)) &&& 31 = 7 then (f_L_c339 fu L xs mi w sp rw x3) else (if (xs (ix x3)) &&& 31 = 8 then (f_L_c372 fu L xs mi w sp rw x3) else (if (xs (ix x3)) &&& 31 = 9 then (f_L_c385 fu L xs mi w sp rw x3) else (if (xs (ix x3)) &&& 31 = 10 then (f_L_c408 fu L xs mi w sp rw x3) else (if (xs (ix x3)) &&& 31 = 11 then (f_L_c431 fu L xs mi w sp rw x3) else (if (xs (ix x3)) &&& 31 = 12 then (f_L_c454 fu L xs mi w sp rw x3) else (if (xs (ix x3)) &&& 31 = 13 then (f_L_c477 fu L xs mi w sp rw x3) else (if (xs (ix x3)) &&& 31 = 14 then (f_L_c500 fu L xs mi w sp rw x3) else (if (xs (ix x3)) &&& 31 = 15 then (f_L_c523 fu L xs mi w sp rw x3) else (if (xs (ix x3)) &&& 31 = 16 then (f_L_c556 fu L xs mi w sp rw x3) else (if (xs (ix x3)) &&& 31 = 17 then (f_L_c579 fu L xs mi w sp rw x3) else (if (xs (ix x3)) &&& 31 = 18 then (f_L_c622 fu L xs mi w sp rw x3) else (if (xs (ix x3)) &&& 31 = 19 then (f_L_c655 fu L xs mi w sp rw x3) else (if (xs (ix x3)) &&& 31 = 20 then (f_L_c698 fu L xs mi w sp rw x3) else (if (xs (ix x3)) &&& 31 = 21 then (f_L_c731 fu L xs mi w sp rw x3) else (if (xs (ix x3)) &&& 31 = 22 then (f_L_c774 fu L xs mi w sp rw x3) else (if (xs (ix x3)) &&& 31 = 23 then (f_L_c787 fu L xs mi w sp rw x3) else (if (xs (ix x3)) &&& 31 = 24 then (f_L_c800 fu L xs mi w sp rw x3) else (if (xs (ix x3)) &&& 31 = 25 then (f_L_c833 fu L xs mi w sp rw x3) else (if (xs (ix x3)) &&& 31 = 26 then (f_L_c846 fu L xs mi w sp rw x3) else (if (xs (ix x3)) &&& 31 = 27 then (f_L_c859 fu L xs mi w sp rw x3) else (if (xs (ix x3)) &&& 31 = 28 then (f_L_c882 fu L xs mi w sp rw x3) else (if (xs (ix x3)) &&& 31 = 29 then (f_L_c905 fu L xs mi w sp rw x3) else (f_L_c928 fu L xs mi w sp rw x3)))))))))))))))))))))))))))))))
set_option maxHeartbeats 4000000 in
set_option maxRecDepth 100000 in
theorem law_step {p : Program} {l : Launch} {e : Env} {s : State} {m : MethodId} {below : List Frame} {meth : Method} {c : Code} {G : GT} {b L : Nat} {xs : Nat → Int32} (C : Cx G p s m c #[Value.ref b] RL cL_law 4) (hX : va_X b L xs s G.2.2.2.2) (hbl : b < G.2.2.2.2.size) (hz : G.2.2.2.2.size = G.2.2.2.1) {fu : Nat} {mi mi_ : Mem} {w sp rw w_ sp_ rw_ : Nat} (hq : isQ w sp rw) {x3 y3 : Int32} (hgo : ¬ Int32.ofNat L - 4 < x3) (hf : f_L_step fu L xs mi w sp rw x3 = some (y3, mi_, w_, sp_, rw_)) {H : Heap} {locs : List Loc} {ls : Array Slot} (hR : RM G S0 (mr0 w sp rw) mi H locs) (hl : lv_has ls 4 [(0, .ref b), (1, .ref (G.2.2.2.1 + 0)), (2, .ref (G.2.2.2.1 + 206)), (3, .int x3)]) (kk : ∀ (H : Heap) (locs : List Loc) (ls : Array Slot), isQ w_ sp_ rw_ → RM G S0 (mr0 w_ sp_ rw_) mi_ H locs → lv_has ls 4 [(0, .ref b), (1, .ref (G.2.2.2.1 + 0)), (2, .ref (G.2.2.2.1 + 206)), (3, .int y3)] → W p l e room_1 s m #[Value.ref b] below meth c H locs 227 8058 (lw_Z below #[Value.ref b] s) (F0 m 18 ls [])) : W p l e room_1 s m #[Value.ref b] below meth c H locs 227 8058 (lw_Z below #[Value.ref b] s) (F0 m 18 ls []) := by
  have hx := C.1
  have hb := C.2.1
  have hbA : ¬ (fun q => G.2.2.2.1 ≤ q) b := by show ¬ _ ≤ _; rw [← hz]; exact Nat.not_le.mpr hbl
  rw [f_L_step] at hf
  obtain ⟨hg, hf⟩ := gd_some hf
  refine lv_iload_n hx hb dL_law_18 rfl (lv_at hl 3 rfl) ?_
  refine lv_aload_n hx hb dL_law_19 rfl (lv_at hl 0 rfl) ?_
  refine va_slen hx hb hX hbl hbA (RM.S hR hz) dL_law_20 ?_
  refine lv_iconst (v := 4) hx hb dL_law_21 (by decide) ?_
  refine lv_isub hx hb dL_law_22 ?_
  refine lv_icmp_gt (tgt := 934) hx hb dL_law_23 (by decide) (fun c => absurd c hgo) (fun _ => ?_)
  refine lv_aload_n hx hb dL_law_26 rfl (lv_at hl 0 rfl) ?_
  refine lv_iload_n hx hb dL_law_27 rfl (lv_at hl 3 rfl) ?_
  refine va_sld hx hb hX hbl hbA (RM.S hR hz) (inB_vp hg) dL_law_28 ?_
  refine lv_bipush (v := 31) hx hb dL_law_29 (by decide) ?_
  refine lv_iand hx hb dL_law_31 ?_
  by_cases c0 : (xs (ix x3)) &&& 31 = 0
  · rw [if_pos c0] at hf
    refine x_tsIn (tgt := 168) hx hb dL_law_32 c0 (by decide) (by decide) rfl (by decide) ?_
    exact law_c168 C hX hbl hz hq hf hR (lv_sub hl [0, 1, 2, 3] rfl) kk
  rw [if_neg c0] at hf
  by_cases c1 : (xs (ix x3)) &&& 31 = 1
  · rw [if_pos c1] at hf
    refine x_tsIn (tgt := 191) hx hb dL_law_32 c1 (by decide) (by decide) rfl (by decide) ?_
    exact law_c191 C hX hbl hz hq hf hR (lv_sub hl [0, 1, 2, 3] rfl) kk
  rw [if_neg c1] at hf
  by_cases c2 : (xs (ix x3)) &&& 31 = 2
  · rw [if_pos c2] at hf
    refine x_tsIn (tgt := 204) hx hb dL_law_32 c2 (by decide) (by decide) rfl (by decide) ?_
    exact law_c204 C hX hbl hz hq hf hR (lv_sub hl [0, 1, 2, 3] rfl) kk
  rw [if_neg c2] at hf
  by_cases c3 : (xs (ix x3)) &&& 31 = 3
  · rw [if_pos c3] at hf
    refine x_tsIn (tgt := 217) hx hb dL_law_32 c3 (by decide) (by decide) rfl (by decide) ?_
    exact law_c217 C hX hbl hz hq hf hR (lv_sub hl [0, 1, 2, 3] rfl) kk
  rw [if_neg c3] at hf
  by_cases c4 : (xs (ix x3)) &&& 31 = 4
  · rw [if_pos c4] at hf
    refine x_tsIn (tgt := 240) hx hb dL_law_32 c4 (by decide) (by decide) rfl (by decide) ?_
    exact law_c240 C hX hbl hz hq hf hR (lv_sub hl [0, 1, 2, 3] rfl) kk
  rw [if_neg c4] at hf
  by_cases c5 : (xs (ix x3)) &&& 31 = 5
  · rw [if_pos c5] at hf
    refine x_tsIn (tgt := 273) hx hb dL_law_32 c5 (by decide) (by decide) rfl (by decide) ?_
    exact law_c273 C hX hbl hz hq hf hR (lv_sub hl [0, 1, 2, 3] rfl) kk
  rw [if_neg c5] at hf
  by_cases c6 : (xs (ix x3)) &&& 31 = 6
  · rw [if_pos c6] at hf
    refine x_tsIn (tgt := 306) hx hb dL_law_32 c6 (by decide) (by decide) rfl (by decide) ?_
    exact law_c306 C hX hbl hz hq hf hR (lv_sub hl [0, 1, 2, 3] rfl) kk
  rw [if_neg c6] at hf
  by_cases c7 : (xs (ix x3)) &&& 31 = 7
  · rw [if_pos c7] at hf
    refine x_tsIn (tgt := 339) hx hb dL_law_32 c7 (by decide) (by decide) rfl (by decide) ?_
    exact law_c339 C hX hbl hz hq hf hR (lv_sub hl [0, 1, 2, 3] rfl) kk
  rw [if_neg c7] at hf
  by_cases c8 : (xs (ix x3)) &&& 31 = 8
  · rw [if_pos c8] at hf
    refine x_tsIn (tgt := 372) hx hb dL_law_32 c8 (by decide) (by decide) rfl (by decide) ?_
    exact law_c372 C hX hbl hz hq hf hR (lv_sub hl [0, 1, 2, 3] rfl) kk
  rw [if_neg c8] at hf
  by_cases c9 : (xs (ix x3)) &&& 31 = 9
  · rw [if_pos c9] at hf
    refine x_tsIn (tgt := 385) hx hb dL_law_32 c9 (by decide) (by decide) rfl (by decide) ?_
    exact law_c385 C hX hbl hz hq hf hR (lv_sub hl [0, 1, 2, 3] rfl) kk
  rw [if_neg c9] at hf
  by_cases c10 : (xs (ix x3)) &&& 31 = 10
  · rw [if_pos c10] at hf
    refine x_tsIn (tgt := 408) hx hb dL_law_32 c10 (by decide) (by decide) rfl (by decide) ?_
    exact law_c408 C hX hbl hz hq hf hR (lv_sub hl [0, 1, 2, 3] rfl) kk
  rw [if_neg c10] at hf
  by_cases c11 : (xs (ix x3)) &&& 31 = 11
  · rw [if_pos c11] at hf
    refine x_tsIn (tgt := 431) hx hb dL_law_32 c11 (by decide) (by decide) rfl (by decide) ?_
    exact law_c431 C hX hbl hz hq hf hR (lv_sub hl [0, 1, 2, 3] rfl) kk
  rw [if_neg c11] at hf
  by_cases c12 : (xs (ix x3)) &&& 31 = 12
  · rw [if_pos c12] at hf
    refine x_tsIn (tgt := 454) hx hb dL_law_32 c12 (by decide) (by decide) rfl (by decide) ?_
    exact law_c454 C hX hbl hz hq hf hR (lv_sub hl [0, 1, 2, 3] rfl) kk
  rw [if_neg c12] at hf
  by_cases c13 : (xs (ix x3)) &&& 31 = 13
  · rw [if_pos c13] at hf
    refine x_tsIn (tgt := 477) hx hb dL_law_32 c13 (by decide) (by decide) rfl (by decide) ?_
    exact law_c477 C hX hbl hz hq hf hR (lv_sub hl [0, 1, 2, 3] rfl) kk
  rw [if_neg c13] at hf
  by_cases c14 : (xs (ix x3)) &&& 31 = 14
  · rw [if_pos c14] at hf
    refine x_tsIn (tgt := 500) hx hb dL_law_32 c14 (by decide) (by decide) rfl (by decide) ?_
    exact law_c500 C hX hbl hz hq hf hR (lv_sub hl [0, 1, 2, 3] rfl) kk
  rw [if_neg c14] at hf
  by_cases c15 : (xs (ix x3)) &&& 31 = 15
  · rw [if_pos c15] at hf
    refine x_tsIn (tgt := 523) hx hb dL_law_32 c15 (by decide) (by decide) rfl (by decide) ?_
    exact law_c523 C hX hbl hz hq hf hR (lv_sub hl [0, 1, 2, 3] rfl) kk
  rw [if_neg c15] at hf
  by_cases c16 : (xs (ix x3)) &&& 31 = 16
  · rw [if_pos c16] at hf
    refine x_tsIn (tgt := 556) hx hb dL_law_32 c16 (by decide) (by decide) rfl (by decide) ?_
    exact law_c556 C hX hbl hz hq hf hR (lv_sub hl [0, 1, 2, 3] rfl) kk
  rw [if_neg c16] at hf
  by_cases c17 : (xs (ix x3)) &&& 31 = 17
  · rw [if_pos c17] at hf
    refine x_tsIn (tgt := 579) hx hb dL_law_32 c17 (by decide) (by decide) rfl (by decide) ?_
    exact law_c579 C hX hbl hz hq hf hR (lv_sub hl [0, 1, 2, 3] rfl) kk
  rw [if_neg c17] at hf
  by_cases c18 : (xs (ix x3)) &&& 31 = 18
  · rw [if_pos c18] at hf
    refine x_tsIn (tgt := 622) hx hb dL_law_32 c18 (by decide) (by decide) rfl (by decide) ?_
    exact law_c622 C hX hbl hz hq hf hR (lv_sub hl [0, 1, 2, 3] rfl) kk
  rw [if_neg c18] at hf
  by_cases c19 : (xs (ix x3)) &&& 31 = 19
  · rw [if_pos c19] at hf
    refine x_tsIn (tgt := 655) hx hb dL_law_32 c19 (by decide) (by decide) rfl (by decide) ?_
    exact law_c655 C hX hbl hz hq hf hR (lv_sub hl [0, 1, 2, 3] rfl) kk
  rw [if_neg c19] at hf
  by_cases c20 : (xs (ix x3)) &&& 31 = 20
  · rw [if_pos c20] at hf
    refine x_tsIn (tgt := 698) hx hb dL_law_32 c20 (by decide) (by decide) rfl (by decide) ?_
    exact law_c698 C hX hbl hz hq hf hR (lv_sub hl [0, 1, 2, 3] rfl) kk
  rw [if_neg c20] at hf
  by_cases c21 : (xs (ix x3)) &&& 31 = 21
  · rw [if_pos c21] at hf
    refine x_tsIn (tgt := 731) hx hb dL_law_32 c21 (by decide) (by decide) rfl (by decide) ?_
    exact law_c731 C hX hbl hz hq hf hR (lv_sub hl [0, 1, 2, 3] rfl) kk
  rw [if_neg c21] at hf
  by_cases c22 : (xs (ix x3)) &&& 31 = 22
  · rw [if_pos c22] at hf
    refine x_tsIn (tgt := 774) hx hb dL_law_32 c22 (by decide) (by decide) rfl (by decide) ?_
    exact law_c774 C hX hbl hz hq hf hR (lv_sub hl [0, 1, 2, 3] rfl) kk
  rw [if_neg c22] at hf
  by_cases c23 : (xs (ix x3)) &&& 31 = 23
  · rw [if_pos c23] at hf
    refine x_tsIn (tgt := 787) hx hb dL_law_32 c23 (by decide) (by decide) rfl (by decide) ?_
    exact law_c787 C hX hbl hz hq hf hR (lv_sub hl [0, 1, 2, 3] rfl) kk
  rw [if_neg c23] at hf
  by_cases c24 : (xs (ix x3)) &&& 31 = 24
  · rw [if_pos c24] at hf
    refine x_tsIn (tgt := 800) hx hb dL_law_32 c24 (by decide) (by decide) rfl (by decide) ?_
    exact law_c800 C hX hbl hz hq hf hR (lv_sub hl [0, 1, 2, 3] rfl) kk
  rw [if_neg c24] at hf
  by_cases c25 : (xs (ix x3)) &&& 31 = 25
  · rw [if_pos c25] at hf
    refine x_tsIn (tgt := 833) hx hb dL_law_32 c25 (by decide) (by decide) rfl (by decide) ?_
    exact law_c833 C hX hbl hz hq hf hR (lv_sub hl [0, 1, 2, 3] rfl) kk
  rw [if_neg c25] at hf
  by_cases c26 : (xs (ix x3)) &&& 31 = 26
  · rw [if_pos c26] at hf
    refine x_tsIn (tgt := 846) hx hb dL_law_32 c26 (by decide) (by decide) rfl (by decide) ?_
    exact law_c846 C hX hbl hz hq hf hR (lv_sub hl [0, 1, 2, 3] rfl) kk
  rw [if_neg c26] at hf
  by_cases c27 : (xs (ix x3)) &&& 31 = 27
  · rw [if_pos c27] at hf
    refine x_tsIn (tgt := 859) hx hb dL_law_32 c27 (by decide) (by decide) rfl (by decide) ?_
    exact law_c859 C hX hbl hz hq hf hR (lv_sub hl [0, 1, 2, 3] rfl) kk
  rw [if_neg c27] at hf
  by_cases c28 : (xs (ix x3)) &&& 31 = 28
  · rw [if_pos c28] at hf
    refine x_tsIn (tgt := 882) hx hb dL_law_32 c28 (by decide) (by decide) rfl (by decide) ?_
    exact law_c882 C hX hbl hz hq hf hR (lv_sub hl [0, 1, 2, 3] rfl) kk
  rw [if_neg c28] at hf
  by_cases c29 : (xs (ix x3)) &&& 31 = 29
  · rw [if_pos c29] at hf
    refine x_tsIn (tgt := 905) hx hb dL_law_32 c29 (by decide) (by decide) rfl (by decide) ?_
    exact law_c905 C hX hbl hz hq hf hR (lv_sub hl [0, 1, 2, 3] rfl) kk
  rw [if_neg c29] at hf
  refine lv_tableOut (tgt := 928) hx hb dL_law_32 (by show (xs (ix x3) &&& 31).toInt < 0 ∨ (29 : Int) < (xs (ix x3) &&& 31).toInt; have nc0 := lv_neT c0 (show (0 : Int32).toInt = 0 by decide); have nc1 := lv_neT c1 (show (1 : Int32).toInt = 1 by decide); have nc2 := lv_neT c2 (show (2 : Int32).toInt = 2 by decide); have nc3 := lv_neT c3 (show (3 : Int32).toInt = 3 by decide); have nc4 := lv_neT c4 (show (4 : Int32).toInt = 4 by decide); have nc5 := lv_neT c5 (show (5 : Int32).toInt = 5 by decide); have nc6 := lv_neT c6 (show (6 : Int32).toInt = 6 by decide); have nc7 := lv_neT c7 (show (7 : Int32).toInt = 7 by decide); have nc8 := lv_neT c8 (show (8 : Int32).toInt = 8 by decide); have nc9 := lv_neT c9 (show (9 : Int32).toInt = 9 by decide); have nc10 := lv_neT c10 (show (10 : Int32).toInt = 10 by decide); have nc11 := lv_neT c11 (show (11 : Int32).toInt = 11 by decide); have nc12 := lv_neT c12 (show (12 : Int32).toInt = 12 by decide); have nc13 := lv_neT c13 (show (13 : Int32).toInt = 13 by decide); have nc14 := lv_neT c14 (show (14 : Int32).toInt = 14 by decide); have nc15 := lv_neT c15 (show (15 : Int32).toInt = 15 by decide); have nc16 := lv_neT c16 (show (16 : Int32).toInt = 16 by decide); have nc17 := lv_neT c17 (show (17 : Int32).toInt = 17 by decide); have nc18 := lv_neT c18 (show (18 : Int32).toInt = 18 by decide); have nc19 := lv_neT c19 (show (19 : Int32).toInt = 19 by decide); have nc20 := lv_neT c20 (show (20 : Int32).toInt = 20 by decide); have nc21 := lv_neT c21 (show (21 : Int32).toInt = 21 by decide); have nc22 := lv_neT c22 (show (22 : Int32).toInt = 22 by decide); have nc23 := lv_neT c23 (show (23 : Int32).toInt = 23 by decide); have nc24 := lv_neT c24 (show (24 : Int32).toInt = 24 by decide); have nc25 := lv_neT c25 (show (25 : Int32).toInt = 25 by decide); have nc26 := lv_neT c26 (show (26 : Int32).toInt = 26 by decide); have nc27 := lv_neT c27 (show (27 : Int32).toInt = 27 by decide); have nc28 := lv_neT c28 (show (28 : Int32).toInt = 28 by decide); have nc29 := lv_neT c29 (show (29 : Int32).toInt = 29 by decide); omega) (by decide) ?_
  exact law_c928 C hX hbl hz hq hf hR (lv_sub hl [0, 1, 2, 3] rfl) kk
set_option maxHeartbeats 4000000 in
set_option maxRecDepth 100000 in
theorem law_done {p : Program} {l : Launch} {e : Env} {s : State} {m : MethodId} {below : List Frame} {meth : Method} {c : Code} {G : GT} {b L : Nat} {xs : Nat → Int32} (C : Cx G p s m c #[Value.ref b] RL cL_law 4) (hX : va_X b L xs s G.2.2.2.2) (hbl : b < G.2.2.2.2.size) (hz : G.2.2.2.2.size = G.2.2.2.1) (hr : meth.sig.returnType = ret) (hlk : meth.locks = false) (hs : s.heap.size = G.2.2.2.1) {mi : Mem} {w sp rw : Nat} {x3 : Int32} (hgo : Int32.ofNat L - 4 < x3) {H : Heap} {locs : List Loc} {ls : Array Slot} (hR : RM G S0 (mr0 w sp rw) mi H locs) (hl : lv_has ls 4 [(0, .ref b), (1, .ref (G.2.2.2.1 + 0)), (2, .ref (G.2.2.2.1 + 206)), (3, .int x3)]) : W p l e room_1 s m #[Value.ref b] below meth c H locs 227 8058 (lw_Z below #[Value.ref b] s) (F0 m 18 ls []) := by
  have hx := C.1
  have hb := C.2.1
  have hbA : ¬ (fun q => G.2.2.2.1 ≤ q) b := by show ¬ _ ≤ _; rw [← hz]; exact Nat.not_le.mpr hbl
  refine lv_iload_n hx hb dL_law_18 rfl (lv_at hl 3 rfl) ?_
  refine lv_aload_n hx hb dL_law_19 rfl (lv_at hl 0 rfl) ?_
  refine va_slen hx hb hX hbl hbA (RM.S hR hz) dL_law_20 ?_
  refine lv_iconst (v := 4) hx hb dL_law_21 (by decide) ?_
  refine lv_isub hx hb dL_law_22 ?_
  refine lv_icmp_gt (tgt := 934) hx hb dL_law_23 (by decide) (fun _ => ?_) (fun c => absurd hgo c)
  refine lv_iconst (v := 1) hx hb dL_law_934 (by decide) ?_
  exact law_end C hR hs hr hlk dL_law_935
