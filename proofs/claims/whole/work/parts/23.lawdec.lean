theorem dL_law_0 : decode cL_law 0 = .ok (.new 7, 3) := by decide +kernel
theorem dL_law_3 : decode cL_law 3 = .ok (.dup, 1) := by decide +kernel
theorem dL_law_4 : decode cL_law 4 = .ok (.invokespecial 9, 3) := by decide +kernel
theorem dL_law_7 : decode cL_law 7 = .ok (.astore_n 1, 1) := by decide +kernel
theorem dL_law_8 : decode cL_law 8 = .ok (.new 10, 3) := by decide +kernel
theorem dL_law_11 : decode cL_law 11 = .ok (.dup, 1) := by decide +kernel
theorem dL_law_12 : decode cL_law 12 = .ok (.invokespecial 12, 3) := by decide +kernel
theorem dL_law_15 : decode cL_law 15 = .ok (.astore_n 2, 1) := by decide +kernel
theorem dL_law_16 : decode cL_law 16 = .ok (.iconst 0, 1) := by decide +kernel
theorem dL_law_17 : decode cL_law 17 = .ok (.istore_n 3, 1) := by decide +kernel
theorem dL_law_18 : decode cL_law 18 = .ok (.iload_n 3, 1) := by decide +kernel
theorem dL_law_19 : decode cL_law 19 = .ok (.aload_n 0, 1) := by decide +kernel
theorem dL_law_20 : decode cL_law 20 = .ok (.arraylength, 1) := by decide +kernel
theorem dL_law_21 : decode cL_law 21 = .ok (.iconst 5, 1) := by decide +kernel
theorem dL_law_22 : decode cL_law 22 = .ok (.isub, 1) := by decide +kernel
theorem dL_law_23 : decode cL_law 23 = .ok (.if_icmp .gt 979, 3) := by decide +kernel
theorem dL_law_26 : decode cL_law 26 = .ok (.aload_n 0, 1) := by decide +kernel
theorem dL_law_27 : decode cL_law 27 = .ok (.iload_n 3, 1) := by decide +kernel
theorem dL_law_28 : decode cL_law 28 = .ok (.iaload, 1) := by decide +kernel
theorem dL_law_29 : decode cL_law 29 = .ok (.bipush 31, 2) := by decide +kernel
theorem dL_law_31 : decode cL_law 31 = .ok (.iand, 1) := by decide +kernel
theorem dL_law_32 : decode cL_law 32 = .ok (.tableswitch 964 0 29 #[136, 189, 238, 261, 324, 337, 350, 383, 436, 469, 482, 525, 538, 571, 584, 607, 640, 673, 696, 719, 762, 775, 798, 811, 834, 858, 881, 904, 927, 950], 136) := by decide +kernel
theorem dL_law_168 : decode cL_law 168 = .ok (.aload_n 1, 1) := by decide +kernel
theorem dL_law_169 : decode cL_law 169 = .ok (.aload_n 0, 1) := by decide +kernel
theorem dL_law_170 : decode cL_law 170 = .ok (.iload_n 3, 1) := by decide +kernel
theorem dL_law_171 : decode cL_law 171 = .ok (.iconst 1, 1) := by decide +kernel
theorem dL_law_172 : decode cL_law 172 = .ok (.iadd, 1) := by decide +kernel
theorem dL_law_173 : decode cL_law 173 = .ok (.iaload, 1) := by decide +kernel
theorem dL_law_174 : decode cL_law 174 = .ok (.aload_n 0, 1) := by decide +kernel
theorem dL_law_175 : decode cL_law 175 = .ok (.iload_n 3, 1) := by decide +kernel
theorem dL_law_176 : decode cL_law 176 = .ok (.iconst 2, 1) := by decide +kernel
theorem dL_law_177 : decode cL_law 177 = .ok (.iadd, 1) := by decide +kernel
theorem dL_law_178 : decode cL_law 178 = .ok (.iaload, 1) := by decide +kernel
theorem dL_law_179 : decode cL_law 179 = .ok (.aload_n 0, 1) := by decide +kernel
theorem dL_law_180 : decode cL_law 180 = .ok (.iload_n 3, 1) := by decide +kernel
theorem dL_law_181 : decode cL_law 181 = .ok (.iconst 3, 1) := by decide +kernel
theorem dL_law_182 : decode cL_law 182 = .ok (.iadd, 1) := by decide +kernel
theorem dL_law_183 : decode cL_law 183 = .ok (.iaload, 1) := by decide +kernel
theorem dL_law_184 : decode cL_law 184 = .ok (.aload_n 0, 1) := by decide +kernel
theorem dL_law_185 : decode cL_law 185 = .ok (.iload_n 3, 1) := by decide +kernel
theorem dL_law_186 : decode cL_law 186 = .ok (.iconst 4, 1) := by decide +kernel
theorem dL_law_187 : decode cL_law 187 = .ok (.iadd, 1) := by decide +kernel
theorem dL_law_188 : decode cL_law 188 = .ok (.iaload, 1) := by decide +kernel
theorem dL_law_189 : decode cL_law 189 = .ok (.invokevirtual 13, 3) := by decide +kernel
theorem dL_law_192 : decode cL_law 192 = .ok (.aload_n 2, 1) := by decide +kernel
theorem dL_law_193 : decode cL_law 193 = .ok (.aload_n 0, 1) := by decide +kernel
theorem dL_law_194 : decode cL_law 194 = .ok (.iload_n 3, 1) := by decide +kernel
theorem dL_law_195 : decode cL_law 195 = .ok (.iconst 1, 1) := by decide +kernel
theorem dL_law_196 : decode cL_law 196 = .ok (.iadd, 1) := by decide +kernel
theorem dL_law_197 : decode cL_law 197 = .ok (.iaload, 1) := by decide +kernel
theorem dL_law_198 : decode cL_law 198 = .ok (.aload_n 0, 1) := by decide +kernel
theorem dL_law_199 : decode cL_law 199 = .ok (.iload_n 3, 1) := by decide +kernel
theorem dL_law_200 : decode cL_law 200 = .ok (.iconst 2, 1) := by decide +kernel
theorem dL_law_201 : decode cL_law 201 = .ok (.iadd, 1) := by decide +kernel
theorem dL_law_202 : decode cL_law 202 = .ok (.iaload, 1) := by decide +kernel
theorem dL_law_203 : decode cL_law 203 = .ok (.aload_n 0, 1) := by decide +kernel
theorem dL_law_204 : decode cL_law 204 = .ok (.iload_n 3, 1) := by decide +kernel
theorem dL_law_205 : decode cL_law 205 = .ok (.iconst 3, 1) := by decide +kernel
theorem dL_law_206 : decode cL_law 206 = .ok (.iadd, 1) := by decide +kernel
theorem dL_law_207 : decode cL_law 207 = .ok (.iaload, 1) := by decide +kernel
theorem dL_law_208 : decode cL_law 208 = .ok (.aload_n 0, 1) := by decide +kernel
theorem dL_law_209 : decode cL_law 209 = .ok (.iload_n 3, 1) := by decide +kernel
theorem dL_law_210 : decode cL_law 210 = .ok (.iconst 4, 1) := by decide +kernel
theorem dL_law_211 : decode cL_law 211 = .ok (.iadd, 1) := by decide +kernel
theorem dL_law_212 : decode cL_law 212 = .ok (.iaload, 1) := by decide +kernel
theorem dL_law_213 : decode cL_law 213 = .ok (.invokevirtual 17, 3) := by decide +kernel
theorem dL_law_216 : decode cL_law 216 = .ok (.if_icmp .eq 780, 3) := by decide +kernel
theorem dL_law_219 : decode cL_law 219 = .ok (.iconst 0, 1) := by decide +kernel
theorem dL_law_220 : decode cL_law 220 = .ok (.ireturn, 1) := by decide +kernel
theorem dL_law_221 : decode cL_law 221 = .ok (.aload_n 1, 1) := by decide +kernel
theorem dL_law_222 : decode cL_law 222 = .ok (.aload_n 0, 1) := by decide +kernel
theorem dL_law_223 : decode cL_law 223 = .ok (.iload_n 3, 1) := by decide +kernel
theorem dL_law_224 : decode cL_law 224 = .ok (.iconst 1, 1) := by decide +kernel
theorem dL_law_225 : decode cL_law 225 = .ok (.iadd, 1) := by decide +kernel
theorem dL_law_226 : decode cL_law 226 = .ok (.iaload, 1) := by decide +kernel
theorem dL_law_227 : decode cL_law 227 = .ok (.aload_n 0, 1) := by decide +kernel
theorem dL_law_228 : decode cL_law 228 = .ok (.iload_n 3, 1) := by decide +kernel
theorem dL_law_229 : decode cL_law 229 = .ok (.iconst 2, 1) := by decide +kernel
theorem dL_law_230 : decode cL_law 230 = .ok (.iadd, 1) := by decide +kernel
theorem dL_law_231 : decode cL_law 231 = .ok (.iaload, 1) := by decide +kernel
theorem dL_law_232 : decode cL_law 232 = .ok (.ifCond .eq 7, 3) := by decide +kernel
theorem dL_law_235 : decode cL_law 235 = .ok (.iconst 1, 1) := by decide +kernel
theorem dL_law_236 : decode cL_law 236 = .ok (.goto 4, 3) := by decide +kernel
theorem dL_law_239 : decode cL_law 239 = .ok (.iconst 0, 1) := by decide +kernel
theorem dL_law_240 : decode cL_law 240 = .ok (.invokevirtual 18, 3) := by decide +kernel
theorem dL_law_243 : decode cL_law 243 = .ok (.aload_n 2, 1) := by decide +kernel
theorem dL_law_244 : decode cL_law 244 = .ok (.aload_n 0, 1) := by decide +kernel
theorem dL_law_245 : decode cL_law 245 = .ok (.iload_n 3, 1) := by decide +kernel
theorem dL_law_246 : decode cL_law 246 = .ok (.iconst 1, 1) := by decide +kernel
theorem dL_law_247 : decode cL_law 247 = .ok (.iadd, 1) := by decide +kernel
theorem dL_law_248 : decode cL_law 248 = .ok (.iaload, 1) := by decide +kernel
theorem dL_law_249 : decode cL_law 249 = .ok (.aload_n 0, 1) := by decide +kernel
theorem dL_law_250 : decode cL_law 250 = .ok (.iload_n 3, 1) := by decide +kernel
theorem dL_law_251 : decode cL_law 251 = .ok (.iconst 2, 1) := by decide +kernel
theorem dL_law_252 : decode cL_law 252 = .ok (.iadd, 1) := by decide +kernel
theorem dL_law_253 : decode cL_law 253 = .ok (.iaload, 1) := by decide +kernel
theorem dL_law_254 : decode cL_law 254 = .ok (.ifCond .eq 7, 3) := by decide +kernel
theorem dL_law_257 : decode cL_law 257 = .ok (.iconst 1, 1) := by decide +kernel
theorem dL_law_258 : decode cL_law 258 = .ok (.goto 4, 3) := by decide +kernel
theorem dL_law_261 : decode cL_law 261 = .ok (.iconst 0, 1) := by decide +kernel
theorem dL_law_262 : decode cL_law 262 = .ok (.invokevirtual 22, 3) := by decide +kernel
theorem dL_law_265 : decode cL_law 265 = .ok (.if_icmp .eq 731, 3) := by decide +kernel
theorem dL_law_268 : decode cL_law 268 = .ok (.iconst 0, 1) := by decide +kernel
theorem dL_law_269 : decode cL_law 269 = .ok (.ireturn, 1) := by decide +kernel
theorem dL_law_270 : decode cL_law 270 = .ok (.aload_n 1, 1) := by decide +kernel
theorem dL_law_271 : decode cL_law 271 = .ok (.aload_n 0, 1) := by decide +kernel
theorem dL_law_272 : decode cL_law 272 = .ok (.iload_n 3, 1) := by decide +kernel
theorem dL_law_273 : decode cL_law 273 = .ok (.iconst 1, 1) := by decide +kernel
theorem dL_law_274 : decode cL_law 274 = .ok (.iadd, 1) := by decide +kernel
theorem dL_law_275 : decode cL_law 275 = .ok (.iaload, 1) := by decide +kernel
theorem dL_law_276 : decode cL_law 276 = .ok (.invokevirtual 23, 3) := by decide +kernel
theorem dL_law_279 : decode cL_law 279 = .ok (.aload_n 2, 1) := by decide +kernel
theorem dL_law_280 : decode cL_law 280 = .ok (.aload_n 0, 1) := by decide +kernel
theorem dL_law_281 : decode cL_law 281 = .ok (.iload_n 3, 1) := by decide +kernel
theorem dL_law_282 : decode cL_law 282 = .ok (.iconst 1, 1) := by decide +kernel
theorem dL_law_283 : decode cL_law 283 = .ok (.iadd, 1) := by decide +kernel
theorem dL_law_284 : decode cL_law 284 = .ok (.iaload, 1) := by decide +kernel
theorem dL_law_285 : decode cL_law 285 = .ok (.invokevirtual 27, 3) := by decide +kernel
theorem dL_law_288 : decode cL_law 288 = .ok (.if_icmp .eq 708, 3) := by decide +kernel
theorem dL_law_291 : decode cL_law 291 = .ok (.iconst 0, 1) := by decide +kernel
theorem dL_law_292 : decode cL_law 292 = .ok (.ireturn, 1) := by decide +kernel
theorem dL_law_293 : decode cL_law 293 = .ok (.aload_n 1, 1) := by decide +kernel
theorem dL_law_294 : decode cL_law 294 = .ok (.aload_n 0, 1) := by decide +kernel
theorem dL_law_295 : decode cL_law 295 = .ok (.iload_n 3, 1) := by decide +kernel
theorem dL_law_296 : decode cL_law 296 = .ok (.iconst 1, 1) := by decide +kernel
theorem dL_law_297 : decode cL_law 297 = .ok (.iadd, 1) := by decide +kernel
theorem dL_law_298 : decode cL_law 298 = .ok (.iaload, 1) := by decide +kernel
theorem dL_law_299 : decode cL_law 299 = .ok (.i2l, 1) := by decide +kernel
theorem dL_law_300 : decode cL_law 300 = .ok (.bipush 32, 2) := by decide +kernel
theorem dL_law_302 : decode cL_law 302 = .ok (.lshl, 1) := by decide +kernel
theorem dL_law_303 : decode cL_law 303 = .ok (.aload_n 0, 1) := by decide +kernel
theorem dL_law_304 : decode cL_law 304 = .ok (.iload_n 3, 1) := by decide +kernel
theorem dL_law_305 : decode cL_law 305 = .ok (.iconst 2, 1) := by decide +kernel
theorem dL_law_306 : decode cL_law 306 = .ok (.iadd, 1) := by decide +kernel
theorem dL_law_307 : decode cL_law 307 = .ok (.iaload, 1) := by decide +kernel
theorem dL_law_308 : decode cL_law 308 = .ok (.i2l, 1) := by decide +kernel
theorem dL_law_309 : decode cL_law 309 = .ok (.ldc2_w 28, 3) := by decide +kernel
theorem dL_law_312 : decode cL_law 312 = .ok (.land, 1) := by decide +kernel
theorem dL_law_313 : decode cL_law 313 = .ok (.lor, 1) := by decide +kernel
theorem dL_law_314 : decode cL_law 314 = .ok (.aload_n 0, 1) := by decide +kernel
theorem dL_law_315 : decode cL_law 315 = .ok (.iload_n 3, 1) := by decide +kernel
theorem dL_law_316 : decode cL_law 316 = .ok (.iconst 3, 1) := by decide +kernel
theorem dL_law_317 : decode cL_law 317 = .ok (.iadd, 1) := by decide +kernel
theorem dL_law_318 : decode cL_law 318 = .ok (.iaload, 1) := by decide +kernel
theorem dL_law_319 : decode cL_law 319 = .ok (.invokevirtual 30, 3) := by decide +kernel
theorem dL_law_322 : decode cL_law 322 = .ok (.aload_n 2, 1) := by decide +kernel
theorem dL_law_323 : decode cL_law 323 = .ok (.aload_n 0, 1) := by decide +kernel
theorem dL_law_324 : decode cL_law 324 = .ok (.iload_n 3, 1) := by decide +kernel
theorem dL_law_325 : decode cL_law 325 = .ok (.iconst 1, 1) := by decide +kernel
theorem dL_law_326 : decode cL_law 326 = .ok (.iadd, 1) := by decide +kernel
theorem dL_law_327 : decode cL_law 327 = .ok (.iaload, 1) := by decide +kernel
theorem dL_law_328 : decode cL_law 328 = .ok (.i2l, 1) := by decide +kernel
theorem dL_law_329 : decode cL_law 329 = .ok (.bipush 32, 2) := by decide +kernel
theorem dL_law_331 : decode cL_law 331 = .ok (.lshl, 1) := by decide +kernel
theorem dL_law_332 : decode cL_law 332 = .ok (.aload_n 0, 1) := by decide +kernel
theorem dL_law_333 : decode cL_law 333 = .ok (.iload_n 3, 1) := by decide +kernel
theorem dL_law_334 : decode cL_law 334 = .ok (.iconst 2, 1) := by decide +kernel
theorem dL_law_335 : decode cL_law 335 = .ok (.iadd, 1) := by decide +kernel
theorem dL_law_336 : decode cL_law 336 = .ok (.iaload, 1) := by decide +kernel
theorem dL_law_337 : decode cL_law 337 = .ok (.i2l, 1) := by decide +kernel
theorem dL_law_338 : decode cL_law 338 = .ok (.ldc2_w 28, 3) := by decide +kernel
theorem dL_law_341 : decode cL_law 341 = .ok (.land, 1) := by decide +kernel
theorem dL_law_342 : decode cL_law 342 = .ok (.lor, 1) := by decide +kernel
theorem dL_law_343 : decode cL_law 343 = .ok (.aload_n 0, 1) := by decide +kernel
theorem dL_law_344 : decode cL_law 344 = .ok (.iload_n 3, 1) := by decide +kernel
theorem dL_law_345 : decode cL_law 345 = .ok (.iconst 3, 1) := by decide +kernel
theorem dL_law_346 : decode cL_law 346 = .ok (.iadd, 1) := by decide +kernel
theorem dL_law_347 : decode cL_law 347 = .ok (.iaload, 1) := by decide +kernel
theorem dL_law_348 : decode cL_law 348 = .ok (.invokevirtual 34, 3) := by decide +kernel
theorem dL_law_351 : decode cL_law 351 = .ok (.if_icmp .eq 645, 3) := by decide +kernel
theorem dL_law_354 : decode cL_law 354 = .ok (.iconst 0, 1) := by decide +kernel
theorem dL_law_355 : decode cL_law 355 = .ok (.ireturn, 1) := by decide +kernel
theorem dL_law_356 : decode cL_law 356 = .ok (.aload_n 1, 1) := by decide +kernel
theorem dL_law_357 : decode cL_law 357 = .ok (.invokevirtual 35, 3) := by decide +kernel
theorem dL_law_360 : decode cL_law 360 = .ok (.aload_n 2, 1) := by decide +kernel
theorem dL_law_361 : decode cL_law 361 = .ok (.invokevirtual 39, 3) := by decide +kernel
theorem dL_law_364 : decode cL_law 364 = .ok (.if_icmp .eq 632, 3) := by decide +kernel
theorem dL_law_367 : decode cL_law 367 = .ok (.iconst 0, 1) := by decide +kernel
theorem dL_law_368 : decode cL_law 368 = .ok (.ireturn, 1) := by decide +kernel
theorem dL_law_369 : decode cL_law 369 = .ok (.aload_n 1, 1) := by decide +kernel
theorem dL_law_370 : decode cL_law 370 = .ok (.invokevirtual 40, 3) := by decide +kernel
theorem dL_law_373 : decode cL_law 373 = .ok (.aload_n 2, 1) := by decide +kernel
theorem dL_law_374 : decode cL_law 374 = .ok (.invokevirtual 43, 3) := by decide +kernel
theorem dL_law_377 : decode cL_law 377 = .ok (.if_icmp .eq 619, 3) := by decide +kernel
theorem dL_law_380 : decode cL_law 380 = .ok (.iconst 0, 1) := by decide +kernel
theorem dL_law_381 : decode cL_law 381 = .ok (.ireturn, 1) := by decide +kernel
theorem dL_law_382 : decode cL_law 382 = .ok (.aload_n 1, 1) := by decide +kernel
theorem dL_law_383 : decode cL_law 383 = .ok (.aload_n 0, 1) := by decide +kernel
theorem dL_law_384 : decode cL_law 384 = .ok (.iload_n 3, 1) := by decide +kernel
theorem dL_law_385 : decode cL_law 385 = .ok (.iconst 1, 1) := by decide +kernel
theorem dL_law_386 : decode cL_law 386 = .ok (.iadd, 1) := by decide +kernel
theorem dL_law_387 : decode cL_law 387 = .ok (.iaload, 1) := by decide +kernel
theorem dL_law_388 : decode cL_law 388 = .ok (.aload_n 0, 1) := by decide +kernel
theorem dL_law_389 : decode cL_law 389 = .ok (.iload_n 3, 1) := by decide +kernel
theorem dL_law_390 : decode cL_law 390 = .ok (.iconst 2, 1) := by decide +kernel
theorem dL_law_391 : decode cL_law 391 = .ok (.iadd, 1) := by decide +kernel
theorem dL_law_392 : decode cL_law 392 = .ok (.iaload, 1) := by decide +kernel
theorem dL_law_393 : decode cL_law 393 = .ok (.invokevirtual 44, 3) := by decide +kernel
theorem dL_law_396 : decode cL_law 396 = .ok (.aload_n 2, 1) := by decide +kernel
theorem dL_law_397 : decode cL_law 397 = .ok (.aload_n 0, 1) := by decide +kernel
theorem dL_law_398 : decode cL_law 398 = .ok (.iload_n 3, 1) := by decide +kernel
theorem dL_law_399 : decode cL_law 399 = .ok (.iconst 1, 1) := by decide +kernel
theorem dL_law_400 : decode cL_law 400 = .ok (.iadd, 1) := by decide +kernel
theorem dL_law_401 : decode cL_law 401 = .ok (.iaload, 1) := by decide +kernel
theorem dL_law_402 : decode cL_law 402 = .ok (.aload_n 0, 1) := by decide +kernel
theorem dL_law_403 : decode cL_law 403 = .ok (.iload_n 3, 1) := by decide +kernel
theorem dL_law_404 : decode cL_law 404 = .ok (.iconst 2, 1) := by decide +kernel
theorem dL_law_405 : decode cL_law 405 = .ok (.iadd, 1) := by decide +kernel
theorem dL_law_406 : decode cL_law 406 = .ok (.iaload, 1) := by decide +kernel
theorem dL_law_407 : decode cL_law 407 = .ok (.invokevirtual 48, 3) := by decide +kernel
theorem dL_law_410 : decode cL_law 410 = .ok (.if_icmp .eq 586, 3) := by decide +kernel
theorem dL_law_413 : decode cL_law 413 = .ok (.iconst 0, 1) := by decide +kernel
theorem dL_law_414 : decode cL_law 414 = .ok (.ireturn, 1) := by decide +kernel
theorem dL_law_415 : decode cL_law 415 = .ok (.aload_n 1, 1) := by decide +kernel
theorem dL_law_416 : decode cL_law 416 = .ok (.aload_n 0, 1) := by decide +kernel
theorem dL_law_417 : decode cL_law 417 = .ok (.iload_n 3, 1) := by decide +kernel
theorem dL_law_418 : decode cL_law 418 = .ok (.iconst 1, 1) := by decide +kernel
theorem dL_law_419 : decode cL_law 419 = .ok (.iadd, 1) := by decide +kernel
theorem dL_law_420 : decode cL_law 420 = .ok (.iaload, 1) := by decide +kernel
theorem dL_law_421 : decode cL_law 421 = .ok (.aload_n 0, 1) := by decide +kernel
theorem dL_law_422 : decode cL_law 422 = .ok (.iload_n 3, 1) := by decide +kernel
theorem dL_law_423 : decode cL_law 423 = .ok (.iconst 2, 1) := by decide +kernel
theorem dL_law_424 : decode cL_law 424 = .ok (.iadd, 1) := by decide +kernel
theorem dL_law_425 : decode cL_law 425 = .ok (.iaload, 1) := by decide +kernel
theorem dL_law_426 : decode cL_law 426 = .ok (.aload_n 0, 1) := by decide +kernel
theorem dL_law_427 : decode cL_law 427 = .ok (.iload_n 3, 1) := by decide +kernel
theorem dL_law_428 : decode cL_law 428 = .ok (.iconst 3, 1) := by decide +kernel
theorem dL_law_429 : decode cL_law 429 = .ok (.iadd, 1) := by decide +kernel
theorem dL_law_430 : decode cL_law 430 = .ok (.iaload, 1) := by decide +kernel
theorem dL_law_431 : decode cL_law 431 = .ok (.aload_n 0, 1) := by decide +kernel
theorem dL_law_432 : decode cL_law 432 = .ok (.iload_n 3, 1) := by decide +kernel
theorem dL_law_433 : decode cL_law 433 = .ok (.iconst 4, 1) := by decide +kernel
theorem dL_law_434 : decode cL_law 434 = .ok (.iadd, 1) := by decide +kernel
theorem dL_law_435 : decode cL_law 435 = .ok (.iaload, 1) := by decide +kernel
theorem dL_law_436 : decode cL_law 436 = .ok (.invokevirtual 49, 3) := by decide +kernel
theorem dL_law_439 : decode cL_law 439 = .ok (.aload_n 2, 1) := by decide +kernel
theorem dL_law_440 : decode cL_law 440 = .ok (.aload_n 0, 1) := by decide +kernel
theorem dL_law_441 : decode cL_law 441 = .ok (.iload_n 3, 1) := by decide +kernel
theorem dL_law_442 : decode cL_law 442 = .ok (.iconst 1, 1) := by decide +kernel
theorem dL_law_443 : decode cL_law 443 = .ok (.iadd, 1) := by decide +kernel
theorem dL_law_444 : decode cL_law 444 = .ok (.iaload, 1) := by decide +kernel
theorem dL_law_445 : decode cL_law 445 = .ok (.aload_n 0, 1) := by decide +kernel
theorem dL_law_446 : decode cL_law 446 = .ok (.iload_n 3, 1) := by decide +kernel
theorem dL_law_447 : decode cL_law 447 = .ok (.iconst 2, 1) := by decide +kernel
theorem dL_law_448 : decode cL_law 448 = .ok (.iadd, 1) := by decide +kernel
theorem dL_law_449 : decode cL_law 449 = .ok (.iaload, 1) := by decide +kernel
theorem dL_law_450 : decode cL_law 450 = .ok (.aload_n 0, 1) := by decide +kernel
theorem dL_law_451 : decode cL_law 451 = .ok (.iload_n 3, 1) := by decide +kernel
theorem dL_law_452 : decode cL_law 452 = .ok (.iconst 3, 1) := by decide +kernel
theorem dL_law_453 : decode cL_law 453 = .ok (.iadd, 1) := by decide +kernel
theorem dL_law_454 : decode cL_law 454 = .ok (.iaload, 1) := by decide +kernel
theorem dL_law_455 : decode cL_law 455 = .ok (.aload_n 0, 1) := by decide +kernel
theorem dL_law_456 : decode cL_law 456 = .ok (.iload_n 3, 1) := by decide +kernel
theorem dL_law_457 : decode cL_law 457 = .ok (.iconst 4, 1) := by decide +kernel
theorem dL_law_458 : decode cL_law 458 = .ok (.iadd, 1) := by decide +kernel
theorem dL_law_459 : decode cL_law 459 = .ok (.iaload, 1) := by decide +kernel
theorem dL_law_460 : decode cL_law 460 = .ok (.invokevirtual 52, 3) := by decide +kernel
theorem dL_law_463 : decode cL_law 463 = .ok (.if_icmp .eq 533, 3) := by decide +kernel
theorem dL_law_466 : decode cL_law 466 = .ok (.iconst 0, 1) := by decide +kernel
theorem dL_law_467 : decode cL_law 467 = .ok (.ireturn, 1) := by decide +kernel
theorem dL_law_468 : decode cL_law 468 = .ok (.aload_n 1, 1) := by decide +kernel
theorem dL_law_469 : decode cL_law 469 = .ok (.aload_n 0, 1) := by decide +kernel
theorem dL_law_470 : decode cL_law 470 = .ok (.iload_n 3, 1) := by decide +kernel
theorem dL_law_471 : decode cL_law 471 = .ok (.iconst 1, 1) := by decide +kernel
theorem dL_law_472 : decode cL_law 472 = .ok (.iadd, 1) := by decide +kernel
theorem dL_law_473 : decode cL_law 473 = .ok (.iaload, 1) := by decide +kernel
theorem dL_law_474 : decode cL_law 474 = .ok (.aload_n 0, 1) := by decide +kernel
theorem dL_law_475 : decode cL_law 475 = .ok (.iload_n 3, 1) := by decide +kernel
theorem dL_law_476 : decode cL_law 476 = .ok (.iconst 2, 1) := by decide +kernel
theorem dL_law_477 : decode cL_law 477 = .ok (.iadd, 1) := by decide +kernel
theorem dL_law_478 : decode cL_law 478 = .ok (.iaload, 1) := by decide +kernel
theorem dL_law_479 : decode cL_law 479 = .ok (.invokevirtual 53, 3) := by decide +kernel
theorem dL_law_482 : decode cL_law 482 = .ok (.aload_n 2, 1) := by decide +kernel
theorem dL_law_483 : decode cL_law 483 = .ok (.aload_n 0, 1) := by decide +kernel
theorem dL_law_484 : decode cL_law 484 = .ok (.iload_n 3, 1) := by decide +kernel
theorem dL_law_485 : decode cL_law 485 = .ok (.iconst 1, 1) := by decide +kernel
theorem dL_law_486 : decode cL_law 486 = .ok (.iadd, 1) := by decide +kernel
theorem dL_law_487 : decode cL_law 487 = .ok (.iaload, 1) := by decide +kernel
theorem dL_law_488 : decode cL_law 488 = .ok (.aload_n 0, 1) := by decide +kernel
theorem dL_law_489 : decode cL_law 489 = .ok (.iload_n 3, 1) := by decide +kernel
theorem dL_law_490 : decode cL_law 490 = .ok (.iconst 2, 1) := by decide +kernel
theorem dL_law_491 : decode cL_law 491 = .ok (.iadd, 1) := by decide +kernel
theorem dL_law_492 : decode cL_law 492 = .ok (.iaload, 1) := by decide +kernel
theorem dL_law_493 : decode cL_law 493 = .ok (.invokevirtual 56, 3) := by decide +kernel
theorem dL_law_496 : decode cL_law 496 = .ok (.if_icmp .eq 500, 3) := by decide +kernel
theorem dL_law_499 : decode cL_law 499 = .ok (.iconst 0, 1) := by decide +kernel
theorem dL_law_500 : decode cL_law 500 = .ok (.ireturn, 1) := by decide +kernel
theorem dL_law_501 : decode cL_law 501 = .ok (.aload_n 1, 1) := by decide +kernel
theorem dL_law_502 : decode cL_law 502 = .ok (.invokevirtual 57, 3) := by decide +kernel
theorem dL_law_505 : decode cL_law 505 = .ok (.aload_n 2, 1) := by decide +kernel
theorem dL_law_506 : decode cL_law 506 = .ok (.invokevirtual 60, 3) := by decide +kernel
theorem dL_law_509 : decode cL_law 509 = .ok (.if_icmp .eq 487, 3) := by decide +kernel
theorem dL_law_512 : decode cL_law 512 = .ok (.iconst 0, 1) := by decide +kernel
theorem dL_law_513 : decode cL_law 513 = .ok (.ireturn, 1) := by decide +kernel
theorem dL_law_514 : decode cL_law 514 = .ok (.aload_n 1, 1) := by decide +kernel
theorem dL_law_515 : decode cL_law 515 = .ok (.aload_n 0, 1) := by decide +kernel
theorem dL_law_516 : decode cL_law 516 = .ok (.iload_n 3, 1) := by decide +kernel
theorem dL_law_517 : decode cL_law 517 = .ok (.iconst 1, 1) := by decide +kernel
theorem dL_law_518 : decode cL_law 518 = .ok (.iadd, 1) := by decide +kernel
theorem dL_law_519 : decode cL_law 519 = .ok (.iaload, 1) := by decide +kernel
theorem dL_law_520 : decode cL_law 520 = .ok (.aload_n 0, 1) := by decide +kernel
theorem dL_law_521 : decode cL_law 521 = .ok (.iload_n 3, 1) := by decide +kernel
theorem dL_law_522 : decode cL_law 522 = .ok (.iconst 2, 1) := by decide +kernel
theorem dL_law_523 : decode cL_law 523 = .ok (.iadd, 1) := by decide +kernel
theorem dL_law_524 : decode cL_law 524 = .ok (.iaload, 1) := by decide +kernel
theorem dL_law_525 : decode cL_law 525 = .ok (.aload_n 0, 1) := by decide +kernel
theorem dL_law_526 : decode cL_law 526 = .ok (.iload_n 3, 1) := by decide +kernel
theorem dL_law_527 : decode cL_law 527 = .ok (.iconst 3, 1) := by decide +kernel
theorem dL_law_528 : decode cL_law 528 = .ok (.iadd, 1) := by decide +kernel
theorem dL_law_529 : decode cL_law 529 = .ok (.iaload, 1) := by decide +kernel
theorem dL_law_530 : decode cL_law 530 = .ok (.invokevirtual 61, 3) := by decide +kernel
theorem dL_law_533 : decode cL_law 533 = .ok (.aload_n 2, 1) := by decide +kernel
theorem dL_law_534 : decode cL_law 534 = .ok (.aload_n 0, 1) := by decide +kernel
theorem dL_law_535 : decode cL_law 535 = .ok (.iload_n 3, 1) := by decide +kernel
theorem dL_law_536 : decode cL_law 536 = .ok (.iconst 1, 1) := by decide +kernel
theorem dL_law_537 : decode cL_law 537 = .ok (.iadd, 1) := by decide +kernel
theorem dL_law_538 : decode cL_law 538 = .ok (.iaload, 1) := by decide +kernel
theorem dL_law_539 : decode cL_law 539 = .ok (.aload_n 0, 1) := by decide +kernel
theorem dL_law_540 : decode cL_law 540 = .ok (.iload_n 3, 1) := by decide +kernel
theorem dL_law_541 : decode cL_law 541 = .ok (.iconst 2, 1) := by decide +kernel
theorem dL_law_542 : decode cL_law 542 = .ok (.iadd, 1) := by decide +kernel
theorem dL_law_543 : decode cL_law 543 = .ok (.iaload, 1) := by decide +kernel
theorem dL_law_544 : decode cL_law 544 = .ok (.aload_n 0, 1) := by decide +kernel
theorem dL_law_545 : decode cL_law 545 = .ok (.iload_n 3, 1) := by decide +kernel
theorem dL_law_546 : decode cL_law 546 = .ok (.iconst 3, 1) := by decide +kernel
theorem dL_law_547 : decode cL_law 547 = .ok (.iadd, 1) := by decide +kernel
theorem dL_law_548 : decode cL_law 548 = .ok (.iaload, 1) := by decide +kernel
theorem dL_law_549 : decode cL_law 549 = .ok (.invokevirtual 65, 3) := by decide +kernel
theorem dL_law_552 : decode cL_law 552 = .ok (.if_icmp .eq 444, 3) := by decide +kernel
theorem dL_law_555 : decode cL_law 555 = .ok (.iconst 0, 1) := by decide +kernel
theorem dL_law_556 : decode cL_law 556 = .ok (.ireturn, 1) := by decide +kernel
theorem dL_law_557 : decode cL_law 557 = .ok (.aload_n 1, 1) := by decide +kernel
theorem dL_law_558 : decode cL_law 558 = .ok (.invokevirtual 66, 3) := by decide +kernel
theorem dL_law_561 : decode cL_law 561 = .ok (.aload_n 2, 1) := by decide +kernel
theorem dL_law_562 : decode cL_law 562 = .ok (.invokevirtual 69, 3) := by decide +kernel
theorem dL_law_565 : decode cL_law 565 = .ok (.if_icmp .eq 431, 3) := by decide +kernel
theorem dL_law_568 : decode cL_law 568 = .ok (.iconst 0, 1) := by decide +kernel
theorem dL_law_569 : decode cL_law 569 = .ok (.ireturn, 1) := by decide +kernel
theorem dL_law_570 : decode cL_law 570 = .ok (.aload_n 1, 1) := by decide +kernel
theorem dL_law_571 : decode cL_law 571 = .ok (.aload_n 0, 1) := by decide +kernel
theorem dL_law_572 : decode cL_law 572 = .ok (.iload_n 3, 1) := by decide +kernel
theorem dL_law_573 : decode cL_law 573 = .ok (.iconst 1, 1) := by decide +kernel
theorem dL_law_574 : decode cL_law 574 = .ok (.iadd, 1) := by decide +kernel
theorem dL_law_575 : decode cL_law 575 = .ok (.iaload, 1) := by decide +kernel
theorem dL_law_576 : decode cL_law 576 = .ok (.aload_n 0, 1) := by decide +kernel
theorem dL_law_577 : decode cL_law 577 = .ok (.iload_n 3, 1) := by decide +kernel
theorem dL_law_578 : decode cL_law 578 = .ok (.iconst 2, 1) := by decide +kernel
theorem dL_law_579 : decode cL_law 579 = .ok (.iadd, 1) := by decide +kernel
theorem dL_law_580 : decode cL_law 580 = .ok (.iaload, 1) := by decide +kernel
theorem dL_law_581 : decode cL_law 581 = .ok (.invokevirtual 70, 3) := by decide +kernel
theorem dL_law_584 : decode cL_law 584 = .ok (.aload_n 2, 1) := by decide +kernel
theorem dL_law_585 : decode cL_law 585 = .ok (.aload_n 0, 1) := by decide +kernel
theorem dL_law_586 : decode cL_law 586 = .ok (.iload_n 3, 1) := by decide +kernel
theorem dL_law_587 : decode cL_law 587 = .ok (.iconst 1, 1) := by decide +kernel
theorem dL_law_588 : decode cL_law 588 = .ok (.iadd, 1) := by decide +kernel
theorem dL_law_589 : decode cL_law 589 = .ok (.iaload, 1) := by decide +kernel
theorem dL_law_590 : decode cL_law 590 = .ok (.aload_n 0, 1) := by decide +kernel
theorem dL_law_591 : decode cL_law 591 = .ok (.iload_n 3, 1) := by decide +kernel
theorem dL_law_592 : decode cL_law 592 = .ok (.iconst 2, 1) := by decide +kernel
theorem dL_law_593 : decode cL_law 593 = .ok (.iadd, 1) := by decide +kernel
theorem dL_law_594 : decode cL_law 594 = .ok (.iaload, 1) := by decide +kernel
theorem dL_law_595 : decode cL_law 595 = .ok (.invokevirtual 73, 3) := by decide +kernel
theorem dL_law_598 : decode cL_law 598 = .ok (.if_icmp .eq 398, 3) := by decide +kernel
theorem dL_law_601 : decode cL_law 601 = .ok (.iconst 0, 1) := by decide +kernel
theorem dL_law_602 : decode cL_law 602 = .ok (.ireturn, 1) := by decide +kernel
theorem dL_law_603 : decode cL_law 603 = .ok (.aload_n 1, 1) := by decide +kernel
theorem dL_law_604 : decode cL_law 604 = .ok (.invokevirtual 74, 3) := by decide +kernel
theorem dL_law_607 : decode cL_law 607 = .ok (.aload_n 2, 1) := by decide +kernel
theorem dL_law_608 : decode cL_law 608 = .ok (.invokevirtual 77, 3) := by decide +kernel
theorem dL_law_611 : decode cL_law 611 = .ok (.if_icmp .eq 385, 3) := by decide +kernel
theorem dL_law_614 : decode cL_law 614 = .ok (.iconst 0, 1) := by decide +kernel
theorem dL_law_615 : decode cL_law 615 = .ok (.ireturn, 1) := by decide +kernel
theorem dL_law_616 : decode cL_law 616 = .ok (.aload_n 1, 1) := by decide +kernel
theorem dL_law_617 : decode cL_law 617 = .ok (.aload_n 0, 1) := by decide +kernel
theorem dL_law_618 : decode cL_law 618 = .ok (.iload_n 3, 1) := by decide +kernel
theorem dL_law_619 : decode cL_law 619 = .ok (.iconst 1, 1) := by decide +kernel
theorem dL_law_620 : decode cL_law 620 = .ok (.iadd, 1) := by decide +kernel
theorem dL_law_621 : decode cL_law 621 = .ok (.iaload, 1) := by decide +kernel
theorem dL_law_622 : decode cL_law 622 = .ok (.invokevirtual 78, 3) := by decide +kernel
theorem dL_law_625 : decode cL_law 625 = .ok (.aload_n 2, 1) := by decide +kernel
theorem dL_law_626 : decode cL_law 626 = .ok (.aload_n 0, 1) := by decide +kernel
theorem dL_law_627 : decode cL_law 627 = .ok (.iload_n 3, 1) := by decide +kernel
theorem dL_law_628 : decode cL_law 628 = .ok (.iconst 1, 1) := by decide +kernel
theorem dL_law_629 : decode cL_law 629 = .ok (.iadd, 1) := by decide +kernel
theorem dL_law_630 : decode cL_law 630 = .ok (.iaload, 1) := by decide +kernel
theorem dL_law_631 : decode cL_law 631 = .ok (.invokevirtual 81, 3) := by decide +kernel
theorem dL_law_634 : decode cL_law 634 = .ok (.if_icmp .eq 362, 3) := by decide +kernel
theorem dL_law_637 : decode cL_law 637 = .ok (.iconst 0, 1) := by decide +kernel
theorem dL_law_638 : decode cL_law 638 = .ok (.ireturn, 1) := by decide +kernel
theorem dL_law_639 : decode cL_law 639 = .ok (.aload_n 1, 1) := by decide +kernel
theorem dL_law_640 : decode cL_law 640 = .ok (.aload_n 0, 1) := by decide +kernel
theorem dL_law_641 : decode cL_law 641 = .ok (.iload_n 3, 1) := by decide +kernel
theorem dL_law_642 : decode cL_law 642 = .ok (.iconst 1, 1) := by decide +kernel
theorem dL_law_643 : decode cL_law 643 = .ok (.iadd, 1) := by decide +kernel
theorem dL_law_644 : decode cL_law 644 = .ok (.iaload, 1) := by decide +kernel
theorem dL_law_645 : decode cL_law 645 = .ok (.aload_n 0, 1) := by decide +kernel
theorem dL_law_646 : decode cL_law 646 = .ok (.iload_n 3, 1) := by decide +kernel
theorem dL_law_647 : decode cL_law 647 = .ok (.iconst 2, 1) := by decide +kernel
theorem dL_law_648 : decode cL_law 648 = .ok (.iadd, 1) := by decide +kernel
theorem dL_law_649 : decode cL_law 649 = .ok (.iaload, 1) := by decide +kernel
theorem dL_law_650 : decode cL_law 650 = .ok (.invokevirtual 82, 3) := by decide +kernel
theorem dL_law_653 : decode cL_law 653 = .ok (.aload_n 2, 1) := by decide +kernel
theorem dL_law_654 : decode cL_law 654 = .ok (.aload_n 0, 1) := by decide +kernel
theorem dL_law_655 : decode cL_law 655 = .ok (.iload_n 3, 1) := by decide +kernel
theorem dL_law_656 : decode cL_law 656 = .ok (.iconst 1, 1) := by decide +kernel
theorem dL_law_657 : decode cL_law 657 = .ok (.iadd, 1) := by decide +kernel
theorem dL_law_658 : decode cL_law 658 = .ok (.iaload, 1) := by decide +kernel
theorem dL_law_659 : decode cL_law 659 = .ok (.aload_n 0, 1) := by decide +kernel
theorem dL_law_660 : decode cL_law 660 = .ok (.iload_n 3, 1) := by decide +kernel
theorem dL_law_661 : decode cL_law 661 = .ok (.iconst 2, 1) := by decide +kernel
theorem dL_law_662 : decode cL_law 662 = .ok (.iadd, 1) := by decide +kernel
theorem dL_law_663 : decode cL_law 663 = .ok (.iaload, 1) := by decide +kernel
theorem dL_law_664 : decode cL_law 664 = .ok (.invokevirtual 85, 3) := by decide +kernel
theorem dL_law_667 : decode cL_law 667 = .ok (.if_icmp .eq 329, 3) := by decide +kernel
theorem dL_law_670 : decode cL_law 670 = .ok (.iconst 0, 1) := by decide +kernel
theorem dL_law_671 : decode cL_law 671 = .ok (.ireturn, 1) := by decide +kernel
theorem dL_law_672 : decode cL_law 672 = .ok (.aload_n 1, 1) := by decide +kernel
theorem dL_law_673 : decode cL_law 673 = .ok (.aload_n 0, 1) := by decide +kernel
theorem dL_law_674 : decode cL_law 674 = .ok (.iload_n 3, 1) := by decide +kernel
theorem dL_law_675 : decode cL_law 675 = .ok (.iconst 1, 1) := by decide +kernel
theorem dL_law_676 : decode cL_law 676 = .ok (.iadd, 1) := by decide +kernel
theorem dL_law_677 : decode cL_law 677 = .ok (.iaload, 1) := by decide +kernel
theorem dL_law_678 : decode cL_law 678 = .ok (.aload_n 0, 1) := by decide +kernel
theorem dL_law_679 : decode cL_law 679 = .ok (.iload_n 3, 1) := by decide +kernel
theorem dL_law_680 : decode cL_law 680 = .ok (.iconst 2, 1) := by decide +kernel
theorem dL_law_681 : decode cL_law 681 = .ok (.iadd, 1) := by decide +kernel
theorem dL_law_682 : decode cL_law 682 = .ok (.iaload, 1) := by decide +kernel
theorem dL_law_683 : decode cL_law 683 = .ok (.invokevirtual 86, 3) := by decide +kernel
theorem dL_law_686 : decode cL_law 686 = .ok (.aload_n 2, 1) := by decide +kernel
theorem dL_law_687 : decode cL_law 687 = .ok (.aload_n 0, 1) := by decide +kernel
theorem dL_law_688 : decode cL_law 688 = .ok (.iload_n 3, 1) := by decide +kernel
theorem dL_law_689 : decode cL_law 689 = .ok (.iconst 1, 1) := by decide +kernel
theorem dL_law_690 : decode cL_law 690 = .ok (.iadd, 1) := by decide +kernel
theorem dL_law_691 : decode cL_law 691 = .ok (.iaload, 1) := by decide +kernel
theorem dL_law_692 : decode cL_law 692 = .ok (.aload_n 0, 1) := by decide +kernel
theorem dL_law_693 : decode cL_law 693 = .ok (.iload_n 3, 1) := by decide +kernel
theorem dL_law_694 : decode cL_law 694 = .ok (.iconst 2, 1) := by decide +kernel
theorem dL_law_695 : decode cL_law 695 = .ok (.iadd, 1) := by decide +kernel
theorem dL_law_696 : decode cL_law 696 = .ok (.iaload, 1) := by decide +kernel
theorem dL_law_697 : decode cL_law 697 = .ok (.invokevirtual 89, 3) := by decide +kernel
theorem dL_law_700 : decode cL_law 700 = .ok (.if_icmp .eq 296, 3) := by decide +kernel
theorem dL_law_703 : decode cL_law 703 = .ok (.iconst 0, 1) := by decide +kernel
theorem dL_law_704 : decode cL_law 704 = .ok (.ireturn, 1) := by decide +kernel
theorem dL_law_705 : decode cL_law 705 = .ok (.aload_n 1, 1) := by decide +kernel
theorem dL_law_706 : decode cL_law 706 = .ok (.aload_n 0, 1) := by decide +kernel
theorem dL_law_707 : decode cL_law 707 = .ok (.iload_n 3, 1) := by decide +kernel
theorem dL_law_708 : decode cL_law 708 = .ok (.iconst 1, 1) := by decide +kernel
theorem dL_law_709 : decode cL_law 709 = .ok (.iadd, 1) := by decide +kernel
theorem dL_law_710 : decode cL_law 710 = .ok (.iaload, 1) := by decide +kernel
theorem dL_law_711 : decode cL_law 711 = .ok (.invokevirtual 90, 3) := by decide +kernel
theorem dL_law_714 : decode cL_law 714 = .ok (.aload_n 2, 1) := by decide +kernel
theorem dL_law_715 : decode cL_law 715 = .ok (.aload_n 0, 1) := by decide +kernel
theorem dL_law_716 : decode cL_law 716 = .ok (.iload_n 3, 1) := by decide +kernel
theorem dL_law_717 : decode cL_law 717 = .ok (.iconst 1, 1) := by decide +kernel
theorem dL_law_718 : decode cL_law 718 = .ok (.iadd, 1) := by decide +kernel
theorem dL_law_719 : decode cL_law 719 = .ok (.iaload, 1) := by decide +kernel
theorem dL_law_720 : decode cL_law 720 = .ok (.invokevirtual 93, 3) := by decide +kernel
theorem dL_law_723 : decode cL_law 723 = .ok (.if_icmp .eq 273, 3) := by decide +kernel
theorem dL_law_726 : decode cL_law 726 = .ok (.iconst 0, 1) := by decide +kernel
theorem dL_law_727 : decode cL_law 727 = .ok (.ireturn, 1) := by decide +kernel
theorem dL_law_728 : decode cL_law 728 = .ok (.aload_n 1, 1) := by decide +kernel
theorem dL_law_729 : decode cL_law 729 = .ok (.aload_n 0, 1) := by decide +kernel
theorem dL_law_730 : decode cL_law 730 = .ok (.iload_n 3, 1) := by decide +kernel
theorem dL_law_731 : decode cL_law 731 = .ok (.iconst 1, 1) := by decide +kernel
theorem dL_law_732 : decode cL_law 732 = .ok (.iadd, 1) := by decide +kernel
theorem dL_law_733 : decode cL_law 733 = .ok (.iaload, 1) := by decide +kernel
theorem dL_law_734 : decode cL_law 734 = .ok (.invokevirtual 94, 3) := by decide +kernel
theorem dL_law_737 : decode cL_law 737 = .ok (.aload_n 2, 1) := by decide +kernel
theorem dL_law_738 : decode cL_law 738 = .ok (.aload_n 0, 1) := by decide +kernel
theorem dL_law_739 : decode cL_law 739 = .ok (.iload_n 3, 1) := by decide +kernel
theorem dL_law_740 : decode cL_law 740 = .ok (.iconst 1, 1) := by decide +kernel
theorem dL_law_741 : decode cL_law 741 = .ok (.iadd, 1) := by decide +kernel
theorem dL_law_742 : decode cL_law 742 = .ok (.iaload, 1) := by decide +kernel
theorem dL_law_743 : decode cL_law 743 = .ok (.invokevirtual 97, 3) := by decide +kernel
theorem dL_law_746 : decode cL_law 746 = .ok (.if_icmp .eq 250, 3) := by decide +kernel
theorem dL_law_749 : decode cL_law 749 = .ok (.iconst 0, 1) := by decide +kernel
theorem dL_law_750 : decode cL_law 750 = .ok (.ireturn, 1) := by decide +kernel
theorem dL_law_751 : decode cL_law 751 = .ok (.aload_n 1, 1) := by decide +kernel
theorem dL_law_752 : decode cL_law 752 = .ok (.aload_n 0, 1) := by decide +kernel
theorem dL_law_753 : decode cL_law 753 = .ok (.iload_n 3, 1) := by decide +kernel
theorem dL_law_754 : decode cL_law 754 = .ok (.iconst 1, 1) := by decide +kernel
theorem dL_law_755 : decode cL_law 755 = .ok (.iadd, 1) := by decide +kernel
theorem dL_law_756 : decode cL_law 756 = .ok (.iaload, 1) := by decide +kernel
theorem dL_law_757 : decode cL_law 757 = .ok (.aload_n 0, 1) := by decide +kernel
theorem dL_law_758 : decode cL_law 758 = .ok (.iload_n 3, 1) := by decide +kernel
theorem dL_law_759 : decode cL_law 759 = .ok (.iconst 2, 1) := by decide +kernel
theorem dL_law_760 : decode cL_law 760 = .ok (.iadd, 1) := by decide +kernel
theorem dL_law_761 : decode cL_law 761 = .ok (.iaload, 1) := by decide +kernel
theorem dL_law_762 : decode cL_law 762 = .ok (.aload_n 0, 1) := by decide +kernel
theorem dL_law_763 : decode cL_law 763 = .ok (.iload_n 3, 1) := by decide +kernel
theorem dL_law_764 : decode cL_law 764 = .ok (.iconst 3, 1) := by decide +kernel
theorem dL_law_765 : decode cL_law 765 = .ok (.iadd, 1) := by decide +kernel
theorem dL_law_766 : decode cL_law 766 = .ok (.iaload, 1) := by decide +kernel
theorem dL_law_767 : decode cL_law 767 = .ok (.invokevirtual 98, 3) := by decide +kernel
theorem dL_law_770 : decode cL_law 770 = .ok (.aload_n 2, 1) := by decide +kernel
theorem dL_law_771 : decode cL_law 771 = .ok (.aload_n 0, 1) := by decide +kernel
theorem dL_law_772 : decode cL_law 772 = .ok (.iload_n 3, 1) := by decide +kernel
theorem dL_law_773 : decode cL_law 773 = .ok (.iconst 1, 1) := by decide +kernel
theorem dL_law_774 : decode cL_law 774 = .ok (.iadd, 1) := by decide +kernel
theorem dL_law_775 : decode cL_law 775 = .ok (.iaload, 1) := by decide +kernel
theorem dL_law_776 : decode cL_law 776 = .ok (.aload_n 0, 1) := by decide +kernel
theorem dL_law_777 : decode cL_law 777 = .ok (.iload_n 3, 1) := by decide +kernel
theorem dL_law_778 : decode cL_law 778 = .ok (.iconst 2, 1) := by decide +kernel
theorem dL_law_779 : decode cL_law 779 = .ok (.iadd, 1) := by decide +kernel
theorem dL_law_780 : decode cL_law 780 = .ok (.iaload, 1) := by decide +kernel
theorem dL_law_781 : decode cL_law 781 = .ok (.aload_n 0, 1) := by decide +kernel
theorem dL_law_782 : decode cL_law 782 = .ok (.iload_n 3, 1) := by decide +kernel
theorem dL_law_783 : decode cL_law 783 = .ok (.iconst 3, 1) := by decide +kernel
theorem dL_law_784 : decode cL_law 784 = .ok (.iadd, 1) := by decide +kernel
theorem dL_law_785 : decode cL_law 785 = .ok (.iaload, 1) := by decide +kernel
theorem dL_law_786 : decode cL_law 786 = .ok (.invokevirtual 101, 3) := by decide +kernel
theorem dL_law_789 : decode cL_law 789 = .ok (.if_icmp .eq 207, 3) := by decide +kernel
theorem dL_law_792 : decode cL_law 792 = .ok (.iconst 0, 1) := by decide +kernel
theorem dL_law_793 : decode cL_law 793 = .ok (.ireturn, 1) := by decide +kernel
theorem dL_law_794 : decode cL_law 794 = .ok (.aload_n 1, 1) := by decide +kernel
theorem dL_law_795 : decode cL_law 795 = .ok (.invokevirtual 102, 3) := by decide +kernel
theorem dL_law_798 : decode cL_law 798 = .ok (.aload_n 2, 1) := by decide +kernel
theorem dL_law_799 : decode cL_law 799 = .ok (.invokevirtual 105, 3) := by decide +kernel
theorem dL_law_802 : decode cL_law 802 = .ok (.if_icmp .eq 194, 3) := by decide +kernel
theorem dL_law_805 : decode cL_law 805 = .ok (.iconst 0, 1) := by decide +kernel
theorem dL_law_806 : decode cL_law 806 = .ok (.ireturn, 1) := by decide +kernel
theorem dL_law_807 : decode cL_law 807 = .ok (.aload_n 1, 1) := by decide +kernel
theorem dL_law_808 : decode cL_law 808 = .ok (.aload_n 0, 1) := by decide +kernel
theorem dL_law_809 : decode cL_law 809 = .ok (.iload_n 3, 1) := by decide +kernel
theorem dL_law_810 : decode cL_law 810 = .ok (.iconst 1, 1) := by decide +kernel
theorem dL_law_811 : decode cL_law 811 = .ok (.iadd, 1) := by decide +kernel
theorem dL_law_812 : decode cL_law 812 = .ok (.iaload, 1) := by decide +kernel
theorem dL_law_813 : decode cL_law 813 = .ok (.invokevirtual 106, 3) := by decide +kernel
theorem dL_law_816 : decode cL_law 816 = .ok (.aload_n 2, 1) := by decide +kernel
theorem dL_law_817 : decode cL_law 817 = .ok (.aload_n 0, 1) := by decide +kernel
theorem dL_law_818 : decode cL_law 818 = .ok (.iload_n 3, 1) := by decide +kernel
theorem dL_law_819 : decode cL_law 819 = .ok (.iconst 1, 1) := by decide +kernel
theorem dL_law_820 : decode cL_law 820 = .ok (.iadd, 1) := by decide +kernel
theorem dL_law_821 : decode cL_law 821 = .ok (.iaload, 1) := by decide +kernel
theorem dL_law_822 : decode cL_law 822 = .ok (.invokevirtual 109, 3) := by decide +kernel
theorem dL_law_825 : decode cL_law 825 = .ok (.if_icmp .eq 171, 3) := by decide +kernel
theorem dL_law_828 : decode cL_law 828 = .ok (.iconst 0, 1) := by decide +kernel
theorem dL_law_829 : decode cL_law 829 = .ok (.ireturn, 1) := by decide +kernel
theorem dL_law_830 : decode cL_law 830 = .ok (.aload_n 1, 1) := by decide +kernel
theorem dL_law_831 : decode cL_law 831 = .ok (.invokevirtual 110, 3) := by decide +kernel
theorem dL_law_834 : decode cL_law 834 = .ok (.aload_n 2, 1) := by decide +kernel
theorem dL_law_835 : decode cL_law 835 = .ok (.invokevirtual 113, 3) := by decide +kernel
theorem dL_law_838 : decode cL_law 838 = .ok (.if_icmp .eq 158, 3) := by decide +kernel
theorem dL_law_841 : decode cL_law 841 = .ok (.iconst 0, 1) := by decide +kernel
theorem dL_law_842 : decode cL_law 842 = .ok (.ireturn, 1) := by decide +kernel
theorem dL_law_843 : decode cL_law 843 = .ok (.aload_n 1, 1) := by decide +kernel
theorem dL_law_844 : decode cL_law 844 = .ok (.aload_n 0, 1) := by decide +kernel
theorem dL_law_845 : decode cL_law 845 = .ok (.iload_n 3, 1) := by decide +kernel
theorem dL_law_846 : decode cL_law 846 = .ok (.iconst 1, 1) := by decide +kernel
theorem dL_law_847 : decode cL_law 847 = .ok (.iadd, 1) := by decide +kernel
theorem dL_law_848 : decode cL_law 848 = .ok (.iaload, 1) := by decide +kernel
theorem dL_law_849 : decode cL_law 849 = .ok (.invokevirtual 114, 3) := by decide +kernel
theorem dL_law_852 : decode cL_law 852 = .ok (.aload_n 2, 1) := by decide +kernel
theorem dL_law_853 : decode cL_law 853 = .ok (.aload_n 0, 1) := by decide +kernel
theorem dL_law_854 : decode cL_law 854 = .ok (.iload_n 3, 1) := by decide +kernel
theorem dL_law_855 : decode cL_law 855 = .ok (.iconst 1, 1) := by decide +kernel
theorem dL_law_856 : decode cL_law 856 = .ok (.iadd, 1) := by decide +kernel
theorem dL_law_857 : decode cL_law 857 = .ok (.iaload, 1) := by decide +kernel
theorem dL_law_858 : decode cL_law 858 = .ok (.invokevirtual 117, 3) := by decide +kernel
theorem dL_law_861 : decode cL_law 861 = .ok (.if_icmp .eq 135, 3) := by decide +kernel
theorem dL_law_864 : decode cL_law 864 = .ok (.iconst 0, 1) := by decide +kernel
theorem dL_law_865 : decode cL_law 865 = .ok (.ireturn, 1) := by decide +kernel
theorem dL_law_866 : decode cL_law 866 = .ok (.aload_n 1, 1) := by decide +kernel
theorem dL_law_867 : decode cL_law 867 = .ok (.aload_n 0, 1) := by decide +kernel
theorem dL_law_868 : decode cL_law 868 = .ok (.iload_n 3, 1) := by decide +kernel
theorem dL_law_869 : decode cL_law 869 = .ok (.iconst 1, 1) := by decide +kernel
theorem dL_law_870 : decode cL_law 870 = .ok (.iadd, 1) := by decide +kernel
theorem dL_law_871 : decode cL_law 871 = .ok (.iaload, 1) := by decide +kernel
theorem dL_law_872 : decode cL_law 872 = .ok (.invokevirtual 118, 3) := by decide +kernel
theorem dL_law_875 : decode cL_law 875 = .ok (.aload_n 2, 1) := by decide +kernel
theorem dL_law_876 : decode cL_law 876 = .ok (.aload_n 0, 1) := by decide +kernel
theorem dL_law_877 : decode cL_law 877 = .ok (.iload_n 3, 1) := by decide +kernel
theorem dL_law_878 : decode cL_law 878 = .ok (.iconst 1, 1) := by decide +kernel
theorem dL_law_879 : decode cL_law 879 = .ok (.iadd, 1) := by decide +kernel
theorem dL_law_880 : decode cL_law 880 = .ok (.iaload, 1) := by decide +kernel
theorem dL_law_881 : decode cL_law 881 = .ok (.invokevirtual 122, 3) := by decide +kernel
theorem dL_law_884 : decode cL_law 884 = .ok (.lcmp, 1) := by decide +kernel
theorem dL_law_885 : decode cL_law 885 = .ok (.ifCond .eq 111, 3) := by decide +kernel
theorem dL_law_888 : decode cL_law 888 = .ok (.iconst 0, 1) := by decide +kernel
theorem dL_law_889 : decode cL_law 889 = .ok (.ireturn, 1) := by decide +kernel
theorem dL_law_890 : decode cL_law 890 = .ok (.aload_n 1, 1) := by decide +kernel
theorem dL_law_891 : decode cL_law 891 = .ok (.aload_n 0, 1) := by decide +kernel
theorem dL_law_892 : decode cL_law 892 = .ok (.iload_n 3, 1) := by decide +kernel
theorem dL_law_893 : decode cL_law 893 = .ok (.iconst 1, 1) := by decide +kernel
theorem dL_law_894 : decode cL_law 894 = .ok (.iadd, 1) := by decide +kernel
theorem dL_law_895 : decode cL_law 895 = .ok (.iaload, 1) := by decide +kernel
theorem dL_law_896 : decode cL_law 896 = .ok (.invokevirtual 123, 3) := by decide +kernel
theorem dL_law_899 : decode cL_law 899 = .ok (.aload_n 2, 1) := by decide +kernel
theorem dL_law_900 : decode cL_law 900 = .ok (.aload_n 0, 1) := by decide +kernel
theorem dL_law_901 : decode cL_law 901 = .ok (.iload_n 3, 1) := by decide +kernel
theorem dL_law_902 : decode cL_law 902 = .ok (.iconst 1, 1) := by decide +kernel
theorem dL_law_903 : decode cL_law 903 = .ok (.iadd, 1) := by decide +kernel
theorem dL_law_904 : decode cL_law 904 = .ok (.iaload, 1) := by decide +kernel
theorem dL_law_905 : decode cL_law 905 = .ok (.invokevirtual 126, 3) := by decide +kernel
theorem dL_law_908 : decode cL_law 908 = .ok (.if_icmp .eq 88, 3) := by decide +kernel
theorem dL_law_911 : decode cL_law 911 = .ok (.iconst 0, 1) := by decide +kernel
theorem dL_law_912 : decode cL_law 912 = .ok (.ireturn, 1) := by decide +kernel
theorem dL_law_913 : decode cL_law 913 = .ok (.aload_n 1, 1) := by decide +kernel
theorem dL_law_914 : decode cL_law 914 = .ok (.aload_n 0, 1) := by decide +kernel
theorem dL_law_915 : decode cL_law 915 = .ok (.iload_n 3, 1) := by decide +kernel
theorem dL_law_916 : decode cL_law 916 = .ok (.iconst 1, 1) := by decide +kernel
theorem dL_law_917 : decode cL_law 917 = .ok (.iadd, 1) := by decide +kernel
theorem dL_law_918 : decode cL_law 918 = .ok (.iaload, 1) := by decide +kernel
theorem dL_law_919 : decode cL_law 919 = .ok (.invokevirtual 127, 3) := by decide +kernel
theorem dL_law_922 : decode cL_law 922 = .ok (.aload_n 2, 1) := by decide +kernel
theorem dL_law_923 : decode cL_law 923 = .ok (.aload_n 0, 1) := by decide +kernel
theorem dL_law_924 : decode cL_law 924 = .ok (.iload_n 3, 1) := by decide +kernel
theorem dL_law_925 : decode cL_law 925 = .ok (.iconst 1, 1) := by decide +kernel
theorem dL_law_926 : decode cL_law 926 = .ok (.iadd, 1) := by decide +kernel
theorem dL_law_927 : decode cL_law 927 = .ok (.iaload, 1) := by decide +kernel
theorem dL_law_928 : decode cL_law 928 = .ok (.invokevirtual 130, 3) := by decide +kernel
theorem dL_law_931 : decode cL_law 931 = .ok (.if_icmp .eq 65, 3) := by decide +kernel
theorem dL_law_934 : decode cL_law 934 = .ok (.iconst 0, 1) := by decide +kernel
theorem dL_law_935 : decode cL_law 935 = .ok (.ireturn, 1) := by decide +kernel
theorem dL_law_936 : decode cL_law 936 = .ok (.aload_n 1, 1) := by decide +kernel
theorem dL_law_937 : decode cL_law 937 = .ok (.aload_n 0, 1) := by decide +kernel
theorem dL_law_938 : decode cL_law 938 = .ok (.iload_n 3, 1) := by decide +kernel
theorem dL_law_939 : decode cL_law 939 = .ok (.iconst 1, 1) := by decide +kernel
theorem dL_law_940 : decode cL_law 940 = .ok (.iadd, 1) := by decide +kernel
theorem dL_law_941 : decode cL_law 941 = .ok (.iaload, 1) := by decide +kernel
theorem dL_law_942 : decode cL_law 942 = .ok (.invokevirtual 131, 3) := by decide +kernel
theorem dL_law_945 : decode cL_law 945 = .ok (.aload_n 2, 1) := by decide +kernel
theorem dL_law_946 : decode cL_law 946 = .ok (.aload_n 0, 1) := by decide +kernel
theorem dL_law_947 : decode cL_law 947 = .ok (.iload_n 3, 1) := by decide +kernel
theorem dL_law_948 : decode cL_law 948 = .ok (.iconst 1, 1) := by decide +kernel
theorem dL_law_949 : decode cL_law 949 = .ok (.iadd, 1) := by decide +kernel
theorem dL_law_950 : decode cL_law 950 = .ok (.iaload, 1) := by decide +kernel
theorem dL_law_951 : decode cL_law 951 = .ok (.invokevirtual 134, 3) := by decide +kernel
theorem dL_law_954 : decode cL_law 954 = .ok (.if_icmp .eq 42, 3) := by decide +kernel
theorem dL_law_957 : decode cL_law 957 = .ok (.iconst 0, 1) := by decide +kernel
theorem dL_law_958 : decode cL_law 958 = .ok (.ireturn, 1) := by decide +kernel
theorem dL_law_959 : decode cL_law 959 = .ok (.aload_n 1, 1) := by decide +kernel
theorem dL_law_960 : decode cL_law 960 = .ok (.aload_n 0, 1) := by decide +kernel
theorem dL_law_961 : decode cL_law 961 = .ok (.iload_n 3, 1) := by decide +kernel
theorem dL_law_962 : decode cL_law 962 = .ok (.iconst 1, 1) := by decide +kernel
theorem dL_law_963 : decode cL_law 963 = .ok (.iadd, 1) := by decide +kernel
theorem dL_law_964 : decode cL_law 964 = .ok (.iaload, 1) := by decide +kernel
theorem dL_law_965 : decode cL_law 965 = .ok (.invokevirtual 135, 3) := by decide +kernel
theorem dL_law_968 : decode cL_law 968 = .ok (.aload_n 2, 1) := by decide +kernel
theorem dL_law_969 : decode cL_law 969 = .ok (.aload_n 0, 1) := by decide +kernel
theorem dL_law_970 : decode cL_law 970 = .ok (.iload_n 3, 1) := by decide +kernel
theorem dL_law_971 : decode cL_law 971 = .ok (.iconst 1, 1) := by decide +kernel
theorem dL_law_972 : decode cL_law 972 = .ok (.iadd, 1) := by decide +kernel
theorem dL_law_973 : decode cL_law 973 = .ok (.iaload, 1) := by decide +kernel
theorem dL_law_974 : decode cL_law 974 = .ok (.invokevirtual 138, 3) := by decide +kernel
theorem dL_law_977 : decode cL_law 977 = .ok (.if_icmp .eq 19, 3) := by decide +kernel
theorem dL_law_980 : decode cL_law 980 = .ok (.iconst 0, 1) := by decide +kernel
theorem dL_law_981 : decode cL_law 981 = .ok (.ireturn, 1) := by decide +kernel
theorem dL_law_982 : decode cL_law 982 = .ok (.aload_n 1, 1) := by decide +kernel
theorem dL_law_983 : decode cL_law 983 = .ok (.invokevirtual 139, 3) := by decide +kernel
theorem dL_law_986 : decode cL_law 986 = .ok (.aload_n 2, 1) := by decide +kernel
theorem dL_law_987 : decode cL_law 987 = .ok (.invokevirtual 143, 3) := by decide +kernel
theorem dL_law_990 : decode cL_law 990 = .ok (.lcmp, 1) := by decide +kernel
theorem dL_law_991 : decode cL_law 991 = .ok (.ifCond .eq 5, 3) := by decide +kernel
theorem dL_law_994 : decode cL_law 994 = .ok (.iconst 0, 1) := by decide +kernel
theorem dL_law_995 : decode cL_law 995 = .ok (.ireturn, 1) := by decide +kernel
theorem dL_law_996 : decode cL_law 996 = .ok (.iinc 3 5, 3) := by decide +kernel
theorem dL_law_999 : decode cL_law 999 = .ok (.goto (-981), 3) := by decide +kernel
theorem dL_law_1002 : decode cL_law 1002 = .ok (.iconst 1, 1) := by decide +kernel
theorem dL_law_1003 : decode cL_law 1003 = .ok (.ireturn, 1) := by decide +kernel
theorem vf_L_13 : VF RL 13 11 yX11_thing cX11_thing 6 (some .int) 4 := VF.mk rfl (by decide +kernel) (gt_of (w := .methodLink RL 13 yX11_thing) 382 (by decide +kernel) rfl) (gt_of (w := .instanceMethod yX11_thing) 383 (by decide +kernel) rfl) (gt_of (w := .selects RX11 yX11_thing yX11_thing) 384 (by decide +kernel) rfl) (gt_of (w := .initialized RX11) 1 (by decide +kernel) rfl) cd_X11_thing
theorem vf_L_17 : VF RL 17 12 yX12_thing cX12_thing 5 (some .int) 4 := VF.mk rfl (by decide +kernel) (gt_of (w := .methodLink RL 17 yX12_thing) 956 (by decide +kernel) rfl) (gt_of (w := .instanceMethod yX12_thing) 957 (by decide +kernel) rfl) (gt_of (w := .selects RX12 yX12_thing yX12_thing) 958 (by decide +kernel) rfl) (gt_of (w := .initialized RX12) 13 (by decide +kernel) rfl) cd_X12_thing
theorem vf_L_18 : VF RL 18 11 yX11_rope cX11_rope 3 (some .int) 2 := VF.mk rfl (by decide +kernel) (gt_of (w := .methodLink RL 18 yX11_rope) 401 (by decide +kernel) rfl) (gt_of (w := .instanceMethod yX11_rope) 402 (by decide +kernel) rfl) (gt_of (w := .selects RX11 yX11_rope yX11_rope) 403 (by decide +kernel) rfl) (gt_of (w := .initialized RX11) 1 (by decide +kernel) rfl) cd_X11_rope
theorem vf_L_22 : VF RL 22 12 yX12_rope cX12_rope 4 (some .int) 2 := VF.mk rfl (by decide +kernel) (gt_of (w := .methodLink RL 22 yX12_rope) 980 (by decide +kernel) rfl) (gt_of (w := .instanceMethod yX12_rope) 981 (by decide +kernel) rfl) (gt_of (w := .selects RX12 yX12_rope yX12_rope) 982 (by decide +kernel) rfl) (gt_of (w := .initialized RX12) 13 (by decide +kernel) rfl) cd_X12_rope
theorem vf_L_23 : VF RL 23 11 yX11_damp cX11_damp 3 (some .int) 1 := VF.mk rfl (by decide +kernel) (gt_of (w := .methodLink RL 23 yX11_damp) 417 (by decide +kernel) rfl) (gt_of (w := .instanceMethod yX11_damp) 418 (by decide +kernel) rfl) (gt_of (w := .selects RX11 yX11_damp yX11_damp) 419 (by decide +kernel) rfl) (gt_of (w := .initialized RX11) 1 (by decide +kernel) rfl) cd_X11_damp
theorem vf_L_27 : VF RL 27 12 yX12_damp cX12_damp 3 (some .int) 1 := VF.mk rfl (by decide +kernel) (gt_of (w := .methodLink RL 27 yX12_damp) 996 (by decide +kernel) rfl) (gt_of (w := .instanceMethod yX12_damp) 997 (by decide +kernel) rfl) (gt_of (w := .selects RX12 yX12_damp yX12_damp) 998 (by decide +kernel) rfl) (gt_of (w := .initialized RX12) 13 (by decide +kernel) rfl) cd_X12_damp
theorem vf_L_30 : VF RL 30 11 yX11_type cX11_type 5 (some .int) 2 := VF.mk rfl (by decide +kernel) (gt_of (w := .methodLink RL 30 yX11_type) 421 (by decide +kernel) rfl) (gt_of (w := .instanceMethod yX11_type) 422 (by decide +kernel) rfl) (gt_of (w := .selects RX11 yX11_type yX11_type) 423 (by decide +kernel) rfl) (gt_of (w := .initialized RX11) 1 (by decide +kernel) rfl) cd_X11_type
theorem vf_L_34 : VF RL 34 12 yX12_type cX12_type 5 (some .int) 2 := VF.mk rfl (by decide +kernel) (gt_of (w := .methodLink RL 34 yX12_type) 1171 (by decide +kernel) rfl) (gt_of (w := .instanceMethod yX12_type) 1172 (by decide +kernel) rfl) (gt_of (w := .selects RX12 yX12_type yX12_type) 1173 (by decide +kernel) rfl) (gt_of (w := .initialized RX12) 13 (by decide +kernel) rfl) cd_X12_type
theorem vf_L_35 : VF RL 35 11 yX11_clear cX11_clear 2 (some .int) 0 := VF.mk rfl (by decide +kernel) (gt_of (w := .methodLink RL 35 yX11_clear) 425 (by decide +kernel) rfl) (gt_of (w := .instanceMethod yX11_clear) 426 (by decide +kernel) rfl) (gt_of (w := .selects RX11 yX11_clear yX11_clear) 427 (by decide +kernel) rfl) (gt_of (w := .initialized RX11) 1 (by decide +kernel) rfl) cd_X11_clear
theorem vf_L_39 : VF RL 39 12 yX12_clear cX12_clear 2 (some .int) 0 := VF.mk rfl (by decide +kernel) (gt_of (w := .methodLink RL 39 yX12_clear) 1177 (by decide +kernel) rfl) (gt_of (w := .instanceMethod yX12_clear) 1178 (by decide +kernel) rfl) (gt_of (w := .selects RX12 yX12_clear yX12_clear) 1179 (by decide +kernel) rfl) (gt_of (w := .initialized RX12) 13 (by decide +kernel) rfl) cd_X12_clear
theorem vf_L_40 : VF RL 40 11 yX11_read cX11_read 2 (some .int) 0 := VF.mk rfl (by decide +kernel) (gt_of (w := .methodLink RL 40 yX11_read) 429 (by decide +kernel) rfl) (gt_of (w := .instanceMethod yX11_read) 430 (by decide +kernel) rfl) (gt_of (w := .selects RX11 yX11_read yX11_read) 431 (by decide +kernel) rfl) (gt_of (w := .initialized RX11) 1 (by decide +kernel) rfl) cd_X11_read
theorem vf_L_43 : VF RL 43 12 yX12_read cX12_read 3 (some .int) 0 := VF.mk rfl (by decide +kernel) (gt_of (w := .methodLink RL 43 yX12_read) 1181 (by decide +kernel) rfl) (gt_of (w := .instanceMethod yX12_read) 1182 (by decide +kernel) rfl) (gt_of (w := .selects RX12 yX12_read yX12_read) 1183 (by decide +kernel) rfl) (gt_of (w := .initialized RX12) 13 (by decide +kernel) rfl) cd_X12_read
theorem vf_L_44 : VF RL 44 11 yX11_pull cX11_pull 3 (some .int) 2 := VF.mk rfl (by decide +kernel) (gt_of (w := .methodLink RL 44 yX11_pull) 564 (by decide +kernel) rfl) (gt_of (w := .instanceMethod yX11_pull) 565 (by decide +kernel) rfl) (gt_of (w := .selects RX11 yX11_pull yX11_pull) 566 (by decide +kernel) rfl) (gt_of (w := .initialized RX11) 1 (by decide +kernel) rfl) cd_X11_pull
theorem vf_L_48 : VF RL 48 12 yX12_pull cX12_pull 3 (some .int) 2 := VF.mk rfl (by decide +kernel) (gt_of (w := .methodLink RL 48 yX12_pull) 1000 (by decide +kernel) rfl) (gt_of (w := .instanceMethod yX12_pull) 1001 (by decide +kernel) rfl) (gt_of (w := .selects RX12 yX12_pull yX12_pull) 1002 (by decide +kernel) rfl) (gt_of (w := .initialized RX12) 13 (by decide +kernel) rfl) cd_X12_pull
theorem vf_L_49 : VF RL 49 11 yX11_both cX11_both 5 (some .int) 4 := VF.mk rfl (by decide +kernel) (gt_of (w := .methodLink RL 49 yX11_both) 633 (by decide +kernel) rfl) (gt_of (w := .instanceMethod yX11_both) 634 (by decide +kernel) rfl) (gt_of (w := .selects RX11 yX11_both yX11_both) 635 (by decide +kernel) rfl) (gt_of (w := .initialized RX11) 1 (by decide +kernel) rfl) cd_X11_both
theorem vf_L_52 : VF RL 52 12 yX12_both cX12_both 5 (some .int) 4 := VF.mk rfl (by decide +kernel) (gt_of (w := .methodLink RL 52 yX12_both) 1045 (by decide +kernel) rfl) (gt_of (w := .instanceMethod yX12_both) 1046 (by decide +kernel) rfl) (gt_of (w := .selects RX12 yX12_both yX12_both) 1047 (by decide +kernel) rfl) (gt_of (w := .initialized RX12) 13 (by decide +kernel) rfl) cd_X12_both
theorem vf_L_53 : VF RL 53 11 yX11_would cX11_would 3 (some .int) 2 := VF.mk rfl (by decide +kernel) (gt_of (w := .methodLink RL 53 yX11_would) 637 (by decide +kernel) rfl) (gt_of (w := .instanceMethod yX11_would) 638 (by decide +kernel) rfl) (gt_of (w := .selects RX11 yX11_would yX11_would) 639 (by decide +kernel) rfl) (gt_of (w := .initialized RX11) 1 (by decide +kernel) rfl) cd_X11_would
theorem vf_L_56 : VF RL 56 12 yX12_would cX12_would 3 (some .int) 2 := VF.mk rfl (by decide +kernel) (gt_of (w := .methodLink RL 56 yX12_would) 1049 (by decide +kernel) rfl) (gt_of (w := .instanceMethod yX12_would) 1050 (by decide +kernel) rfl) (gt_of (w := .selects RX12 yX12_would yX12_would) 1051 (by decide +kernel) rfl) (gt_of (w := .initialized RX12) 13 (by decide +kernel) rfl) cd_X12_would
theorem vf_L_57 : VF RL 57 11 yX11_open cX11_open 1 (some .int) 0 := VF.mk rfl (by decide +kernel) (gt_of (w := .methodLink RL 57 yX11_open) 641 (by decide +kernel) rfl) (gt_of (w := .instanceMethod yX11_open) 642 (by decide +kernel) rfl) (gt_of (w := .selects RX11 yX11_open yX11_open) 643 (by decide +kernel) rfl) (gt_of (w := .initialized RX11) 1 (by decide +kernel) rfl) cd_X11_open
theorem vf_L_60 : VF RL 60 12 yX12_open cX12_open 1 (some .int) 0 := VF.mk rfl (by decide +kernel) (gt_of (w := .methodLink RL 60 yX12_open) 1053 (by decide +kernel) rfl) (gt_of (w := .instanceMethod yX12_open) 1054 (by decide +kernel) rfl) (gt_of (w := .selects RX12 yX12_open yX12_open) 1055 (by decide +kernel) rfl) (gt_of (w := .initialized RX12) 13 (by decide +kernel) rfl) cd_X12_open
theorem vf_L_61 : VF RL 61 11 yX11_moves cX11_moves 4 (some .int) 3 := VF.mk rfl (by decide +kernel) (gt_of (w := .methodLink RL 61 yX11_moves) 645 (by decide +kernel) rfl) (gt_of (w := .instanceMethod yX11_moves) 646 (by decide +kernel) rfl) (gt_of (w := .selects RX11 yX11_moves yX11_moves) 647 (by decide +kernel) rfl) (gt_of (w := .initialized RX11) 1 (by decide +kernel) rfl) cd_X11_moves
theorem vf_L_65 : VF RL 65 12 yX12_moves cX12_moves 4 (some .int) 3 := VF.mk rfl (by decide +kernel) (gt_of (w := .methodLink RL 65 yX12_moves) 1057 (by decide +kernel) rfl) (gt_of (w := .instanceMethod yX12_moves) 1058 (by decide +kernel) rfl) (gt_of (w := .selects RX12 yX12_moves yX12_moves) 1059 (by decide +kernel) rfl) (gt_of (w := .initialized RX12) 13 (by decide +kernel) rfl) cd_X12_moves
theorem vf_L_66 : VF RL 66 11 yX11_undo cX11_undo 1 (some .int) 0 := VF.mk rfl (by decide +kernel) (gt_of (w := .methodLink RL 66 yX11_undo) 650 (by decide +kernel) rfl) (gt_of (w := .instanceMethod yX11_undo) 651 (by decide +kernel) rfl) (gt_of (w := .selects RX11 yX11_undo yX11_undo) 652 (by decide +kernel) rfl) (gt_of (w := .initialized RX11) 1 (by decide +kernel) rfl) cd_X11_undo
theorem vf_L_69 : VF RL 69 12 yX12_undo cX12_undo 1 (some .int) 0 := VF.mk rfl (by decide +kernel) (gt_of (w := .methodLink RL 69 yX12_undo) 1061 (by decide +kernel) rfl) (gt_of (w := .instanceMethod yX12_undo) 1062 (by decide +kernel) rfl) (gt_of (w := .selects RX12 yX12_undo yX12_undo) 1063 (by decide +kernel) rfl) (gt_of (w := .initialized RX12) 13 (by decide +kernel) rfl) cd_X12_undo
theorem vf_L_70 : VF RL 70 11 yX11_errand cX11_errand 3 (some .int) 2 := VF.mk rfl (by decide +kernel) (gt_of (w := .methodLink RL 70 yX11_errand) 658 (by decide +kernel) rfl) (gt_of (w := .instanceMethod yX11_errand) 659 (by decide +kernel) rfl) (gt_of (w := .selects RX11 yX11_errand yX11_errand) 660 (by decide +kernel) rfl) (gt_of (w := .initialized RX11) 1 (by decide +kernel) rfl) cd_X11_errand
theorem vf_L_73 : VF RL 73 12 yX12_errand cX12_errand 4 (some .int) 2 := VF.mk rfl (by decide +kernel) (gt_of (w := .methodLink RL 73 yX12_errand) 1065 (by decide +kernel) rfl) (gt_of (w := .instanceMethod yX12_errand) 1066 (by decide +kernel) rfl) (gt_of (w := .selects RX12 yX12_errand yX12_errand) 1067 (by decide +kernel) rfl) (gt_of (w := .initialized RX12) 13 (by decide +kernel) rfl) cd_X12_errand
theorem vf_L_74 : VF RL 74 11 yX11_drop cX11_drop 1 (some .int) 0 := VF.mk rfl (by decide +kernel) (gt_of (w := .methodLink RL 74 yX11_drop) 663 (by decide +kernel) rfl) (gt_of (w := .instanceMethod yX11_drop) 664 (by decide +kernel) rfl) (gt_of (w := .selects RX11 yX11_drop yX11_drop) 665 (by decide +kernel) rfl) (gt_of (w := .initialized RX11) 1 (by decide +kernel) rfl) cd_X11_drop
theorem vf_L_77 : VF RL 77 12 yX12_drop cX12_drop 1 (some .int) 0 := VF.mk rfl (by decide +kernel) (gt_of (w := .methodLink RL 77 yX12_drop) 1073 (by decide +kernel) rfl) (gt_of (w := .instanceMethod yX12_drop) 1074 (by decide +kernel) rfl) (gt_of (w := .selects RX12 yX12_drop yX12_drop) 1075 (by decide +kernel) rfl) (gt_of (w := .initialized RX12) 13 (by decide +kernel) rfl) cd_X12_drop
theorem vf_L_78 : VF RL 78 11 yX11_order cX11_order 2 (some .int) 1 := VF.mk rfl (by decide +kernel) (gt_of (w := .methodLink RL 78 yX11_order) 667 (by decide +kernel) rfl) (gt_of (w := .instanceMethod yX11_order) 668 (by decide +kernel) rfl) (gt_of (w := .selects RX11 yX11_order yX11_order) 669 (by decide +kernel) rfl) (gt_of (w := .initialized RX11) 1 (by decide +kernel) rfl) cd_X11_order
theorem vf_L_81 : VF RL 81 12 yX12_order cX12_order 6 (some .int) 1 := VF.mk rfl (by decide +kernel) (gt_of (w := .methodLink RL 81 yX12_order) 1077 (by decide +kernel) rfl) (gt_of (w := .instanceMethod yX12_order) 1078 (by decide +kernel) rfl) (gt_of (w := .selects RX12 yX12_order yX12_order) 1079 (by decide +kernel) rfl) (gt_of (w := .initialized RX12) 13 (by decide +kernel) rfl) cd_X12_order
theorem vf_L_82 : VF RL 82 11 yX11_code cX11_code 4 (some .int) 2 := VF.mk rfl (by decide +kernel) (gt_of (w := .methodLink RL 82 yX11_code) 697 (by decide +kernel) rfl) (gt_of (w := .instanceMethod yX11_code) 698 (by decide +kernel) rfl) (gt_of (w := .selects RX11 yX11_code yX11_code) 699 (by decide +kernel) rfl) (gt_of (w := .initialized RX11) 1 (by decide +kernel) rfl) cd_X11_code
theorem vf_L_85 : VF RL 85 12 yX12_code cX12_code 7 (some .int) 2 := VF.mk rfl (by decide +kernel) (gt_of (w := .methodLink RL 85 yX12_code) 1101 (by decide +kernel) rfl) (gt_of (w := .instanceMethod yX12_code) 1102 (by decide +kernel) rfl) (gt_of (w := .selects RX12 yX12_code yX12_code) 1103 (by decide +kernel) rfl) (gt_of (w := .initialized RX12) 13 (by decide +kernel) rfl) cd_X12_code
theorem vf_L_86 : VF RL 86 11 yX11_who cX11_who 3 (some .int) 2 := VF.mk rfl (by decide +kernel) (gt_of (w := .methodLink RL 86 yX11_who) 713 (by decide +kernel) rfl) (gt_of (w := .instanceMethod yX11_who) 714 (by decide +kernel) rfl) (gt_of (w := .selects RX11 yX11_who yX11_who) 715 (by decide +kernel) rfl) (gt_of (w := .initialized RX11) 1 (by decide +kernel) rfl) cd_X11_who
theorem vf_L_89 : VF RL 89 12 yX12_who cX12_who 8 (some .int) 2 := VF.mk rfl (by decide +kernel) (gt_of (w := .methodLink RL 89 yX12_who) 1117 (by decide +kernel) rfl) (gt_of (w := .instanceMethod yX12_who) 1118 (by decide +kernel) rfl) (gt_of (w := .selects RX12 yX12_who yX12_who) 1119 (by decide +kernel) rfl) (gt_of (w := .initialized RX12) 13 (by decide +kernel) rfl) cd_X12_who
theorem vf_L_90 : VF RL 90 11 yX11_heard cX11_heard 2 (some .int) 1 := VF.mk rfl (by decide +kernel) (gt_of (w := .methodLink RL 90 yX11_heard) 729 (by decide +kernel) rfl) (gt_of (w := .instanceMethod yX11_heard) 730 (by decide +kernel) rfl) (gt_of (w := .selects RX11 yX11_heard yX11_heard) 731 (by decide +kernel) rfl) (gt_of (w := .initialized RX11) 1 (by decide +kernel) rfl) cd_X11_heard
theorem vf_L_93 : VF RL 93 12 yX12_heard cX12_heard 4 (some .int) 1 := VF.mk rfl (by decide +kernel) (gt_of (w := .methodLink RL 93 yX12_heard) 1121 (by decide +kernel) rfl) (gt_of (w := .instanceMethod yX12_heard) 1122 (by decide +kernel) rfl) (gt_of (w := .selects RX12 yX12_heard yX12_heard) 1123 (by decide +kernel) rfl) (gt_of (w := .initialized RX12) 13 (by decide +kernel) rfl) cd_X12_heard
theorem vf_L_94 : VF RL 94 11 yX11_cuts cX11_cuts 2 (some .int) 1 := VF.mk rfl (by decide +kernel) (gt_of (w := .methodLink RL 94 yX11_cuts) 738 (by decide +kernel) rfl) (gt_of (w := .instanceMethod yX11_cuts) 739 (by decide +kernel) rfl) (gt_of (w := .selects RX11 yX11_cuts yX11_cuts) 740 (by decide +kernel) rfl) (gt_of (w := .initialized RX11) 1 (by decide +kernel) rfl) cd_X11_cuts
theorem vf_L_97 : VF RL 97 12 yX12_cuts cX12_cuts 7 (some .int) 1 := VF.mk rfl (by decide +kernel) (gt_of (w := .methodLink RL 97 yX12_cuts) 1125 (by decide +kernel) rfl) (gt_of (w := .instanceMethod yX12_cuts) 1126 (by decide +kernel) rfl) (gt_of (w := .selects RX12 yX12_cuts yX12_cuts) 1127 (by decide +kernel) rfl) (gt_of (w := .initialized RX12) 13 (by decide +kernel) rfl) cd_X12_cuts
theorem vf_L_98 : VF RL 98 11 yX11_rule cX11_rule 4 (some .int) 3 := VF.mk rfl (by decide +kernel) (gt_of (w := .methodLink RL 98 yX11_rule) 756 (by decide +kernel) rfl) (gt_of (w := .instanceMethod yX11_rule) 757 (by decide +kernel) rfl) (gt_of (w := .selects RX11 yX11_rule yX11_rule) 758 (by decide +kernel) rfl) (gt_of (w := .initialized RX11) 1 (by decide +kernel) rfl) cd_X11_rule
theorem vf_L_101 : VF RL 101 12 yX12_rule cX12_rule 5 (some .int) 3 := VF.mk rfl (by decide +kernel) (gt_of (w := .methodLink RL 101 yX12_rule) 1129 (by decide +kernel) rfl) (gt_of (w := .instanceMethod yX12_rule) 1130 (by decide +kernel) rfl) (gt_of (w := .selects RX12 yX12_rule yX12_rule) 1131 (by decide +kernel) rfl) (gt_of (w := .initialized RX12) 13 (by decide +kernel) rfl) cd_X12_rule
theorem vf_L_102 : VF RL 102 11 yX11_free cX11_free 2 (some .int) 0 := VF.mk rfl (by decide +kernel) (gt_of (w := .methodLink RL 102 yX11_free) 761 (by decide +kernel) rfl) (gt_of (w := .instanceMethod yX11_free) 762 (by decide +kernel) rfl) (gt_of (w := .selects RX11 yX11_free yX11_free) 763 (by decide +kernel) rfl) (gt_of (w := .initialized RX11) 1 (by decide +kernel) rfl) cd_X11_free
theorem vf_L_105 : VF RL 105 12 yX12_free cX12_free 2 (some .int) 0 := VF.mk rfl (by decide +kernel) (gt_of (w := .methodLink RL 105 yX12_free) 1140 (by decide +kernel) rfl) (gt_of (w := .instanceMethod yX12_free) 1141 (by decide +kernel) rfl) (gt_of (w := .selects RX12 yX12_free yX12_free) 1142 (by decide +kernel) rfl) (gt_of (w := .initialized RX12) 13 (by decide +kernel) rfl) cd_X12_free
theorem vf_L_106 : VF RL 106 11 yX11_slack cX11_slack 2 (some .int) 1 := VF.mk rfl (by decide +kernel) (gt_of (w := .methodLink RL 106 yX11_slack) 765 (by decide +kernel) rfl) (gt_of (w := .instanceMethod yX11_slack) 766 (by decide +kernel) rfl) (gt_of (w := .selects RX11 yX11_slack yX11_slack) 767 (by decide +kernel) rfl) (gt_of (w := .initialized RX11) 1 (by decide +kernel) rfl) cd_X11_slack
theorem vf_L_109 : VF RL 109 12 yX12_slack cX12_slack 2 (some .int) 1 := VF.mk rfl (by decide +kernel) (gt_of (w := .methodLink RL 109 yX12_slack) 1144 (by decide +kernel) rfl) (gt_of (w := .instanceMethod yX12_slack) 1145 (by decide +kernel) rfl) (gt_of (w := .selects RX12 yX12_slack yX12_slack) 1146 (by decide +kernel) rfl) (gt_of (w := .initialized RX12) 13 (by decide +kernel) rfl) cd_X12_slack
theorem vf_L_110 : VF RL 110 11 yX11_giveUp cX11_giveUp 1 (some .int) 0 := VF.mk rfl (by decide +kernel) (gt_of (w := .methodLink RL 110 yX11_giveUp) 810 (by decide +kernel) rfl) (gt_of (w := .instanceMethod yX11_giveUp) 811 (by decide +kernel) rfl) (gt_of (w := .selects RX11 yX11_giveUp yX11_giveUp) 812 (by decide +kernel) rfl) (gt_of (w := .initialized RX11) 1 (by decide +kernel) rfl) cd_X11_giveUp
theorem vf_L_113 : VF RL 113 12 yX12_giveUp cX12_giveUp 4 (some .int) 0 := VF.mk rfl (by decide +kernel) (gt_of (w := .methodLink RL 113 yX12_giveUp) 1156 (by decide +kernel) rfl) (gt_of (w := .instanceMethod yX12_giveUp) 1157 (by decide +kernel) rfl) (gt_of (w := .selects RX12 yX12_giveUp yX12_giveUp) 1158 (by decide +kernel) rfl) (gt_of (w := .initialized RX12) 13 (by decide +kernel) rfl) cd_X12_giveUp
theorem vf_L_114 : VF RL 114 11 yX11_share cX11_share 2 (some .int) 1 := VF.mk rfl (by decide +kernel) (gt_of (w := .methodLink RL 114 yX11_share) 820 (by decide +kernel) rfl) (gt_of (w := .instanceMethod yX11_share) 821 (by decide +kernel) rfl) (gt_of (w := .selects RX11 yX11_share yX11_share) 822 (by decide +kernel) rfl) (gt_of (w := .initialized RX11) 1 (by decide +kernel) rfl) cd_X11_share
theorem vf_L_117 : VF RL 117 12 yX12_share cX12_share 11 (some .int) 1 := VF.mk rfl (by decide +kernel) (gt_of (w := .methodLink RL 117 yX12_share) 1160 (by decide +kernel) rfl) (gt_of (w := .instanceMethod yX12_share) 1161 (by decide +kernel) rfl) (gt_of (w := .selects RX12 yX12_share yX12_share) 1162 (by decide +kernel) rfl) (gt_of (w := .initialized RX12) 13 (by decide +kernel) rfl) cd_X12_share
theorem vf_L_118 : VF RL 118 11 yX11_part cX11_part 2 (some .long) 1 := VF.mk rfl (by decide +kernel) (gt_of (w := .methodLink RL 118 yX11_part) 841 (by decide +kernel) rfl) (gt_of (w := .instanceMethod yX11_part) 842 (by decide +kernel) rfl) (gt_of (w := .selects RX11 yX11_part yX11_part) 843 (by decide +kernel) rfl) (gt_of (w := .initialized RX11) 1 (by decide +kernel) rfl) cd_X11_part
theorem vf_L_122 : VF RL 122 12 yX12_part cX12_part 2 (some .long) 1 := VF.mk rfl (by decide +kernel) (gt_of (w := .methodLink RL 122 yX12_part) 1235 (by decide +kernel) rfl) (gt_of (w := .instanceMethod yX12_part) 1236 (by decide +kernel) rfl) (gt_of (w := .selects RX12 yX12_part yX12_part) 1237 (by decide +kernel) rfl) (gt_of (w := .initialized RX12) 13 (by decide +kernel) rfl) cd_X12_part
theorem vf_L_123 : VF RL 123 11 yX11_image cX11_image 2 (some .int) 1 := VF.mk rfl (by decide +kernel) (gt_of (w := .methodLink RL 123 yX11_image) 845 (by decide +kernel) rfl) (gt_of (w := .instanceMethod yX11_image) 846 (by decide +kernel) rfl) (gt_of (w := .selects RX11 yX11_image yX11_image) 847 (by decide +kernel) rfl) (gt_of (w := .initialized RX11) 1 (by decide +kernel) rfl) cd_X11_image
theorem vf_L_126 : VF RL 126 12 yX12_image cX12_image 3 (some .int) 1 := VF.mk rfl (by decide +kernel) (gt_of (w := .methodLink RL 126 yX12_image) 1239 (by decide +kernel) rfl) (gt_of (w := .instanceMethod yX12_image) 1240 (by decide +kernel) rfl) (gt_of (w := .selects RX12 yX12_image yX12_image) 1241 (by decide +kernel) rfl) (gt_of (w := .initialized RX12) 13 (by decide +kernel) rfl) cd_X12_image
theorem vf_L_127 : VF RL 127 11 yX11_from cX11_from 3 (some .int) 1 := VF.mk rfl (by decide +kernel) (gt_of (w := .methodLink RL 127 yX11_from) 849 (by decide +kernel) rfl) (gt_of (w := .instanceMethod yX11_from) 850 (by decide +kernel) rfl) (gt_of (w := .selects RX11 yX11_from yX11_from) 851 (by decide +kernel) rfl) (gt_of (w := .initialized RX11) 1 (by decide +kernel) rfl) cd_X11_from
theorem vf_L_130 : VF RL 130 12 yX12_from cX12_from 3 (some .int) 1 := VF.mk rfl (by decide +kernel) (gt_of (w := .methodLink RL 130 yX12_from) 1243 (by decide +kernel) rfl) (gt_of (w := .instanceMethod yX12_from) 1244 (by decide +kernel) rfl) (gt_of (w := .selects RX12 yX12_from yX12_from) 1245 (by decide +kernel) rfl) (gt_of (w := .initialized RX12) 13 (by decide +kernel) rfl) cd_X12_from
theorem vf_L_131 : VF RL 131 11 yX11_status cX11_status 2 (some .int) 1 := VF.mk rfl (by decide +kernel) (gt_of (w := .methodLink RL 131 yX11_status) 853 (by decide +kernel) rfl) (gt_of (w := .instanceMethod yX11_status) 854 (by decide +kernel) rfl) (gt_of (w := .selects RX11 yX11_status yX11_status) 855 (by decide +kernel) rfl) (gt_of (w := .initialized RX11) 1 (by decide +kernel) rfl) cd_X11_status
theorem vf_L_134 : VF RL 134 12 yX12_status cX12_status 2 (some .int) 1 := VF.mk rfl (by decide +kernel) (gt_of (w := .methodLink RL 134 yX12_status) 1247 (by decide +kernel) rfl) (gt_of (w := .instanceMethod yX12_status) 1248 (by decide +kernel) rfl) (gt_of (w := .selects RX12 yX12_status yX12_status) 1249 (by decide +kernel) rfl) (gt_of (w := .initialized RX12) 13 (by decide +kernel) rfl) cd_X12_status
theorem vf_L_135 : VF RL 135 11 yX11_count cX11_count 2 (some .int) 1 := VF.mk rfl (by decide +kernel) (gt_of (w := .methodLink RL 135 yX11_count) 857 (by decide +kernel) rfl) (gt_of (w := .instanceMethod yX11_count) 858 (by decide +kernel) rfl) (gt_of (w := .selects RX11 yX11_count yX11_count) 859 (by decide +kernel) rfl) (gt_of (w := .initialized RX11) 1 (by decide +kernel) rfl) cd_X11_count
theorem vf_L_138 : VF RL 138 12 yX12_count cX12_count 2 (some .int) 1 := VF.mk rfl (by decide +kernel) (gt_of (w := .methodLink RL 138 yX12_count) 1252 (by decide +kernel) rfl) (gt_of (w := .instanceMethod yX12_count) 1253 (by decide +kernel) rfl) (gt_of (w := .selects RX12 yX12_count yX12_count) 1254 (by decide +kernel) rfl) (gt_of (w := .initialized RX12) 13 (by decide +kernel) rfl) cd_X12_count
theorem vf_L_139 : VF RL 139 11 yX11_digest cX11_digest 4 (some .long) 0 := VF.mk rfl (by decide +kernel) (gt_of (w := .methodLink RL 139 yX11_digest) 866 (by decide +kernel) rfl) (gt_of (w := .instanceMethod yX11_digest) 867 (by decide +kernel) rfl) (gt_of (w := .selects RX11 yX11_digest yX11_digest) 868 (by decide +kernel) rfl) (gt_of (w := .initialized RX11) 1 (by decide +kernel) rfl) cd_X11_digest
theorem vf_L_143 : VF RL 143 12 yX12_digest cX12_digest 4 (some .long) 0 := VF.mk rfl (by decide +kernel) (gt_of (w := .methodLink RL 143 yX12_digest) 1261 (by decide +kernel) rfl) (gt_of (w := .instanceMethod yX12_digest) 1262 (by decide +kernel) rfl) (gt_of (w := .selects RX12 yX12_digest yX12_digest) 1263 (by decide +kernel) rfl) (gt_of (w := .initialized RX12) 13 (by decide +kernel) rfl) cd_X12_digest
theorem cw_L_28 : Cond.constantLong RL 28 (4294967295) ∈ gt := gt_of 1271 (by decide +kernel) rfl
