theorem dX7_chains_184 : decode cX7_chains 184 = .ok (.istore 4, 2) := by decide +kernel
theorem dX7_chains_186 : decode cX7_chains 186 = .ok (.iinc 5 1, 3) := by decide +kernel
theorem dX7_chains_189 : decode cX7_chains 189 = .ok (.goto (-63), 3) := by decide +kernel
theorem dX7_chains_192 : decode cX7_chains 192 = .ok (.aload_n 0, 1) := by decide +kernel
theorem dX7_chains_193 : decode cX7_chains 193 = .ok (.getfield 70, 3) := by decide +kernel
theorem dX7_chains_196 : decode cX7_chains 196 = .ok (.bipush 12, 2) := by decide +kernel
theorem dX7_chains_198 : decode cX7_chains 198 = .ok (.iload_n 2, 1) := by decide +kernel
theorem dX7_chains_199 : decode cX7_chains 199 = .ok (.imul, 1) := by decide +kernel
theorem dX7_chains_200 : decode cX7_chains 200 = .ok (.iload_n 3, 1) := by decide +kernel
theorem dX7_chains_201 : decode cX7_chains 201 = .ok (.iadd, 1) := by decide +kernel
theorem dX7_chains_202 : decode cX7_chains 202 = .ok (.iload 4, 2) := by decide +kernel
theorem dX7_chains_204 : decode cX7_chains 204 = .ok (.iastore, 1) := by decide +kernel
theorem dX7_chains_205 : decode cX7_chains 205 = .ok (.iinc 3 1, 3) := by decide +kernel
theorem dX7_chains_208 : decode cX7_chains 208 = .ok (.goto (-109), 3) := by decide +kernel
theorem dX7_chains_211 : decode cX7_chains 211 = .ok (.iinc 2 (-1), 3) := by decide +kernel
theorem dX7_chains_214 : decode cX7_chains 214 = .ok (.goto (-121), 3) := by decide +kernel
theorem dX7_chains_217 : decode cX7_chains 217 = .ok (.sipush 10000, 3) := by decide +kernel
theorem dX7_chains_220 : decode cX7_chains 220 = .ok (.istore_n 2, 1) := by decide +kernel
theorem dX7_chains_221 : decode cX7_chains 221 = .ok (.iconst 0, 1) := by decide +kernel
theorem dX7_chains_222 : decode cX7_chains 222 = .ok (.istore_n 3, 1) := by decide +kernel
theorem dX7_chains_223 : decode cX7_chains 223 = .ok (.iload_n 3, 1) := by decide +kernel
theorem dX7_chains_224 : decode cX7_chains 224 = .ok (.aload_n 0, 1) := by decide +kernel
theorem dX7_chains_225 : decode cX7_chains 225 = .ok (.getfield 217, 3) := by decide +kernel
theorem dX7_chains_228 : decode cX7_chains 228 = .ok (.if_icmp .ge 40, 3) := by decide +kernel
theorem dX7_chains_231 : decode cX7_chains 231 = .ok (.aload_n 0, 1) := by decide +kernel
theorem dX7_chains_232 : decode cX7_chains 232 = .ok (.getfield 70, 3) := by decide +kernel
theorem dX7_chains_235 : decode cX7_chains 235 = .ok (.bipush 12, 2) := by decide +kernel
theorem dX7_chains_237 : decode cX7_chains 237 = .ok (.iconst 1, 1) := by decide +kernel
theorem dX7_chains_238 : decode cX7_chains 238 = .ok (.iload_n 3, 1) := by decide +kernel
theorem dX7_chains_239 : decode cX7_chains 239 = .ok (.ishl, 1) := by decide +kernel
theorem dX7_chains_240 : decode cX7_chains 240 = .ok (.imul, 1) := by decide +kernel
theorem dX7_chains_241 : decode cX7_chains 241 = .ok (.iload_n 3, 1) := by decide +kernel
theorem dX7_chains_242 : decode cX7_chains 242 = .ok (.iadd, 1) := by decide +kernel
theorem dX7_chains_243 : decode cX7_chains 243 = .ok (.iaload, 1) := by decide +kernel
theorem dX7_chains_244 : decode cX7_chains 244 = .ok (.iload_n 2, 1) := by decide +kernel
theorem dX7_chains_245 : decode cX7_chains 245 = .ok (.if_icmp .ge 17, 3) := by decide +kernel
theorem dX7_chains_248 : decode cX7_chains 248 = .ok (.aload_n 0, 1) := by decide +kernel
theorem dX7_chains_249 : decode cX7_chains 249 = .ok (.getfield 70, 3) := by decide +kernel
theorem dX7_chains_252 : decode cX7_chains 252 = .ok (.bipush 12, 2) := by decide +kernel
theorem dX7_chains_254 : decode cX7_chains 254 = .ok (.iconst 1, 1) := by decide +kernel
theorem dX7_chains_255 : decode cX7_chains 255 = .ok (.iload_n 3, 1) := by decide +kernel
theorem dX7_chains_256 : decode cX7_chains 256 = .ok (.ishl, 1) := by decide +kernel
theorem dX7_chains_257 : decode cX7_chains 257 = .ok (.imul, 1) := by decide +kernel
theorem dX7_chains_258 : decode cX7_chains 258 = .ok (.iload_n 3, 1) := by decide +kernel
theorem dX7_chains_259 : decode cX7_chains 259 = .ok (.iadd, 1) := by decide +kernel
theorem dX7_chains_260 : decode cX7_chains 260 = .ok (.iaload, 1) := by decide +kernel
theorem dX7_chains_261 : decode cX7_chains 261 = .ok (.istore_n 2, 1) := by decide +kernel
theorem dX7_chains_262 : decode cX7_chains 262 = .ok (.iinc 3 1, 3) := by decide +kernel
theorem dX7_chains_265 : decode cX7_chains 265 = .ok (.goto (-42), 3) := by decide +kernel
theorem dX7_chains_268 : decode cX7_chains 268 = .ok (.iconst 0, 1) := by decide +kernel
theorem dX7_chains_269 : decode cX7_chains 269 = .ok (.istore_n 3, 1) := by decide +kernel
theorem dX7_chains_270 : decode cX7_chains 270 = .ok (.iconst (-1), 1) := by decide +kernel
theorem dX7_chains_271 : decode cX7_chains 271 = .ok (.istore 4, 2) := by decide +kernel
theorem dX7_chains_273 : decode cX7_chains 273 = .ok (.iload_n 2, 1) := by decide +kernel
theorem dX7_chains_274 : decode cX7_chains 274 = .ok (.istore 5, 2) := by decide +kernel
theorem dX7_chains_276 : decode cX7_chains 276 = .ok (.iconst 0, 1) := by decide +kernel
theorem dX7_chains_277 : decode cX7_chains 277 = .ok (.istore 6, 2) := by decide +kernel
theorem dX7_chains_279 : decode cX7_chains 279 = .ok (.iload 6, 2) := by decide +kernel
theorem dX7_chains_281 : decode cX7_chains 281 = .ok (.aload_n 0, 1) := by decide +kernel
theorem dX7_chains_282 : decode cX7_chains 282 = .ok (.getfield 217, 3) := by decide +kernel
theorem dX7_chains_285 : decode cX7_chains 285 = .ok (.if_icmp .ge 116, 3) := by decide +kernel
theorem dX7_chains_288 : decode cX7_chains 288 = .ok (.iconst 0, 1) := by decide +kernel
theorem dX7_chains_289 : decode cX7_chains 289 = .ok (.istore 7, 2) := by decide +kernel
theorem dX7_chains_291 : decode cX7_chains 291 = .ok (.iload_n 3, 1) := by decide +kernel
theorem dX7_chains_292 : decode cX7_chains 292 = .ok (.iload 7, 2) := by decide +kernel
theorem dX7_chains_294 : decode cX7_chains 294 = .ok (.ishr, 1) := by decide +kernel
theorem dX7_chains_295 : decode cX7_chains 295 = .ok (.iconst 1, 1) := by decide +kernel
theorem dX7_chains_296 : decode cX7_chains 296 = .ok (.iand, 1) := by decide +kernel
theorem dX7_chains_297 : decode cX7_chains 297 = .ok (.iconst 1, 1) := by decide +kernel
theorem dX7_chains_298 : decode cX7_chains 298 = .ok (.if_icmp .eq 44, 3) := by decide +kernel
theorem dX7_chains_301 : decode cX7_chains 301 = .ok (.iload 4, 2) := by decide +kernel
theorem dX7_chains_303 : decode cX7_chains 303 = .ok (.iconst (-1), 1) := by decide +kernel
theorem dX7_chains_304 : decode cX7_chains 304 = .ok (.if_icmp .ne 7, 3) := by decide +kernel
theorem dX7_chains_307 : decode cX7_chains 307 = .ok (.iconst 0, 1) := by decide +kernel
theorem dX7_chains_308 : decode cX7_chains 308 = .ok (.goto 11, 3) := by decide +kernel
theorem dX7_chains_311 : decode cX7_chains 311 = .ok (.aload_n 0, 1) := by decide +kernel
theorem dX7_chains_312 : decode cX7_chains 312 = .ok (.iload 4, 2) := by decide +kernel
theorem dX7_chains_314 : decode cX7_chains 314 = .ok (.iload 7, 2) := by decide +kernel
theorem dX7_chains_316 : decode cX7_chains 316 = .ok (.invokevirtual 220, 3) := by decide +kernel
theorem dX7_chains_319 : decode cX7_chains 319 = .ok (.aload_n 0, 1) := by decide +kernel
theorem dX7_chains_320 : decode cX7_chains 320 = .ok (.getfield 70, 3) := by decide +kernel
theorem dX7_chains_323 : decode cX7_chains 323 = .ok (.bipush 12, 2) := by decide +kernel
theorem dX7_chains_325 : decode cX7_chains 325 = .ok (.iload_n 3, 1) := by decide +kernel
theorem dX7_chains_326 : decode cX7_chains 326 = .ok (.iconst 1, 1) := by decide +kernel
theorem dX7_chains_327 : decode cX7_chains 327 = .ok (.iload 7, 2) := by decide +kernel
theorem dX7_chains_329 : decode cX7_chains 329 = .ok (.ishl, 1) := by decide +kernel
theorem dX7_chains_330 : decode cX7_chains 330 = .ok (.ior, 1) := by decide +kernel
theorem dX7_chains_331 : decode cX7_chains 331 = .ok (.imul, 1) := by decide +kernel
theorem dX7_chains_332 : decode cX7_chains 332 = .ok (.iload 7, 2) := by decide +kernel
theorem dX7_chains_334 : decode cX7_chains 334 = .ok (.iadd, 1) := by decide +kernel
theorem dX7_chains_335 : decode cX7_chains 335 = .ok (.iaload, 1) := by decide +kernel
theorem dX7_chains_336 : decode cX7_chains 336 = .ok (.iadd, 1) := by decide +kernel
theorem dX7_chains_337 : decode cX7_chains 337 = .ok (.iload 5, 2) := by decide +kernel
theorem dX7_chains_339 : decode cX7_chains 339 = .ok (.if_icmp .eq 12, 3) := by decide +kernel
theorem dX7_chains_342 : decode cX7_chains 342 = .ok (.iload 7, 2) := by decide +kernel
theorem dX7_chains_344 : decode cX7_chains 344 = .ok (.iconst 1, 1) := by decide +kernel
theorem dX7_chains_345 : decode cX7_chains 345 = .ok (.iadd, 1) := by decide +kernel
theorem dX7_chains_346 : decode cX7_chains 346 = .ok (.istore 7, 2) := by decide +kernel
theorem dX7_chains_348 : decode cX7_chains 348 = .ok (.goto (-57), 3) := by decide +kernel
theorem dX7_chains_351 : decode cX7_chains 351 = .ok (.aload_n 0, 1) := by decide +kernel
theorem dX7_chains_352 : decode cX7_chains 352 = .ok (.getfield 70, 3) := by decide +kernel
theorem dX7_chains_355 : decode cX7_chains 355 = .ok (.bipush 12, 2) := by decide +kernel
theorem dX7_chains_357 : decode cX7_chains 357 = .ok (.iload_n 3, 1) := by decide +kernel
theorem dX7_chains_358 : decode cX7_chains 358 = .ok (.iconst 1, 1) := by decide +kernel
theorem dX7_chains_359 : decode cX7_chains 359 = .ok (.iload 7, 2) := by decide +kernel
theorem dX7_chains_361 : decode cX7_chains 361 = .ok (.ishl, 1) := by decide +kernel
theorem dX7_chains_362 : decode cX7_chains 362 = .ok (.ior, 1) := by decide +kernel
theorem dX7_chains_363 : decode cX7_chains 363 = .ok (.imul, 1) := by decide +kernel
theorem dX7_chains_364 : decode cX7_chains 364 = .ok (.iload 7, 2) := by decide +kernel
theorem dX7_chains_366 : decode cX7_chains 366 = .ok (.iadd, 1) := by decide +kernel
theorem dX7_chains_367 : decode cX7_chains 367 = .ok (.iaload, 1) := by decide +kernel
theorem dX7_chains_368 : decode cX7_chains 368 = .ok (.istore 5, 2) := by decide +kernel
theorem dX7_chains_370 : decode cX7_chains 370 = .ok (.iload_n 3, 1) := by decide +kernel
theorem dX7_chains_371 : decode cX7_chains 371 = .ok (.iconst 1, 1) := by decide +kernel
theorem dX7_chains_372 : decode cX7_chains 372 = .ok (.iload 7, 2) := by decide +kernel
theorem dX7_chains_374 : decode cX7_chains 374 = .ok (.ishl, 1) := by decide +kernel
theorem dX7_chains_375 : decode cX7_chains 375 = .ok (.ior, 1) := by decide +kernel
theorem dX7_chains_376 : decode cX7_chains 376 = .ok (.istore_n 3, 1) := by decide +kernel
theorem dX7_chains_377 : decode cX7_chains 377 = .ok (.iload 7, 2) := by decide +kernel
theorem dX7_chains_379 : decode cX7_chains 379 = .ok (.istore 4, 2) := by decide +kernel
theorem dX7_chains_381 : decode cX7_chains 381 = .ok (.aload_n 0, 1) := by decide +kernel
theorem dX7_chains_382 : decode cX7_chains 382 = .ok (.getfield 66, 3) := by decide +kernel
theorem dX7_chains_385 : decode cX7_chains 385 = .ok (.iload 6, 2) := by decide +kernel
theorem dX7_chains_387 : decode cX7_chains 387 = .ok (.aload_n 0, 1) := by decide +kernel
theorem dX7_chains_388 : decode cX7_chains 388 = .ok (.getfield 63, 3) := by decide +kernel
theorem dX7_chains_391 : decode cX7_chains 391 = .ok (.iload 7, 2) := by decide +kernel
theorem dX7_chains_393 : decode cX7_chains 393 = .ok (.iaload, 1) := by decide +kernel
theorem dX7_chains_394 : decode cX7_chains 394 = .ok (.iastore, 1) := by decide +kernel
theorem dX7_chains_395 : decode cX7_chains 395 = .ok (.iinc 6 1, 3) := by decide +kernel
theorem dX7_chains_398 : decode cX7_chains 398 = .ok (.goto (-119), 3) := by decide +kernel
theorem dX7_chains_401 : decode cX7_chains 401 = .ok (.iload_n 2, 1) := by decide +kernel
theorem dX7_chains_402 : decode cX7_chains 402 = .ok (.ireturn, 1) := by decide +kernel
set_option maxRecDepth 20000 in
theorem ggX7_chain_X7_begins : GoodIn wsX7_chain wsX7_begins := goodIn_r _ [6, 7, 8, 9, 10, 5, 11, 12, 37, 38, 39, 40, 41, 42, 43, 44, 45, 46, 47, 48, 49, 50, 51, 52, 53, 54, 55, 56, 57, 58, 59, 60, 61, 62, 63, 64, 65, 66] (by decide +kernel) (by decide +kernel)
set_option maxRecDepth 20000 in
theorem gX7_chain_X7_begins : GoodIn wsX7_chain (wsV RX7 91 RX7 yX7_begins wsX7_begins) := goodIn_app (goodIn_of _ (by decide +kernel)) ggX7_chain_X7_begins
set_option maxRecDepth 20000 in
theorem ggX7_chain_X7_chains : GoodIn wsX7_chain wsX7_chains := goodIn_r _ [16, 17, 12, 18, 19, 20, 21, 22, 23, 5, 24, 25, 26, 27, 28, 29, 30, 31, 32, 33, 34, 35, 36, 37, 38, 39, 40, 41, 42, 43, 44, 45, 46, 47, 48, 49, 50, 51, 52, 53, 54, 55, 56, 57, 58, 59, 60, 61, 62, 63, 64, 65, 66] (by decide +kernel) (by decide +kernel)
set_option maxRecDepth 20000 in
theorem gX7_chain_X7_chains : GoodIn wsX7_chain (wsV RX7 223 RX7 yX7_chains wsX7_chains) := goodIn_app (goodIn_of _ (by decide +kernel)) ggX7_chain_X7_chains
theorem dX7_chain_0 : decode cX7_chain 0 = .ok (.aload_n 0, 1) := by decide +kernel
theorem dX7_chain_1 : decode cX7_chain 1 = .ok (.iconst 0, 1) := by decide +kernel
theorem dX7_chain_2 : decode cX7_chain 2 = .ok (.putfield 76, 3) := by decide +kernel
theorem dX7_chain_5 : decode cX7_chain 5 = .ok (.aload_n 0, 1) := by decide +kernel
theorem dX7_chain_6 : decode cX7_chain 6 = .ok (.invokevirtual 91, 3) := by decide +kernel
theorem dX7_chain_9 : decode cX7_chain 9 = .ok (.aload_n 0, 1) := by decide +kernel
theorem dX7_chain_10 : decode cX7_chain 10 = .ok (.invokevirtual 223, 3) := by decide +kernel
theorem dX7_chain_13 : decode cX7_chain 13 = .ok (.ireturn, 1) := by decide +kernel
set_option maxRecDepth 20000 in
theorem ggX7_chainOf_X7_begins : GoodIn wsX7_chainOf wsX7_begins := goodIn_r _ [8, 9, 10, 11, 12, 7, 13, 14, 37, 38, 39, 40, 41, 42, 43, 44, 45, 46, 47, 48, 49, 50, 51, 52, 53, 54, 55, 56, 57, 58, 59, 60, 61, 62, 63, 64, 65, 66] (by decide +kernel) (by decide +kernel)
set_option maxRecDepth 20000 in
theorem gX7_chainOf_X7_begins : GoodIn wsX7_chainOf (wsV RX7 91 RX7 yX7_begins wsX7_begins) := goodIn_app (goodIn_of _ (by decide +kernel)) ggX7_chainOf_X7_begins
set_option maxRecDepth 20000 in
theorem ggX7_chainOf_X7_chains : GoodIn wsX7_chainOf wsX7_chains := goodIn_r _ [18, 2, 14, 19, 20, 3, 21, 22, 23, 7, 24, 25, 26, 27, 28, 29, 30, 31, 32, 33, 34, 35, 36, 37, 38, 39, 40, 41, 42, 43, 44, 45, 46, 47, 48, 49, 50, 51, 52, 53, 54, 55, 56, 57, 58, 59, 60, 61, 62, 63, 64, 65, 66] (by decide +kernel) (by decide +kernel)
set_option maxRecDepth 20000 in
theorem gX7_chainOf_X7_chains : GoodIn wsX7_chainOf (wsV RX7 223 RX7 yX7_chains wsX7_chains) := goodIn_app (goodIn_of _ (by decide +kernel)) ggX7_chainOf_X7_chains
theorem dX7_chainOf_0 : decode cX7_chainOf 0 = .ok (.aload_n 0, 1) := by decide +kernel
theorem dX7_chainOf_1 : decode cX7_chainOf 1 = .ok (.iconst 0, 1) := by decide +kernel
theorem dX7_chainOf_2 : decode cX7_chainOf 2 = .ok (.putfield 76, 3) := by decide +kernel
theorem dX7_chainOf_5 : decode cX7_chainOf 5 = .ok (.aload_n 0, 1) := by decide +kernel
theorem dX7_chainOf_6 : decode cX7_chainOf 6 = .ok (.invokevirtual 91, 3) := by decide +kernel
theorem dX7_chainOf_9 : decode cX7_chainOf 9 = .ok (.aload_n 0, 1) := by decide +kernel
theorem dX7_chainOf_10 : decode cX7_chainOf 10 = .ok (.invokevirtual 223, 3) := by decide +kernel
theorem dX7_chainOf_13 : decode cX7_chainOf 13 = .ok (.iconst (-1), 1) := by decide +kernel
theorem dX7_chainOf_14 : decode cX7_chainOf 14 = .ok (.if_icmp .eq 15, 3) := by decide +kernel
theorem dX7_chainOf_17 : decode cX7_chainOf 17 = .ok (.iload_n 1, 1) := by decide +kernel
theorem dX7_chainOf_18 : decode cX7_chainOf 18 = .ok (.ifCond .lt 11, 3) := by decide +kernel
theorem dX7_chainOf_21 : decode cX7_chainOf 21 = .ok (.iload_n 1, 1) := by decide +kernel
theorem dX7_chainOf_22 : decode cX7_chainOf 22 = .ok (.aload_n 0, 1) := by decide +kernel
theorem dX7_chainOf_23 : decode cX7_chainOf 23 = .ok (.getfield 217, 3) := by decide +kernel
theorem dX7_chainOf_26 : decode cX7_chainOf 26 = .ok (.if_icmp .lt 5, 3) := by decide +kernel
theorem dX7_chainOf_29 : decode cX7_chainOf 29 = .ok (.iconst (-1), 1) := by decide +kernel
theorem dX7_chainOf_30 : decode cX7_chainOf 30 = .ok (.ireturn, 1) := by decide +kernel
theorem dX7_chainOf_31 : decode cX7_chainOf 31 = .ok (.aload_n 0, 1) := by decide +kernel
theorem dX7_chainOf_32 : decode cX7_chainOf 32 = .ok (.getfield 66, 3) := by decide +kernel
theorem dX7_chainOf_35 : decode cX7_chainOf 35 = .ok (.iload_n 1, 1) := by decide +kernel
theorem dX7_chainOf_36 : decode cX7_chainOf 36 = .ok (.iaload, 1) := by decide +kernel
theorem dX7_chainOf_37 : decode cX7_chainOf 37 = .ok (.ireturn, 1) := by decide +kernel
set_option maxRecDepth 20000 in
theorem ggX7_see_X7_begins : GoodIn wsX7_see wsX7_begins := goodIn_r _ [7, 8, 9, 10, 11, 6, 12, 2, 27, 28, 29, 30, 31, 32, 33, 34, 35, 36, 37, 38, 39, 40, 41, 42, 43, 44, 45, 46, 47, 48, 49, 50, 51, 52, 53, 54, 55, 56] (by decide +kernel) (by decide +kernel)
set_option maxRecDepth 20000 in
theorem gX7_see_X7_begins : GoodIn wsX7_see (wsV RX7 91 RX7 yX7_begins wsX7_begins) := goodIn_app (goodIn_of _ (by decide +kernel)) ggX7_see_X7_begins
set_option maxRecDepth 20000 in
theorem ggX7_see_X7_isSetting : GoodIn wsX7_see wsX7_isSetting := goodIn_r _ [16, 17, 18, 19, 6, 20, 2, 27, 28, 29, 30, 31, 32, 33, 34, 35, 36, 37, 38, 39, 40, 41, 42, 43, 44, 45, 46, 47, 48, 49, 50, 51, 52, 53, 54, 55, 56] (by decide +kernel) (by decide +kernel)
set_option maxRecDepth 20000 in
theorem gX7_see_X7_isSetting : GoodIn wsX7_see (wsV RX7 101 RX7 yX7_isSetting wsX7_isSetting) := goodIn_app (goodIn_of _ (by decide +kernel)) ggX7_see_X7_isSetting
set_option maxRecDepth 20000 in
theorem ggX7_see_X7_keep : GoodIn wsX7_see wsX7_keep := goodIn_r _ [24, 25, 26, 2, 27, 28, 29, 30, 31, 32, 33, 34, 35, 36, 37, 38, 39, 40, 41, 42, 43, 44, 45, 46, 47, 48, 49, 50, 51, 52, 53, 54, 55, 56] (by decide +kernel) (by decide +kernel)
set_option maxRecDepth 20000 in
theorem gX7_see_X7_keep : GoodIn wsX7_see (wsV RX7 94 RX7 yX7_keep wsX7_keep) := goodIn_app (goodIn_of _ (by decide +kernel)) ggX7_see_X7_keep
theorem dX7_see_0 : decode cX7_see 0 = .ok (.aload_n 0, 1) := by decide +kernel
theorem dX7_see_1 : decode cX7_see 1 = .ok (.iconst 0, 1) := by decide +kernel
theorem dX7_see_2 : decode cX7_see 2 = .ok (.putfield 76, 3) := by decide +kernel
theorem dX7_see_5 : decode cX7_see 5 = .ok (.aload_n 0, 1) := by decide +kernel
theorem dX7_see_6 : decode cX7_see 6 = .ok (.invokevirtual 91, 3) := by decide +kernel
theorem dX7_see_9 : decode cX7_see 9 = .ok (.aload_n 0, 1) := by decide +kernel
theorem dX7_see_10 : decode cX7_see 10 = .ok (.iload_n 1, 1) := by decide +kernel
theorem dX7_see_11 : decode cX7_see 11 = .ok (.invokevirtual 101, 3) := by decide +kernel
theorem dX7_see_14 : decode cX7_see 14 = .ok (.ifCond .eq 29, 3) := by decide +kernel
theorem dX7_see_17 : decode cX7_see 17 = .ok (.iload_n 2, 1) := by decide +kernel
theorem dX7_see_18 : decode cX7_see 18 = .ok (.sipush (-1000), 3) := by decide +kernel
theorem dX7_see_21 : decode cX7_see 21 = .ok (.if_icmp .lt 22, 3) := by decide +kernel
theorem dX7_see_24 : decode cX7_see 24 = .ok (.iload_n 2, 1) := by decide +kernel
theorem dX7_see_25 : decode cX7_see 25 = .ok (.sipush 1000, 3) := by decide +kernel
theorem dX7_see_28 : decode cX7_see 28 = .ok (.if_icmp .gt 15, 3) := by decide +kernel
theorem dX7_see_31 : decode cX7_see 31 = .ok (.aload_n 0, 1) := by decide +kernel
theorem dX7_see_32 : decode cX7_see 32 = .ok (.getfield 7, 3) := by decide +kernel
theorem dX7_see_35 : decode cX7_see 35 = .ok (.bipush 79, 2) := by decide +kernel
theorem dX7_see_37 : decode cX7_see 37 = .ok (.iaload, 1) := by decide +kernel
theorem dX7_see_38 : decode cX7_see 38 = .ok (.bipush 60, 2) := by decide +kernel
theorem dX7_see_40 : decode cX7_see 40 = .ok (.if_icmp .ne 5, 3) := by decide +kernel
theorem dX7_see_43 : decode cX7_see 43 = .ok (.iconst (-1), 1) := by decide +kernel
theorem dX7_see_44 : decode cX7_see 44 = .ok (.ireturn, 1) := by decide +kernel
theorem dX7_see_45 : decode cX7_see 45 = .ok (.aload_n 0, 1) := by decide +kernel
theorem dX7_see_46 : decode cX7_see 46 = .ok (.invokevirtual 94, 3) := by decide +kernel
theorem dX7_see_49 : decode cX7_see 49 = .ok (.aload_n 0, 1) := by decide +kernel
theorem dX7_see_50 : decode cX7_see 50 = .ok (.getfield 7, 3) := by decide +kernel
theorem dX7_see_53 : decode cX7_see 53 = .ok (.bipush 80, 2) := by decide +kernel
theorem dX7_see_55 : decode cX7_see 55 = .ok (.aload_n 0, 1) := by decide +kernel
theorem dX7_see_56 : decode cX7_see 56 = .ok (.getfield 7, 3) := by decide +kernel
theorem dX7_see_59 : decode cX7_see 59 = .ok (.bipush 79, 2) := by decide +kernel
theorem dX7_see_61 : decode cX7_see 61 = .ok (.iaload, 1) := by decide +kernel
theorem dX7_see_62 : decode cX7_see 62 = .ok (.iadd, 1) := by decide +kernel
theorem dX7_see_63 : decode cX7_see 63 = .ok (.iload_n 1, 1) := by decide +kernel
theorem dX7_see_64 : decode cX7_see 64 = .ok (.iastore, 1) := by decide +kernel
theorem dX7_see_65 : decode cX7_see 65 = .ok (.aload_n 0, 1) := by decide +kernel
theorem dX7_see_66 : decode cX7_see 66 = .ok (.getfield 7, 3) := by decide +kernel
theorem dX7_see_69 : decode cX7_see 69 = .ok (.sipush 140, 3) := by decide +kernel
theorem dX7_see_72 : decode cX7_see 72 = .ok (.aload_n 0, 1) := by decide +kernel
theorem dX7_see_73 : decode cX7_see 73 = .ok (.getfield 7, 3) := by decide +kernel
theorem dX7_see_76 : decode cX7_see 76 = .ok (.bipush 79, 2) := by decide +kernel
theorem dX7_see_78 : decode cX7_see 78 = .ok (.iaload, 1) := by decide +kernel
theorem dX7_see_79 : decode cX7_see 79 = .ok (.iadd, 1) := by decide +kernel
theorem dX7_see_80 : decode cX7_see 80 = .ok (.iload_n 2, 1) := by decide +kernel
theorem dX7_see_81 : decode cX7_see 81 = .ok (.iastore, 1) := by decide +kernel
theorem dX7_see_82 : decode cX7_see 82 = .ok (.aload_n 0, 1) := by decide +kernel
theorem dX7_see_83 : decode cX7_see 83 = .ok (.getfield 7, 3) := by decide +kernel
theorem dX7_see_86 : decode cX7_see 86 = .ok (.bipush 79, 2) := by decide +kernel
theorem dX7_see_88 : decode cX7_see 88 = .ok (.aload_n 0, 1) := by decide +kernel
theorem dX7_see_89 : decode cX7_see 89 = .ok (.getfield 7, 3) := by decide +kernel
theorem dX7_see_92 : decode cX7_see 92 = .ok (.bipush 79, 2) := by decide +kernel
theorem dX7_see_94 : decode cX7_see 94 = .ok (.iaload, 1) := by decide +kernel
theorem dX7_see_95 : decode cX7_see 95 = .ok (.iconst 1, 1) := by decide +kernel
theorem dX7_see_96 : decode cX7_see 96 = .ok (.iadd, 1) := by decide +kernel
theorem dX7_see_97 : decode cX7_see 97 = .ok (.iastore, 1) := by decide +kernel
theorem dX7_see_98 : decode cX7_see 98 = .ok (.aload_n 0, 1) := by decide +kernel
theorem dX7_see_99 : decode cX7_see 99 = .ok (.getfield 7, 3) := by decide +kernel
theorem dX7_see_102 : decode cX7_see 102 = .ok (.bipush 79, 2) := by decide +kernel
theorem dX7_see_104 : decode cX7_see 104 = .ok (.iaload, 1) := by decide +kernel
theorem dX7_see_105 : decode cX7_see 105 = .ok (.ireturn, 1) := by decide +kernel
set_option maxRecDepth 20000 in
theorem ggX7_forget_X7_begins : GoodIn wsX7_forget wsX7_begins := goodIn_r _ [7, 8, 9, 10, 11, 6, 12, 2, 19, 20, 21, 22, 23, 24, 25, 26, 27, 28, 29, 30, 31, 32, 33, 34, 35, 36, 37, 38, 39, 40, 41, 42, 43, 44, 45, 46, 47, 48] (by decide +kernel) (by decide +kernel)
set_option maxRecDepth 20000 in
theorem gX7_forget_X7_begins : GoodIn wsX7_forget (wsV RX7 91 RX7 yX7_begins wsX7_begins) := goodIn_app (goodIn_of _ (by decide +kernel)) ggX7_forget_X7_begins
set_option maxRecDepth 20000 in
theorem ggX7_forget_X7_keep : GoodIn wsX7_forget wsX7_keep := goodIn_r _ [16, 17, 18, 2, 19, 20, 21, 22, 23, 24, 25, 26, 27, 28, 29, 30, 31, 32, 33, 34, 35, 36, 37, 38, 39, 40, 41, 42, 43, 44, 45, 46, 47, 48] (by decide +kernel) (by decide +kernel)
set_option maxRecDepth 20000 in
theorem gX7_forget_X7_keep : GoodIn wsX7_forget (wsV RX7 94 RX7 yX7_keep wsX7_keep) := goodIn_app (goodIn_of _ (by decide +kernel)) ggX7_forget_X7_keep
theorem dX7_forget_0 : decode cX7_forget 0 = .ok (.aload_n 0, 1) := by decide +kernel
theorem dX7_forget_1 : decode cX7_forget 1 = .ok (.iconst 0, 1) := by decide +kernel
theorem dX7_forget_2 : decode cX7_forget 2 = .ok (.putfield 76, 3) := by decide +kernel
theorem dX7_forget_5 : decode cX7_forget 5 = .ok (.aload_n 0, 1) := by decide +kernel
theorem dX7_forget_6 : decode cX7_forget 6 = .ok (.invokevirtual 91, 3) := by decide +kernel
theorem dX7_forget_9 : decode cX7_forget 9 = .ok (.aload_n 0, 1) := by decide +kernel
theorem dX7_forget_10 : decode cX7_forget 10 = .ok (.invokevirtual 94, 3) := by decide +kernel
theorem dX7_forget_13 : decode cX7_forget 13 = .ok (.aload_n 0, 1) := by decide +kernel
theorem dX7_forget_14 : decode cX7_forget 14 = .ok (.getfield 7, 3) := by decide +kernel
theorem dX7_forget_17 : decode cX7_forget 17 = .ok (.bipush 79, 2) := by decide +kernel
theorem dX7_forget_19 : decode cX7_forget 19 = .ok (.iconst 0, 1) := by decide +kernel
theorem dX7_forget_20 : decode cX7_forget 20 = .ok (.iastore, 1) := by decide +kernel
theorem dX7_forget_21 : decode cX7_forget 21 = .ok (.iconst 0, 1) := by decide +kernel
theorem dX7_forget_22 : decode cX7_forget 22 = .ok (.istore_n 1, 1) := by decide +kernel
theorem dX7_forget_23 : decode cX7_forget 23 = .ok (.iload_n 1, 1) := by decide +kernel
theorem dX7_forget_24 : decode cX7_forget 24 = .ok (.bipush 60, 2) := by decide +kernel
theorem dX7_forget_26 : decode cX7_forget 26 = .ok (.if_icmp .ge 30, 3) := by decide +kernel
theorem dX7_forget_29 : decode cX7_forget 29 = .ok (.aload_n 0, 1) := by decide +kernel
theorem dX7_forget_30 : decode cX7_forget 30 = .ok (.getfield 7, 3) := by decide +kernel
theorem dX7_forget_33 : decode cX7_forget 33 = .ok (.bipush 80, 2) := by decide +kernel
theorem dX7_forget_35 : decode cX7_forget 35 = .ok (.iload_n 1, 1) := by decide +kernel
theorem dX7_forget_36 : decode cX7_forget 36 = .ok (.iadd, 1) := by decide +kernel
theorem dX7_forget_37 : decode cX7_forget 37 = .ok (.iconst 0, 1) := by decide +kernel
theorem dX7_forget_38 : decode cX7_forget 38 = .ok (.iastore, 1) := by decide +kernel
theorem dX7_forget_39 : decode cX7_forget 39 = .ok (.aload_n 0, 1) := by decide +kernel
theorem dX7_forget_40 : decode cX7_forget 40 = .ok (.getfield 7, 3) := by decide +kernel
theorem dX7_forget_43 : decode cX7_forget 43 = .ok (.sipush 140, 3) := by decide +kernel
theorem dX7_forget_46 : decode cX7_forget 46 = .ok (.iload_n 1, 1) := by decide +kernel
theorem dX7_forget_47 : decode cX7_forget 47 = .ok (.iadd, 1) := by decide +kernel
theorem dX7_forget_48 : decode cX7_forget 48 = .ok (.iconst 0, 1) := by decide +kernel
theorem dX7_forget_49 : decode cX7_forget 49 = .ok (.iastore, 1) := by decide +kernel
theorem dX7_forget_50 : decode cX7_forget 50 = .ok (.iinc 1 1, 3) := by decide +kernel
theorem dX7_forget_53 : decode cX7_forget 53 = .ok (.goto (-30), 3) := by decide +kernel
theorem dX7_forget_56 : decode cX7_forget 56 = .ok (.return_, 1) := by decide +kernel
set_option maxRecDepth 20000 in
theorem ggX7_pulls_X7_markOf : GoodIn wsX7_pulls wsX7_markOf := goodIn_r _ [7, 8, 9, 10, 6, 11] (by decide +kernel) (by decide +kernel)
set_option maxRecDepth 20000 in
theorem gX7_pulls_X7_markOf : GoodIn wsX7_pulls (wsV RX7 112 RX7 yX7_markOf wsX7_markOf) := goodIn_app (goodIn_of _ (by decide +kernel)) ggX7_pulls_X7_markOf
theorem dX7_pulls_0 : decode cX7_pulls 0 = .ok (.iconst 0, 1) := by decide +kernel
theorem dX7_pulls_1 : decode cX7_pulls 1 = .ok (.istore_n 1, 1) := by decide +kernel
theorem dX7_pulls_2 : decode cX7_pulls 2 = .ok (.iload_n 1, 1) := by decide +kernel
theorem dX7_pulls_3 : decode cX7_pulls 3 = .ok (.iconst 5, 1) := by decide +kernel
theorem dX7_pulls_4 : decode cX7_pulls 4 = .ok (.if_icmp .ge 16, 3) := by decide +kernel
theorem dX7_pulls_7 : decode cX7_pulls 7 = .ok (.aload_n 0, 1) := by decide +kernel
theorem dX7_pulls_8 : decode cX7_pulls 8 = .ok (.getfield 73, 3) := by decide +kernel
theorem dX7_pulls_11 : decode cX7_pulls 11 = .ok (.iload_n 1, 1) := by decide +kernel
theorem dX7_pulls_12 : decode cX7_pulls 12 = .ok (.lconst 0, 1) := by decide +kernel
theorem dX7_pulls_13 : decode cX7_pulls 13 = .ok (.lastore, 1) := by decide +kernel
theorem dX7_pulls_14 : decode cX7_pulls 14 = .ok (.iinc 1 1, 3) := by decide +kernel
theorem dX7_pulls_17 : decode cX7_pulls 17 = .ok (.goto (-15), 3) := by decide +kernel
theorem dX7_pulls_20 : decode cX7_pulls 20 = .ok (.iconst 0, 1) := by decide +kernel
theorem dX7_pulls_21 : decode cX7_pulls 21 = .ok (.istore_n 1, 1) := by decide +kernel
theorem dX7_pulls_22 : decode cX7_pulls 22 = .ok (.iload_n 1, 1) := by decide +kernel
theorem dX7_pulls_23 : decode cX7_pulls 23 = .ok (.aload_n 0, 1) := by decide +kernel
theorem dX7_pulls_24 : decode cX7_pulls 24 = .ok (.getfield 7, 3) := by decide +kernel
theorem dX7_pulls_27 : decode cX7_pulls 27 = .ok (.bipush 79, 2) := by decide +kernel
theorem dX7_pulls_29 : decode cX7_pulls 29 = .ok (.iaload, 1) := by decide +kernel
theorem dX7_pulls_30 : decode cX7_pulls 30 = .ok (.if_icmp .ge 73, 3) := by decide +kernel
theorem dX7_pulls_33 : decode cX7_pulls 33 = .ok (.iconst 0, 1) := by decide +kernel
theorem dX7_pulls_34 : decode cX7_pulls 34 = .ok (.istore_n 2, 1) := by decide +kernel
theorem dX7_pulls_35 : decode cX7_pulls 35 = .ok (.iload_n 2, 1) := by decide +kernel
theorem dX7_pulls_36 : decode cX7_pulls 36 = .ok (.aload_n 0, 1) := by decide +kernel
theorem dX7_pulls_37 : decode cX7_pulls 37 = .ok (.getfield 7, 3) := by decide +kernel
theorem dX7_pulls_40 : decode cX7_pulls 40 = .ok (.iconst 1, 1) := by decide +kernel
theorem dX7_pulls_41 : decode cX7_pulls 41 = .ok (.iaload, 1) := by decide +kernel
theorem dX7_pulls_42 : decode cX7_pulls 42 = .ok (.if_icmp .ge 55, 3) := by decide +kernel
theorem dX7_pulls_45 : decode cX7_pulls 45 = .ok (.aload_n 0, 1) := by decide +kernel
theorem dX7_pulls_46 : decode cX7_pulls 46 = .ok (.getfield 73, 3) := by decide +kernel
theorem dX7_pulls_49 : decode cX7_pulls 49 = .ok (.iload_n 2, 1) := by decide +kernel
theorem dX7_pulls_50 : decode cX7_pulls 50 = .ok (.aload_n 0, 1) := by decide +kernel
theorem dX7_pulls_51 : decode cX7_pulls 51 = .ok (.getfield 73, 3) := by decide +kernel
theorem dX7_pulls_54 : decode cX7_pulls 54 = .ok (.iload_n 2, 1) := by decide +kernel
theorem dX7_pulls_55 : decode cX7_pulls 55 = .ok (.laload, 1) := by decide +kernel
theorem dX7_pulls_56 : decode cX7_pulls 56 = .ok (.aload_n 0, 1) := by decide +kernel
theorem dX7_pulls_57 : decode cX7_pulls 57 = .ok (.getfield 7, 3) := by decide +kernel
theorem dX7_pulls_60 : decode cX7_pulls 60 = .ok (.sipush 140, 3) := by decide +kernel
theorem dX7_pulls_63 : decode cX7_pulls 63 = .ok (.iload_n 1, 1) := by decide +kernel
theorem dX7_pulls_64 : decode cX7_pulls 64 = .ok (.iadd, 1) := by decide +kernel
theorem dX7_pulls_65 : decode cX7_pulls 65 = .ok (.iaload, 1) := by decide +kernel
theorem dX7_pulls_66 : decode cX7_pulls 66 = .ok (.aload_n 0, 1) := by decide +kernel
theorem dX7_pulls_67 : decode cX7_pulls 67 = .ok (.aload_n 0, 1) := by decide +kernel
theorem dX7_pulls_68 : decode cX7_pulls 68 = .ok (.getfield 7, 3) := by decide +kernel
theorem dX7_pulls_71 : decode cX7_pulls 71 = .ok (.iconst 2, 1) := by decide +kernel
theorem dX7_pulls_72 : decode cX7_pulls 72 = .ok (.iload_n 2, 1) := by decide +kernel
theorem dX7_pulls_73 : decode cX7_pulls 73 = .ok (.iadd, 1) := by decide +kernel
theorem dX7_pulls_74 : decode cX7_pulls 74 = .ok (.iaload, 1) := by decide +kernel
theorem dX7_pulls_75 : decode cX7_pulls 75 = .ok (.aload_n 0, 1) := by decide +kernel
theorem dX7_pulls_76 : decode cX7_pulls 76 = .ok (.getfield 7, 3) := by decide +kernel
theorem dX7_pulls_79 : decode cX7_pulls 79 = .ok (.bipush 80, 2) := by decide +kernel
theorem dX7_pulls_81 : decode cX7_pulls 81 = .ok (.iload_n 1, 1) := by decide +kernel
theorem dX7_pulls_82 : decode cX7_pulls 82 = .ok (.iadd, 1) := by decide +kernel
theorem dX7_pulls_83 : decode cX7_pulls 83 = .ok (.iaload, 1) := by decide +kernel
theorem dX7_pulls_84 : decode cX7_pulls 84 = .ok (.invokevirtual 112, 3) := by decide +kernel
theorem dX7_pulls_87 : decode cX7_pulls 87 = .ok (.imul, 1) := by decide +kernel
theorem dX7_pulls_88 : decode cX7_pulls 88 = .ok (.i2l, 1) := by decide +kernel
theorem dX7_pulls_89 : decode cX7_pulls 89 = .ok (.ladd, 1) := by decide +kernel
theorem dX7_pulls_90 : decode cX7_pulls 90 = .ok (.lastore, 1) := by decide +kernel
theorem dX7_pulls_91 : decode cX7_pulls 91 = .ok (.iinc 2 1, 3) := by decide +kernel
theorem dX7_pulls_94 : decode cX7_pulls 94 = .ok (.goto (-59), 3) := by decide +kernel
theorem dX7_pulls_97 : decode cX7_pulls 97 = .ok (.iinc 1 1, 3) := by decide +kernel
theorem dX7_pulls_100 : decode cX7_pulls 100 = .ok (.goto (-78), 3) := by decide +kernel
theorem dX7_pulls_103 : decode cX7_pulls 103 = .ok (.return_, 1) := by decide +kernel
set_option maxRecDepth 20000 in
theorem ggX7_weight_X7_begins : GoodIn wsX7_weight wsX7_begins := goodIn_r _ [10, 11, 12, 13, 14, 9, 15, 16, 78, 79, 80, 81, 82, 83, 84, 85, 86, 87, 88, 89, 90, 91, 92, 93, 94, 95, 96, 97, 98, 99, 100, 101, 102, 103, 104, 105, 106, 107] (by decide +kernel) (by decide +kernel)
set_option maxRecDepth 20000 in
theorem gX7_weight_X7_begins : GoodIn wsX7_weight (wsV RX7 91 RX7 yX7_begins wsX7_begins) := goodIn_app (goodIn_of _ (by decide +kernel)) ggX7_weight_X7_begins
set_option maxRecDepth 20000 in
theorem ggX7_weight_X7_takesSum : GoodIn wsX7_weight wsX7_takesSum := goodIn_r _ [20, 4, 16, 21, 22, 78, 79, 80, 81, 82, 83, 84, 85, 86, 87, 88, 89, 90, 91, 92, 93, 94, 95, 96, 97, 98, 99, 100, 101, 102, 103, 104, 105, 106, 107] (by decide +kernel) (by decide +kernel)
set_option maxRecDepth 20000 in
theorem gX7_weight_X7_takesSum : GoodIn wsX7_weight (wsV RX7 153 RX7 yX7_takesSum wsX7_takesSum) := goodIn_app (goodIn_of _ (by decide +kernel)) ggX7_weight_X7_takesSum
set_option maxRecDepth 20000 in
theorem ggX7_weight_X7_tables : GoodIn wsX7_weight wsX7_tables := goodIn_r _ [26, 27, 16, 28, 29, 30, 9, 31, 32, 33, 34, 35, 36, 37, 38, 39, 78, 79, 80, 81, 82, 83, 84, 85, 86, 87, 88, 89, 90, 91, 92, 93, 94, 95, 96, 97, 98, 99, 100, 101, 102, 103, 104, 105, 106, 107] (by decide +kernel) (by decide +kernel)
set_option maxRecDepth 20000 in
theorem gX7_weight_X7_tables : GoodIn wsX7_weight (wsV RX7 142 RX7 yX7_tables wsX7_tables) := goodIn_app (goodIn_of _ (by decide +kernel)) ggX7_weight_X7_tables
set_option maxRecDepth 20000 in
theorem ggX7_weight_X7_isKnown : GoodIn wsX7_weight wsX7_isKnown := goodIn_r _ [43, 16, 44, 27, 4, 45, 46, 47, 48, 9, 49, 5, 50, 51, 52, 53, 54, 55, 56, 57, 58, 59, 60, 61, 36, 37, 38, 39, 78, 79, 80, 81, 82, 83, 84, 85, 86, 87, 88, 89, 90, 91, 92, 93, 94, 95, 96, 97, 98, 99, 100, 101, 102, 103, 104, 105, 106, 107] (by decide +kernel) (by decide +kernel)
set_option maxRecDepth 20000 in
theorem gX7_weight_X7_isKnown : GoodIn wsX7_weight (wsV RX7 157 RX7 yX7_isKnown wsX7_isKnown) := goodIn_app (goodIn_of _ (by decide +kernel)) ggX7_weight_X7_isKnown
set_option maxRecDepth 20000 in
theorem ggX7_weight_X7_pulls : GoodIn wsX7_weight wsX7_pulls := goodIn_r _ [65, 3, 16, 32, 33, 34, 9, 35, 36, 37, 38, 39, 78, 79, 80, 81, 82, 83, 84, 85, 86, 87, 88, 89, 90, 91, 92, 93, 94, 95, 96, 97, 98, 99, 100, 101, 102, 103, 104, 105, 106, 107] (by decide +kernel) (by decide +kernel)
set_option maxRecDepth 20000 in
theorem gX7_weight_X7_pulls : GoodIn wsX7_weight (wsV RX7 228 RX7 yX7_pulls wsX7_pulls) := goodIn_app (goodIn_of _ (by decide +kernel)) ggX7_weight_X7_pulls
set_option maxRecDepth 20000 in
theorem ggX7_weight_X7_given : GoodIn wsX7_weight wsX7_given := goodIn_r _ [69, 45, 52, 53, 54, 9, 55, 56, 27, 51, 57, 58, 59, 60, 61, 36, 37, 38, 39, 78, 79, 80, 81, 82, 83, 84, 85, 86, 87, 88, 89, 90, 91, 92, 93, 94, 95, 96, 97, 98, 99, 100, 101, 102, 103, 104, 105, 106, 107] (by decide +kernel) (by decide +kernel)
set_option maxRecDepth 20000 in
theorem gX7_weight_X7_given : GoodIn wsX7_weight (wsV RX7 163 RX7 yX7_given wsX7_given) := goodIn_app (goodIn_of _ (by decide +kernel)) ggX7_weight_X7_given
set_option maxRecDepth 20000 in
theorem ggX7_weight_X7_share : GoodIn wsX7_weight wsX7_share := goodIn_r _ [73, 74, 75, 76, 9, 77] (by decide +kernel) (by decide +kernel)
set_option maxRecDepth 20000 in
theorem gX7_weight_X7_share : GoodIn wsX7_weight (wsV RX7 167 RX7 yX7_share wsX7_share) := goodIn_app (goodIn_of _ (by decide +kernel)) ggX7_weight_X7_share
theorem dX7_weight_0 : decode cX7_weight 0 = .ok (.aload_n 0, 1) := by decide +kernel
theorem dX7_weight_1 : decode cX7_weight 1 = .ok (.iconst 0, 1) := by decide +kernel
theorem dX7_weight_2 : decode cX7_weight 2 = .ok (.putfield 76, 3) := by decide +kernel
theorem dX7_weight_5 : decode cX7_weight 5 = .ok (.aload_n 0, 1) := by decide +kernel
theorem dX7_weight_6 : decode cX7_weight 6 = .ok (.invokevirtual 91, 3) := by decide +kernel
theorem dX7_weight_9 : decode cX7_weight 9 = .ok (.iload 6, 2) := by decide +kernel
theorem dX7_weight_11 : decode cX7_weight 11 = .ok (.ifCond .lt 23, 3) := by decide +kernel
theorem dX7_weight_14 : decode cX7_weight 14 = .ok (.iload 6, 2) := by decide +kernel
theorem dX7_weight_16 : decode cX7_weight 16 = .ok (.iconst 1, 1) := by decide +kernel
theorem dX7_weight_17 : decode cX7_weight 17 = .ok (.if_icmp .gt 17, 3) := by decide +kernel
theorem dX7_weight_20 : decode cX7_weight 20 = .ok (.aload_n 0, 1) := by decide +kernel
theorem dX7_weight_21 : decode cX7_weight 21 = .ok (.iload_n 1, 1) := by decide +kernel
theorem dX7_weight_22 : decode cX7_weight 22 = .ok (.iload_n 2, 1) := by decide +kernel
theorem dX7_weight_23 : decode cX7_weight 23 = .ok (.iload_n 3, 1) := by decide +kernel
theorem dX7_weight_24 : decode cX7_weight 24 = .ok (.iload 4, 2) := by decide +kernel
theorem dX7_weight_26 : decode cX7_weight 26 = .ok (.iload 5, 2) := by decide +kernel
theorem dX7_weight_28 : decode cX7_weight 28 = .ok (.invokevirtual 153, 3) := by decide +kernel
theorem dX7_weight_31 : decode cX7_weight 31 = .ok (.ifCond .ne 7, 3) := by decide +kernel
theorem dX7_weight_34 : decode cX7_weight 34 = .ok (.ldc2_w 226, 3) := by decide +kernel
theorem dX7_weight_37 : decode cX7_weight 37 = .ok (.lreturn, 1) := by decide +kernel
theorem dX7_weight_38 : decode cX7_weight 38 = .ok (.aload_n 0, 1) := by decide +kernel
theorem dX7_weight_39 : decode cX7_weight 39 = .ok (.iconst 1, 1) := by decide +kernel
theorem dX7_weight_40 : decode cX7_weight 40 = .ok (.invokevirtual 142, 3) := by decide +kernel
theorem dX7_weight_43 : decode cX7_weight 43 = .ok (.aload_n 0, 1) := by decide +kernel
theorem dX7_weight_44 : decode cX7_weight 44 = .ok (.invokevirtual 157, 3) := by decide +kernel
theorem dX7_weight_47 : decode cX7_weight 47 = .ok (.ifCond .ne 7, 3) := by decide +kernel
theorem dX7_weight_50 : decode cX7_weight 50 = .ok (.ldc2_w 226, 3) := by decide +kernel
theorem dX7_weight_53 : decode cX7_weight 53 = .ok (.lreturn, 1) := by decide +kernel
theorem dX7_weight_54 : decode cX7_weight 54 = .ok (.aload_n 0, 1) := by decide +kernel
theorem dX7_weight_55 : decode cX7_weight 55 = .ok (.invokevirtual 228, 3) := by decide +kernel
theorem dX7_weight_58 : decode cX7_weight 58 = .ok (.aload_n 0, 1) := by decide +kernel
theorem dX7_weight_59 : decode cX7_weight 59 = .ok (.aload_n 0, 1) := by decide +kernel
theorem dX7_weight_60 : decode cX7_weight 60 = .ok (.aload_n 0, 1) := by decide +kernel
theorem dX7_weight_61 : decode cX7_weight 61 = .ok (.getfield 73, 3) := by decide +kernel
theorem dX7_weight_64 : decode cX7_weight 64 = .ok (.aload_n 0, 1) := by decide +kernel
theorem dX7_weight_65 : decode cX7_weight 65 = .ok (.getfield 35, 3) := by decide +kernel
theorem dX7_weight_68 : decode cX7_weight 68 = .ok (.invokevirtual 163, 3) := by decide +kernel
theorem dX7_weight_71 : decode cX7_weight 71 = .ok (.aload_n 0, 1) := by decide +kernel
theorem dX7_weight_72 : decode cX7_weight 72 = .ok (.getfield 123, 3) := by decide +kernel
theorem dX7_weight_75 : decode cX7_weight 75 = .ok (.iload 6, 2) := by decide +kernel
theorem dX7_weight_77 : decode cX7_weight 77 = .ok (.invokevirtual 167, 3) := by decide +kernel
theorem dX7_weight_80 : decode cX7_weight 80 = .ok (.lreturn, 1) := by decide +kernel
set_option maxRecDepth 20000 in
theorem ggX7_miss_X7_begins : GoodIn wsX7_miss wsX7_begins := goodIn_r _ [10, 11, 12, 13, 14, 9, 15, 3, 67, 68, 69, 70, 71, 72, 73, 74, 75, 76, 77, 78, 79, 80, 81, 82, 83, 84, 85, 86, 87, 88, 89, 90, 91, 92, 93, 94, 95, 96] (by decide +kernel) (by decide +kernel)
set_option maxRecDepth 20000 in
theorem gX7_miss_X7_begins : GoodIn wsX7_miss (wsV RX7 91 RX7 yX7_begins wsX7_begins) := goodIn_app (goodIn_of _ (by decide +kernel)) ggX7_miss_X7_begins
set_option maxRecDepth 20000 in
theorem ggX7_miss_X7_tables : GoodIn wsX7_miss wsX7_tables := goodIn_r _ [19, 20, 3, 21, 22, 23, 9, 24, 25, 26, 27, 28, 29, 30, 31, 32, 67, 68, 69, 70, 71, 72, 73, 74, 75, 76, 77, 78, 79, 80, 81, 82, 83, 84, 85, 86, 87, 88, 89, 90, 91, 92, 93, 94, 95, 96] (by decide +kernel) (by decide +kernel)
set_option maxRecDepth 20000 in
theorem gX7_miss_X7_tables : GoodIn wsX7_miss (wsV RX7 142 RX7 yX7_tables wsX7_tables) := goodIn_app (goodIn_of _ (by decide +kernel)) ggX7_miss_X7_tables
set_option maxRecDepth 20000 in
theorem ggX7_miss_X7_findLines : GoodIn wsX7_miss wsX7_findLines := goodIn_r _ [36, 37, 4, 3, 38, 20, 39, 40, 41, 42, 43, 9, 44, 45, 46, 47, 48, 49, 50, 29, 30, 31, 32, 67, 68, 69, 70, 71, 72, 73, 74, 75, 76, 77, 78, 79, 80, 81, 82, 83, 84, 85, 86, 87, 88, 89, 90, 91, 92, 93, 94, 95, 96] (by decide +kernel) (by decide +kernel)
set_option maxRecDepth 20000 in
theorem gX7_miss_X7_findLines : GoodIn wsX7_miss (wsV RX7 135 RX7 yX7_findLines wsX7_findLines) := goodIn_app (goodIn_of _ (by decide +kernel)) ggX7_miss_X7_findLines
set_option maxRecDepth 20000 in
theorem ggX7_miss_X7_pulls : GoodIn wsX7_miss wsX7_pulls := goodIn_r _ [54, 5, 3, 25, 26, 27, 9, 28, 29, 30, 31, 32, 67, 68, 69, 70, 71, 72, 73, 74, 75, 76, 77, 78, 79, 80, 81, 82, 83, 84, 85, 86, 87, 88, 89, 90, 91, 92, 93, 94, 95, 96] (by decide +kernel) (by decide +kernel)
set_option maxRecDepth 20000 in
theorem gX7_miss_X7_pulls : GoodIn wsX7_miss (wsV RX7 228 RX7 yX7_pulls wsX7_pulls) := goodIn_app (goodIn_of _ (by decide +kernel)) ggX7_miss_X7_pulls
set_option maxRecDepth 20000 in
theorem ggX7_miss_X7_given : GoodIn wsX7_miss wsX7_given := goodIn_r _ [58, 37, 41, 42, 43, 9, 44, 45, 20, 40, 46, 47, 48, 49, 50, 29, 30, 31, 32, 67, 68, 69, 70, 71, 72, 73, 74, 75, 76, 77, 78, 79, 80, 81, 82, 83, 84, 85, 86, 87, 88, 89, 90, 91, 92, 93, 94, 95, 96] (by decide +kernel) (by decide +kernel)
set_option maxRecDepth 20000 in
theorem gX7_miss_X7_given : GoodIn wsX7_miss (wsV RX7 163 RX7 yX7_given wsX7_given) := goodIn_app (goodIn_of _ (by decide +kernel)) ggX7_miss_X7_given
set_option maxRecDepth 20000 in
theorem ggX7_miss_X7_share : GoodIn wsX7_miss wsX7_share := goodIn_r _ [62, 63, 64, 65, 9, 66] (by decide +kernel) (by decide +kernel)
set_option maxRecDepth 20000 in
theorem gX7_miss_X7_share : GoodIn wsX7_miss (wsV RX7 167 RX7 yX7_share wsX7_share) := goodIn_app (goodIn_of _ (by decide +kernel)) ggX7_miss_X7_share
theorem dX7_miss_0 : decode cX7_miss 0 = .ok (.aload_n 0, 1) := by decide +kernel
theorem dX7_miss_1 : decode cX7_miss 1 = .ok (.iconst 0, 1) := by decide +kernel
theorem dX7_miss_2 : decode cX7_miss 2 = .ok (.putfield 76, 3) := by decide +kernel
theorem dX7_miss_5 : decode cX7_miss 5 = .ok (.aload_n 0, 1) := by decide +kernel
theorem dX7_miss_6 : decode cX7_miss 6 = .ok (.invokevirtual 91, 3) := by decide +kernel
theorem dX7_miss_9 : decode cX7_miss 9 = .ok (.iload_n 1, 1) := by decide +kernel
theorem dX7_miss_10 : decode cX7_miss 10 = .ok (.ifCond .lt 8, 3) := by decide +kernel
theorem dX7_miss_13 : decode cX7_miss 13 = .ok (.iload_n 1, 1) := by decide +kernel
theorem dX7_miss_14 : decode cX7_miss 14 = .ok (.iconst 1, 1) := by decide +kernel
theorem dX7_miss_15 : decode cX7_miss 15 = .ok (.if_icmp .le 7, 3) := by decide +kernel
theorem dX7_miss_18 : decode cX7_miss 18 = .ok (.ldc2_w 161, 3) := by decide +kernel
theorem dX7_miss_21 : decode cX7_miss 21 = .ok (.lreturn, 1) := by decide +kernel
theorem dX7_miss_22 : decode cX7_miss 22 = .ok (.aload_n 0, 1) := by decide +kernel
theorem dX7_miss_23 : decode cX7_miss 23 = .ok (.iconst 1, 1) := by decide +kernel
theorem dX7_miss_24 : decode cX7_miss 24 = .ok (.invokevirtual 142, 3) := by decide +kernel
theorem dX7_miss_27 : decode cX7_miss 27 = .ok (.aload_n 0, 1) := by decide +kernel
theorem dX7_miss_28 : decode cX7_miss 28 = .ok (.invokevirtual 135, 3) := by decide +kernel
theorem dX7_miss_31 : decode cX7_miss 31 = .ok (.aload_n 0, 1) := by decide +kernel
theorem dX7_miss_32 : decode cX7_miss 32 = .ok (.invokevirtual 228, 3) := by decide +kernel
theorem dX7_miss_35 : decode cX7_miss 35 = .ok (.lconst 0, 1) := by decide +kernel
theorem dX7_miss_36 : decode cX7_miss 36 = .ok (.lstore_n 2, 1) := by decide +kernel
theorem dX7_miss_37 : decode cX7_miss 37 = .ok (.iconst 0, 1) := by decide +kernel
theorem dX7_miss_38 : decode cX7_miss 38 = .ok (.istore 4, 2) := by decide +kernel
theorem dX7_miss_40 : decode cX7_miss 40 = .ok (.iload 4, 2) := by decide +kernel
theorem dX7_miss_42 : decode cX7_miss 42 = .ok (.aload_n 0, 1) := by decide +kernel
theorem dX7_miss_43 : decode cX7_miss 43 = .ok (.getfield 7, 3) := by decide +kernel
theorem dX7_miss_46 : decode cX7_miss 46 = .ok (.bipush 79, 2) := by decide +kernel
theorem dX7_miss_48 : decode cX7_miss 48 = .ok (.iaload, 1) := by decide +kernel
theorem dX7_miss_49 : decode cX7_miss 49 = .ok (.if_icmp .ge 37, 3) := by decide +kernel
theorem dX7_miss_52 : decode cX7_miss 52 = .ok (.lload_n 2, 1) := by decide +kernel
theorem dX7_miss_53 : decode cX7_miss 53 = .ok (.aload_n 0, 1) := by decide +kernel
theorem dX7_miss_54 : decode cX7_miss 54 = .ok (.getfield 7, 3) := by decide +kernel
theorem dX7_miss_57 : decode cX7_miss 57 = .ok (.sipush 140, 3) := by decide +kernel
theorem dX7_miss_60 : decode cX7_miss 60 = .ok (.iload 4, 2) := by decide +kernel
theorem dX7_miss_62 : decode cX7_miss 62 = .ok (.iadd, 1) := by decide +kernel
theorem dX7_miss_63 : decode cX7_miss 63 = .ok (.iaload, 1) := by decide +kernel
theorem dX7_miss_64 : decode cX7_miss 64 = .ok (.i2l, 1) := by decide +kernel
theorem dX7_miss_65 : decode cX7_miss 65 = .ok (.aload_n 0, 1) := by decide +kernel
theorem dX7_miss_66 : decode cX7_miss 66 = .ok (.getfield 7, 3) := by decide +kernel
theorem dX7_miss_69 : decode cX7_miss 69 = .ok (.sipush 140, 3) := by decide +kernel
theorem dX7_miss_72 : decode cX7_miss 72 = .ok (.iload 4, 2) := by decide +kernel
theorem dX7_miss_74 : decode cX7_miss 74 = .ok (.iadd, 1) := by decide +kernel
theorem dX7_miss_75 : decode cX7_miss 75 = .ok (.iaload, 1) := by decide +kernel
theorem dX7_miss_76 : decode cX7_miss 76 = .ok (.i2l, 1) := by decide +kernel
theorem dX7_miss_77 : decode cX7_miss 77 = .ok (.lmul, 1) := by decide +kernel
theorem dX7_miss_78 : decode cX7_miss 78 = .ok (.ladd, 1) := by decide +kernel
theorem dX7_miss_79 : decode cX7_miss 79 = .ok (.lstore_n 2, 1) := by decide +kernel
theorem dX7_miss_80 : decode cX7_miss 80 = .ok (.iinc 4 1, 3) := by decide +kernel
theorem dX7_miss_83 : decode cX7_miss 83 = .ok (.goto (-43), 3) := by decide +kernel
theorem dX7_miss_86 : decode cX7_miss 86 = .ok (.aload_n 0, 1) := by decide +kernel
theorem dX7_miss_87 : decode cX7_miss 87 = .ok (.lload_n 2, 1) := by decide +kernel
theorem dX7_miss_88 : decode cX7_miss 88 = .ok (.aload_n 0, 1) := by decide +kernel
theorem dX7_miss_89 : decode cX7_miss 89 = .ok (.getfield 123, 3) := by decide +kernel
theorem dX7_miss_92 : decode cX7_miss 92 = .ok (.lmul, 1) := by decide +kernel
theorem dX7_miss_93 : decode cX7_miss 93 = .ok (.aload_n 0, 1) := by decide +kernel
theorem dX7_miss_94 : decode cX7_miss 94 = .ok (.aload_n 0, 1) := by decide +kernel
theorem dX7_miss_95 : decode cX7_miss 95 = .ok (.getfield 73, 3) := by decide +kernel
theorem dX7_miss_98 : decode cX7_miss 98 = .ok (.aload_n 0, 1) := by decide +kernel
theorem dX7_miss_99 : decode cX7_miss 99 = .ok (.getfield 73, 3) := by decide +kernel
theorem dX7_miss_102 : decode cX7_miss 102 = .ok (.invokevirtual 163, 3) := by decide +kernel
theorem dX7_miss_105 : decode cX7_miss 105 = .ok (.lsub, 1) := by decide +kernel
theorem dX7_miss_106 : decode cX7_miss 106 = .ok (.aload_n 0, 1) := by decide +kernel
theorem dX7_miss_107 : decode cX7_miss 107 = .ok (.getfield 123, 3) := by decide +kernel
theorem dX7_miss_110 : decode cX7_miss 110 = .ok (.iload_n 1, 1) := by decide +kernel
theorem dX7_miss_111 : decode cX7_miss 111 = .ok (.invokevirtual 167, 3) := by decide +kernel
theorem dX7_miss_114 : decode cX7_miss 114 = .ok (.lreturn, 1) := by decide +kernel
theorem dJ6_bitCount_0f7a4_0 : decode cJ6_bitCount_0f7a4 0 = .ok (.iload_n 0, 1) := by decide +kernel
theorem dJ6_bitCount_0f7a4_1 : decode cJ6_bitCount_0f7a4 1 = .ok (.iload_n 0, 1) := by decide +kernel
theorem dJ6_bitCount_0f7a4_2 : decode cJ6_bitCount_0f7a4 2 = .ok (.iconst 1, 1) := by decide +kernel
theorem dJ6_bitCount_0f7a4_3 : decode cJ6_bitCount_0f7a4 3 = .ok (.iushr, 1) := by decide +kernel
theorem dJ6_bitCount_0f7a4_4 : decode cJ6_bitCount_0f7a4 4 = .ok (.ldc_w 265, 3) := by decide +kernel
theorem dJ6_bitCount_0f7a4_7 : decode cJ6_bitCount_0f7a4 7 = .ok (.iand, 1) := by decide +kernel
theorem dJ6_bitCount_0f7a4_8 : decode cJ6_bitCount_0f7a4 8 = .ok (.isub, 1) := by decide +kernel
theorem dJ6_bitCount_0f7a4_9 : decode cJ6_bitCount_0f7a4 9 = .ok (.istore_n 0, 1) := by decide +kernel
theorem dJ6_bitCount_0f7a4_10 : decode cJ6_bitCount_0f7a4 10 = .ok (.iload_n 0, 1) := by decide +kernel
theorem dJ6_bitCount_0f7a4_11 : decode cJ6_bitCount_0f7a4 11 = .ok (.ldc_w 266, 3) := by decide +kernel
theorem dJ6_bitCount_0f7a4_14 : decode cJ6_bitCount_0f7a4 14 = .ok (.iand, 1) := by decide +kernel
theorem dJ6_bitCount_0f7a4_15 : decode cJ6_bitCount_0f7a4 15 = .ok (.iload_n 0, 1) := by decide +kernel
theorem dJ6_bitCount_0f7a4_16 : decode cJ6_bitCount_0f7a4 16 = .ok (.iconst 2, 1) := by decide +kernel
theorem dJ6_bitCount_0f7a4_17 : decode cJ6_bitCount_0f7a4 17 = .ok (.iushr, 1) := by decide +kernel
theorem dJ6_bitCount_0f7a4_18 : decode cJ6_bitCount_0f7a4 18 = .ok (.ldc_w 266, 3) := by decide +kernel
theorem dJ6_bitCount_0f7a4_21 : decode cJ6_bitCount_0f7a4 21 = .ok (.iand, 1) := by decide +kernel
theorem dJ6_bitCount_0f7a4_22 : decode cJ6_bitCount_0f7a4 22 = .ok (.iadd, 1) := by decide +kernel
theorem dJ6_bitCount_0f7a4_23 : decode cJ6_bitCount_0f7a4 23 = .ok (.istore_n 0, 1) := by decide +kernel
theorem dJ6_bitCount_0f7a4_24 : decode cJ6_bitCount_0f7a4 24 = .ok (.iload_n 0, 1) := by decide +kernel
theorem dJ6_bitCount_0f7a4_25 : decode cJ6_bitCount_0f7a4 25 = .ok (.iload_n 0, 1) := by decide +kernel
theorem dJ6_bitCount_0f7a4_26 : decode cJ6_bitCount_0f7a4 26 = .ok (.iconst 4, 1) := by decide +kernel
theorem dJ6_bitCount_0f7a4_27 : decode cJ6_bitCount_0f7a4 27 = .ok (.iushr, 1) := by decide +kernel
theorem dJ6_bitCount_0f7a4_28 : decode cJ6_bitCount_0f7a4 28 = .ok (.iadd, 1) := by decide +kernel
theorem dJ6_bitCount_0f7a4_29 : decode cJ6_bitCount_0f7a4 29 = .ok (.ldc_w 267, 3) := by decide +kernel
theorem dJ6_bitCount_0f7a4_32 : decode cJ6_bitCount_0f7a4 32 = .ok (.iand, 1) := by decide +kernel
theorem dJ6_bitCount_0f7a4_33 : decode cJ6_bitCount_0f7a4 33 = .ok (.istore_n 0, 1) := by decide +kernel
theorem dJ6_bitCount_0f7a4_34 : decode cJ6_bitCount_0f7a4 34 = .ok (.iload_n 0, 1) := by decide +kernel
theorem dJ6_bitCount_0f7a4_35 : decode cJ6_bitCount_0f7a4 35 = .ok (.iload_n 0, 1) := by decide +kernel
theorem dJ6_bitCount_0f7a4_36 : decode cJ6_bitCount_0f7a4 36 = .ok (.bipush 8, 2) := by decide +kernel
theorem dJ6_bitCount_0f7a4_38 : decode cJ6_bitCount_0f7a4 38 = .ok (.iushr, 1) := by decide +kernel
theorem dJ6_bitCount_0f7a4_39 : decode cJ6_bitCount_0f7a4 39 = .ok (.iadd, 1) := by decide +kernel
theorem dJ6_bitCount_0f7a4_40 : decode cJ6_bitCount_0f7a4 40 = .ok (.istore_n 0, 1) := by decide +kernel
theorem dJ6_bitCount_0f7a4_41 : decode cJ6_bitCount_0f7a4 41 = .ok (.iload_n 0, 1) := by decide +kernel
theorem dJ6_bitCount_0f7a4_42 : decode cJ6_bitCount_0f7a4 42 = .ok (.iload_n 0, 1) := by decide +kernel
theorem dJ6_bitCount_0f7a4_43 : decode cJ6_bitCount_0f7a4 43 = .ok (.bipush 16, 2) := by decide +kernel
theorem dJ6_bitCount_0f7a4_45 : decode cJ6_bitCount_0f7a4 45 = .ok (.iushr, 1) := by decide +kernel
theorem dJ6_bitCount_0f7a4_46 : decode cJ6_bitCount_0f7a4 46 = .ok (.iadd, 1) := by decide +kernel
theorem dJ6_bitCount_0f7a4_47 : decode cJ6_bitCount_0f7a4 47 = .ok (.istore_n 0, 1) := by decide +kernel
theorem dJ6_bitCount_0f7a4_48 : decode cJ6_bitCount_0f7a4 48 = .ok (.iload_n 0, 1) := by decide +kernel
theorem dJ6_bitCount_0f7a4_49 : decode cJ6_bitCount_0f7a4 49 = .ok (.bipush 63, 2) := by decide +kernel
theorem dJ6_bitCount_0f7a4_51 : decode cJ6_bitCount_0f7a4 51 = .ok (.iand, 1) := by decide +kernel
theorem dJ6_bitCount_0f7a4_52 : decode cJ6_bitCount_0f7a4 52 = .ok (.ireturn, 1) := by decide +kernel
theorem dJ9_abs_067f4_0 : decode cJ9_abs_067f4 0 = .ok (.lload_n 0, 1) := by decide +kernel
theorem dJ9_abs_067f4_1 : decode cJ9_abs_067f4 1 = .ok (.lconst 0, 1) := by decide +kernel
theorem dJ9_abs_067f4_2 : decode cJ9_abs_067f4 2 = .ok (.lcmp, 1) := by decide +kernel
theorem dJ9_abs_067f4_3 : decode cJ9_abs_067f4 3 = .ok (.ifCond .ge 8, 3) := by decide +kernel
theorem dJ9_abs_067f4_6 : decode cJ9_abs_067f4 6 = .ok (.lload_n 0, 1) := by decide +kernel
theorem dJ9_abs_067f4_7 : decode cJ9_abs_067f4 7 = .ok (.lneg, 1) := by decide +kernel
theorem dJ9_abs_067f4_8 : decode cJ9_abs_067f4 8 = .ok (.goto 4, 3) := by decide +kernel
theorem dJ9_abs_067f4_11 : decode cJ9_abs_067f4 11 = .ok (.lload_n 0, 1) := by decide +kernel
theorem dJ9_abs_067f4_12 : decode cJ9_abs_067f4 12 = .ok (.lreturn, 1) := by decide +kernel
theorem dJ9_max_7cf53_0 : decode cJ9_max_7cf53 0 = .ok (.iload_n 0, 1) := by decide +kernel
theorem dJ9_max_7cf53_1 : decode cJ9_max_7cf53 1 = .ok (.iload_n 1, 1) := by decide +kernel
theorem dJ9_max_7cf53_2 : decode cJ9_max_7cf53 2 = .ok (.if_icmp .lt 7, 3) := by decide +kernel
theorem dJ9_max_7cf53_5 : decode cJ9_max_7cf53 5 = .ok (.iload_n 0, 1) := by decide +kernel
theorem dJ9_max_7cf53_6 : decode cJ9_max_7cf53 6 = .ok (.goto 4, 3) := by decide +kernel
theorem dJ9_max_7cf53_9 : decode cJ9_max_7cf53 9 = .ok (.iload_n 1, 1) := by decide +kernel
theorem dJ9_max_7cf53_10 : decode cJ9_max_7cf53 10 = .ok (.ireturn, 1) := by decide +kernel
theorem dJ9_min_7cf53_0 : decode cJ9_min_7cf53 0 = .ok (.iload_n 0, 1) := by decide +kernel
theorem dJ9_min_7cf53_1 : decode cJ9_min_7cf53 1 = .ok (.iload_n 1, 1) := by decide +kernel
theorem dJ9_min_7cf53_2 : decode cJ9_min_7cf53 2 = .ok (.if_icmp .gt 7, 3) := by decide +kernel
theorem dJ9_min_7cf53_5 : decode cJ9_min_7cf53 5 = .ok (.iload_n 0, 1) := by decide +kernel
theorem dJ9_min_7cf53_6 : decode cJ9_min_7cf53 6 = .ok (.goto 4, 3) := by decide +kernel
theorem dJ9_min_7cf53_9 : decode cJ9_min_7cf53 9 = .ok (.iload_n 1, 1) := by decide +kernel
theorem dJ9_min_7cf53_10 : decode cJ9_min_7cf53 10 = .ok (.ireturn, 1) := by decide +kernel
theorem dJ7_fill_d0a16_0 : decode cJ7_fill_d0a16 0 = .ok (.iconst 0, 1) := by decide +kernel
theorem dJ7_fill_d0a16_1 : decode cJ7_fill_d0a16 1 = .ok (.istore_n 3, 1) := by decide +kernel
theorem dJ7_fill_d0a16_2 : decode cJ7_fill_d0a16 2 = .ok (.aload_n 0, 1) := by decide +kernel
theorem dJ7_fill_d0a16_3 : decode cJ7_fill_d0a16 3 = .ok (.arraylength, 1) := by decide +kernel
theorem dJ7_fill_d0a16_4 : decode cJ7_fill_d0a16 4 = .ok (.istore 4, 2) := by decide +kernel
theorem dJ7_fill_d0a16_6 : decode cJ7_fill_d0a16 6 = .ok (.iload_n 3, 1) := by decide +kernel
theorem dJ7_fill_d0a16_7 : decode cJ7_fill_d0a16 7 = .ok (.iload 4, 2) := by decide +kernel
theorem dJ7_fill_d0a16_9 : decode cJ7_fill_d0a16 9 = .ok (.if_icmp .ge 13, 3) := by decide +kernel
theorem dJ7_fill_d0a16_12 : decode cJ7_fill_d0a16 12 = .ok (.aload_n 0, 1) := by decide +kernel
theorem dJ7_fill_d0a16_13 : decode cJ7_fill_d0a16 13 = .ok (.iload_n 3, 1) := by decide +kernel
theorem dJ7_fill_d0a16_14 : decode cJ7_fill_d0a16 14 = .ok (.lload_n 1, 1) := by decide +kernel
theorem dJ7_fill_d0a16_15 : decode cJ7_fill_d0a16 15 = .ok (.lastore, 1) := by decide +kernel
theorem dJ7_fill_d0a16_16 : decode cJ7_fill_d0a16 16 = .ok (.iinc 3 1, 3) := by decide +kernel
theorem dJ7_fill_d0a16_19 : decode cJ7_fill_d0a16 19 = .ok (.goto (-13), 3) := by decide +kernel
theorem dJ7_fill_d0a16_22 : decode cJ7_fill_d0a16 22 = .ok (.return_, 1) := by decide +kernel
theorem dJ7_fill_53178_0 : decode cJ7_fill_53178 0 = .ok (.iconst 0, 1) := by decide +kernel
theorem dJ7_fill_53178_1 : decode cJ7_fill_53178 1 = .ok (.istore_n 2, 1) := by decide +kernel
theorem dJ7_fill_53178_2 : decode cJ7_fill_53178 2 = .ok (.aload_n 0, 1) := by decide +kernel
theorem dJ7_fill_53178_3 : decode cJ7_fill_53178 3 = .ok (.arraylength, 1) := by decide +kernel
theorem dJ7_fill_53178_4 : decode cJ7_fill_53178 4 = .ok (.istore_n 3, 1) := by decide +kernel
theorem dJ7_fill_53178_5 : decode cJ7_fill_53178 5 = .ok (.iload_n 2, 1) := by decide +kernel
theorem dJ7_fill_53178_6 : decode cJ7_fill_53178 6 = .ok (.iload_n 3, 1) := by decide +kernel
theorem dJ7_fill_53178_7 : decode cJ7_fill_53178 7 = .ok (.if_icmp .ge 13, 3) := by decide +kernel
theorem dJ7_fill_53178_10 : decode cJ7_fill_53178 10 = .ok (.aload_n 0, 1) := by decide +kernel
theorem dJ7_fill_53178_11 : decode cJ7_fill_53178 11 = .ok (.iload_n 2, 1) := by decide +kernel
theorem dJ7_fill_53178_12 : decode cJ7_fill_53178 12 = .ok (.iload_n 1, 1) := by decide +kernel
theorem dJ7_fill_53178_13 : decode cJ7_fill_53178 13 = .ok (.iastore, 1) := by decide +kernel
theorem dJ7_fill_53178_14 : decode cJ7_fill_53178 14 = .ok (.iinc 2 1, 3) := by decide +kernel
theorem dJ7_fill_53178_17 : decode cJ7_fill_53178 17 = .ok (.goto (-12), 3) := by decide +kernel
theorem dJ7_fill_53178_20 : decode cJ7_fill_53178 20 = .ok (.return_, 1) := by decide +kernel
theorem dL_law_0 : decode cL_law 0 = .ok (.new 7, 3) := by decide +kernel
theorem dL_law_3 : decode cL_law 3 = .ok (.dup, 1) := by decide +kernel
theorem dL_law_4 : decode cL_law 4 = .ok (.invokespecial 9, 3) := by decide +kernel
theorem dL_law_7 : decode cL_law 7 = .ok (.astore_n 1, 1) := by decide +kernel
theorem dL_law_8 : decode cL_law 8 = .ok (.new 10, 3) := by decide +kernel
theorem dL_law_11 : decode cL_law 11 = .ok (.dup, 1) := by decide +kernel
theorem dL_law_12 : decode cL_law 12 = .ok (.invokespecial 12, 3) := by decide +kernel
theorem dL_law_15 : decode cL_law 15 = .ok (.astore_n 2, 1) := by decide +kernel
theorem dL_law_16 : decode cL_law 16 = .ok (.iconst 0, 1) := by decide +kernel
theorem dL_law_17 : decode cL_law 17 = .ok (.istore_n 3, 1) := by decide +kernel
theorem dL_law_18 : decode cL_law 18 = .ok (.iload_n 3, 1) := by decide +kernel
theorem dL_law_19 : decode cL_law 19 = .ok (.aload_n 0, 1) := by decide +kernel
theorem dL_law_20 : decode cL_law 20 = .ok (.arraylength, 1) := by decide +kernel
theorem dL_law_21 : decode cL_law 21 = .ok (.bipush 7, 2) := by decide +kernel
theorem dL_law_23 : decode cL_law 23 = .ok (.isub, 1) := by decide +kernel
theorem dL_law_24 : decode cL_law 24 = .ok (.if_icmp .gt 975, 3) := by decide +kernel
theorem dL_law_27 : decode cL_law 27 = .ok (.aload_n 0, 1) := by decide +kernel
theorem dL_law_28 : decode cL_law 28 = .ok (.iload_n 3, 1) := by decide +kernel
theorem dL_law_29 : decode cL_law 29 = .ok (.iaload, 1) := by decide +kernel
theorem dL_law_30 : decode cL_law 30 = .ok (.bipush 31, 2) := by decide +kernel
theorem dL_law_32 : decode cL_law 32 = .ok (.iand, 1) := by decide +kernel
theorem dL_law_33 : decode cL_law 33 = .ok (.tableswitch 960 0 29 #[135, 158, 181, 204, 237, 248, 271, 304, 337, 351, 414, 490, 514, 527, 550, 573, 586, 599, 642, 665, 688, 721, 744, 767, 780, 803, 836, 847, 923, 947], 135) := by decide +kernel
theorem dL_law_168 : decode cL_law 168 = .ok (.aload_n 1, 1) := by decide +kernel
theorem dL_law_169 : decode cL_law 169 = .ok (.aload_n 0, 1) := by decide +kernel
theorem dL_law_170 : decode cL_law 170 = .ok (.iload_n 3, 1) := by decide +kernel
theorem dL_law_171 : decode cL_law 171 = .ok (.iconst 1, 1) := by decide +kernel
theorem dL_law_172 : decode cL_law 172 = .ok (.iadd, 1) := by decide +kernel
theorem dL_law_173 : decode cL_law 173 = .ok (.iaload, 1) := by decide +kernel
theorem dL_law_174 : decode cL_law 174 = .ok (.invokevirtual 13, 3) := by decide +kernel
theorem dL_law_177 : decode cL_law 177 = .ok (.aload_n 2, 1) := by decide +kernel
theorem dL_law_178 : decode cL_law 178 = .ok (.aload_n 0, 1) := by decide +kernel
theorem dL_law_179 : decode cL_law 179 = .ok (.iload_n 3, 1) := by decide +kernel
theorem dL_law_180 : decode cL_law 180 = .ok (.iconst 1, 1) := by decide +kernel
theorem dL_law_181 : decode cL_law 181 = .ok (.iadd, 1) := by decide +kernel
theorem dL_law_182 : decode cL_law 182 = .ok (.iaload, 1) := by decide +kernel
theorem dL_law_183 : decode cL_law 183 = .ok (.invokevirtual 17, 3) := by decide +kernel
theorem dL_law_186 : decode cL_law 186 = .ok (.if_icmp .eq 807, 3) := by decide +kernel
theorem dL_law_189 : decode cL_law 189 = .ok (.iconst 0, 1) := by decide +kernel
theorem dL_law_190 : decode cL_law 190 = .ok (.ireturn, 1) := by decide +kernel
theorem dL_law_191 : decode cL_law 191 = .ok (.aload_n 1, 1) := by decide +kernel
theorem dL_law_192 : decode cL_law 192 = .ok (.aload_n 0, 1) := by decide +kernel
theorem dL_law_193 : decode cL_law 193 = .ok (.iload_n 3, 1) := by decide +kernel
theorem dL_law_194 : decode cL_law 194 = .ok (.iconst 1, 1) := by decide +kernel
theorem dL_law_195 : decode cL_law 195 = .ok (.iadd, 1) := by decide +kernel
theorem dL_law_196 : decode cL_law 196 = .ok (.iaload, 1) := by decide +kernel
theorem dL_law_197 : decode cL_law 197 = .ok (.invokevirtual 18, 3) := by decide +kernel
theorem dL_law_200 : decode cL_law 200 = .ok (.aload_n 2, 1) := by decide +kernel
theorem dL_law_201 : decode cL_law 201 = .ok (.aload_n 0, 1) := by decide +kernel
theorem dL_law_202 : decode cL_law 202 = .ok (.iload_n 3, 1) := by decide +kernel
theorem dL_law_203 : decode cL_law 203 = .ok (.iconst 1, 1) := by decide +kernel
theorem dL_law_204 : decode cL_law 204 = .ok (.iadd, 1) := by decide +kernel
theorem dL_law_205 : decode cL_law 205 = .ok (.iaload, 1) := by decide +kernel
theorem dL_law_206 : decode cL_law 206 = .ok (.invokevirtual 22, 3) := by decide +kernel
theorem dL_law_209 : decode cL_law 209 = .ok (.if_icmp .eq 784, 3) := by decide +kernel
theorem dL_law_212 : decode cL_law 212 = .ok (.iconst 0, 1) := by decide +kernel
theorem dL_law_213 : decode cL_law 213 = .ok (.ireturn, 1) := by decide +kernel
theorem dL_law_214 : decode cL_law 214 = .ok (.aload_n 1, 1) := by decide +kernel
theorem dL_law_215 : decode cL_law 215 = .ok (.aload_n 0, 1) := by decide +kernel
theorem dL_law_216 : decode cL_law 216 = .ok (.iload_n 3, 1) := by decide +kernel
theorem dL_law_217 : decode cL_law 217 = .ok (.iconst 1, 1) := by decide +kernel
theorem dL_law_218 : decode cL_law 218 = .ok (.iadd, 1) := by decide +kernel
theorem dL_law_219 : decode cL_law 219 = .ok (.iaload, 1) := by decide +kernel
theorem dL_law_220 : decode cL_law 220 = .ok (.invokevirtual 23, 3) := by decide +kernel
theorem dL_law_223 : decode cL_law 223 = .ok (.aload_n 2, 1) := by decide +kernel
theorem dL_law_224 : decode cL_law 224 = .ok (.aload_n 0, 1) := by decide +kernel
theorem dL_law_225 : decode cL_law 225 = .ok (.iload_n 3, 1) := by decide +kernel
theorem dL_law_226 : decode cL_law 226 = .ok (.iconst 1, 1) := by decide +kernel
theorem dL_law_227 : decode cL_law 227 = .ok (.iadd, 1) := by decide +kernel
theorem dL_law_228 : decode cL_law 228 = .ok (.iaload, 1) := by decide +kernel
theorem dL_law_229 : decode cL_law 229 = .ok (.invokevirtual 26, 3) := by decide +kernel
theorem dL_law_232 : decode cL_law 232 = .ok (.if_icmp .eq 761, 3) := by decide +kernel
theorem dL_law_235 : decode cL_law 235 = .ok (.iconst 0, 1) := by decide +kernel
theorem dL_law_236 : decode cL_law 236 = .ok (.ireturn, 1) := by decide +kernel
theorem dL_law_237 : decode cL_law 237 = .ok (.aload_n 1, 1) := by decide +kernel
theorem dL_law_238 : decode cL_law 238 = .ok (.aload_n 0, 1) := by decide +kernel
theorem dL_law_239 : decode cL_law 239 = .ok (.iload_n 3, 1) := by decide +kernel
theorem dL_law_240 : decode cL_law 240 = .ok (.iconst 1, 1) := by decide +kernel
theorem dL_law_241 : decode cL_law 241 = .ok (.iadd, 1) := by decide +kernel
theorem dL_law_242 : decode cL_law 242 = .ok (.iaload, 1) := by decide +kernel
theorem dL_law_243 : decode cL_law 243 = .ok (.aload_n 0, 1) := by decide +kernel
theorem dL_law_244 : decode cL_law 244 = .ok (.iload_n 3, 1) := by decide +kernel
theorem dL_law_245 : decode cL_law 245 = .ok (.iconst 2, 1) := by decide +kernel
theorem dL_law_246 : decode cL_law 246 = .ok (.iadd, 1) := by decide +kernel
theorem dL_law_247 : decode cL_law 247 = .ok (.iaload, 1) := by decide +kernel
theorem dL_law_248 : decode cL_law 248 = .ok (.invokevirtual 27, 3) := by decide +kernel
theorem dL_law_251 : decode cL_law 251 = .ok (.aload_n 2, 1) := by decide +kernel
theorem dL_law_252 : decode cL_law 252 = .ok (.aload_n 0, 1) := by decide +kernel
theorem dL_law_253 : decode cL_law 253 = .ok (.iload_n 3, 1) := by decide +kernel
theorem dL_law_254 : decode cL_law 254 = .ok (.iconst 1, 1) := by decide +kernel
theorem dL_law_255 : decode cL_law 255 = .ok (.iadd, 1) := by decide +kernel
theorem dL_law_256 : decode cL_law 256 = .ok (.iaload, 1) := by decide +kernel
theorem dL_law_257 : decode cL_law 257 = .ok (.aload_n 0, 1) := by decide +kernel
theorem dL_law_258 : decode cL_law 258 = .ok (.iload_n 3, 1) := by decide +kernel
theorem dL_law_259 : decode cL_law 259 = .ok (.iconst 2, 1) := by decide +kernel
theorem dL_law_260 : decode cL_law 260 = .ok (.iadd, 1) := by decide +kernel
theorem dL_law_261 : decode cL_law 261 = .ok (.iaload, 1) := by decide +kernel
theorem dL_law_262 : decode cL_law 262 = .ok (.invokevirtual 31, 3) := by decide +kernel
theorem dL_law_265 : decode cL_law 265 = .ok (.if_icmp .eq 728, 3) := by decide +kernel
theorem dL_law_268 : decode cL_law 268 = .ok (.iconst 0, 1) := by decide +kernel
theorem dL_law_269 : decode cL_law 269 = .ok (.ireturn, 1) := by decide +kernel
theorem dL_law_270 : decode cL_law 270 = .ok (.aload_n 1, 1) := by decide +kernel
theorem dL_law_271 : decode cL_law 271 = .ok (.invokevirtual 32, 3) := by decide +kernel
theorem dL_law_274 : decode cL_law 274 = .ok (.aload_n 2, 1) := by decide +kernel
theorem dL_law_275 : decode cL_law 275 = .ok (.invokevirtual 35, 3) := by decide +kernel
theorem dL_law_278 : decode cL_law 278 = .ok (.goto 715, 3) := by decide +kernel
theorem dL_law_281 : decode cL_law 281 = .ok (.aload_n 1, 1) := by decide +kernel
theorem dL_law_282 : decode cL_law 282 = .ok (.aload_n 0, 1) := by decide +kernel
theorem dL_law_283 : decode cL_law 283 = .ok (.iload_n 3, 1) := by decide +kernel
theorem dL_law_284 : decode cL_law 284 = .ok (.iconst 1, 1) := by decide +kernel
theorem dL_law_285 : decode cL_law 285 = .ok (.iadd, 1) := by decide +kernel
theorem dL_law_286 : decode cL_law 286 = .ok (.iaload, 1) := by decide +kernel
theorem dL_law_287 : decode cL_law 287 = .ok (.invokevirtual 36, 3) := by decide +kernel
theorem dL_law_290 : decode cL_law 290 = .ok (.aload_n 2, 1) := by decide +kernel
theorem dL_law_291 : decode cL_law 291 = .ok (.aload_n 0, 1) := by decide +kernel
theorem dL_law_292 : decode cL_law 292 = .ok (.iload_n 3, 1) := by decide +kernel
theorem dL_law_293 : decode cL_law 293 = .ok (.iconst 1, 1) := by decide +kernel
theorem dL_law_294 : decode cL_law 294 = .ok (.iadd, 1) := by decide +kernel
theorem dL_law_295 : decode cL_law 295 = .ok (.iaload, 1) := by decide +kernel
theorem dL_law_296 : decode cL_law 296 = .ok (.invokevirtual 39, 3) := by decide +kernel
theorem dL_law_299 : decode cL_law 299 = .ok (.if_icmp .eq 694, 3) := by decide +kernel
theorem dL_law_302 : decode cL_law 302 = .ok (.iconst 0, 1) := by decide +kernel
theorem dL_law_303 : decode cL_law 303 = .ok (.ireturn, 1) := by decide +kernel
theorem dL_law_304 : decode cL_law 304 = .ok (.aload_n 1, 1) := by decide +kernel
theorem dL_law_305 : decode cL_law 305 = .ok (.aload_n 0, 1) := by decide +kernel
theorem dL_law_306 : decode cL_law 306 = .ok (.iload_n 3, 1) := by decide +kernel
theorem dL_law_307 : decode cL_law 307 = .ok (.iconst 1, 1) := by decide +kernel
theorem dL_law_308 : decode cL_law 308 = .ok (.iadd, 1) := by decide +kernel
theorem dL_law_309 : decode cL_law 309 = .ok (.iaload, 1) := by decide +kernel
theorem dL_law_310 : decode cL_law 310 = .ok (.aload_n 0, 1) := by decide +kernel
theorem dL_law_311 : decode cL_law 311 = .ok (.iload_n 3, 1) := by decide +kernel
theorem dL_law_312 : decode cL_law 312 = .ok (.iconst 2, 1) := by decide +kernel
theorem dL_law_313 : decode cL_law 313 = .ok (.iadd, 1) := by decide +kernel
theorem dL_law_314 : decode cL_law 314 = .ok (.iaload, 1) := by decide +kernel
theorem dL_law_315 : decode cL_law 315 = .ok (.invokevirtual 40, 3) := by decide +kernel
theorem dL_law_318 : decode cL_law 318 = .ok (.aload_n 2, 1) := by decide +kernel
theorem dL_law_319 : decode cL_law 319 = .ok (.aload_n 0, 1) := by decide +kernel
theorem dL_law_320 : decode cL_law 320 = .ok (.iload_n 3, 1) := by decide +kernel
theorem dL_law_321 : decode cL_law 321 = .ok (.iconst 1, 1) := by decide +kernel
theorem dL_law_322 : decode cL_law 322 = .ok (.iadd, 1) := by decide +kernel
theorem dL_law_323 : decode cL_law 323 = .ok (.iaload, 1) := by decide +kernel
theorem dL_law_324 : decode cL_law 324 = .ok (.aload_n 0, 1) := by decide +kernel
theorem dL_law_325 : decode cL_law 325 = .ok (.iload_n 3, 1) := by decide +kernel
theorem dL_law_326 : decode cL_law 326 = .ok (.iconst 2, 1) := by decide +kernel
theorem dL_law_327 : decode cL_law 327 = .ok (.iadd, 1) := by decide +kernel
theorem dL_law_328 : decode cL_law 328 = .ok (.iaload, 1) := by decide +kernel
theorem dL_law_329 : decode cL_law 329 = .ok (.invokevirtual 44, 3) := by decide +kernel
theorem dL_law_332 : decode cL_law 332 = .ok (.if_icmp .eq 661, 3) := by decide +kernel
theorem dL_law_335 : decode cL_law 335 = .ok (.iconst 0, 1) := by decide +kernel
theorem dL_law_336 : decode cL_law 336 = .ok (.ireturn, 1) := by decide +kernel
theorem dL_law_337 : decode cL_law 337 = .ok (.aload_n 1, 1) := by decide +kernel
theorem dL_law_338 : decode cL_law 338 = .ok (.aload_n 0, 1) := by decide +kernel
theorem dL_law_339 : decode cL_law 339 = .ok (.iload_n 3, 1) := by decide +kernel
theorem dL_law_340 : decode cL_law 340 = .ok (.iconst 1, 1) := by decide +kernel
theorem dL_law_341 : decode cL_law 341 = .ok (.iadd, 1) := by decide +kernel
theorem dL_law_342 : decode cL_law 342 = .ok (.iaload, 1) := by decide +kernel
theorem dL_law_343 : decode cL_law 343 = .ok (.aload_n 0, 1) := by decide +kernel
theorem dL_law_344 : decode cL_law 344 = .ok (.iload_n 3, 1) := by decide +kernel
theorem dL_law_345 : decode cL_law 345 = .ok (.iconst 2, 1) := by decide +kernel
theorem dL_law_346 : decode cL_law 346 = .ok (.iadd, 1) := by decide +kernel
theorem dL_law_347 : decode cL_law 347 = .ok (.iaload, 1) := by decide +kernel
theorem dL_law_348 : decode cL_law 348 = .ok (.invokevirtual 45, 3) := by decide +kernel
theorem dL_law_351 : decode cL_law 351 = .ok (.aload_n 2, 1) := by decide +kernel
theorem dL_law_352 : decode cL_law 352 = .ok (.aload_n 0, 1) := by decide +kernel
theorem dL_law_353 : decode cL_law 353 = .ok (.iload_n 3, 1) := by decide +kernel
theorem dL_law_354 : decode cL_law 354 = .ok (.iconst 1, 1) := by decide +kernel
theorem dL_law_355 : decode cL_law 355 = .ok (.iadd, 1) := by decide +kernel
theorem dL_law_356 : decode cL_law 356 = .ok (.iaload, 1) := by decide +kernel
theorem dL_law_357 : decode cL_law 357 = .ok (.aload_n 0, 1) := by decide +kernel
theorem dL_law_358 : decode cL_law 358 = .ok (.iload_n 3, 1) := by decide +kernel
theorem dL_law_359 : decode cL_law 359 = .ok (.iconst 2, 1) := by decide +kernel
theorem dL_law_360 : decode cL_law 360 = .ok (.iadd, 1) := by decide +kernel
theorem dL_law_361 : decode cL_law 361 = .ok (.iaload, 1) := by decide +kernel
theorem dL_law_362 : decode cL_law 362 = .ok (.invokevirtual 48, 3) := by decide +kernel
theorem dL_law_365 : decode cL_law 365 = .ok (.if_icmp .eq 628, 3) := by decide +kernel
theorem dL_law_368 : decode cL_law 368 = .ok (.iconst 0, 1) := by decide +kernel
theorem dL_law_369 : decode cL_law 369 = .ok (.ireturn, 1) := by decide +kernel
theorem dL_law_370 : decode cL_law 370 = .ok (.aload_n 1, 1) := by decide +kernel
theorem dL_law_371 : decode cL_law 371 = .ok (.invokevirtual 49, 3) := by decide +kernel
theorem dL_law_374 : decode cL_law 374 = .ok (.aload_n 2, 1) := by decide +kernel
theorem dL_law_375 : decode cL_law 375 = .ok (.invokevirtual 53, 3) := by decide +kernel
theorem dL_law_378 : decode cL_law 378 = .ok (.lcmp, 1) := by decide +kernel
theorem dL_law_379 : decode cL_law 379 = .ok (.ifCond .eq 614, 3) := by decide +kernel
theorem dL_law_382 : decode cL_law 382 = .ok (.iconst 0, 1) := by decide +kernel
theorem dL_law_383 : decode cL_law 383 = .ok (.ireturn, 1) := by decide +kernel
theorem dL_law_384 : decode cL_law 384 = .ok (.aload_n 1, 1) := by decide +kernel
theorem dL_law_385 : decode cL_law 385 = .ok (.aload_n 0, 1) := by decide +kernel
theorem dL_law_386 : decode cL_law 386 = .ok (.iload_n 3, 1) := by decide +kernel
theorem dL_law_387 : decode cL_law 387 = .ok (.iconst 1, 1) := by decide +kernel
theorem dL_law_388 : decode cL_law 388 = .ok (.iadd, 1) := by decide +kernel
theorem dL_law_389 : decode cL_law 389 = .ok (.iaload, 1) := by decide +kernel
theorem dL_law_390 : decode cL_law 390 = .ok (.aload_n 0, 1) := by decide +kernel
theorem dL_law_391 : decode cL_law 391 = .ok (.iload_n 3, 1) := by decide +kernel
theorem dL_law_392 : decode cL_law 392 = .ok (.iconst 2, 1) := by decide +kernel
theorem dL_law_393 : decode cL_law 393 = .ok (.iadd, 1) := by decide +kernel
theorem dL_law_394 : decode cL_law 394 = .ok (.iaload, 1) := by decide +kernel
theorem dL_law_395 : decode cL_law 395 = .ok (.aload_n 0, 1) := by decide +kernel
theorem dL_law_396 : decode cL_law 396 = .ok (.iload_n 3, 1) := by decide +kernel
theorem dL_law_397 : decode cL_law 397 = .ok (.iconst 3, 1) := by decide +kernel
theorem dL_law_398 : decode cL_law 398 = .ok (.iadd, 1) := by decide +kernel
theorem dL_law_399 : decode cL_law 399 = .ok (.iaload, 1) := by decide +kernel
theorem dL_law_400 : decode cL_law 400 = .ok (.aload_n 0, 1) := by decide +kernel
theorem dL_law_401 : decode cL_law 401 = .ok (.iload_n 3, 1) := by decide +kernel
theorem dL_law_402 : decode cL_law 402 = .ok (.iconst 4, 1) := by decide +kernel
theorem dL_law_403 : decode cL_law 403 = .ok (.iadd, 1) := by decide +kernel
theorem dL_law_404 : decode cL_law 404 = .ok (.iaload, 1) := by decide +kernel
theorem dL_law_405 : decode cL_law 405 = .ok (.aload_n 0, 1) := by decide +kernel
theorem dL_law_406 : decode cL_law 406 = .ok (.iload_n 3, 1) := by decide +kernel
theorem dL_law_407 : decode cL_law 407 = .ok (.iconst 5, 1) := by decide +kernel
theorem dL_law_408 : decode cL_law 408 = .ok (.iadd, 1) := by decide +kernel
theorem dL_law_409 : decode cL_law 409 = .ok (.iaload, 1) := by decide +kernel
theorem dL_law_410 : decode cL_law 410 = .ok (.invokevirtual 54, 3) := by decide +kernel
theorem dL_law_413 : decode cL_law 413 = .ok (.aload_n 2, 1) := by decide +kernel
theorem dL_law_414 : decode cL_law 414 = .ok (.aload_n 0, 1) := by decide +kernel
theorem dL_law_415 : decode cL_law 415 = .ok (.iload_n 3, 1) := by decide +kernel
theorem dL_law_416 : decode cL_law 416 = .ok (.iconst 1, 1) := by decide +kernel
theorem dL_law_417 : decode cL_law 417 = .ok (.iadd, 1) := by decide +kernel
theorem dL_law_418 : decode cL_law 418 = .ok (.iaload, 1) := by decide +kernel
theorem dL_law_419 : decode cL_law 419 = .ok (.aload_n 0, 1) := by decide +kernel
theorem dL_law_420 : decode cL_law 420 = .ok (.iload_n 3, 1) := by decide +kernel
theorem dL_law_421 : decode cL_law 421 = .ok (.iconst 2, 1) := by decide +kernel
theorem dL_law_422 : decode cL_law 422 = .ok (.iadd, 1) := by decide +kernel
theorem dL_law_423 : decode cL_law 423 = .ok (.iaload, 1) := by decide +kernel
theorem dL_law_424 : decode cL_law 424 = .ok (.aload_n 0, 1) := by decide +kernel
theorem dL_law_425 : decode cL_law 425 = .ok (.iload_n 3, 1) := by decide +kernel
theorem dL_law_426 : decode cL_law 426 = .ok (.iconst 3, 1) := by decide +kernel
theorem dL_law_427 : decode cL_law 427 = .ok (.iadd, 1) := by decide +kernel
theorem dL_law_428 : decode cL_law 428 = .ok (.iaload, 1) := by decide +kernel
theorem dL_law_429 : decode cL_law 429 = .ok (.aload_n 0, 1) := by decide +kernel
theorem dL_law_430 : decode cL_law 430 = .ok (.iload_n 3, 1) := by decide +kernel
theorem dL_law_431 : decode cL_law 431 = .ok (.iconst 4, 1) := by decide +kernel
theorem dL_law_432 : decode cL_law 432 = .ok (.iadd, 1) := by decide +kernel
theorem dL_law_433 : decode cL_law 433 = .ok (.iaload, 1) := by decide +kernel
theorem dL_law_434 : decode cL_law 434 = .ok (.aload_n 0, 1) := by decide +kernel
theorem dL_law_435 : decode cL_law 435 = .ok (.iload_n 3, 1) := by decide +kernel
theorem dL_law_436 : decode cL_law 436 = .ok (.iconst 5, 1) := by decide +kernel
theorem dL_law_437 : decode cL_law 437 = .ok (.iadd, 1) := by decide +kernel
theorem dL_law_438 : decode cL_law 438 = .ok (.iaload, 1) := by decide +kernel
theorem dL_law_439 : decode cL_law 439 = .ok (.invokevirtual 58, 3) := by decide +kernel
theorem dL_law_442 : decode cL_law 442 = .ok (.if_icmp .eq 551, 3) := by decide +kernel
theorem dL_law_445 : decode cL_law 445 = .ok (.iconst 0, 1) := by decide +kernel
theorem dL_law_446 : decode cL_law 446 = .ok (.ireturn, 1) := by decide +kernel
theorem dL_law_447 : decode cL_law 447 = .ok (.aload_n 1, 1) := by decide +kernel
theorem dL_law_448 : decode cL_law 448 = .ok (.aload_n 0, 1) := by decide +kernel
theorem dL_law_449 : decode cL_law 449 = .ok (.iload_n 3, 1) := by decide +kernel
theorem dL_law_450 : decode cL_law 450 = .ok (.iconst 1, 1) := by decide +kernel
theorem dL_law_451 : decode cL_law 451 = .ok (.iadd, 1) := by decide +kernel
theorem dL_law_452 : decode cL_law 452 = .ok (.iaload, 1) := by decide +kernel
theorem dL_law_453 : decode cL_law 453 = .ok (.aload_n 0, 1) := by decide +kernel
theorem dL_law_454 : decode cL_law 454 = .ok (.iload_n 3, 1) := by decide +kernel
theorem dL_law_455 : decode cL_law 455 = .ok (.iconst 2, 1) := by decide +kernel
theorem dL_law_456 : decode cL_law 456 = .ok (.iadd, 1) := by decide +kernel
theorem dL_law_457 : decode cL_law 457 = .ok (.iaload, 1) := by decide +kernel
theorem dL_law_458 : decode cL_law 458 = .ok (.aload_n 0, 1) := by decide +kernel
theorem dL_law_459 : decode cL_law 459 = .ok (.iload_n 3, 1) := by decide +kernel
theorem dL_law_460 : decode cL_law 460 = .ok (.iconst 3, 1) := by decide +kernel
theorem dL_law_461 : decode cL_law 461 = .ok (.iadd, 1) := by decide +kernel
theorem dL_law_462 : decode cL_law 462 = .ok (.iaload, 1) := by decide +kernel
theorem dL_law_463 : decode cL_law 463 = .ok (.aload_n 0, 1) := by decide +kernel
theorem dL_law_464 : decode cL_law 464 = .ok (.iload_n 3, 1) := by decide +kernel
theorem dL_law_465 : decode cL_law 465 = .ok (.iconst 4, 1) := by decide +kernel
theorem dL_law_466 : decode cL_law 466 = .ok (.iadd, 1) := by decide +kernel
theorem dL_law_467 : decode cL_law 467 = .ok (.iaload, 1) := by decide +kernel
theorem dL_law_468 : decode cL_law 468 = .ok (.aload_n 0, 1) := by decide +kernel
theorem dL_law_469 : decode cL_law 469 = .ok (.iload_n 3, 1) := by decide +kernel
theorem dL_law_470 : decode cL_law 470 = .ok (.iconst 5, 1) := by decide +kernel
theorem dL_law_471 : decode cL_law 471 = .ok (.iadd, 1) := by decide +kernel
theorem dL_law_472 : decode cL_law 472 = .ok (.iaload, 1) := by decide +kernel
theorem dL_law_473 : decode cL_law 473 = .ok (.aload_n 0, 1) := by decide +kernel
theorem dL_law_474 : decode cL_law 474 = .ok (.iload_n 3, 1) := by decide +kernel
theorem dL_law_475 : decode cL_law 475 = .ok (.bipush 6, 2) := by decide +kernel
theorem dL_law_477 : decode cL_law 477 = .ok (.iadd, 1) := by decide +kernel
theorem dL_law_478 : decode cL_law 478 = .ok (.iaload, 1) := by decide +kernel
theorem dL_law_479 : decode cL_law 479 = .ok (.invokevirtual 59, 3) := by decide +kernel
theorem dL_law_482 : decode cL_law 482 = .ok (.aload_n 2, 1) := by decide +kernel
theorem dL_law_483 : decode cL_law 483 = .ok (.aload_n 0, 1) := by decide +kernel
theorem dL_law_484 : decode cL_law 484 = .ok (.iload_n 3, 1) := by decide +kernel
theorem dL_law_485 : decode cL_law 485 = .ok (.iconst 1, 1) := by decide +kernel
theorem dL_law_486 : decode cL_law 486 = .ok (.iadd, 1) := by decide +kernel
theorem dL_law_487 : decode cL_law 487 = .ok (.iaload, 1) := by decide +kernel
theorem dL_law_488 : decode cL_law 488 = .ok (.aload_n 0, 1) := by decide +kernel
theorem dL_law_489 : decode cL_law 489 = .ok (.iload_n 3, 1) := by decide +kernel
theorem dL_law_490 : decode cL_law 490 = .ok (.iconst 2, 1) := by decide +kernel
theorem dL_law_491 : decode cL_law 491 = .ok (.iadd, 1) := by decide +kernel
theorem dL_law_492 : decode cL_law 492 = .ok (.iaload, 1) := by decide +kernel
theorem dL_law_493 : decode cL_law 493 = .ok (.aload_n 0, 1) := by decide +kernel
theorem dL_law_494 : decode cL_law 494 = .ok (.iload_n 3, 1) := by decide +kernel
theorem dL_law_495 : decode cL_law 495 = .ok (.iconst 3, 1) := by decide +kernel
theorem dL_law_496 : decode cL_law 496 = .ok (.iadd, 1) := by decide +kernel
theorem dL_law_497 : decode cL_law 497 = .ok (.iaload, 1) := by decide +kernel
theorem dL_law_498 : decode cL_law 498 = .ok (.aload_n 0, 1) := by decide +kernel
theorem dL_law_499 : decode cL_law 499 = .ok (.iload_n 3, 1) := by decide +kernel
theorem dL_law_500 : decode cL_law 500 = .ok (.iconst 4, 1) := by decide +kernel
theorem dL_law_501 : decode cL_law 501 = .ok (.iadd, 1) := by decide +kernel
theorem dL_law_502 : decode cL_law 502 = .ok (.iaload, 1) := by decide +kernel
theorem dL_law_503 : decode cL_law 503 = .ok (.aload_n 0, 1) := by decide +kernel
theorem dL_law_504 : decode cL_law 504 = .ok (.iload_n 3, 1) := by decide +kernel
theorem dL_law_505 : decode cL_law 505 = .ok (.iconst 5, 1) := by decide +kernel
theorem dL_law_506 : decode cL_law 506 = .ok (.iadd, 1) := by decide +kernel
theorem dL_law_507 : decode cL_law 507 = .ok (.iaload, 1) := by decide +kernel
theorem dL_law_508 : decode cL_law 508 = .ok (.aload_n 0, 1) := by decide +kernel
theorem dL_law_509 : decode cL_law 509 = .ok (.iload_n 3, 1) := by decide +kernel
theorem dL_law_510 : decode cL_law 510 = .ok (.bipush 6, 2) := by decide +kernel
theorem dL_law_512 : decode cL_law 512 = .ok (.iadd, 1) := by decide +kernel
theorem dL_law_513 : decode cL_law 513 = .ok (.iaload, 1) := by decide +kernel
theorem dL_law_514 : decode cL_law 514 = .ok (.invokevirtual 63, 3) := by decide +kernel
theorem dL_law_517 : decode cL_law 517 = .ok (.lcmp, 1) := by decide +kernel
theorem dL_law_518 : decode cL_law 518 = .ok (.ifCond .eq 475, 3) := by decide +kernel
theorem dL_law_521 : decode cL_law 521 = .ok (.iconst 0, 1) := by decide +kernel
theorem dL_law_522 : decode cL_law 522 = .ok (.ireturn, 1) := by decide +kernel
theorem dL_law_523 : decode cL_law 523 = .ok (.aload_n 1, 1) := by decide +kernel
theorem dL_law_524 : decode cL_law 524 = .ok (.aload_n 0, 1) := by decide +kernel
theorem dL_law_525 : decode cL_law 525 = .ok (.iload_n 3, 1) := by decide +kernel
theorem dL_law_526 : decode cL_law 526 = .ok (.iconst 1, 1) := by decide +kernel
theorem dL_law_527 : decode cL_law 527 = .ok (.iadd, 1) := by decide +kernel
theorem dL_law_528 : decode cL_law 528 = .ok (.iaload, 1) := by decide +kernel
theorem dL_law_529 : decode cL_law 529 = .ok (.invokevirtual 64, 3) := by decide +kernel
theorem dL_law_532 : decode cL_law 532 = .ok (.aload_n 2, 1) := by decide +kernel
theorem dL_law_533 : decode cL_law 533 = .ok (.aload_n 0, 1) := by decide +kernel
theorem dL_law_534 : decode cL_law 534 = .ok (.iload_n 3, 1) := by decide +kernel
theorem dL_law_535 : decode cL_law 535 = .ok (.iconst 1, 1) := by decide +kernel
theorem dL_law_536 : decode cL_law 536 = .ok (.iadd, 1) := by decide +kernel
theorem dL_law_537 : decode cL_law 537 = .ok (.iaload, 1) := by decide +kernel
theorem dL_law_538 : decode cL_law 538 = .ok (.invokevirtual 68, 3) := by decide +kernel
theorem dL_law_541 : decode cL_law 541 = .ok (.lcmp, 1) := by decide +kernel
theorem dL_law_542 : decode cL_law 542 = .ok (.ifCond .eq 451, 3) := by decide +kernel
theorem dL_law_545 : decode cL_law 545 = .ok (.iconst 0, 1) := by decide +kernel
theorem dL_law_546 : decode cL_law 546 = .ok (.ireturn, 1) := by decide +kernel
theorem dL_law_547 : decode cL_law 547 = .ok (.aload_n 1, 1) := by decide +kernel
theorem dL_law_548 : decode cL_law 548 = .ok (.invokevirtual 69, 3) := by decide +kernel
theorem dL_law_551 : decode cL_law 551 = .ok (.aload_n 2, 1) := by decide +kernel
theorem dL_law_552 : decode cL_law 552 = .ok (.invokevirtual 73, 3) := by decide +kernel
theorem dL_law_555 : decode cL_law 555 = .ok (.if_icmp .eq 438, 3) := by decide +kernel
theorem dL_law_558 : decode cL_law 558 = .ok (.iconst 0, 1) := by decide +kernel
theorem dL_law_559 : decode cL_law 559 = .ok (.ireturn, 1) := by decide +kernel
theorem dL_law_560 : decode cL_law 560 = .ok (.aload_n 1, 1) := by decide +kernel
theorem dL_law_561 : decode cL_law 561 = .ok (.aload_n 0, 1) := by decide +kernel
theorem dL_law_562 : decode cL_law 562 = .ok (.iload_n 3, 1) := by decide +kernel
theorem dL_law_563 : decode cL_law 563 = .ok (.iconst 1, 1) := by decide +kernel
theorem dL_law_564 : decode cL_law 564 = .ok (.iadd, 1) := by decide +kernel
theorem dL_law_565 : decode cL_law 565 = .ok (.iaload, 1) := by decide +kernel
theorem dL_law_566 : decode cL_law 566 = .ok (.invokevirtual 74, 3) := by decide +kernel
theorem dL_law_569 : decode cL_law 569 = .ok (.aload_n 2, 1) := by decide +kernel
theorem dL_law_570 : decode cL_law 570 = .ok (.aload_n 0, 1) := by decide +kernel
theorem dL_law_571 : decode cL_law 571 = .ok (.iload_n 3, 1) := by decide +kernel
theorem dL_law_572 : decode cL_law 572 = .ok (.iconst 1, 1) := by decide +kernel
theorem dL_law_573 : decode cL_law 573 = .ok (.iadd, 1) := by decide +kernel
theorem dL_law_574 : decode cL_law 574 = .ok (.iaload, 1) := by decide +kernel
theorem dL_law_575 : decode cL_law 575 = .ok (.invokevirtual 77, 3) := by decide +kernel
theorem dL_law_578 : decode cL_law 578 = .ok (.if_icmp .eq 415, 3) := by decide +kernel
theorem dL_law_581 : decode cL_law 581 = .ok (.iconst 0, 1) := by decide +kernel
theorem dL_law_582 : decode cL_law 582 = .ok (.ireturn, 1) := by decide +kernel
theorem dL_law_583 : decode cL_law 583 = .ok (.aload_n 1, 1) := by decide +kernel
theorem dL_law_584 : decode cL_law 584 = .ok (.aload_n 0, 1) := by decide +kernel
theorem dL_law_585 : decode cL_law 585 = .ok (.iload_n 3, 1) := by decide +kernel
theorem dL_law_586 : decode cL_law 586 = .ok (.iconst 1, 1) := by decide +kernel
theorem dL_law_587 : decode cL_law 587 = .ok (.iadd, 1) := by decide +kernel
theorem dL_law_588 : decode cL_law 588 = .ok (.iaload, 1) := by decide +kernel
theorem dL_law_589 : decode cL_law 589 = .ok (.invokevirtual 78, 3) := by decide +kernel
theorem dL_law_592 : decode cL_law 592 = .ok (.aload_n 2, 1) := by decide +kernel
theorem dL_law_593 : decode cL_law 593 = .ok (.aload_n 0, 1) := by decide +kernel
theorem dL_law_594 : decode cL_law 594 = .ok (.iload_n 3, 1) := by decide +kernel
theorem dL_law_595 : decode cL_law 595 = .ok (.iconst 1, 1) := by decide +kernel
theorem dL_law_596 : decode cL_law 596 = .ok (.iadd, 1) := by decide +kernel
theorem dL_law_597 : decode cL_law 597 = .ok (.iaload, 1) := by decide +kernel
theorem dL_law_598 : decode cL_law 598 = .ok (.invokevirtual 81, 3) := by decide +kernel
theorem dL_law_601 : decode cL_law 601 = .ok (.if_icmp .eq 392, 3) := by decide +kernel
theorem dL_law_604 : decode cL_law 604 = .ok (.iconst 0, 1) := by decide +kernel
theorem dL_law_605 : decode cL_law 605 = .ok (.ireturn, 1) := by decide +kernel
theorem dL_law_606 : decode cL_law 606 = .ok (.aload_n 1, 1) := by decide +kernel
theorem dL_law_607 : decode cL_law 607 = .ok (.invokevirtual 82, 3) := by decide +kernel
theorem dL_law_610 : decode cL_law 610 = .ok (.aload_n 2, 1) := by decide +kernel
theorem dL_law_611 : decode cL_law 611 = .ok (.invokevirtual 86, 3) := by decide +kernel
theorem dL_law_614 : decode cL_law 614 = .ok (.if_icmp .eq 379, 3) := by decide +kernel
theorem dL_law_617 : decode cL_law 617 = .ok (.iconst 0, 1) := by decide +kernel
theorem dL_law_618 : decode cL_law 618 = .ok (.ireturn, 1) := by decide +kernel
theorem dL_law_619 : decode cL_law 619 = .ok (.aload_n 1, 1) := by decide +kernel
theorem dL_law_620 : decode cL_law 620 = .ok (.invokevirtual 87, 3) := by decide +kernel
theorem dL_law_623 : decode cL_law 623 = .ok (.aload_n 2, 1) := by decide +kernel
theorem dL_law_624 : decode cL_law 624 = .ok (.invokevirtual 90, 3) := by decide +kernel
theorem dL_law_627 : decode cL_law 627 = .ok (.if_icmp .eq 366, 3) := by decide +kernel
theorem dL_law_630 : decode cL_law 630 = .ok (.iconst 0, 1) := by decide +kernel
theorem dL_law_631 : decode cL_law 631 = .ok (.ireturn, 1) := by decide +kernel
theorem dL_law_632 : decode cL_law 632 = .ok (.aload_n 1, 1) := by decide +kernel
theorem dL_law_633 : decode cL_law 633 = .ok (.aload_n 0, 1) := by decide +kernel
theorem dL_law_634 : decode cL_law 634 = .ok (.iload_n 3, 1) := by decide +kernel
theorem dL_law_635 : decode cL_law 635 = .ok (.iconst 1, 1) := by decide +kernel
theorem dL_law_636 : decode cL_law 636 = .ok (.iadd, 1) := by decide +kernel
theorem dL_law_637 : decode cL_law 637 = .ok (.iaload, 1) := by decide +kernel
theorem dL_law_638 : decode cL_law 638 = .ok (.aload_n 0, 1) := by decide +kernel
theorem dL_law_639 : decode cL_law 639 = .ok (.iload_n 3, 1) := by decide +kernel
theorem dL_law_640 : decode cL_law 640 = .ok (.iconst 2, 1) := by decide +kernel
theorem dL_law_641 : decode cL_law 641 = .ok (.iadd, 1) := by decide +kernel
theorem dL_law_642 : decode cL_law 642 = .ok (.iaload, 1) := by decide +kernel
theorem dL_law_643 : decode cL_law 643 = .ok (.aload_n 0, 1) := by decide +kernel
theorem dL_law_644 : decode cL_law 644 = .ok (.iload_n 3, 1) := by decide +kernel
theorem dL_law_645 : decode cL_law 645 = .ok (.iconst 3, 1) := by decide +kernel
theorem dL_law_646 : decode cL_law 646 = .ok (.iadd, 1) := by decide +kernel
theorem dL_law_647 : decode cL_law 647 = .ok (.iaload, 1) := by decide +kernel
theorem dL_law_648 : decode cL_law 648 = .ok (.invokevirtual 91, 3) := by decide +kernel
theorem dL_law_651 : decode cL_law 651 = .ok (.aload_n 2, 1) := by decide +kernel
theorem dL_law_652 : decode cL_law 652 = .ok (.aload_n 0, 1) := by decide +kernel
theorem dL_law_653 : decode cL_law 653 = .ok (.iload_n 3, 1) := by decide +kernel
theorem dL_law_654 : decode cL_law 654 = .ok (.iconst 1, 1) := by decide +kernel
theorem dL_law_655 : decode cL_law 655 = .ok (.iadd, 1) := by decide +kernel
theorem dL_law_656 : decode cL_law 656 = .ok (.iaload, 1) := by decide +kernel
theorem dL_law_657 : decode cL_law 657 = .ok (.aload_n 0, 1) := by decide +kernel
theorem dL_law_658 : decode cL_law 658 = .ok (.iload_n 3, 1) := by decide +kernel
theorem dL_law_659 : decode cL_law 659 = .ok (.iconst 2, 1) := by decide +kernel
theorem dL_law_660 : decode cL_law 660 = .ok (.iadd, 1) := by decide +kernel
theorem dL_law_661 : decode cL_law 661 = .ok (.iaload, 1) := by decide +kernel
theorem dL_law_662 : decode cL_law 662 = .ok (.aload_n 0, 1) := by decide +kernel
theorem dL_law_663 : decode cL_law 663 = .ok (.iload_n 3, 1) := by decide +kernel
theorem dL_law_664 : decode cL_law 664 = .ok (.iconst 3, 1) := by decide +kernel
theorem dL_law_665 : decode cL_law 665 = .ok (.iadd, 1) := by decide +kernel
theorem dL_law_666 : decode cL_law 666 = .ok (.iaload, 1) := by decide +kernel
theorem dL_law_667 : decode cL_law 667 = .ok (.invokevirtual 95, 3) := by decide +kernel
theorem dL_law_670 : decode cL_law 670 = .ok (.if_icmp .eq 323, 3) := by decide +kernel
theorem dL_law_673 : decode cL_law 673 = .ok (.iconst 0, 1) := by decide +kernel
theorem dL_law_674 : decode cL_law 674 = .ok (.ireturn, 1) := by decide +kernel
theorem dL_law_675 : decode cL_law 675 = .ok (.aload_n 1, 1) := by decide +kernel
theorem dL_law_676 : decode cL_law 676 = .ok (.aload_n 0, 1) := by decide +kernel
theorem dL_law_677 : decode cL_law 677 = .ok (.iload_n 3, 1) := by decide +kernel
theorem dL_law_678 : decode cL_law 678 = .ok (.iconst 1, 1) := by decide +kernel
theorem dL_law_679 : decode cL_law 679 = .ok (.iadd, 1) := by decide +kernel
theorem dL_law_680 : decode cL_law 680 = .ok (.iaload, 1) := by decide +kernel
theorem dL_law_681 : decode cL_law 681 = .ok (.invokevirtual 96, 3) := by decide +kernel
theorem dL_law_684 : decode cL_law 684 = .ok (.aload_n 2, 1) := by decide +kernel
theorem dL_law_685 : decode cL_law 685 = .ok (.aload_n 0, 1) := by decide +kernel
theorem dL_law_686 : decode cL_law 686 = .ok (.iload_n 3, 1) := by decide +kernel
theorem dL_law_687 : decode cL_law 687 = .ok (.iconst 1, 1) := by decide +kernel
theorem dL_law_688 : decode cL_law 688 = .ok (.iadd, 1) := by decide +kernel
theorem dL_law_689 : decode cL_law 689 = .ok (.iaload, 1) := by decide +kernel
theorem dL_law_690 : decode cL_law 690 = .ok (.invokevirtual 99, 3) := by decide +kernel
theorem dL_law_693 : decode cL_law 693 = .ok (.if_icmp .eq 300, 3) := by decide +kernel
theorem dL_law_696 : decode cL_law 696 = .ok (.iconst 0, 1) := by decide +kernel
theorem dL_law_697 : decode cL_law 697 = .ok (.ireturn, 1) := by decide +kernel
theorem dL_law_698 : decode cL_law 698 = .ok (.aload_n 1, 1) := by decide +kernel
theorem dL_law_699 : decode cL_law 699 = .ok (.aload_n 0, 1) := by decide +kernel
theorem dL_law_700 : decode cL_law 700 = .ok (.iload_n 3, 1) := by decide +kernel
theorem dL_law_701 : decode cL_law 701 = .ok (.iconst 1, 1) := by decide +kernel
theorem dL_law_702 : decode cL_law 702 = .ok (.iadd, 1) := by decide +kernel
theorem dL_law_703 : decode cL_law 703 = .ok (.iaload, 1) := by decide +kernel
theorem dL_law_704 : decode cL_law 704 = .ok (.invokevirtual 100, 3) := by decide +kernel
theorem dL_law_707 : decode cL_law 707 = .ok (.aload_n 2, 1) := by decide +kernel
theorem dL_law_708 : decode cL_law 708 = .ok (.aload_n 0, 1) := by decide +kernel
theorem dL_law_709 : decode cL_law 709 = .ok (.iload_n 3, 1) := by decide +kernel
theorem dL_law_710 : decode cL_law 710 = .ok (.iconst 1, 1) := by decide +kernel
theorem dL_law_711 : decode cL_law 711 = .ok (.iadd, 1) := by decide +kernel
theorem dL_law_712 : decode cL_law 712 = .ok (.iaload, 1) := by decide +kernel
theorem dL_law_713 : decode cL_law 713 = .ok (.invokevirtual 103, 3) := by decide +kernel
theorem dL_law_716 : decode cL_law 716 = .ok (.if_icmp .eq 277, 3) := by decide +kernel
theorem dL_law_719 : decode cL_law 719 = .ok (.iconst 0, 1) := by decide +kernel
theorem dL_law_720 : decode cL_law 720 = .ok (.ireturn, 1) := by decide +kernel
theorem dL_law_721 : decode cL_law 721 = .ok (.aload_n 1, 1) := by decide +kernel
theorem dL_law_722 : decode cL_law 722 = .ok (.aload_n 0, 1) := by decide +kernel
theorem dL_law_723 : decode cL_law 723 = .ok (.iload_n 3, 1) := by decide +kernel
theorem dL_law_724 : decode cL_law 724 = .ok (.iconst 1, 1) := by decide +kernel
theorem dL_law_725 : decode cL_law 725 = .ok (.iadd, 1) := by decide +kernel
theorem dL_law_726 : decode cL_law 726 = .ok (.iaload, 1) := by decide +kernel
theorem dL_law_727 : decode cL_law 727 = .ok (.aload_n 0, 1) := by decide +kernel
theorem dL_law_728 : decode cL_law 728 = .ok (.iload_n 3, 1) := by decide +kernel
theorem dL_law_729 : decode cL_law 729 = .ok (.iconst 2, 1) := by decide +kernel
theorem dL_law_730 : decode cL_law 730 = .ok (.iadd, 1) := by decide +kernel
theorem dL_law_731 : decode cL_law 731 = .ok (.iaload, 1) := by decide +kernel
theorem dL_law_732 : decode cL_law 732 = .ok (.invokevirtual 104, 3) := by decide +kernel
theorem dL_law_735 : decode cL_law 735 = .ok (.aload_n 2, 1) := by decide +kernel
theorem dL_law_736 : decode cL_law 736 = .ok (.aload_n 0, 1) := by decide +kernel
theorem dL_law_737 : decode cL_law 737 = .ok (.iload_n 3, 1) := by decide +kernel
theorem dL_law_738 : decode cL_law 738 = .ok (.iconst 1, 1) := by decide +kernel
theorem dL_law_739 : decode cL_law 739 = .ok (.iadd, 1) := by decide +kernel
theorem dL_law_740 : decode cL_law 740 = .ok (.iaload, 1) := by decide +kernel
theorem dL_law_741 : decode cL_law 741 = .ok (.aload_n 0, 1) := by decide +kernel
theorem dL_law_742 : decode cL_law 742 = .ok (.iload_n 3, 1) := by decide +kernel
theorem dL_law_743 : decode cL_law 743 = .ok (.iconst 2, 1) := by decide +kernel
theorem dL_law_744 : decode cL_law 744 = .ok (.iadd, 1) := by decide +kernel
theorem dL_law_745 : decode cL_law 745 = .ok (.iaload, 1) := by decide +kernel
theorem dL_law_746 : decode cL_law 746 = .ok (.invokevirtual 107, 3) := by decide +kernel
theorem dL_law_749 : decode cL_law 749 = .ok (.if_icmp .eq 244, 3) := by decide +kernel
theorem dL_law_752 : decode cL_law 752 = .ok (.iconst 0, 1) := by decide +kernel
theorem dL_law_753 : decode cL_law 753 = .ok (.ireturn, 1) := by decide +kernel
theorem dL_law_754 : decode cL_law 754 = .ok (.aload_n 1, 1) := by decide +kernel
theorem dL_law_755 : decode cL_law 755 = .ok (.aload_n 0, 1) := by decide +kernel
theorem dL_law_756 : decode cL_law 756 = .ok (.iload_n 3, 1) := by decide +kernel
theorem dL_law_757 : decode cL_law 757 = .ok (.iconst 1, 1) := by decide +kernel
theorem dL_law_758 : decode cL_law 758 = .ok (.iadd, 1) := by decide +kernel
theorem dL_law_759 : decode cL_law 759 = .ok (.iaload, 1) := by decide +kernel
theorem dL_law_760 : decode cL_law 760 = .ok (.invokevirtual 108, 3) := by decide +kernel
theorem dL_law_763 : decode cL_law 763 = .ok (.aload_n 2, 1) := by decide +kernel
theorem dL_law_764 : decode cL_law 764 = .ok (.aload_n 0, 1) := by decide +kernel
theorem dL_law_765 : decode cL_law 765 = .ok (.iload_n 3, 1) := by decide +kernel
theorem dL_law_766 : decode cL_law 766 = .ok (.iconst 1, 1) := by decide +kernel
theorem dL_law_767 : decode cL_law 767 = .ok (.iadd, 1) := by decide +kernel
theorem dL_law_768 : decode cL_law 768 = .ok (.iaload, 1) := by decide +kernel
theorem dL_law_769 : decode cL_law 769 = .ok (.invokevirtual 111, 3) := by decide +kernel
theorem dL_law_772 : decode cL_law 772 = .ok (.if_icmp .eq 221, 3) := by decide +kernel
theorem dL_law_775 : decode cL_law 775 = .ok (.iconst 0, 1) := by decide +kernel
theorem dL_law_776 : decode cL_law 776 = .ok (.ireturn, 1) := by decide +kernel
theorem dL_law_777 : decode cL_law 777 = .ok (.aload_n 1, 1) := by decide +kernel
theorem dL_law_778 : decode cL_law 778 = .ok (.aload_n 0, 1) := by decide +kernel
theorem dL_law_779 : decode cL_law 779 = .ok (.iload_n 3, 1) := by decide +kernel
theorem dL_law_780 : decode cL_law 780 = .ok (.iconst 1, 1) := by decide +kernel
theorem dL_law_781 : decode cL_law 781 = .ok (.iadd, 1) := by decide +kernel
theorem dL_law_782 : decode cL_law 782 = .ok (.iaload, 1) := by decide +kernel
theorem dL_law_783 : decode cL_law 783 = .ok (.invokevirtual 112, 3) := by decide +kernel
theorem dL_law_786 : decode cL_law 786 = .ok (.aload_n 2, 1) := by decide +kernel
theorem dL_law_787 : decode cL_law 787 = .ok (.aload_n 0, 1) := by decide +kernel
theorem dL_law_788 : decode cL_law 788 = .ok (.iload_n 3, 1) := by decide +kernel
theorem dL_law_789 : decode cL_law 789 = .ok (.iconst 1, 1) := by decide +kernel
theorem dL_law_790 : decode cL_law 790 = .ok (.iadd, 1) := by decide +kernel
theorem dL_law_791 : decode cL_law 791 = .ok (.iaload, 1) := by decide +kernel
theorem dL_law_792 : decode cL_law 792 = .ok (.invokevirtual 115, 3) := by decide +kernel
theorem dL_law_795 : decode cL_law 795 = .ok (.if_icmp .eq 198, 3) := by decide +kernel
theorem dL_law_798 : decode cL_law 798 = .ok (.iconst 0, 1) := by decide +kernel
theorem dL_law_799 : decode cL_law 799 = .ok (.ireturn, 1) := by decide +kernel
theorem dL_law_800 : decode cL_law 800 = .ok (.aload_n 1, 1) := by decide +kernel
theorem dL_law_801 : decode cL_law 801 = .ok (.invokevirtual 116, 3) := by decide +kernel
theorem dL_law_804 : decode cL_law 804 = .ok (.aload_n 2, 1) := by decide +kernel
theorem dL_law_805 : decode cL_law 805 = .ok (.invokevirtual 119, 3) := by decide +kernel
theorem dL_law_808 : decode cL_law 808 = .ok (.if_icmp .eq 185, 3) := by decide +kernel
theorem dL_law_811 : decode cL_law 811 = .ok (.iconst 0, 1) := by decide +kernel
theorem dL_law_812 : decode cL_law 812 = .ok (.ireturn, 1) := by decide +kernel
theorem dL_law_813 : decode cL_law 813 = .ok (.aload_n 1, 1) := by decide +kernel
theorem dL_law_814 : decode cL_law 814 = .ok (.aload_n 0, 1) := by decide +kernel
theorem dL_law_815 : decode cL_law 815 = .ok (.iload_n 3, 1) := by decide +kernel
theorem dL_law_816 : decode cL_law 816 = .ok (.iconst 1, 1) := by decide +kernel
theorem dL_law_817 : decode cL_law 817 = .ok (.iadd, 1) := by decide +kernel
theorem dL_law_818 : decode cL_law 818 = .ok (.iaload, 1) := by decide +kernel
theorem dL_law_819 : decode cL_law 819 = .ok (.invokevirtual 120, 3) := by decide +kernel
theorem dL_law_822 : decode cL_law 822 = .ok (.aload_n 2, 1) := by decide +kernel
theorem dL_law_823 : decode cL_law 823 = .ok (.aload_n 0, 1) := by decide +kernel
theorem dL_law_824 : decode cL_law 824 = .ok (.iload_n 3, 1) := by decide +kernel
theorem dL_law_825 : decode cL_law 825 = .ok (.iconst 1, 1) := by decide +kernel
theorem dL_law_826 : decode cL_law 826 = .ok (.iadd, 1) := by decide +kernel
theorem dL_law_827 : decode cL_law 827 = .ok (.iaload, 1) := by decide +kernel
theorem dL_law_828 : decode cL_law 828 = .ok (.invokevirtual 123, 3) := by decide +kernel
theorem dL_law_831 : decode cL_law 831 = .ok (.if_icmp .eq 162, 3) := by decide +kernel
theorem dL_law_834 : decode cL_law 834 = .ok (.iconst 0, 1) := by decide +kernel
theorem dL_law_835 : decode cL_law 835 = .ok (.ireturn, 1) := by decide +kernel
theorem dL_law_836 : decode cL_law 836 = .ok (.aload_n 1, 1) := by decide +kernel
theorem dL_law_837 : decode cL_law 837 = .ok (.aload_n 0, 1) := by decide +kernel
theorem dL_law_838 : decode cL_law 838 = .ok (.iload_n 3, 1) := by decide +kernel
theorem dL_law_839 : decode cL_law 839 = .ok (.iconst 1, 1) := by decide +kernel
theorem dL_law_840 : decode cL_law 840 = .ok (.iadd, 1) := by decide +kernel
theorem dL_law_841 : decode cL_law 841 = .ok (.iaload, 1) := by decide +kernel
theorem dL_law_842 : decode cL_law 842 = .ok (.aload_n 0, 1) := by decide +kernel
theorem dL_law_843 : decode cL_law 843 = .ok (.iload_n 3, 1) := by decide +kernel
theorem dL_law_844 : decode cL_law 844 = .ok (.iconst 2, 1) := by decide +kernel
theorem dL_law_845 : decode cL_law 845 = .ok (.iadd, 1) := by decide +kernel
theorem dL_law_846 : decode cL_law 846 = .ok (.iaload, 1) := by decide +kernel
theorem dL_law_847 : decode cL_law 847 = .ok (.invokevirtual 124, 3) := by decide +kernel
theorem dL_law_850 : decode cL_law 850 = .ok (.aload_n 2, 1) := by decide +kernel
theorem dL_law_851 : decode cL_law 851 = .ok (.aload_n 0, 1) := by decide +kernel
theorem dL_law_852 : decode cL_law 852 = .ok (.iload_n 3, 1) := by decide +kernel
theorem dL_law_853 : decode cL_law 853 = .ok (.iconst 1, 1) := by decide +kernel
theorem dL_law_854 : decode cL_law 854 = .ok (.iadd, 1) := by decide +kernel
theorem dL_law_855 : decode cL_law 855 = .ok (.iaload, 1) := by decide +kernel
theorem dL_law_856 : decode cL_law 856 = .ok (.aload_n 0, 1) := by decide +kernel
theorem dL_law_857 : decode cL_law 857 = .ok (.iload_n 3, 1) := by decide +kernel
theorem dL_law_858 : decode cL_law 858 = .ok (.iconst 2, 1) := by decide +kernel
theorem dL_law_859 : decode cL_law 859 = .ok (.iadd, 1) := by decide +kernel
theorem dL_law_860 : decode cL_law 860 = .ok (.iaload, 1) := by decide +kernel
theorem dL_law_861 : decode cL_law 861 = .ok (.invokevirtual 127, 3) := by decide +kernel
theorem dL_law_864 : decode cL_law 864 = .ok (.if_icmp .eq 129, 3) := by decide +kernel
theorem dL_law_867 : decode cL_law 867 = .ok (.iconst 0, 1) := by decide +kernel
theorem dL_law_868 : decode cL_law 868 = .ok (.ireturn, 1) := by decide +kernel
theorem dL_law_869 : decode cL_law 869 = .ok (.aload_n 1, 1) := by decide +kernel
theorem dL_law_870 : decode cL_law 870 = .ok (.invokevirtual 128, 3) := by decide +kernel
theorem dL_law_873 : decode cL_law 873 = .ok (.aload_n 2, 1) := by decide +kernel
theorem dL_law_874 : decode cL_law 874 = .ok (.invokevirtual 131, 3) := by decide +kernel
theorem dL_law_877 : decode cL_law 877 = .ok (.goto 116, 3) := by decide +kernel
theorem dL_law_880 : decode cL_law 880 = .ok (.aload_n 1, 1) := by decide +kernel
theorem dL_law_881 : decode cL_law 881 = .ok (.aload_n 0, 1) := by decide +kernel
theorem dL_law_882 : decode cL_law 882 = .ok (.iload_n 3, 1) := by decide +kernel
theorem dL_law_883 : decode cL_law 883 = .ok (.iconst 1, 1) := by decide +kernel
theorem dL_law_884 : decode cL_law 884 = .ok (.iadd, 1) := by decide +kernel
theorem dL_law_885 : decode cL_law 885 = .ok (.iaload, 1) := by decide +kernel
theorem dL_law_886 : decode cL_law 886 = .ok (.aload_n 0, 1) := by decide +kernel
theorem dL_law_887 : decode cL_law 887 = .ok (.iload_n 3, 1) := by decide +kernel
theorem dL_law_888 : decode cL_law 888 = .ok (.iconst 2, 1) := by decide +kernel
theorem dL_law_889 : decode cL_law 889 = .ok (.iadd, 1) := by decide +kernel
theorem dL_law_890 : decode cL_law 890 = .ok (.iaload, 1) := by decide +kernel
theorem dL_law_891 : decode cL_law 891 = .ok (.aload_n 0, 1) := by decide +kernel
theorem dL_law_892 : decode cL_law 892 = .ok (.iload_n 3, 1) := by decide +kernel
theorem dL_law_893 : decode cL_law 893 = .ok (.iconst 3, 1) := by decide +kernel
theorem dL_law_894 : decode cL_law 894 = .ok (.iadd, 1) := by decide +kernel
theorem dL_law_895 : decode cL_law 895 = .ok (.iaload, 1) := by decide +kernel
theorem dL_law_896 : decode cL_law 896 = .ok (.aload_n 0, 1) := by decide +kernel
theorem dL_law_897 : decode cL_law 897 = .ok (.iload_n 3, 1) := by decide +kernel
theorem dL_law_898 : decode cL_law 898 = .ok (.iconst 4, 1) := by decide +kernel
theorem dL_law_899 : decode cL_law 899 = .ok (.iadd, 1) := by decide +kernel
theorem dL_law_900 : decode cL_law 900 = .ok (.iaload, 1) := by decide +kernel
theorem dL_law_901 : decode cL_law 901 = .ok (.aload_n 0, 1) := by decide +kernel
theorem dL_law_902 : decode cL_law 902 = .ok (.iload_n 3, 1) := by decide +kernel
theorem dL_law_903 : decode cL_law 903 = .ok (.iconst 5, 1) := by decide +kernel
theorem dL_law_904 : decode cL_law 904 = .ok (.iadd, 1) := by decide +kernel
theorem dL_law_905 : decode cL_law 905 = .ok (.iaload, 1) := by decide +kernel
theorem dL_law_906 : decode cL_law 906 = .ok (.aload_n 0, 1) := by decide +kernel
theorem dL_law_907 : decode cL_law 907 = .ok (.iload_n 3, 1) := by decide +kernel
theorem dL_law_908 : decode cL_law 908 = .ok (.bipush 6, 2) := by decide +kernel
theorem dL_law_910 : decode cL_law 910 = .ok (.iadd, 1) := by decide +kernel
theorem dL_law_911 : decode cL_law 911 = .ok (.iaload, 1) := by decide +kernel
theorem dL_law_912 : decode cL_law 912 = .ok (.invokevirtual 132, 3) := by decide +kernel
theorem dL_law_915 : decode cL_law 915 = .ok (.aload_n 2, 1) := by decide +kernel
theorem dL_law_916 : decode cL_law 916 = .ok (.aload_n 0, 1) := by decide +kernel
theorem dL_law_917 : decode cL_law 917 = .ok (.iload_n 3, 1) := by decide +kernel
theorem dL_law_918 : decode cL_law 918 = .ok (.iconst 1, 1) := by decide +kernel
theorem dL_law_919 : decode cL_law 919 = .ok (.iadd, 1) := by decide +kernel
theorem dL_law_920 : decode cL_law 920 = .ok (.iaload, 1) := by decide +kernel
theorem dL_law_921 : decode cL_law 921 = .ok (.aload_n 0, 1) := by decide +kernel
theorem dL_law_922 : decode cL_law 922 = .ok (.iload_n 3, 1) := by decide +kernel
theorem dL_law_923 : decode cL_law 923 = .ok (.iconst 2, 1) := by decide +kernel
theorem dL_law_924 : decode cL_law 924 = .ok (.iadd, 1) := by decide +kernel
theorem dL_law_925 : decode cL_law 925 = .ok (.iaload, 1) := by decide +kernel
theorem dL_law_926 : decode cL_law 926 = .ok (.aload_n 0, 1) := by decide +kernel
theorem dL_law_927 : decode cL_law 927 = .ok (.iload_n 3, 1) := by decide +kernel
theorem dL_law_928 : decode cL_law 928 = .ok (.iconst 3, 1) := by decide +kernel
theorem dL_law_929 : decode cL_law 929 = .ok (.iadd, 1) := by decide +kernel
theorem dL_law_930 : decode cL_law 930 = .ok (.iaload, 1) := by decide +kernel
theorem dL_law_931 : decode cL_law 931 = .ok (.aload_n 0, 1) := by decide +kernel
theorem dL_law_932 : decode cL_law 932 = .ok (.iload_n 3, 1) := by decide +kernel
theorem dL_law_933 : decode cL_law 933 = .ok (.iconst 4, 1) := by decide +kernel
theorem dL_law_934 : decode cL_law 934 = .ok (.iadd, 1) := by decide +kernel
theorem dL_law_935 : decode cL_law 935 = .ok (.iaload, 1) := by decide +kernel
theorem dL_law_936 : decode cL_law 936 = .ok (.aload_n 0, 1) := by decide +kernel
theorem dL_law_937 : decode cL_law 937 = .ok (.iload_n 3, 1) := by decide +kernel
theorem dL_law_938 : decode cL_law 938 = .ok (.iconst 5, 1) := by decide +kernel
theorem dL_law_939 : decode cL_law 939 = .ok (.iadd, 1) := by decide +kernel
theorem dL_law_940 : decode cL_law 940 = .ok (.iaload, 1) := by decide +kernel
theorem dL_law_941 : decode cL_law 941 = .ok (.aload_n 0, 1) := by decide +kernel
theorem dL_law_942 : decode cL_law 942 = .ok (.iload_n 3, 1) := by decide +kernel
theorem dL_law_943 : decode cL_law 943 = .ok (.bipush 6, 2) := by decide +kernel
theorem dL_law_945 : decode cL_law 945 = .ok (.iadd, 1) := by decide +kernel
theorem dL_law_946 : decode cL_law 946 = .ok (.iaload, 1) := by decide +kernel
theorem dL_law_947 : decode cL_law 947 = .ok (.invokevirtual 135, 3) := by decide +kernel
theorem dL_law_950 : decode cL_law 950 = .ok (.lcmp, 1) := by decide +kernel
theorem dL_law_951 : decode cL_law 951 = .ok (.ifCond .eq 42, 3) := by decide +kernel
theorem dL_law_954 : decode cL_law 954 = .ok (.iconst 0, 1) := by decide +kernel
