theorem dJ7_fill_53178_0 : decode cJ7_fill_53178 0 = .ok (.iconst 0, 1) := by decide +kernel
theorem dJ7_fill_53178_1 : decode cJ7_fill_53178 1 = .ok (.istore_n 2, 1) := by decide +kernel
theorem dJ7_fill_53178_2 : decode cJ7_fill_53178 2 = .ok (.aload_n 0, 1) := by decide +kernel
theorem dJ7_fill_53178_3 : decode cJ7_fill_53178 3 = .ok (.arraylength, 1) := by decide +kernel
theorem dJ7_fill_53178_4 : decode cJ7_fill_53178 4 = .ok (.istore_n 3, 1) := by decide +kernel
theorem dJ7_fill_53178_5 : decode cJ7_fill_53178 5 = .ok (.iload_n 2, 1) := by decide +kernel
theorem dJ7_fill_53178_6 : decode cJ7_fill_53178 6 = .ok (.iload_n 3, 1) := by decide +kernel
theorem dJ7_fill_53178_7 : decode cJ7_fill_53178 7 = .ok (.if_icmp .ge 13, 3) := by decide +kernel
theorem dJ7_fill_53178_10 : decode cJ7_fill_53178 10 = .ok (.aload_n 0, 1) := by decide +kernel
theorem dJ7_fill_53178_11 : decode cJ7_fill_53178 11 = .ok (.iload_n 2, 1) := by decide +kernel
theorem dJ7_fill_53178_12 : decode cJ7_fill_53178 12 = .ok (.iload_n 1, 1) := by decide +kernel
theorem dJ7_fill_53178_13 : decode cJ7_fill_53178 13 = .ok (.iastore, 1) := by decide +kernel
theorem dJ7_fill_53178_14 : decode cJ7_fill_53178 14 = .ok (.iinc 2 1, 3) := by decide +kernel
theorem dJ7_fill_53178_17 : decode cJ7_fill_53178 17 = .ok (.goto (-12), 3) := by decide +kernel
theorem dJ7_fill_53178_20 : decode cJ7_fill_53178 20 = .ok (.return_, 1) := by decide +kernel
theorem dJ9_floorMod_f86c9_0 : decode cJ9_floorMod_f86c9 0 = .ok (.lload_n 0, 1) := by decide +kernel
theorem dJ9_floorMod_f86c9_1 : decode cJ9_floorMod_f86c9 1 = .ok (.lload_n 2, 1) := by decide +kernel
theorem dJ9_floorMod_f86c9_2 : decode cJ9_floorMod_f86c9 2 = .ok (.lrem, 1) := by decide +kernel
theorem dJ9_floorMod_f86c9_3 : decode cJ9_floorMod_f86c9 3 = .ok (.lstore 4, 2) := by decide +kernel
theorem dJ9_floorMod_f86c9_5 : decode cJ9_floorMod_f86c9 5 = .ok (.lload_n 0, 1) := by decide +kernel
theorem dJ9_floorMod_f86c9_6 : decode cJ9_floorMod_f86c9 6 = .ok (.lload_n 2, 1) := by decide +kernel
theorem dJ9_floorMod_f86c9_7 : decode cJ9_floorMod_f86c9 7 = .ok (.lxor, 1) := by decide +kernel
theorem dJ9_floorMod_f86c9_8 : decode cJ9_floorMod_f86c9 8 = .ok (.lconst 0, 1) := by decide +kernel
theorem dJ9_floorMod_f86c9_9 : decode cJ9_floorMod_f86c9 9 = .ok (.lcmp, 1) := by decide +kernel
theorem dJ9_floorMod_f86c9_10 : decode cJ9_floorMod_f86c9 10 = .ok (.ifCond .ge 15, 3) := by decide +kernel
theorem dJ9_floorMod_f86c9_13 : decode cJ9_floorMod_f86c9 13 = .ok (.lload 4, 2) := by decide +kernel
theorem dJ9_floorMod_f86c9_15 : decode cJ9_floorMod_f86c9 15 = .ok (.lconst 0, 1) := by decide +kernel
theorem dJ9_floorMod_f86c9_16 : decode cJ9_floorMod_f86c9 16 = .ok (.lcmp, 1) := by decide +kernel
theorem dJ9_floorMod_f86c9_17 : decode cJ9_floorMod_f86c9 17 = .ok (.ifCond .eq 8, 3) := by decide +kernel
theorem dJ9_floorMod_f86c9_20 : decode cJ9_floorMod_f86c9 20 = .ok (.lload 4, 2) := by decide +kernel
theorem dJ9_floorMod_f86c9_22 : decode cJ9_floorMod_f86c9 22 = .ok (.lload_n 2, 1) := by decide +kernel
theorem dJ9_floorMod_f86c9_23 : decode cJ9_floorMod_f86c9 23 = .ok (.ladd, 1) := by decide +kernel
theorem dJ9_floorMod_f86c9_24 : decode cJ9_floorMod_f86c9 24 = .ok (.lreturn, 1) := by decide +kernel
theorem dJ9_floorMod_f86c9_25 : decode cJ9_floorMod_f86c9 25 = .ok (.lload 4, 2) := by decide +kernel
theorem dJ9_floorMod_f86c9_27 : decode cJ9_floorMod_f86c9 27 = .ok (.lreturn, 1) := by decide +kernel
theorem dJ9_max_7cf53_0 : decode cJ9_max_7cf53 0 = .ok (.iload_n 0, 1) := by decide +kernel
theorem dJ9_max_7cf53_1 : decode cJ9_max_7cf53 1 = .ok (.iload_n 1, 1) := by decide +kernel
theorem dJ9_max_7cf53_2 : decode cJ9_max_7cf53 2 = .ok (.if_icmp .lt 7, 3) := by decide +kernel
theorem dJ9_max_7cf53_5 : decode cJ9_max_7cf53 5 = .ok (.iload_n 0, 1) := by decide +kernel
theorem dJ9_max_7cf53_6 : decode cJ9_max_7cf53 6 = .ok (.goto 4, 3) := by decide +kernel
theorem dJ9_max_7cf53_9 : decode cJ9_max_7cf53 9 = .ok (.iload_n 1, 1) := by decide +kernel
theorem dJ9_max_7cf53_10 : decode cJ9_max_7cf53 10 = .ok (.ireturn, 1) := by decide +kernel
theorem dJ9_min_7cf53_0 : decode cJ9_min_7cf53 0 = .ok (.iload_n 0, 1) := by decide +kernel
theorem dJ9_min_7cf53_1 : decode cJ9_min_7cf53 1 = .ok (.iload_n 1, 1) := by decide +kernel
theorem dJ9_min_7cf53_2 : decode cJ9_min_7cf53 2 = .ok (.if_icmp .gt 7, 3) := by decide +kernel
theorem dJ9_min_7cf53_5 : decode cJ9_min_7cf53 5 = .ok (.iload_n 0, 1) := by decide +kernel
theorem dJ9_min_7cf53_6 : decode cJ9_min_7cf53 6 = .ok (.goto 4, 3) := by decide +kernel
theorem dJ9_min_7cf53_9 : decode cJ9_min_7cf53 9 = .ok (.iload_n 1, 1) := by decide +kernel
theorem dJ9_min_7cf53_10 : decode cJ9_min_7cf53 10 = .ok (.ireturn, 1) := by decide +kernel
theorem dL_law_0 : decode cL_law 0 = .ok (.new 7, 3) := by decide +kernel
theorem dL_law_3 : decode cL_law 3 = .ok (.dup, 1) := by decide +kernel
theorem dL_law_4 : decode cL_law 4 = .ok (.invokespecial 9, 3) := by decide +kernel
theorem dL_law_7 : decode cL_law 7 = .ok (.astore_n 1, 1) := by decide +kernel
theorem dL_law_8 : decode cL_law 8 = .ok (.new 10, 3) := by decide +kernel
theorem dL_law_11 : decode cL_law 11 = .ok (.dup, 1) := by decide +kernel
theorem dL_law_12 : decode cL_law 12 = .ok (.invokespecial 12, 3) := by decide +kernel
theorem dL_law_15 : decode cL_law 15 = .ok (.astore_n 2, 1) := by decide +kernel
theorem dL_law_16 : decode cL_law 16 = .ok (.iconst 0, 1) := by decide +kernel
theorem dL_law_17 : decode cL_law 17 = .ok (.istore_n 3, 1) := by decide +kernel
theorem dL_law_18 : decode cL_law 18 = .ok (.iload_n 3, 1) := by decide +kernel
theorem dL_law_19 : decode cL_law 19 = .ok (.aload_n 0, 1) := by decide +kernel
theorem dL_law_20 : decode cL_law 20 = .ok (.arraylength, 1) := by decide +kernel
theorem dL_law_21 : decode cL_law 21 = .ok (.bipush 7, 2) := by decide +kernel
theorem dL_law_23 : decode cL_law 23 = .ok (.isub, 1) := by decide +kernel
theorem dL_law_24 : decode cL_law 24 = .ok (.if_icmp .gt 1603, 3) := by decide +kernel
theorem dL_law_27 : decode cL_law 27 = .ok (.aload_n 0, 1) := by decide +kernel
theorem dL_law_28 : decode cL_law 28 = .ok (.iload_n 3, 1) := by decide +kernel
theorem dL_law_29 : decode cL_law 29 = .ok (.iaload, 1) := by decide +kernel
theorem dL_law_30 : decode cL_law 30 = .ok (.bipush 63, 2) := by decide +kernel
theorem dL_law_32 : decode cL_law 32 = .ok (.iand, 1) := by decide +kernel
theorem dL_law_33 : decode cL_law 33 = .ok (.tableswitch 1588 0 38 #[171, 184, 257, 290, 313, 336, 359, 382, 425, 448, 481, 544, 567, 580, 593, 616, 649, 692, 715, 728, 771, 814, 848, 891, 944, 977, 1000, 1033, 1047, 1120, 1173, 1206, 1317, 1350, 1393, 1426, 1469, 1522, 1565], 171) := by decide +kernel
theorem dL_law_204 : decode cL_law 204 = .ok (.aload_n 1, 1) := by decide +kernel
theorem dL_law_205 : decode cL_law 205 = .ok (.invokevirtual 13, 3) := by decide +kernel
theorem dL_law_208 : decode cL_law 208 = .ok (.aload_n 2, 1) := by decide +kernel
theorem dL_law_209 : decode cL_law 209 = .ok (.invokevirtual 17, 3) := by decide +kernel
theorem dL_law_212 : decode cL_law 212 = .ok (.if_icmp .eq 1409, 3) := by decide +kernel
theorem dL_law_215 : decode cL_law 215 = .ok (.iconst 0, 1) := by decide +kernel
theorem dL_law_216 : decode cL_law 216 = .ok (.ireturn, 1) := by decide +kernel
theorem dL_law_217 : decode cL_law 217 = .ok (.aload_n 1, 1) := by decide +kernel
theorem dL_law_218 : decode cL_law 218 = .ok (.aload_n 0, 1) := by decide +kernel
theorem dL_law_219 : decode cL_law 219 = .ok (.iload_n 3, 1) := by decide +kernel
theorem dL_law_220 : decode cL_law 220 = .ok (.iconst 1, 1) := by decide +kernel
theorem dL_law_221 : decode cL_law 221 = .ok (.iadd, 1) := by decide +kernel
theorem dL_law_222 : decode cL_law 222 = .ok (.iaload, 1) := by decide +kernel
theorem dL_law_223 : decode cL_law 223 = .ok (.aload_n 0, 1) := by decide +kernel
theorem dL_law_224 : decode cL_law 224 = .ok (.iload_n 3, 1) := by decide +kernel
theorem dL_law_225 : decode cL_law 225 = .ok (.iconst 2, 1) := by decide +kernel
theorem dL_law_226 : decode cL_law 226 = .ok (.iadd, 1) := by decide +kernel
theorem dL_law_227 : decode cL_law 227 = .ok (.iaload, 1) := by decide +kernel
theorem dL_law_228 : decode cL_law 228 = .ok (.i2l, 1) := by decide +kernel
theorem dL_law_229 : decode cL_law 229 = .ok (.bipush 32, 2) := by decide +kernel
theorem dL_law_231 : decode cL_law 231 = .ok (.lshl, 1) := by decide +kernel
theorem dL_law_232 : decode cL_law 232 = .ok (.aload_n 0, 1) := by decide +kernel
theorem dL_law_233 : decode cL_law 233 = .ok (.iload_n 3, 1) := by decide +kernel
theorem dL_law_234 : decode cL_law 234 = .ok (.iconst 3, 1) := by decide +kernel
theorem dL_law_235 : decode cL_law 235 = .ok (.iadd, 1) := by decide +kernel
theorem dL_law_236 : decode cL_law 236 = .ok (.iaload, 1) := by decide +kernel
theorem dL_law_237 : decode cL_law 237 = .ok (.i2l, 1) := by decide +kernel
theorem dL_law_238 : decode cL_law 238 = .ok (.ldc2_w 18, 3) := by decide +kernel
theorem dL_law_241 : decode cL_law 241 = .ok (.land, 1) := by decide +kernel
theorem dL_law_242 : decode cL_law 242 = .ok (.lor, 1) := by decide +kernel
theorem dL_law_243 : decode cL_law 243 = .ok (.aload_n 0, 1) := by decide +kernel
theorem dL_law_244 : decode cL_law 244 = .ok (.iload_n 3, 1) := by decide +kernel
theorem dL_law_245 : decode cL_law 245 = .ok (.iconst 4, 1) := by decide +kernel
theorem dL_law_246 : decode cL_law 246 = .ok (.iadd, 1) := by decide +kernel
theorem dL_law_247 : decode cL_law 247 = .ok (.iaload, 1) := by decide +kernel
theorem dL_law_248 : decode cL_law 248 = .ok (.invokevirtual 20, 3) := by decide +kernel
theorem dL_law_251 : decode cL_law 251 = .ok (.aload_n 2, 1) := by decide +kernel
theorem dL_law_252 : decode cL_law 252 = .ok (.aload_n 0, 1) := by decide +kernel
theorem dL_law_253 : decode cL_law 253 = .ok (.iload_n 3, 1) := by decide +kernel
theorem dL_law_254 : decode cL_law 254 = .ok (.iconst 1, 1) := by decide +kernel
theorem dL_law_255 : decode cL_law 255 = .ok (.iadd, 1) := by decide +kernel
theorem dL_law_256 : decode cL_law 256 = .ok (.iaload, 1) := by decide +kernel
theorem dL_law_257 : decode cL_law 257 = .ok (.aload_n 0, 1) := by decide +kernel
theorem dL_law_258 : decode cL_law 258 = .ok (.iload_n 3, 1) := by decide +kernel
theorem dL_law_259 : decode cL_law 259 = .ok (.iconst 2, 1) := by decide +kernel
theorem dL_law_260 : decode cL_law 260 = .ok (.iadd, 1) := by decide +kernel
theorem dL_law_261 : decode cL_law 261 = .ok (.iaload, 1) := by decide +kernel
theorem dL_law_262 : decode cL_law 262 = .ok (.i2l, 1) := by decide +kernel
theorem dL_law_263 : decode cL_law 263 = .ok (.bipush 32, 2) := by decide +kernel
theorem dL_law_265 : decode cL_law 265 = .ok (.lshl, 1) := by decide +kernel
theorem dL_law_266 : decode cL_law 266 = .ok (.aload_n 0, 1) := by decide +kernel
theorem dL_law_267 : decode cL_law 267 = .ok (.iload_n 3, 1) := by decide +kernel
theorem dL_law_268 : decode cL_law 268 = .ok (.iconst 3, 1) := by decide +kernel
theorem dL_law_269 : decode cL_law 269 = .ok (.iadd, 1) := by decide +kernel
theorem dL_law_270 : decode cL_law 270 = .ok (.iaload, 1) := by decide +kernel
theorem dL_law_271 : decode cL_law 271 = .ok (.i2l, 1) := by decide +kernel
theorem dL_law_272 : decode cL_law 272 = .ok (.ldc2_w 18, 3) := by decide +kernel
theorem dL_law_275 : decode cL_law 275 = .ok (.land, 1) := by decide +kernel
theorem dL_law_276 : decode cL_law 276 = .ok (.lor, 1) := by decide +kernel
theorem dL_law_277 : decode cL_law 277 = .ok (.aload_n 0, 1) := by decide +kernel
theorem dL_law_278 : decode cL_law 278 = .ok (.iload_n 3, 1) := by decide +kernel
theorem dL_law_279 : decode cL_law 279 = .ok (.iconst 4, 1) := by decide +kernel
theorem dL_law_280 : decode cL_law 280 = .ok (.iadd, 1) := by decide +kernel
theorem dL_law_281 : decode cL_law 281 = .ok (.iaload, 1) := by decide +kernel
theorem dL_law_282 : decode cL_law 282 = .ok (.invokevirtual 24, 3) := by decide +kernel
theorem dL_law_285 : decode cL_law 285 = .ok (.if_icmp .eq 1336, 3) := by decide +kernel
theorem dL_law_288 : decode cL_law 288 = .ok (.iconst 0, 1) := by decide +kernel
theorem dL_law_289 : decode cL_law 289 = .ok (.ireturn, 1) := by decide +kernel
theorem dL_law_290 : decode cL_law 290 = .ok (.aload_n 1, 1) := by decide +kernel
theorem dL_law_291 : decode cL_law 291 = .ok (.aload_n 0, 1) := by decide +kernel
theorem dL_law_292 : decode cL_law 292 = .ok (.iload_n 3, 1) := by decide +kernel
theorem dL_law_293 : decode cL_law 293 = .ok (.iconst 1, 1) := by decide +kernel
theorem dL_law_294 : decode cL_law 294 = .ok (.iadd, 1) := by decide +kernel
theorem dL_law_295 : decode cL_law 295 = .ok (.iaload, 1) := by decide +kernel
theorem dL_law_296 : decode cL_law 296 = .ok (.aload_n 0, 1) := by decide +kernel
theorem dL_law_297 : decode cL_law 297 = .ok (.iload_n 3, 1) := by decide +kernel
theorem dL_law_298 : decode cL_law 298 = .ok (.iconst 2, 1) := by decide +kernel
theorem dL_law_299 : decode cL_law 299 = .ok (.iadd, 1) := by decide +kernel
theorem dL_law_300 : decode cL_law 300 = .ok (.iaload, 1) := by decide +kernel
theorem dL_law_301 : decode cL_law 301 = .ok (.invokevirtual 25, 3) := by decide +kernel
theorem dL_law_304 : decode cL_law 304 = .ok (.aload_n 2, 1) := by decide +kernel
theorem dL_law_305 : decode cL_law 305 = .ok (.aload_n 0, 1) := by decide +kernel
theorem dL_law_306 : decode cL_law 306 = .ok (.iload_n 3, 1) := by decide +kernel
theorem dL_law_307 : decode cL_law 307 = .ok (.iconst 1, 1) := by decide +kernel
theorem dL_law_308 : decode cL_law 308 = .ok (.iadd, 1) := by decide +kernel
theorem dL_law_309 : decode cL_law 309 = .ok (.iaload, 1) := by decide +kernel
theorem dL_law_310 : decode cL_law 310 = .ok (.aload_n 0, 1) := by decide +kernel
theorem dL_law_311 : decode cL_law 311 = .ok (.iload_n 3, 1) := by decide +kernel
theorem dL_law_312 : decode cL_law 312 = .ok (.iconst 2, 1) := by decide +kernel
theorem dL_law_313 : decode cL_law 313 = .ok (.iadd, 1) := by decide +kernel
theorem dL_law_314 : decode cL_law 314 = .ok (.iaload, 1) := by decide +kernel
theorem dL_law_315 : decode cL_law 315 = .ok (.invokevirtual 29, 3) := by decide +kernel
theorem dL_law_318 : decode cL_law 318 = .ok (.if_icmp .eq 1303, 3) := by decide +kernel
theorem dL_law_321 : decode cL_law 321 = .ok (.iconst 0, 1) := by decide +kernel
theorem dL_law_322 : decode cL_law 322 = .ok (.ireturn, 1) := by decide +kernel
theorem dL_law_323 : decode cL_law 323 = .ok (.aload_n 1, 1) := by decide +kernel
theorem dL_law_324 : decode cL_law 324 = .ok (.aload_n 0, 1) := by decide +kernel
theorem dL_law_325 : decode cL_law 325 = .ok (.iload_n 3, 1) := by decide +kernel
theorem dL_law_326 : decode cL_law 326 = .ok (.iconst 1, 1) := by decide +kernel
theorem dL_law_327 : decode cL_law 327 = .ok (.iadd, 1) := by decide +kernel
theorem dL_law_328 : decode cL_law 328 = .ok (.iaload, 1) := by decide +kernel
theorem dL_law_329 : decode cL_law 329 = .ok (.invokevirtual 30, 3) := by decide +kernel
theorem dL_law_332 : decode cL_law 332 = .ok (.aload_n 2, 1) := by decide +kernel
theorem dL_law_333 : decode cL_law 333 = .ok (.aload_n 0, 1) := by decide +kernel
theorem dL_law_334 : decode cL_law 334 = .ok (.iload_n 3, 1) := by decide +kernel
theorem dL_law_335 : decode cL_law 335 = .ok (.iconst 1, 1) := by decide +kernel
theorem dL_law_336 : decode cL_law 336 = .ok (.iadd, 1) := by decide +kernel
theorem dL_law_337 : decode cL_law 337 = .ok (.iaload, 1) := by decide +kernel
theorem dL_law_338 : decode cL_law 338 = .ok (.invokevirtual 34, 3) := by decide +kernel
theorem dL_law_341 : decode cL_law 341 = .ok (.if_icmp .eq 1280, 3) := by decide +kernel
theorem dL_law_344 : decode cL_law 344 = .ok (.iconst 0, 1) := by decide +kernel
theorem dL_law_345 : decode cL_law 345 = .ok (.ireturn, 1) := by decide +kernel
theorem dL_law_346 : decode cL_law 346 = .ok (.aload_n 1, 1) := by decide +kernel
theorem dL_law_347 : decode cL_law 347 = .ok (.aload_n 0, 1) := by decide +kernel
theorem dL_law_348 : decode cL_law 348 = .ok (.iload_n 3, 1) := by decide +kernel
theorem dL_law_349 : decode cL_law 349 = .ok (.iconst 1, 1) := by decide +kernel
theorem dL_law_350 : decode cL_law 350 = .ok (.iadd, 1) := by decide +kernel
theorem dL_law_351 : decode cL_law 351 = .ok (.iaload, 1) := by decide +kernel
theorem dL_law_352 : decode cL_law 352 = .ok (.invokevirtual 35, 3) := by decide +kernel
theorem dL_law_355 : decode cL_law 355 = .ok (.aload_n 2, 1) := by decide +kernel
theorem dL_law_356 : decode cL_law 356 = .ok (.aload_n 0, 1) := by decide +kernel
theorem dL_law_357 : decode cL_law 357 = .ok (.iload_n 3, 1) := by decide +kernel
theorem dL_law_358 : decode cL_law 358 = .ok (.iconst 1, 1) := by decide +kernel
theorem dL_law_359 : decode cL_law 359 = .ok (.iadd, 1) := by decide +kernel
theorem dL_law_360 : decode cL_law 360 = .ok (.iaload, 1) := by decide +kernel
theorem dL_law_361 : decode cL_law 361 = .ok (.invokevirtual 38, 3) := by decide +kernel
theorem dL_law_364 : decode cL_law 364 = .ok (.if_icmp .eq 1257, 3) := by decide +kernel
theorem dL_law_367 : decode cL_law 367 = .ok (.iconst 0, 1) := by decide +kernel
theorem dL_law_368 : decode cL_law 368 = .ok (.ireturn, 1) := by decide +kernel
theorem dL_law_369 : decode cL_law 369 = .ok (.aload_n 1, 1) := by decide +kernel
theorem dL_law_370 : decode cL_law 370 = .ok (.aload_n 0, 1) := by decide +kernel
theorem dL_law_371 : decode cL_law 371 = .ok (.iload_n 3, 1) := by decide +kernel
theorem dL_law_372 : decode cL_law 372 = .ok (.iconst 1, 1) := by decide +kernel
theorem dL_law_373 : decode cL_law 373 = .ok (.iadd, 1) := by decide +kernel
theorem dL_law_374 : decode cL_law 374 = .ok (.iaload, 1) := by decide +kernel
theorem dL_law_375 : decode cL_law 375 = .ok (.invokevirtual 39, 3) := by decide +kernel
theorem dL_law_378 : decode cL_law 378 = .ok (.aload_n 2, 1) := by decide +kernel
theorem dL_law_379 : decode cL_law 379 = .ok (.aload_n 0, 1) := by decide +kernel
theorem dL_law_380 : decode cL_law 380 = .ok (.iload_n 3, 1) := by decide +kernel
theorem dL_law_381 : decode cL_law 381 = .ok (.iconst 1, 1) := by decide +kernel
theorem dL_law_382 : decode cL_law 382 = .ok (.iadd, 1) := by decide +kernel
theorem dL_law_383 : decode cL_law 383 = .ok (.iaload, 1) := by decide +kernel
theorem dL_law_384 : decode cL_law 384 = .ok (.invokevirtual 42, 3) := by decide +kernel
theorem dL_law_387 : decode cL_law 387 = .ok (.if_icmp .eq 1234, 3) := by decide +kernel
theorem dL_law_390 : decode cL_law 390 = .ok (.iconst 0, 1) := by decide +kernel
theorem dL_law_391 : decode cL_law 391 = .ok (.ireturn, 1) := by decide +kernel
theorem dL_law_392 : decode cL_law 392 = .ok (.aload_n 1, 1) := by decide +kernel
theorem dL_law_393 : decode cL_law 393 = .ok (.aload_n 0, 1) := by decide +kernel
theorem dL_law_394 : decode cL_law 394 = .ok (.iload_n 3, 1) := by decide +kernel
theorem dL_law_395 : decode cL_law 395 = .ok (.iconst 1, 1) := by decide +kernel
theorem dL_law_396 : decode cL_law 396 = .ok (.iadd, 1) := by decide +kernel
theorem dL_law_397 : decode cL_law 397 = .ok (.iaload, 1) := by decide +kernel
theorem dL_law_398 : decode cL_law 398 = .ok (.invokevirtual 43, 3) := by decide +kernel
theorem dL_law_401 : decode cL_law 401 = .ok (.aload_n 2, 1) := by decide +kernel
theorem dL_law_402 : decode cL_law 402 = .ok (.aload_n 0, 1) := by decide +kernel
theorem dL_law_403 : decode cL_law 403 = .ok (.iload_n 3, 1) := by decide +kernel
theorem dL_law_404 : decode cL_law 404 = .ok (.iconst 1, 1) := by decide +kernel
theorem dL_law_405 : decode cL_law 405 = .ok (.iadd, 1) := by decide +kernel
theorem dL_law_406 : decode cL_law 406 = .ok (.iaload, 1) := by decide +kernel
theorem dL_law_407 : decode cL_law 407 = .ok (.invokevirtual 46, 3) := by decide +kernel
theorem dL_law_410 : decode cL_law 410 = .ok (.if_icmp .eq 1211, 3) := by decide +kernel
theorem dL_law_413 : decode cL_law 413 = .ok (.iconst 0, 1) := by decide +kernel
theorem dL_law_414 : decode cL_law 414 = .ok (.ireturn, 1) := by decide +kernel
theorem dL_law_415 : decode cL_law 415 = .ok (.aload_n 1, 1) := by decide +kernel
theorem dL_law_416 : decode cL_law 416 = .ok (.aload_n 0, 1) := by decide +kernel
theorem dL_law_417 : decode cL_law 417 = .ok (.iload_n 3, 1) := by decide +kernel
theorem dL_law_418 : decode cL_law 418 = .ok (.iconst 1, 1) := by decide +kernel
theorem dL_law_419 : decode cL_law 419 = .ok (.iadd, 1) := by decide +kernel
theorem dL_law_420 : decode cL_law 420 = .ok (.iaload, 1) := by decide +kernel
theorem dL_law_421 : decode cL_law 421 = .ok (.aload_n 0, 1) := by decide +kernel
theorem dL_law_422 : decode cL_law 422 = .ok (.iload_n 3, 1) := by decide +kernel
theorem dL_law_423 : decode cL_law 423 = .ok (.iconst 2, 1) := by decide +kernel
theorem dL_law_424 : decode cL_law 424 = .ok (.iadd, 1) := by decide +kernel
theorem dL_law_425 : decode cL_law 425 = .ok (.iaload, 1) := by decide +kernel
theorem dL_law_426 : decode cL_law 426 = .ok (.aload_n 0, 1) := by decide +kernel
theorem dL_law_427 : decode cL_law 427 = .ok (.iload_n 3, 1) := by decide +kernel
theorem dL_law_428 : decode cL_law 428 = .ok (.iconst 3, 1) := by decide +kernel
theorem dL_law_429 : decode cL_law 429 = .ok (.iadd, 1) := by decide +kernel
theorem dL_law_430 : decode cL_law 430 = .ok (.iaload, 1) := by decide +kernel
theorem dL_law_431 : decode cL_law 431 = .ok (.invokevirtual 47, 3) := by decide +kernel
theorem dL_law_434 : decode cL_law 434 = .ok (.aload_n 2, 1) := by decide +kernel
theorem dL_law_435 : decode cL_law 435 = .ok (.aload_n 0, 1) := by decide +kernel
theorem dL_law_436 : decode cL_law 436 = .ok (.iload_n 3, 1) := by decide +kernel
theorem dL_law_437 : decode cL_law 437 = .ok (.iconst 1, 1) := by decide +kernel
theorem dL_law_438 : decode cL_law 438 = .ok (.iadd, 1) := by decide +kernel
theorem dL_law_439 : decode cL_law 439 = .ok (.iaload, 1) := by decide +kernel
theorem dL_law_440 : decode cL_law 440 = .ok (.aload_n 0, 1) := by decide +kernel
theorem dL_law_441 : decode cL_law 441 = .ok (.iload_n 3, 1) := by decide +kernel
theorem dL_law_442 : decode cL_law 442 = .ok (.iconst 2, 1) := by decide +kernel
theorem dL_law_443 : decode cL_law 443 = .ok (.iadd, 1) := by decide +kernel
theorem dL_law_444 : decode cL_law 444 = .ok (.iaload, 1) := by decide +kernel
theorem dL_law_445 : decode cL_law 445 = .ok (.aload_n 0, 1) := by decide +kernel
theorem dL_law_446 : decode cL_law 446 = .ok (.iload_n 3, 1) := by decide +kernel
theorem dL_law_447 : decode cL_law 447 = .ok (.iconst 3, 1) := by decide +kernel
theorem dL_law_448 : decode cL_law 448 = .ok (.iadd, 1) := by decide +kernel
theorem dL_law_449 : decode cL_law 449 = .ok (.iaload, 1) := by decide +kernel
theorem dL_law_450 : decode cL_law 450 = .ok (.invokevirtual 51, 3) := by decide +kernel
theorem dL_law_453 : decode cL_law 453 = .ok (.if_icmp .eq 1168, 3) := by decide +kernel
theorem dL_law_456 : decode cL_law 456 = .ok (.iconst 0, 1) := by decide +kernel
theorem dL_law_457 : decode cL_law 457 = .ok (.ireturn, 1) := by decide +kernel
theorem dL_law_458 : decode cL_law 458 = .ok (.aload_n 1, 1) := by decide +kernel
theorem dL_law_459 : decode cL_law 459 = .ok (.aload_n 0, 1) := by decide +kernel
theorem dL_law_460 : decode cL_law 460 = .ok (.iload_n 3, 1) := by decide +kernel
theorem dL_law_461 : decode cL_law 461 = .ok (.iconst 1, 1) := by decide +kernel
theorem dL_law_462 : decode cL_law 462 = .ok (.iadd, 1) := by decide +kernel
theorem dL_law_463 : decode cL_law 463 = .ok (.iaload, 1) := by decide +kernel
theorem dL_law_464 : decode cL_law 464 = .ok (.invokevirtual 52, 3) := by decide +kernel
theorem dL_law_467 : decode cL_law 467 = .ok (.aload_n 2, 1) := by decide +kernel
theorem dL_law_468 : decode cL_law 468 = .ok (.aload_n 0, 1) := by decide +kernel
theorem dL_law_469 : decode cL_law 469 = .ok (.iload_n 3, 1) := by decide +kernel
theorem dL_law_470 : decode cL_law 470 = .ok (.iconst 1, 1) := by decide +kernel
theorem dL_law_471 : decode cL_law 471 = .ok (.iadd, 1) := by decide +kernel
theorem dL_law_472 : decode cL_law 472 = .ok (.iaload, 1) := by decide +kernel
theorem dL_law_473 : decode cL_law 473 = .ok (.invokevirtual 55, 3) := by decide +kernel
theorem dL_law_476 : decode cL_law 476 = .ok (.if_icmp .eq 1145, 3) := by decide +kernel
theorem dL_law_479 : decode cL_law 479 = .ok (.iconst 0, 1) := by decide +kernel
theorem dL_law_480 : decode cL_law 480 = .ok (.ireturn, 1) := by decide +kernel
theorem dL_law_481 : decode cL_law 481 = .ok (.aload_n 1, 1) := by decide +kernel
theorem dL_law_482 : decode cL_law 482 = .ok (.aload_n 0, 1) := by decide +kernel
theorem dL_law_483 : decode cL_law 483 = .ok (.iload_n 3, 1) := by decide +kernel
theorem dL_law_484 : decode cL_law 484 = .ok (.iconst 1, 1) := by decide +kernel
theorem dL_law_485 : decode cL_law 485 = .ok (.iadd, 1) := by decide +kernel
theorem dL_law_486 : decode cL_law 486 = .ok (.iaload, 1) := by decide +kernel
theorem dL_law_487 : decode cL_law 487 = .ok (.aload_n 0, 1) := by decide +kernel
theorem dL_law_488 : decode cL_law 488 = .ok (.iload_n 3, 1) := by decide +kernel
theorem dL_law_489 : decode cL_law 489 = .ok (.iconst 2, 1) := by decide +kernel
theorem dL_law_490 : decode cL_law 490 = .ok (.iadd, 1) := by decide +kernel
theorem dL_law_491 : decode cL_law 491 = .ok (.iaload, 1) := by decide +kernel
theorem dL_law_492 : decode cL_law 492 = .ok (.invokevirtual 56, 3) := by decide +kernel
theorem dL_law_495 : decode cL_law 495 = .ok (.aload_n 2, 1) := by decide +kernel
theorem dL_law_496 : decode cL_law 496 = .ok (.aload_n 0, 1) := by decide +kernel
theorem dL_law_497 : decode cL_law 497 = .ok (.iload_n 3, 1) := by decide +kernel
theorem dL_law_498 : decode cL_law 498 = .ok (.iconst 1, 1) := by decide +kernel
theorem dL_law_499 : decode cL_law 499 = .ok (.iadd, 1) := by decide +kernel
theorem dL_law_500 : decode cL_law 500 = .ok (.iaload, 1) := by decide +kernel
theorem dL_law_501 : decode cL_law 501 = .ok (.aload_n 0, 1) := by decide +kernel
theorem dL_law_502 : decode cL_law 502 = .ok (.iload_n 3, 1) := by decide +kernel
theorem dL_law_503 : decode cL_law 503 = .ok (.iconst 2, 1) := by decide +kernel
theorem dL_law_504 : decode cL_law 504 = .ok (.iadd, 1) := by decide +kernel
theorem dL_law_505 : decode cL_law 505 = .ok (.iaload, 1) := by decide +kernel
theorem dL_law_506 : decode cL_law 506 = .ok (.invokevirtual 59, 3) := by decide +kernel
theorem dL_law_509 : decode cL_law 509 = .ok (.if_icmp .eq 1112, 3) := by decide +kernel
theorem dL_law_512 : decode cL_law 512 = .ok (.iconst 0, 1) := by decide +kernel
theorem dL_law_513 : decode cL_law 513 = .ok (.ireturn, 1) := by decide +kernel
theorem dL_law_514 : decode cL_law 514 = .ok (.aload_n 1, 1) := by decide +kernel
theorem dL_law_515 : decode cL_law 515 = .ok (.aload_n 0, 1) := by decide +kernel
theorem dL_law_516 : decode cL_law 516 = .ok (.iload_n 3, 1) := by decide +kernel
theorem dL_law_517 : decode cL_law 517 = .ok (.iconst 1, 1) := by decide +kernel
theorem dL_law_518 : decode cL_law 518 = .ok (.iadd, 1) := by decide +kernel
theorem dL_law_519 : decode cL_law 519 = .ok (.iaload, 1) := by decide +kernel
theorem dL_law_520 : decode cL_law 520 = .ok (.i2l, 1) := by decide +kernel
theorem dL_law_521 : decode cL_law 521 = .ok (.bipush 32, 2) := by decide +kernel
theorem dL_law_523 : decode cL_law 523 = .ok (.lshl, 1) := by decide +kernel
theorem dL_law_524 : decode cL_law 524 = .ok (.aload_n 0, 1) := by decide +kernel
theorem dL_law_525 : decode cL_law 525 = .ok (.iload_n 3, 1) := by decide +kernel
theorem dL_law_526 : decode cL_law 526 = .ok (.iconst 2, 1) := by decide +kernel
theorem dL_law_527 : decode cL_law 527 = .ok (.iadd, 1) := by decide +kernel
theorem dL_law_528 : decode cL_law 528 = .ok (.iaload, 1) := by decide +kernel
theorem dL_law_529 : decode cL_law 529 = .ok (.i2l, 1) := by decide +kernel
theorem dL_law_530 : decode cL_law 530 = .ok (.ldc2_w 18, 3) := by decide +kernel
theorem dL_law_533 : decode cL_law 533 = .ok (.land, 1) := by decide +kernel
theorem dL_law_534 : decode cL_law 534 = .ok (.lor, 1) := by decide +kernel
theorem dL_law_535 : decode cL_law 535 = .ok (.aload_n 0, 1) := by decide +kernel
theorem dL_law_536 : decode cL_law 536 = .ok (.iload_n 3, 1) := by decide +kernel
theorem dL_law_537 : decode cL_law 537 = .ok (.iconst 3, 1) := by decide +kernel
theorem dL_law_538 : decode cL_law 538 = .ok (.iadd, 1) := by decide +kernel
theorem dL_law_539 : decode cL_law 539 = .ok (.iaload, 1) := by decide +kernel
theorem dL_law_540 : decode cL_law 540 = .ok (.invokevirtual 60, 3) := by decide +kernel
theorem dL_law_543 : decode cL_law 543 = .ok (.aload_n 2, 1) := by decide +kernel
theorem dL_law_544 : decode cL_law 544 = .ok (.aload_n 0, 1) := by decide +kernel
theorem dL_law_545 : decode cL_law 545 = .ok (.iload_n 3, 1) := by decide +kernel
theorem dL_law_546 : decode cL_law 546 = .ok (.iconst 1, 1) := by decide +kernel
theorem dL_law_547 : decode cL_law 547 = .ok (.iadd, 1) := by decide +kernel
theorem dL_law_548 : decode cL_law 548 = .ok (.iaload, 1) := by decide +kernel
theorem dL_law_549 : decode cL_law 549 = .ok (.i2l, 1) := by decide +kernel
theorem dL_law_550 : decode cL_law 550 = .ok (.bipush 32, 2) := by decide +kernel
theorem dL_law_552 : decode cL_law 552 = .ok (.lshl, 1) := by decide +kernel
theorem dL_law_553 : decode cL_law 553 = .ok (.aload_n 0, 1) := by decide +kernel
theorem dL_law_554 : decode cL_law 554 = .ok (.iload_n 3, 1) := by decide +kernel
theorem dL_law_555 : decode cL_law 555 = .ok (.iconst 2, 1) := by decide +kernel
theorem dL_law_556 : decode cL_law 556 = .ok (.iadd, 1) := by decide +kernel
theorem dL_law_557 : decode cL_law 557 = .ok (.iaload, 1) := by decide +kernel
theorem dL_law_558 : decode cL_law 558 = .ok (.i2l, 1) := by decide +kernel
theorem dL_law_559 : decode cL_law 559 = .ok (.ldc2_w 18, 3) := by decide +kernel
theorem dL_law_562 : decode cL_law 562 = .ok (.land, 1) := by decide +kernel
theorem dL_law_563 : decode cL_law 563 = .ok (.lor, 1) := by decide +kernel
theorem dL_law_564 : decode cL_law 564 = .ok (.aload_n 0, 1) := by decide +kernel
theorem dL_law_565 : decode cL_law 565 = .ok (.iload_n 3, 1) := by decide +kernel
theorem dL_law_566 : decode cL_law 566 = .ok (.iconst 3, 1) := by decide +kernel
theorem dL_law_567 : decode cL_law 567 = .ok (.iadd, 1) := by decide +kernel
theorem dL_law_568 : decode cL_law 568 = .ok (.iaload, 1) := by decide +kernel
theorem dL_law_569 : decode cL_law 569 = .ok (.invokevirtual 64, 3) := by decide +kernel
theorem dL_law_572 : decode cL_law 572 = .ok (.if_icmp .eq 1049, 3) := by decide +kernel
theorem dL_law_575 : decode cL_law 575 = .ok (.iconst 0, 1) := by decide +kernel
theorem dL_law_576 : decode cL_law 576 = .ok (.ireturn, 1) := by decide +kernel
theorem dL_law_577 : decode cL_law 577 = .ok (.aload_n 1, 1) := by decide +kernel
theorem dL_law_578 : decode cL_law 578 = .ok (.aload_n 0, 1) := by decide +kernel
theorem dL_law_579 : decode cL_law 579 = .ok (.iload_n 3, 1) := by decide +kernel
theorem dL_law_580 : decode cL_law 580 = .ok (.iconst 1, 1) := by decide +kernel
theorem dL_law_581 : decode cL_law 581 = .ok (.iadd, 1) := by decide +kernel
theorem dL_law_582 : decode cL_law 582 = .ok (.iaload, 1) := by decide +kernel
theorem dL_law_583 : decode cL_law 583 = .ok (.invokevirtual 65, 3) := by decide +kernel
theorem dL_law_586 : decode cL_law 586 = .ok (.aload_n 2, 1) := by decide +kernel
theorem dL_law_587 : decode cL_law 587 = .ok (.aload_n 0, 1) := by decide +kernel
theorem dL_law_588 : decode cL_law 588 = .ok (.iload_n 3, 1) := by decide +kernel
theorem dL_law_589 : decode cL_law 589 = .ok (.iconst 1, 1) := by decide +kernel
theorem dL_law_590 : decode cL_law 590 = .ok (.iadd, 1) := by decide +kernel
theorem dL_law_591 : decode cL_law 591 = .ok (.iaload, 1) := by decide +kernel
theorem dL_law_592 : decode cL_law 592 = .ok (.invokevirtual 68, 3) := by decide +kernel
theorem dL_law_595 : decode cL_law 595 = .ok (.if_icmp .eq 1026, 3) := by decide +kernel
theorem dL_law_598 : decode cL_law 598 = .ok (.iconst 0, 1) := by decide +kernel
theorem dL_law_599 : decode cL_law 599 = .ok (.ireturn, 1) := by decide +kernel
theorem dL_law_600 : decode cL_law 600 = .ok (.aload_n 1, 1) := by decide +kernel
theorem dL_law_601 : decode cL_law 601 = .ok (.invokevirtual 69, 3) := by decide +kernel
theorem dL_law_604 : decode cL_law 604 = .ok (.aload_n 2, 1) := by decide +kernel
theorem dL_law_605 : decode cL_law 605 = .ok (.invokevirtual 72, 3) := by decide +kernel
theorem dL_law_608 : decode cL_law 608 = .ok (.if_icmp .eq 1013, 3) := by decide +kernel
theorem dL_law_611 : decode cL_law 611 = .ok (.iconst 0, 1) := by decide +kernel
theorem dL_law_612 : decode cL_law 612 = .ok (.ireturn, 1) := by decide +kernel
theorem dL_law_613 : decode cL_law 613 = .ok (.aload_n 1, 1) := by decide +kernel
theorem dL_law_614 : decode cL_law 614 = .ok (.invokevirtual 73, 3) := by decide +kernel
theorem dL_law_617 : decode cL_law 617 = .ok (.aload_n 2, 1) := by decide +kernel
theorem dL_law_618 : decode cL_law 618 = .ok (.invokevirtual 76, 3) := by decide +kernel
theorem dL_law_621 : decode cL_law 621 = .ok (.if_icmp .eq 1000, 3) := by decide +kernel
theorem dL_law_624 : decode cL_law 624 = .ok (.iconst 0, 1) := by decide +kernel
theorem dL_law_625 : decode cL_law 625 = .ok (.ireturn, 1) := by decide +kernel
theorem dL_law_626 : decode cL_law 626 = .ok (.aload_n 1, 1) := by decide +kernel
theorem dL_law_627 : decode cL_law 627 = .ok (.aload_n 0, 1) := by decide +kernel
theorem dL_law_628 : decode cL_law 628 = .ok (.iload_n 3, 1) := by decide +kernel
theorem dL_law_629 : decode cL_law 629 = .ok (.iconst 1, 1) := by decide +kernel
theorem dL_law_630 : decode cL_law 630 = .ok (.iadd, 1) := by decide +kernel
theorem dL_law_631 : decode cL_law 631 = .ok (.iaload, 1) := by decide +kernel
theorem dL_law_632 : decode cL_law 632 = .ok (.invokevirtual 77, 3) := by decide +kernel
theorem dL_law_635 : decode cL_law 635 = .ok (.aload_n 2, 1) := by decide +kernel
theorem dL_law_636 : decode cL_law 636 = .ok (.aload_n 0, 1) := by decide +kernel
theorem dL_law_637 : decode cL_law 637 = .ok (.iload_n 3, 1) := by decide +kernel
theorem dL_law_638 : decode cL_law 638 = .ok (.iconst 1, 1) := by decide +kernel
theorem dL_law_639 : decode cL_law 639 = .ok (.iadd, 1) := by decide +kernel
theorem dL_law_640 : decode cL_law 640 = .ok (.iaload, 1) := by decide +kernel
theorem dL_law_641 : decode cL_law 641 = .ok (.invokevirtual 80, 3) := by decide +kernel
theorem dL_law_644 : decode cL_law 644 = .ok (.if_icmp .eq 977, 3) := by decide +kernel
theorem dL_law_647 : decode cL_law 647 = .ok (.iconst 0, 1) := by decide +kernel
theorem dL_law_648 : decode cL_law 648 = .ok (.ireturn, 1) := by decide +kernel
theorem dL_law_649 : decode cL_law 649 = .ok (.aload_n 1, 1) := by decide +kernel
theorem dL_law_650 : decode cL_law 650 = .ok (.aload_n 0, 1) := by decide +kernel
theorem dL_law_651 : decode cL_law 651 = .ok (.iload_n 3, 1) := by decide +kernel
theorem dL_law_652 : decode cL_law 652 = .ok (.iconst 1, 1) := by decide +kernel
theorem dL_law_653 : decode cL_law 653 = .ok (.iadd, 1) := by decide +kernel
theorem dL_law_654 : decode cL_law 654 = .ok (.iaload, 1) := by decide +kernel
theorem dL_law_655 : decode cL_law 655 = .ok (.aload_n 0, 1) := by decide +kernel
theorem dL_law_656 : decode cL_law 656 = .ok (.iload_n 3, 1) := by decide +kernel
theorem dL_law_657 : decode cL_law 657 = .ok (.iconst 2, 1) := by decide +kernel
theorem dL_law_658 : decode cL_law 658 = .ok (.iadd, 1) := by decide +kernel
theorem dL_law_659 : decode cL_law 659 = .ok (.iaload, 1) := by decide +kernel
theorem dL_law_660 : decode cL_law 660 = .ok (.invokevirtual 81, 3) := by decide +kernel
theorem dL_law_663 : decode cL_law 663 = .ok (.aload_n 2, 1) := by decide +kernel
theorem dL_law_664 : decode cL_law 664 = .ok (.aload_n 0, 1) := by decide +kernel
theorem dL_law_665 : decode cL_law 665 = .ok (.iload_n 3, 1) := by decide +kernel
theorem dL_law_666 : decode cL_law 666 = .ok (.iconst 1, 1) := by decide +kernel
theorem dL_law_667 : decode cL_law 667 = .ok (.iadd, 1) := by decide +kernel
theorem dL_law_668 : decode cL_law 668 = .ok (.iaload, 1) := by decide +kernel
theorem dL_law_669 : decode cL_law 669 = .ok (.aload_n 0, 1) := by decide +kernel
theorem dL_law_670 : decode cL_law 670 = .ok (.iload_n 3, 1) := by decide +kernel
theorem dL_law_671 : decode cL_law 671 = .ok (.iconst 2, 1) := by decide +kernel
theorem dL_law_672 : decode cL_law 672 = .ok (.iadd, 1) := by decide +kernel
theorem dL_law_673 : decode cL_law 673 = .ok (.iaload, 1) := by decide +kernel
theorem dL_law_674 : decode cL_law 674 = .ok (.invokevirtual 84, 3) := by decide +kernel
theorem dL_law_677 : decode cL_law 677 = .ok (.if_icmp .eq 944, 3) := by decide +kernel
theorem dL_law_680 : decode cL_law 680 = .ok (.iconst 0, 1) := by decide +kernel
theorem dL_law_681 : decode cL_law 681 = .ok (.ireturn, 1) := by decide +kernel
theorem dL_law_682 : decode cL_law 682 = .ok (.aload_n 1, 1) := by decide +kernel
theorem dL_law_683 : decode cL_law 683 = .ok (.aload_n 0, 1) := by decide +kernel
theorem dL_law_684 : decode cL_law 684 = .ok (.iload_n 3, 1) := by decide +kernel
theorem dL_law_685 : decode cL_law 685 = .ok (.iconst 1, 1) := by decide +kernel
theorem dL_law_686 : decode cL_law 686 = .ok (.iadd, 1) := by decide +kernel
theorem dL_law_687 : decode cL_law 687 = .ok (.iaload, 1) := by decide +kernel
theorem dL_law_688 : decode cL_law 688 = .ok (.aload_n 0, 1) := by decide +kernel
theorem dL_law_689 : decode cL_law 689 = .ok (.iload_n 3, 1) := by decide +kernel
theorem dL_law_690 : decode cL_law 690 = .ok (.iconst 2, 1) := by decide +kernel
theorem dL_law_691 : decode cL_law 691 = .ok (.iadd, 1) := by decide +kernel
theorem dL_law_692 : decode cL_law 692 = .ok (.iaload, 1) := by decide +kernel
theorem dL_law_693 : decode cL_law 693 = .ok (.aload_n 0, 1) := by decide +kernel
theorem dL_law_694 : decode cL_law 694 = .ok (.iload_n 3, 1) := by decide +kernel
theorem dL_law_695 : decode cL_law 695 = .ok (.iconst 3, 1) := by decide +kernel
theorem dL_law_696 : decode cL_law 696 = .ok (.iadd, 1) := by decide +kernel
theorem dL_law_697 : decode cL_law 697 = .ok (.iaload, 1) := by decide +kernel
theorem dL_law_698 : decode cL_law 698 = .ok (.invokevirtual 85, 3) := by decide +kernel
theorem dL_law_701 : decode cL_law 701 = .ok (.aload_n 2, 1) := by decide +kernel
theorem dL_law_702 : decode cL_law 702 = .ok (.aload_n 0, 1) := by decide +kernel
theorem dL_law_703 : decode cL_law 703 = .ok (.iload_n 3, 1) := by decide +kernel
theorem dL_law_704 : decode cL_law 704 = .ok (.iconst 1, 1) := by decide +kernel
theorem dL_law_705 : decode cL_law 705 = .ok (.iadd, 1) := by decide +kernel
theorem dL_law_706 : decode cL_law 706 = .ok (.iaload, 1) := by decide +kernel
theorem dL_law_707 : decode cL_law 707 = .ok (.aload_n 0, 1) := by decide +kernel
theorem dL_law_708 : decode cL_law 708 = .ok (.iload_n 3, 1) := by decide +kernel
theorem dL_law_709 : decode cL_law 709 = .ok (.iconst 2, 1) := by decide +kernel
theorem dL_law_710 : decode cL_law 710 = .ok (.iadd, 1) := by decide +kernel
theorem dL_law_711 : decode cL_law 711 = .ok (.iaload, 1) := by decide +kernel
theorem dL_law_712 : decode cL_law 712 = .ok (.aload_n 0, 1) := by decide +kernel
theorem dL_law_713 : decode cL_law 713 = .ok (.iload_n 3, 1) := by decide +kernel
theorem dL_law_714 : decode cL_law 714 = .ok (.iconst 3, 1) := by decide +kernel
theorem dL_law_715 : decode cL_law 715 = .ok (.iadd, 1) := by decide +kernel
theorem dL_law_716 : decode cL_law 716 = .ok (.iaload, 1) := by decide +kernel
theorem dL_law_717 : decode cL_law 717 = .ok (.invokevirtual 88, 3) := by decide +kernel
theorem dL_law_720 : decode cL_law 720 = .ok (.if_icmp .eq 901, 3) := by decide +kernel
theorem dL_law_723 : decode cL_law 723 = .ok (.iconst 0, 1) := by decide +kernel
theorem dL_law_724 : decode cL_law 724 = .ok (.ireturn, 1) := by decide +kernel
theorem dL_law_725 : decode cL_law 725 = .ok (.aload_n 1, 1) := by decide +kernel
theorem dL_law_726 : decode cL_law 726 = .ok (.aload_n 0, 1) := by decide +kernel
theorem dL_law_727 : decode cL_law 727 = .ok (.iload_n 3, 1) := by decide +kernel
theorem dL_law_728 : decode cL_law 728 = .ok (.iconst 1, 1) := by decide +kernel
theorem dL_law_729 : decode cL_law 729 = .ok (.iadd, 1) := by decide +kernel
theorem dL_law_730 : decode cL_law 730 = .ok (.iaload, 1) := by decide +kernel
theorem dL_law_731 : decode cL_law 731 = .ok (.invokevirtual 89, 3) := by decide +kernel
theorem dL_law_734 : decode cL_law 734 = .ok (.aload_n 2, 1) := by decide +kernel
theorem dL_law_735 : decode cL_law 735 = .ok (.aload_n 0, 1) := by decide +kernel
theorem dL_law_736 : decode cL_law 736 = .ok (.iload_n 3, 1) := by decide +kernel
theorem dL_law_737 : decode cL_law 737 = .ok (.iconst 1, 1) := by decide +kernel
theorem dL_law_738 : decode cL_law 738 = .ok (.iadd, 1) := by decide +kernel
theorem dL_law_739 : decode cL_law 739 = .ok (.iaload, 1) := by decide +kernel
theorem dL_law_740 : decode cL_law 740 = .ok (.invokevirtual 92, 3) := by decide +kernel
theorem dL_law_743 : decode cL_law 743 = .ok (.if_icmp .eq 878, 3) := by decide +kernel
theorem dL_law_746 : decode cL_law 746 = .ok (.iconst 0, 1) := by decide +kernel
theorem dL_law_747 : decode cL_law 747 = .ok (.ireturn, 1) := by decide +kernel
theorem dL_law_748 : decode cL_law 748 = .ok (.aload_n 1, 1) := by decide +kernel
theorem dL_law_749 : decode cL_law 749 = .ok (.invokevirtual 93, 3) := by decide +kernel
theorem dL_law_752 : decode cL_law 752 = .ok (.aload_n 2, 1) := by decide +kernel
theorem dL_law_753 : decode cL_law 753 = .ok (.invokevirtual 96, 3) := by decide +kernel
theorem dL_law_756 : decode cL_law 756 = .ok (.if_icmp .eq 865, 3) := by decide +kernel
theorem dL_law_759 : decode cL_law 759 = .ok (.iconst 0, 1) := by decide +kernel
theorem dL_law_760 : decode cL_law 760 = .ok (.ireturn, 1) := by decide +kernel
theorem dL_law_761 : decode cL_law 761 = .ok (.aload_n 1, 1) := by decide +kernel
theorem dL_law_762 : decode cL_law 762 = .ok (.aload_n 0, 1) := by decide +kernel
theorem dL_law_763 : decode cL_law 763 = .ok (.iload_n 3, 1) := by decide +kernel
theorem dL_law_764 : decode cL_law 764 = .ok (.iconst 1, 1) := by decide +kernel
theorem dL_law_765 : decode cL_law 765 = .ok (.iadd, 1) := by decide +kernel
theorem dL_law_766 : decode cL_law 766 = .ok (.iaload, 1) := by decide +kernel
theorem dL_law_767 : decode cL_law 767 = .ok (.aload_n 0, 1) := by decide +kernel
theorem dL_law_768 : decode cL_law 768 = .ok (.iload_n 3, 1) := by decide +kernel
theorem dL_law_769 : decode cL_law 769 = .ok (.iconst 2, 1) := by decide +kernel
theorem dL_law_770 : decode cL_law 770 = .ok (.iadd, 1) := by decide +kernel
theorem dL_law_771 : decode cL_law 771 = .ok (.iaload, 1) := by decide +kernel
theorem dL_law_772 : decode cL_law 772 = .ok (.aload_n 0, 1) := by decide +kernel
theorem dL_law_773 : decode cL_law 773 = .ok (.iload_n 3, 1) := by decide +kernel
theorem dL_law_774 : decode cL_law 774 = .ok (.iconst 3, 1) := by decide +kernel
theorem dL_law_775 : decode cL_law 775 = .ok (.iadd, 1) := by decide +kernel
theorem dL_law_776 : decode cL_law 776 = .ok (.iaload, 1) := by decide +kernel
theorem dL_law_777 : decode cL_law 777 = .ok (.invokevirtual 97, 3) := by decide +kernel
theorem dL_law_780 : decode cL_law 780 = .ok (.aload_n 2, 1) := by decide +kernel
theorem dL_law_781 : decode cL_law 781 = .ok (.aload_n 0, 1) := by decide +kernel
theorem dL_law_782 : decode cL_law 782 = .ok (.iload_n 3, 1) := by decide +kernel
theorem dL_law_783 : decode cL_law 783 = .ok (.iconst 1, 1) := by decide +kernel
theorem dL_law_784 : decode cL_law 784 = .ok (.iadd, 1) := by decide +kernel
theorem dL_law_785 : decode cL_law 785 = .ok (.iaload, 1) := by decide +kernel
theorem dL_law_786 : decode cL_law 786 = .ok (.aload_n 0, 1) := by decide +kernel
theorem dL_law_787 : decode cL_law 787 = .ok (.iload_n 3, 1) := by decide +kernel
theorem dL_law_788 : decode cL_law 788 = .ok (.iconst 2, 1) := by decide +kernel
theorem dL_law_789 : decode cL_law 789 = .ok (.iadd, 1) := by decide +kernel
theorem dL_law_790 : decode cL_law 790 = .ok (.iaload, 1) := by decide +kernel
theorem dL_law_791 : decode cL_law 791 = .ok (.aload_n 0, 1) := by decide +kernel
theorem dL_law_792 : decode cL_law 792 = .ok (.iload_n 3, 1) := by decide +kernel
theorem dL_law_793 : decode cL_law 793 = .ok (.iconst 3, 1) := by decide +kernel
theorem dL_law_794 : decode cL_law 794 = .ok (.iadd, 1) := by decide +kernel
theorem dL_law_795 : decode cL_law 795 = .ok (.iaload, 1) := by decide +kernel
theorem dL_law_796 : decode cL_law 796 = .ok (.invokevirtual 100, 3) := by decide +kernel
theorem dL_law_799 : decode cL_law 799 = .ok (.if_icmp .eq 822, 3) := by decide +kernel
theorem dL_law_802 : decode cL_law 802 = .ok (.iconst 0, 1) := by decide +kernel
theorem dL_law_803 : decode cL_law 803 = .ok (.ireturn, 1) := by decide +kernel
theorem dL_law_804 : decode cL_law 804 = .ok (.aload_n 1, 1) := by decide +kernel
theorem dL_law_805 : decode cL_law 805 = .ok (.aload_n 0, 1) := by decide +kernel
theorem dL_law_806 : decode cL_law 806 = .ok (.iload_n 3, 1) := by decide +kernel
theorem dL_law_807 : decode cL_law 807 = .ok (.iconst 1, 1) := by decide +kernel
theorem dL_law_808 : decode cL_law 808 = .ok (.iadd, 1) := by decide +kernel
theorem dL_law_809 : decode cL_law 809 = .ok (.iaload, 1) := by decide +kernel
theorem dL_law_810 : decode cL_law 810 = .ok (.aload_n 0, 1) := by decide +kernel
theorem dL_law_811 : decode cL_law 811 = .ok (.iload_n 3, 1) := by decide +kernel
theorem dL_law_812 : decode cL_law 812 = .ok (.iconst 2, 1) := by decide +kernel
theorem dL_law_813 : decode cL_law 813 = .ok (.iadd, 1) := by decide +kernel
theorem dL_law_814 : decode cL_law 814 = .ok (.iaload, 1) := by decide +kernel
theorem dL_law_815 : decode cL_law 815 = .ok (.aload_n 0, 1) := by decide +kernel
theorem dL_law_816 : decode cL_law 816 = .ok (.iload_n 3, 1) := by decide +kernel
theorem dL_law_817 : decode cL_law 817 = .ok (.iconst 3, 1) := by decide +kernel
theorem dL_law_818 : decode cL_law 818 = .ok (.iadd, 1) := by decide +kernel
theorem dL_law_819 : decode cL_law 819 = .ok (.iaload, 1) := by decide +kernel
theorem dL_law_820 : decode cL_law 820 = .ok (.invokevirtual 101, 3) := by decide +kernel
theorem dL_law_823 : decode cL_law 823 = .ok (.aload_n 2, 1) := by decide +kernel
theorem dL_law_824 : decode cL_law 824 = .ok (.aload_n 0, 1) := by decide +kernel
theorem dL_law_825 : decode cL_law 825 = .ok (.iload_n 3, 1) := by decide +kernel
theorem dL_law_826 : decode cL_law 826 = .ok (.iconst 1, 1) := by decide +kernel
theorem dL_law_827 : decode cL_law 827 = .ok (.iadd, 1) := by decide +kernel
theorem dL_law_828 : decode cL_law 828 = .ok (.iaload, 1) := by decide +kernel
theorem dL_law_829 : decode cL_law 829 = .ok (.aload_n 0, 1) := by decide +kernel
theorem dL_law_830 : decode cL_law 830 = .ok (.iload_n 3, 1) := by decide +kernel
theorem dL_law_831 : decode cL_law 831 = .ok (.iconst 2, 1) := by decide +kernel
theorem dL_law_832 : decode cL_law 832 = .ok (.iadd, 1) := by decide +kernel
theorem dL_law_833 : decode cL_law 833 = .ok (.iaload, 1) := by decide +kernel
theorem dL_law_834 : decode cL_law 834 = .ok (.aload_n 0, 1) := by decide +kernel
theorem dL_law_835 : decode cL_law 835 = .ok (.iload_n 3, 1) := by decide +kernel
theorem dL_law_836 : decode cL_law 836 = .ok (.iconst 3, 1) := by decide +kernel
theorem dL_law_837 : decode cL_law 837 = .ok (.iadd, 1) := by decide +kernel
theorem dL_law_838 : decode cL_law 838 = .ok (.iaload, 1) := by decide +kernel
theorem dL_law_839 : decode cL_law 839 = .ok (.invokevirtual 104, 3) := by decide +kernel
theorem dL_law_842 : decode cL_law 842 = .ok (.if_icmp .eq 779, 3) := by decide +kernel
theorem dL_law_845 : decode cL_law 845 = .ok (.iconst 0, 1) := by decide +kernel
theorem dL_law_846 : decode cL_law 846 = .ok (.ireturn, 1) := by decide +kernel
theorem dL_law_847 : decode cL_law 847 = .ok (.aload_n 1, 1) := by decide +kernel
theorem dL_law_848 : decode cL_law 848 = .ok (.aload_n 0, 1) := by decide +kernel
theorem dL_law_849 : decode cL_law 849 = .ok (.iload_n 3, 1) := by decide +kernel
theorem dL_law_850 : decode cL_law 850 = .ok (.iconst 1, 1) := by decide +kernel
theorem dL_law_851 : decode cL_law 851 = .ok (.iadd, 1) := by decide +kernel
theorem dL_law_852 : decode cL_law 852 = .ok (.iaload, 1) := by decide +kernel
theorem dL_law_853 : decode cL_law 853 = .ok (.aload_n 0, 1) := by decide +kernel
theorem dL_law_854 : decode cL_law 854 = .ok (.iload_n 3, 1) := by decide +kernel
theorem dL_law_855 : decode cL_law 855 = .ok (.iconst 2, 1) := by decide +kernel
theorem dL_law_856 : decode cL_law 856 = .ok (.iadd, 1) := by decide +kernel
theorem dL_law_857 : decode cL_law 857 = .ok (.iaload, 1) := by decide +kernel
theorem dL_law_858 : decode cL_law 858 = .ok (.invokevirtual 105, 3) := by decide +kernel
theorem dL_law_861 : decode cL_law 861 = .ok (.aload_n 2, 1) := by decide +kernel
theorem dL_law_862 : decode cL_law 862 = .ok (.aload_n 0, 1) := by decide +kernel
theorem dL_law_863 : decode cL_law 863 = .ok (.iload_n 3, 1) := by decide +kernel
theorem dL_law_864 : decode cL_law 864 = .ok (.iconst 1, 1) := by decide +kernel
theorem dL_law_865 : decode cL_law 865 = .ok (.iadd, 1) := by decide +kernel
theorem dL_law_866 : decode cL_law 866 = .ok (.iaload, 1) := by decide +kernel
theorem dL_law_867 : decode cL_law 867 = .ok (.aload_n 0, 1) := by decide +kernel
theorem dL_law_868 : decode cL_law 868 = .ok (.iload_n 3, 1) := by decide +kernel
theorem dL_law_869 : decode cL_law 869 = .ok (.iconst 2, 1) := by decide +kernel
theorem dL_law_870 : decode cL_law 870 = .ok (.iadd, 1) := by decide +kernel
theorem dL_law_871 : decode cL_law 871 = .ok (.iaload, 1) := by decide +kernel
theorem dL_law_872 : decode cL_law 872 = .ok (.invokevirtual 109, 3) := by decide +kernel
theorem dL_law_875 : decode cL_law 875 = .ok (.lcmp, 1) := by decide +kernel
theorem dL_law_876 : decode cL_law 876 = .ok (.ifCond .eq 745, 3) := by decide +kernel
theorem dL_law_879 : decode cL_law 879 = .ok (.iconst 0, 1) := by decide +kernel
theorem dL_law_880 : decode cL_law 880 = .ok (.ireturn, 1) := by decide +kernel
theorem dL_law_881 : decode cL_law 881 = .ok (.aload_n 1, 1) := by decide +kernel
theorem dL_law_882 : decode cL_law 882 = .ok (.aload_n 0, 1) := by decide +kernel
theorem dL_law_883 : decode cL_law 883 = .ok (.iload_n 3, 1) := by decide +kernel
theorem dL_law_884 : decode cL_law 884 = .ok (.iconst 1, 1) := by decide +kernel
theorem dL_law_885 : decode cL_law 885 = .ok (.iadd, 1) := by decide +kernel
theorem dL_law_886 : decode cL_law 886 = .ok (.iaload, 1) := by decide +kernel
theorem dL_law_887 : decode cL_law 887 = .ok (.aload_n 0, 1) := by decide +kernel
theorem dL_law_888 : decode cL_law 888 = .ok (.iload_n 3, 1) := by decide +kernel
theorem dL_law_889 : decode cL_law 889 = .ok (.iconst 2, 1) := by decide +kernel
theorem dL_law_890 : decode cL_law 890 = .ok (.iadd, 1) := by decide +kernel
theorem dL_law_891 : decode cL_law 891 = .ok (.iaload, 1) := by decide +kernel
theorem dL_law_892 : decode cL_law 892 = .ok (.aload_n 0, 1) := by decide +kernel
theorem dL_law_893 : decode cL_law 893 = .ok (.iload_n 3, 1) := by decide +kernel
theorem dL_law_894 : decode cL_law 894 = .ok (.iconst 3, 1) := by decide +kernel
theorem dL_law_895 : decode cL_law 895 = .ok (.iadd, 1) := by decide +kernel
theorem dL_law_896 : decode cL_law 896 = .ok (.iaload, 1) := by decide +kernel
theorem dL_law_897 : decode cL_law 897 = .ok (.invokevirtual 110, 3) := by decide +kernel
theorem dL_law_900 : decode cL_law 900 = .ok (.aload_n 2, 1) := by decide +kernel
theorem dL_law_901 : decode cL_law 901 = .ok (.aload_n 0, 1) := by decide +kernel
theorem dL_law_902 : decode cL_law 902 = .ok (.iload_n 3, 1) := by decide +kernel
theorem dL_law_903 : decode cL_law 903 = .ok (.iconst 1, 1) := by decide +kernel
theorem dL_law_904 : decode cL_law 904 = .ok (.iadd, 1) := by decide +kernel
theorem dL_law_905 : decode cL_law 905 = .ok (.iaload, 1) := by decide +kernel
theorem dL_law_906 : decode cL_law 906 = .ok (.aload_n 0, 1) := by decide +kernel
theorem dL_law_907 : decode cL_law 907 = .ok (.iload_n 3, 1) := by decide +kernel
theorem dL_law_908 : decode cL_law 908 = .ok (.iconst 2, 1) := by decide +kernel
theorem dL_law_909 : decode cL_law 909 = .ok (.iadd, 1) := by decide +kernel
theorem dL_law_910 : decode cL_law 910 = .ok (.iaload, 1) := by decide +kernel
theorem dL_law_911 : decode cL_law 911 = .ok (.aload_n 0, 1) := by decide +kernel
theorem dL_law_912 : decode cL_law 912 = .ok (.iload_n 3, 1) := by decide +kernel
theorem dL_law_913 : decode cL_law 913 = .ok (.iconst 3, 1) := by decide +kernel
theorem dL_law_914 : decode cL_law 914 = .ok (.iadd, 1) := by decide +kernel
theorem dL_law_915 : decode cL_law 915 = .ok (.iaload, 1) := by decide +kernel
theorem dL_law_916 : decode cL_law 916 = .ok (.invokevirtual 113, 3) := by decide +kernel
theorem dL_law_919 : decode cL_law 919 = .ok (.if_icmp .eq 702, 3) := by decide +kernel
theorem dL_law_922 : decode cL_law 922 = .ok (.iconst 0, 1) := by decide +kernel
theorem dL_law_923 : decode cL_law 923 = .ok (.ireturn, 1) := by decide +kernel
theorem dL_law_924 : decode cL_law 924 = .ok (.aload_n 1, 1) := by decide +kernel
theorem dL_law_925 : decode cL_law 925 = .ok (.aload_n 0, 1) := by decide +kernel
theorem dL_law_926 : decode cL_law 926 = .ok (.iload_n 3, 1) := by decide +kernel
theorem dL_law_927 : decode cL_law 927 = .ok (.iconst 1, 1) := by decide +kernel
theorem dL_law_928 : decode cL_law 928 = .ok (.iadd, 1) := by decide +kernel
theorem dL_law_929 : decode cL_law 929 = .ok (.iaload, 1) := by decide +kernel
theorem dL_law_930 : decode cL_law 930 = .ok (.aload_n 0, 1) := by decide +kernel
theorem dL_law_931 : decode cL_law 931 = .ok (.iload_n 3, 1) := by decide +kernel
theorem dL_law_932 : decode cL_law 932 = .ok (.iconst 2, 1) := by decide +kernel
theorem dL_law_933 : decode cL_law 933 = .ok (.iadd, 1) := by decide +kernel
theorem dL_law_934 : decode cL_law 934 = .ok (.iaload, 1) := by decide +kernel
theorem dL_law_935 : decode cL_law 935 = .ok (.aload_n 0, 1) := by decide +kernel
theorem dL_law_936 : decode cL_law 936 = .ok (.iload_n 3, 1) := by decide +kernel
theorem dL_law_937 : decode cL_law 937 = .ok (.iconst 3, 1) := by decide +kernel
theorem dL_law_938 : decode cL_law 938 = .ok (.iadd, 1) := by decide +kernel
theorem dL_law_939 : decode cL_law 939 = .ok (.iaload, 1) := by decide +kernel
theorem dL_law_940 : decode cL_law 940 = .ok (.aload_n 0, 1) := by decide +kernel
theorem dL_law_941 : decode cL_law 941 = .ok (.iload_n 3, 1) := by decide +kernel
theorem dL_law_942 : decode cL_law 942 = .ok (.iconst 4, 1) := by decide +kernel
theorem dL_law_943 : decode cL_law 943 = .ok (.iadd, 1) := by decide +kernel
theorem dL_law_944 : decode cL_law 944 = .ok (.iaload, 1) := by decide +kernel
theorem dL_law_945 : decode cL_law 945 = .ok (.invokevirtual 114, 3) := by decide +kernel
theorem dL_law_948 : decode cL_law 948 = .ok (.aload_n 2, 1) := by decide +kernel
theorem dL_law_949 : decode cL_law 949 = .ok (.aload_n 0, 1) := by decide +kernel
theorem dL_law_950 : decode cL_law 950 = .ok (.iload_n 3, 1) := by decide +kernel
theorem dL_law_951 : decode cL_law 951 = .ok (.iconst 1, 1) := by decide +kernel
theorem dL_law_952 : decode cL_law 952 = .ok (.iadd, 1) := by decide +kernel
theorem dL_law_953 : decode cL_law 953 = .ok (.iaload, 1) := by decide +kernel
theorem dL_law_954 : decode cL_law 954 = .ok (.aload_n 0, 1) := by decide +kernel
theorem dL_law_955 : decode cL_law 955 = .ok (.iload_n 3, 1) := by decide +kernel
theorem dL_law_956 : decode cL_law 956 = .ok (.iconst 2, 1) := by decide +kernel
theorem dL_law_957 : decode cL_law 957 = .ok (.iadd, 1) := by decide +kernel
theorem dL_law_958 : decode cL_law 958 = .ok (.iaload, 1) := by decide +kernel
theorem dL_law_959 : decode cL_law 959 = .ok (.aload_n 0, 1) := by decide +kernel
theorem dL_law_960 : decode cL_law 960 = .ok (.iload_n 3, 1) := by decide +kernel
theorem dL_law_961 : decode cL_law 961 = .ok (.iconst 3, 1) := by decide +kernel
theorem dL_law_962 : decode cL_law 962 = .ok (.iadd, 1) := by decide +kernel
theorem dL_law_963 : decode cL_law 963 = .ok (.iaload, 1) := by decide +kernel
theorem dL_law_964 : decode cL_law 964 = .ok (.aload_n 0, 1) := by decide +kernel
theorem dL_law_965 : decode cL_law 965 = .ok (.iload_n 3, 1) := by decide +kernel
theorem dL_law_966 : decode cL_law 966 = .ok (.iconst 4, 1) := by decide +kernel
theorem dL_law_967 : decode cL_law 967 = .ok (.iadd, 1) := by decide +kernel
theorem dL_law_968 : decode cL_law 968 = .ok (.iaload, 1) := by decide +kernel
theorem dL_law_969 : decode cL_law 969 = .ok (.invokevirtual 118, 3) := by decide +kernel
theorem dL_law_972 : decode cL_law 972 = .ok (.if_icmp .eq 649, 3) := by decide +kernel
theorem dL_law_975 : decode cL_law 975 = .ok (.iconst 0, 1) := by decide +kernel
theorem dL_law_976 : decode cL_law 976 = .ok (.ireturn, 1) := by decide +kernel
theorem dL_law_977 : decode cL_law 977 = .ok (.aload_n 1, 1) := by decide +kernel
theorem dL_law_978 : decode cL_law 978 = .ok (.aload_n 0, 1) := by decide +kernel
theorem dL_law_979 : decode cL_law 979 = .ok (.iload_n 3, 1) := by decide +kernel
theorem dL_law_980 : decode cL_law 980 = .ok (.iconst 1, 1) := by decide +kernel
theorem dL_law_981 : decode cL_law 981 = .ok (.iadd, 1) := by decide +kernel
theorem dL_law_982 : decode cL_law 982 = .ok (.iaload, 1) := by decide +kernel
theorem dL_law_983 : decode cL_law 983 = .ok (.aload_n 0, 1) := by decide +kernel
theorem dL_law_984 : decode cL_law 984 = .ok (.iload_n 3, 1) := by decide +kernel
theorem dL_law_985 : decode cL_law 985 = .ok (.iconst 2, 1) := by decide +kernel
theorem dL_law_986 : decode cL_law 986 = .ok (.iadd, 1) := by decide +kernel
theorem dL_law_987 : decode cL_law 987 = .ok (.iaload, 1) := by decide +kernel
theorem dL_law_988 : decode cL_law 988 = .ok (.invokevirtual 119, 3) := by decide +kernel
theorem dL_law_991 : decode cL_law 991 = .ok (.aload_n 2, 1) := by decide +kernel
theorem dL_law_992 : decode cL_law 992 = .ok (.aload_n 0, 1) := by decide +kernel
theorem dL_law_993 : decode cL_law 993 = .ok (.iload_n 3, 1) := by decide +kernel
theorem dL_law_994 : decode cL_law 994 = .ok (.iconst 1, 1) := by decide +kernel
theorem dL_law_995 : decode cL_law 995 = .ok (.iadd, 1) := by decide +kernel
theorem dL_law_996 : decode cL_law 996 = .ok (.iaload, 1) := by decide +kernel
theorem dL_law_997 : decode cL_law 997 = .ok (.aload_n 0, 1) := by decide +kernel
theorem dL_law_998 : decode cL_law 998 = .ok (.iload_n 3, 1) := by decide +kernel
theorem dL_law_999 : decode cL_law 999 = .ok (.iconst 2, 1) := by decide +kernel
theorem dL_law_1000 : decode cL_law 1000 = .ok (.iadd, 1) := by decide +kernel
theorem dL_law_1001 : decode cL_law 1001 = .ok (.iaload, 1) := by decide +kernel
theorem dL_law_1002 : decode cL_law 1002 = .ok (.invokevirtual 122, 3) := by decide +kernel
theorem dL_law_1005 : decode cL_law 1005 = .ok (.if_icmp .eq 616, 3) := by decide +kernel
theorem dL_law_1008 : decode cL_law 1008 = .ok (.iconst 0, 1) := by decide +kernel
theorem dL_law_1009 : decode cL_law 1009 = .ok (.ireturn, 1) := by decide +kernel
theorem dL_law_1010 : decode cL_law 1010 = .ok (.aload_n 1, 1) := by decide +kernel
theorem dL_law_1011 : decode cL_law 1011 = .ok (.aload_n 0, 1) := by decide +kernel
theorem dL_law_1012 : decode cL_law 1012 = .ok (.iload_n 3, 1) := by decide +kernel
theorem dL_law_1013 : decode cL_law 1013 = .ok (.iconst 1, 1) := by decide +kernel
theorem dL_law_1014 : decode cL_law 1014 = .ok (.iadd, 1) := by decide +kernel
theorem dL_law_1015 : decode cL_law 1015 = .ok (.iaload, 1) := by decide +kernel
theorem dL_law_1016 : decode cL_law 1016 = .ok (.invokevirtual 123, 3) := by decide +kernel
theorem dL_law_1019 : decode cL_law 1019 = .ok (.aload_n 2, 1) := by decide +kernel
theorem dL_law_1020 : decode cL_law 1020 = .ok (.aload_n 0, 1) := by decide +kernel
theorem dL_law_1021 : decode cL_law 1021 = .ok (.iload_n 3, 1) := by decide +kernel
theorem dL_law_1022 : decode cL_law 1022 = .ok (.iconst 1, 1) := by decide +kernel
theorem dL_law_1023 : decode cL_law 1023 = .ok (.iadd, 1) := by decide +kernel
theorem dL_law_1024 : decode cL_law 1024 = .ok (.iaload, 1) := by decide +kernel
theorem dL_law_1025 : decode cL_law 1025 = .ok (.invokevirtual 126, 3) := by decide +kernel
theorem dL_law_1028 : decode cL_law 1028 = .ok (.if_icmp .eq 593, 3) := by decide +kernel
theorem dL_law_1031 : decode cL_law 1031 = .ok (.iconst 0, 1) := by decide +kernel
theorem dL_law_1032 : decode cL_law 1032 = .ok (.ireturn, 1) := by decide +kernel
theorem dL_law_1033 : decode cL_law 1033 = .ok (.aload_n 1, 1) := by decide +kernel
theorem dL_law_1034 : decode cL_law 1034 = .ok (.aload_n 0, 1) := by decide +kernel
theorem dL_law_1035 : decode cL_law 1035 = .ok (.iload_n 3, 1) := by decide +kernel
theorem dL_law_1036 : decode cL_law 1036 = .ok (.iconst 1, 1) := by decide +kernel
theorem dL_law_1037 : decode cL_law 1037 = .ok (.iadd, 1) := by decide +kernel
theorem dL_law_1038 : decode cL_law 1038 = .ok (.iaload, 1) := by decide +kernel
theorem dL_law_1039 : decode cL_law 1039 = .ok (.aload_n 0, 1) := by decide +kernel
theorem dL_law_1040 : decode cL_law 1040 = .ok (.iload_n 3, 1) := by decide +kernel
theorem dL_law_1041 : decode cL_law 1041 = .ok (.iconst 2, 1) := by decide +kernel
theorem dL_law_1042 : decode cL_law 1042 = .ok (.iadd, 1) := by decide +kernel
theorem dL_law_1043 : decode cL_law 1043 = .ok (.iaload, 1) := by decide +kernel
theorem dL_law_1044 : decode cL_law 1044 = .ok (.invokevirtual 127, 3) := by decide +kernel
theorem dL_law_1047 : decode cL_law 1047 = .ok (.aload_n 2, 1) := by decide +kernel
theorem dL_law_1048 : decode cL_law 1048 = .ok (.aload_n 0, 1) := by decide +kernel
theorem dL_law_1049 : decode cL_law 1049 = .ok (.iload_n 3, 1) := by decide +kernel
theorem dL_law_1050 : decode cL_law 1050 = .ok (.iconst 1, 1) := by decide +kernel
theorem dL_law_1051 : decode cL_law 1051 = .ok (.iadd, 1) := by decide +kernel
theorem dL_law_1052 : decode cL_law 1052 = .ok (.iaload, 1) := by decide +kernel
theorem dL_law_1053 : decode cL_law 1053 = .ok (.aload_n 0, 1) := by decide +kernel
theorem dL_law_1054 : decode cL_law 1054 = .ok (.iload_n 3, 1) := by decide +kernel
theorem dL_law_1055 : decode cL_law 1055 = .ok (.iconst 2, 1) := by decide +kernel
theorem dL_law_1056 : decode cL_law 1056 = .ok (.iadd, 1) := by decide +kernel
theorem dL_law_1057 : decode cL_law 1057 = .ok (.iaload, 1) := by decide +kernel
theorem dL_law_1058 : decode cL_law 1058 = .ok (.invokevirtual 130, 3) := by decide +kernel
theorem dL_law_1061 : decode cL_law 1061 = .ok (.if_icmp .eq 560, 3) := by decide +kernel
theorem dL_law_1064 : decode cL_law 1064 = .ok (.iconst 0, 1) := by decide +kernel
theorem dL_law_1065 : decode cL_law 1065 = .ok (.ireturn, 1) := by decide +kernel
theorem dL_law_1066 : decode cL_law 1066 = .ok (.aload_n 1, 1) := by decide +kernel
theorem dL_law_1067 : decode cL_law 1067 = .ok (.invokevirtual 131, 3) := by decide +kernel
theorem dL_law_1070 : decode cL_law 1070 = .ok (.aload_n 2, 1) := by decide +kernel
theorem dL_law_1071 : decode cL_law 1071 = .ok (.invokevirtual 135, 3) := by decide +kernel
theorem dL_law_1074 : decode cL_law 1074 = .ok (.lcmp, 1) := by decide +kernel
theorem dL_law_1075 : decode cL_law 1075 = .ok (.ifCond .eq 546, 3) := by decide +kernel
theorem dL_law_1078 : decode cL_law 1078 = .ok (.iconst 0, 1) := by decide +kernel
theorem dL_law_1079 : decode cL_law 1079 = .ok (.ireturn, 1) := by decide +kernel
theorem dL_law_1080 : decode cL_law 1080 = .ok (.aload_n 1, 1) := by decide +kernel
theorem dL_law_1081 : decode cL_law 1081 = .ok (.aload_n 0, 1) := by decide +kernel
theorem dL_law_1082 : decode cL_law 1082 = .ok (.iload_n 3, 1) := by decide +kernel
theorem dL_law_1083 : decode cL_law 1083 = .ok (.iconst 1, 1) := by decide +kernel
theorem dL_law_1084 : decode cL_law 1084 = .ok (.iadd, 1) := by decide +kernel
theorem dL_law_1085 : decode cL_law 1085 = .ok (.iaload, 1) := by decide +kernel
theorem dL_law_1086 : decode cL_law 1086 = .ok (.aload_n 0, 1) := by decide +kernel
theorem dL_law_1087 : decode cL_law 1087 = .ok (.iload_n 3, 1) := by decide +kernel
theorem dL_law_1088 : decode cL_law 1088 = .ok (.iconst 2, 1) := by decide +kernel
theorem dL_law_1089 : decode cL_law 1089 = .ok (.iadd, 1) := by decide +kernel
theorem dL_law_1090 : decode cL_law 1090 = .ok (.iaload, 1) := by decide +kernel
theorem dL_law_1091 : decode cL_law 1091 = .ok (.aload_n 0, 1) := by decide +kernel
theorem dL_law_1092 : decode cL_law 1092 = .ok (.iload_n 3, 1) := by decide +kernel
theorem dL_law_1093 : decode cL_law 1093 = .ok (.iconst 3, 1) := by decide +kernel
theorem dL_law_1094 : decode cL_law 1094 = .ok (.iadd, 1) := by decide +kernel
theorem dL_law_1095 : decode cL_law 1095 = .ok (.iaload, 1) := by decide +kernel
theorem dL_law_1096 : decode cL_law 1096 = .ok (.i2l, 1) := by decide +kernel
theorem dL_law_1097 : decode cL_law 1097 = .ok (.bipush 32, 2) := by decide +kernel
theorem dL_law_1099 : decode cL_law 1099 = .ok (.lshl, 1) := by decide +kernel
theorem dL_law_1100 : decode cL_law 1100 = .ok (.aload_n 0, 1) := by decide +kernel
theorem dL_law_1101 : decode cL_law 1101 = .ok (.iload_n 3, 1) := by decide +kernel
theorem dL_law_1102 : decode cL_law 1102 = .ok (.iconst 4, 1) := by decide +kernel
theorem dL_law_1103 : decode cL_law 1103 = .ok (.iadd, 1) := by decide +kernel
theorem dL_law_1104 : decode cL_law 1104 = .ok (.iaload, 1) := by decide +kernel
theorem dL_law_1105 : decode cL_law 1105 = .ok (.i2l, 1) := by decide +kernel
theorem dL_law_1106 : decode cL_law 1106 = .ok (.ldc2_w 18, 3) := by decide +kernel
theorem dL_law_1109 : decode cL_law 1109 = .ok (.land, 1) := by decide +kernel
theorem dL_law_1110 : decode cL_law 1110 = .ok (.lor, 1) := by decide +kernel
theorem dL_law_1111 : decode cL_law 1111 = .ok (.invokevirtual 136, 3) := by decide +kernel
theorem dL_law_1114 : decode cL_law 1114 = .ok (.aload_n 2, 1) := by decide +kernel
theorem dL_law_1115 : decode cL_law 1115 = .ok (.aload_n 0, 1) := by decide +kernel
theorem dL_law_1116 : decode cL_law 1116 = .ok (.iload_n 3, 1) := by decide +kernel
theorem dL_law_1117 : decode cL_law 1117 = .ok (.iconst 1, 1) := by decide +kernel
theorem dL_law_1118 : decode cL_law 1118 = .ok (.iadd, 1) := by decide +kernel
theorem dL_law_1119 : decode cL_law 1119 = .ok (.iaload, 1) := by decide +kernel
theorem dL_law_1120 : decode cL_law 1120 = .ok (.aload_n 0, 1) := by decide +kernel
theorem dL_law_1121 : decode cL_law 1121 = .ok (.iload_n 3, 1) := by decide +kernel
theorem dL_law_1122 : decode cL_law 1122 = .ok (.iconst 2, 1) := by decide +kernel
theorem dL_law_1123 : decode cL_law 1123 = .ok (.iadd, 1) := by decide +kernel
theorem dL_law_1124 : decode cL_law 1124 = .ok (.iaload, 1) := by decide +kernel
theorem dL_law_1125 : decode cL_law 1125 = .ok (.aload_n 0, 1) := by decide +kernel
theorem dL_law_1126 : decode cL_law 1126 = .ok (.iload_n 3, 1) := by decide +kernel
theorem dL_law_1127 : decode cL_law 1127 = .ok (.iconst 3, 1) := by decide +kernel
theorem dL_law_1128 : decode cL_law 1128 = .ok (.iadd, 1) := by decide +kernel
theorem dL_law_1129 : decode cL_law 1129 = .ok (.iaload, 1) := by decide +kernel
theorem dL_law_1130 : decode cL_law 1130 = .ok (.i2l, 1) := by decide +kernel
theorem dL_law_1131 : decode cL_law 1131 = .ok (.bipush 32, 2) := by decide +kernel
theorem dL_law_1133 : decode cL_law 1133 = .ok (.lshl, 1) := by decide +kernel
theorem dL_law_1134 : decode cL_law 1134 = .ok (.aload_n 0, 1) := by decide +kernel
theorem dL_law_1135 : decode cL_law 1135 = .ok (.iload_n 3, 1) := by decide +kernel
theorem dL_law_1136 : decode cL_law 1136 = .ok (.iconst 4, 1) := by decide +kernel
theorem dL_law_1137 : decode cL_law 1137 = .ok (.iadd, 1) := by decide +kernel
theorem dL_law_1138 : decode cL_law 1138 = .ok (.iaload, 1) := by decide +kernel
theorem dL_law_1139 : decode cL_law 1139 = .ok (.i2l, 1) := by decide +kernel
theorem dL_law_1140 : decode cL_law 1140 = .ok (.ldc2_w 18, 3) := by decide +kernel
theorem dL_law_1143 : decode cL_law 1143 = .ok (.land, 1) := by decide +kernel
theorem dL_law_1144 : decode cL_law 1144 = .ok (.lor, 1) := by decide +kernel
theorem dL_law_1145 : decode cL_law 1145 = .ok (.invokevirtual 140, 3) := by decide +kernel
theorem dL_law_1148 : decode cL_law 1148 = .ok (.if_icmp .eq 473, 3) := by decide +kernel
theorem dL_law_1151 : decode cL_law 1151 = .ok (.iconst 0, 1) := by decide +kernel
theorem dL_law_1152 : decode cL_law 1152 = .ok (.ireturn, 1) := by decide +kernel
theorem dL_law_1153 : decode cL_law 1153 = .ok (.aload_n 1, 1) := by decide +kernel
theorem dL_law_1154 : decode cL_law 1154 = .ok (.aload_n 0, 1) := by decide +kernel
theorem dL_law_1155 : decode cL_law 1155 = .ok (.iload_n 3, 1) := by decide +kernel
theorem dL_law_1156 : decode cL_law 1156 = .ok (.iconst 1, 1) := by decide +kernel
theorem dL_law_1157 : decode cL_law 1157 = .ok (.iadd, 1) := by decide +kernel
theorem dL_law_1158 : decode cL_law 1158 = .ok (.iaload, 1) := by decide +kernel
theorem dL_law_1159 : decode cL_law 1159 = .ok (.aload_n 0, 1) := by decide +kernel
theorem dL_law_1160 : decode cL_law 1160 = .ok (.iload_n 3, 1) := by decide +kernel
theorem dL_law_1161 : decode cL_law 1161 = .ok (.iconst 2, 1) := by decide +kernel
theorem dL_law_1162 : decode cL_law 1162 = .ok (.iadd, 1) := by decide +kernel
theorem dL_law_1163 : decode cL_law 1163 = .ok (.iaload, 1) := by decide +kernel
theorem dL_law_1164 : decode cL_law 1164 = .ok (.aload_n 0, 1) := by decide +kernel
theorem dL_law_1165 : decode cL_law 1165 = .ok (.iload_n 3, 1) := by decide +kernel
theorem dL_law_1166 : decode cL_law 1166 = .ok (.iconst 3, 1) := by decide +kernel
theorem dL_law_1167 : decode cL_law 1167 = .ok (.iadd, 1) := by decide +kernel
theorem dL_law_1168 : decode cL_law 1168 = .ok (.iaload, 1) := by decide +kernel
theorem dL_law_1169 : decode cL_law 1169 = .ok (.aload_n 0, 1) := by decide +kernel
theorem dL_law_1170 : decode cL_law 1170 = .ok (.iload_n 3, 1) := by decide +kernel
theorem dL_law_1171 : decode cL_law 1171 = .ok (.iconst 4, 1) := by decide +kernel
theorem dL_law_1172 : decode cL_law 1172 = .ok (.iadd, 1) := by decide +kernel
theorem dL_law_1173 : decode cL_law 1173 = .ok (.iaload, 1) := by decide +kernel
theorem dL_law_1174 : decode cL_law 1174 = .ok (.invokevirtual 141, 3) := by decide +kernel
theorem dL_law_1177 : decode cL_law 1177 = .ok (.aload_n 2, 1) := by decide +kernel
theorem dL_law_1178 : decode cL_law 1178 = .ok (.aload_n 0, 1) := by decide +kernel
theorem dL_law_1179 : decode cL_law 1179 = .ok (.iload_n 3, 1) := by decide +kernel
theorem dL_law_1180 : decode cL_law 1180 = .ok (.iconst 1, 1) := by decide +kernel
theorem dL_law_1181 : decode cL_law 1181 = .ok (.iadd, 1) := by decide +kernel
theorem dL_law_1182 : decode cL_law 1182 = .ok (.iaload, 1) := by decide +kernel
theorem dL_law_1183 : decode cL_law 1183 = .ok (.aload_n 0, 1) := by decide +kernel
theorem dL_law_1184 : decode cL_law 1184 = .ok (.iload_n 3, 1) := by decide +kernel
theorem dL_law_1185 : decode cL_law 1185 = .ok (.iconst 2, 1) := by decide +kernel
theorem dL_law_1186 : decode cL_law 1186 = .ok (.iadd, 1) := by decide +kernel
theorem dL_law_1187 : decode cL_law 1187 = .ok (.iaload, 1) := by decide +kernel
theorem dL_law_1188 : decode cL_law 1188 = .ok (.aload_n 0, 1) := by decide +kernel
theorem dL_law_1189 : decode cL_law 1189 = .ok (.iload_n 3, 1) := by decide +kernel
theorem dL_law_1190 : decode cL_law 1190 = .ok (.iconst 3, 1) := by decide +kernel
theorem dL_law_1191 : decode cL_law 1191 = .ok (.iadd, 1) := by decide +kernel
theorem dL_law_1192 : decode cL_law 1192 = .ok (.iaload, 1) := by decide +kernel
theorem dL_law_1193 : decode cL_law 1193 = .ok (.aload_n 0, 1) := by decide +kernel
theorem dL_law_1194 : decode cL_law 1194 = .ok (.iload_n 3, 1) := by decide +kernel
theorem dL_law_1195 : decode cL_law 1195 = .ok (.iconst 4, 1) := by decide +kernel
theorem dL_law_1196 : decode cL_law 1196 = .ok (.iadd, 1) := by decide +kernel
theorem dL_law_1197 : decode cL_law 1197 = .ok (.iaload, 1) := by decide +kernel
theorem dL_law_1198 : decode cL_law 1198 = .ok (.invokevirtual 144, 3) := by decide +kernel
theorem dL_law_1201 : decode cL_law 1201 = .ok (.if_icmp .eq 420, 3) := by decide +kernel
theorem dL_law_1204 : decode cL_law 1204 = .ok (.iconst 0, 1) := by decide +kernel
theorem dL_law_1205 : decode cL_law 1205 = .ok (.ireturn, 1) := by decide +kernel
theorem dL_law_1206 : decode cL_law 1206 = .ok (.aload_n 1, 1) := by decide +kernel
theorem dL_law_1207 : decode cL_law 1207 = .ok (.aload_n 0, 1) := by decide +kernel
theorem dL_law_1208 : decode cL_law 1208 = .ok (.iload_n 3, 1) := by decide +kernel
theorem dL_law_1209 : decode cL_law 1209 = .ok (.iconst 1, 1) := by decide +kernel
theorem dL_law_1210 : decode cL_law 1210 = .ok (.iadd, 1) := by decide +kernel
theorem dL_law_1211 : decode cL_law 1211 = .ok (.iaload, 1) := by decide +kernel
theorem dL_law_1212 : decode cL_law 1212 = .ok (.aload_n 0, 1) := by decide +kernel
theorem dL_law_1213 : decode cL_law 1213 = .ok (.iload_n 3, 1) := by decide +kernel
theorem dL_law_1214 : decode cL_law 1214 = .ok (.iconst 2, 1) := by decide +kernel
theorem dL_law_1215 : decode cL_law 1215 = .ok (.iadd, 1) := by decide +kernel
theorem dL_law_1216 : decode cL_law 1216 = .ok (.iaload, 1) := by decide +kernel
theorem dL_law_1217 : decode cL_law 1217 = .ok (.invokevirtual 145, 3) := by decide +kernel
theorem dL_law_1220 : decode cL_law 1220 = .ok (.aload_n 2, 1) := by decide +kernel
theorem dL_law_1221 : decode cL_law 1221 = .ok (.aload_n 0, 1) := by decide +kernel
theorem dL_law_1222 : decode cL_law 1222 = .ok (.iload_n 3, 1) := by decide +kernel
theorem dL_law_1223 : decode cL_law 1223 = .ok (.iconst 1, 1) := by decide +kernel
theorem dL_law_1224 : decode cL_law 1224 = .ok (.iadd, 1) := by decide +kernel
theorem dL_law_1225 : decode cL_law 1225 = .ok (.iaload, 1) := by decide +kernel
theorem dL_law_1226 : decode cL_law 1226 = .ok (.aload_n 0, 1) := by decide +kernel
theorem dL_law_1227 : decode cL_law 1227 = .ok (.iload_n 3, 1) := by decide +kernel
theorem dL_law_1228 : decode cL_law 1228 = .ok (.iconst 2, 1) := by decide +kernel
theorem dL_law_1229 : decode cL_law 1229 = .ok (.iadd, 1) := by decide +kernel
theorem dL_law_1230 : decode cL_law 1230 = .ok (.iaload, 1) := by decide +kernel
theorem dL_law_1231 : decode cL_law 1231 = .ok (.invokevirtual 148, 3) := by decide +kernel
theorem dL_law_1234 : decode cL_law 1234 = .ok (.if_icmp .eq 387, 3) := by decide +kernel
theorem dL_law_1237 : decode cL_law 1237 = .ok (.iconst 0, 1) := by decide +kernel
theorem dL_law_1238 : decode cL_law 1238 = .ok (.ireturn, 1) := by decide +kernel
theorem dL_law_1239 : decode cL_law 1239 = .ok (.aload_n 1, 1) := by decide +kernel
theorem dL_law_1240 : decode cL_law 1240 = .ok (.aload_n 0, 1) := by decide +kernel
theorem dL_law_1241 : decode cL_law 1241 = .ok (.iload_n 3, 1) := by decide +kernel
theorem dL_law_1242 : decode cL_law 1242 = .ok (.iconst 1, 1) := by decide +kernel
theorem dL_law_1243 : decode cL_law 1243 = .ok (.iadd, 1) := by decide +kernel
theorem dL_law_1244 : decode cL_law 1244 = .ok (.iaload, 1) := by decide +kernel
theorem dL_law_1245 : decode cL_law 1245 = .ok (.aload_n 0, 1) := by decide +kernel
theorem dL_law_1246 : decode cL_law 1246 = .ok (.iload_n 3, 1) := by decide +kernel
theorem dL_law_1247 : decode cL_law 1247 = .ok (.iconst 2, 1) := by decide +kernel
theorem dL_law_1248 : decode cL_law 1248 = .ok (.iadd, 1) := by decide +kernel
theorem dL_law_1249 : decode cL_law 1249 = .ok (.iaload, 1) := by decide +kernel
theorem dL_law_1250 : decode cL_law 1250 = .ok (.i2l, 1) := by decide +kernel
theorem dL_law_1251 : decode cL_law 1251 = .ok (.bipush 32, 2) := by decide +kernel
theorem dL_law_1253 : decode cL_law 1253 = .ok (.lshl, 1) := by decide +kernel
theorem dL_law_1254 : decode cL_law 1254 = .ok (.aload_n 0, 1) := by decide +kernel
theorem dL_law_1255 : decode cL_law 1255 = .ok (.iload_n 3, 1) := by decide +kernel
theorem dL_law_1256 : decode cL_law 1256 = .ok (.iconst 3, 1) := by decide +kernel
theorem dL_law_1257 : decode cL_law 1257 = .ok (.iadd, 1) := by decide +kernel
theorem dL_law_1258 : decode cL_law 1258 = .ok (.iaload, 1) := by decide +kernel
theorem dL_law_1259 : decode cL_law 1259 = .ok (.i2l, 1) := by decide +kernel
theorem dL_law_1260 : decode cL_law 1260 = .ok (.ldc2_w 18, 3) := by decide +kernel
theorem dL_law_1263 : decode cL_law 1263 = .ok (.land, 1) := by decide +kernel
theorem dL_law_1264 : decode cL_law 1264 = .ok (.lor, 1) := by decide +kernel
theorem dL_law_1265 : decode cL_law 1265 = .ok (.aload_n 0, 1) := by decide +kernel
theorem dL_law_1266 : decode cL_law 1266 = .ok (.iload_n 3, 1) := by decide +kernel
theorem dL_law_1267 : decode cL_law 1267 = .ok (.iconst 4, 1) := by decide +kernel
theorem dL_law_1268 : decode cL_law 1268 = .ok (.iadd, 1) := by decide +kernel
theorem dL_law_1269 : decode cL_law 1269 = .ok (.iaload, 1) := by decide +kernel
theorem dL_law_1270 : decode cL_law 1270 = .ok (.aload_n 0, 1) := by decide +kernel
theorem dL_law_1271 : decode cL_law 1271 = .ok (.iload_n 3, 1) := by decide +kernel
theorem dL_law_1272 : decode cL_law 1272 = .ok (.iconst 5, 1) := by decide +kernel
theorem dL_law_1273 : decode cL_law 1273 = .ok (.iadd, 1) := by decide +kernel
theorem dL_law_1274 : decode cL_law 1274 = .ok (.iaload, 1) := by decide +kernel
theorem dL_law_1275 : decode cL_law 1275 = .ok (.ifCond .eq 7, 3) := by decide +kernel
theorem dL_law_1278 : decode cL_law 1278 = .ok (.iconst 1, 1) := by decide +kernel
theorem dL_law_1279 : decode cL_law 1279 = .ok (.goto 4, 3) := by decide +kernel
theorem dL_law_1282 : decode cL_law 1282 = .ok (.iconst 0, 1) := by decide +kernel
theorem dL_law_1283 : decode cL_law 1283 = .ok (.aload_n 0, 1) := by decide +kernel
theorem dL_law_1284 : decode cL_law 1284 = .ok (.iload_n 3, 1) := by decide +kernel
theorem dL_law_1285 : decode cL_law 1285 = .ok (.bipush 6, 2) := by decide +kernel
theorem dL_law_1287 : decode cL_law 1287 = .ok (.iadd, 1) := by decide +kernel
theorem dL_law_1288 : decode cL_law 1288 = .ok (.iaload, 1) := by decide +kernel
theorem dL_law_1289 : decode cL_law 1289 = .ok (.invokevirtual 149, 3) := by decide +kernel
theorem dL_law_1292 : decode cL_law 1292 = .ok (.aload_n 2, 1) := by decide +kernel
theorem dL_law_1293 : decode cL_law 1293 = .ok (.aload_n 0, 1) := by decide +kernel
theorem dL_law_1294 : decode cL_law 1294 = .ok (.iload_n 3, 1) := by decide +kernel
theorem dL_law_1295 : decode cL_law 1295 = .ok (.iconst 1, 1) := by decide +kernel
theorem dL_law_1296 : decode cL_law 1296 = .ok (.iadd, 1) := by decide +kernel
theorem dL_law_1297 : decode cL_law 1297 = .ok (.iaload, 1) := by decide +kernel
theorem dL_law_1298 : decode cL_law 1298 = .ok (.aload_n 0, 1) := by decide +kernel
theorem dL_law_1299 : decode cL_law 1299 = .ok (.iload_n 3, 1) := by decide +kernel
theorem dL_law_1300 : decode cL_law 1300 = .ok (.iconst 2, 1) := by decide +kernel
theorem dL_law_1301 : decode cL_law 1301 = .ok (.iadd, 1) := by decide +kernel
theorem dL_law_1302 : decode cL_law 1302 = .ok (.iaload, 1) := by decide +kernel
theorem dL_law_1303 : decode cL_law 1303 = .ok (.i2l, 1) := by decide +kernel
theorem dL_law_1304 : decode cL_law 1304 = .ok (.bipush 32, 2) := by decide +kernel
theorem dL_law_1306 : decode cL_law 1306 = .ok (.lshl, 1) := by decide +kernel
theorem dL_law_1307 : decode cL_law 1307 = .ok (.aload_n 0, 1) := by decide +kernel
theorem dL_law_1308 : decode cL_law 1308 = .ok (.iload_n 3, 1) := by decide +kernel
theorem dL_law_1309 : decode cL_law 1309 = .ok (.iconst 3, 1) := by decide +kernel
theorem dL_law_1310 : decode cL_law 1310 = .ok (.iadd, 1) := by decide +kernel
theorem dL_law_1311 : decode cL_law 1311 = .ok (.iaload, 1) := by decide +kernel
theorem dL_law_1312 : decode cL_law 1312 = .ok (.i2l, 1) := by decide +kernel
theorem dL_law_1313 : decode cL_law 1313 = .ok (.ldc2_w 18, 3) := by decide +kernel
theorem dL_law_1316 : decode cL_law 1316 = .ok (.land, 1) := by decide +kernel
theorem dL_law_1317 : decode cL_law 1317 = .ok (.lor, 1) := by decide +kernel
theorem dL_law_1318 : decode cL_law 1318 = .ok (.aload_n 0, 1) := by decide +kernel
theorem dL_law_1319 : decode cL_law 1319 = .ok (.iload_n 3, 1) := by decide +kernel
theorem dL_law_1320 : decode cL_law 1320 = .ok (.iconst 4, 1) := by decide +kernel
theorem dL_law_1321 : decode cL_law 1321 = .ok (.iadd, 1) := by decide +kernel
theorem dL_law_1322 : decode cL_law 1322 = .ok (.iaload, 1) := by decide +kernel
theorem dL_law_1323 : decode cL_law 1323 = .ok (.aload_n 0, 1) := by decide +kernel
theorem dL_law_1324 : decode cL_law 1324 = .ok (.iload_n 3, 1) := by decide +kernel
theorem dL_law_1325 : decode cL_law 1325 = .ok (.iconst 5, 1) := by decide +kernel
theorem dL_law_1326 : decode cL_law 1326 = .ok (.iadd, 1) := by decide +kernel
theorem dL_law_1327 : decode cL_law 1327 = .ok (.iaload, 1) := by decide +kernel
theorem dL_law_1328 : decode cL_law 1328 = .ok (.ifCond .eq 7, 3) := by decide +kernel
theorem dL_law_1331 : decode cL_law 1331 = .ok (.iconst 1, 1) := by decide +kernel
theorem dL_law_1332 : decode cL_law 1332 = .ok (.goto 4, 3) := by decide +kernel
theorem dL_law_1335 : decode cL_law 1335 = .ok (.iconst 0, 1) := by decide +kernel
theorem dL_law_1336 : decode cL_law 1336 = .ok (.aload_n 0, 1) := by decide +kernel
theorem dL_law_1337 : decode cL_law 1337 = .ok (.iload_n 3, 1) := by decide +kernel
theorem dL_law_1338 : decode cL_law 1338 = .ok (.bipush 6, 2) := by decide +kernel
theorem dL_law_1340 : decode cL_law 1340 = .ok (.iadd, 1) := by decide +kernel
theorem dL_law_1341 : decode cL_law 1341 = .ok (.iaload, 1) := by decide +kernel
theorem dL_law_1342 : decode cL_law 1342 = .ok (.invokevirtual 153, 3) := by decide +kernel
theorem dL_law_1345 : decode cL_law 1345 = .ok (.if_icmp .eq 276, 3) := by decide +kernel
theorem dL_law_1348 : decode cL_law 1348 = .ok (.iconst 0, 1) := by decide +kernel
theorem dL_law_1349 : decode cL_law 1349 = .ok (.ireturn, 1) := by decide +kernel
theorem dL_law_1350 : decode cL_law 1350 = .ok (.aload_n 1, 1) := by decide +kernel
theorem dL_law_1351 : decode cL_law 1351 = .ok (.aload_n 0, 1) := by decide +kernel
theorem dL_law_1352 : decode cL_law 1352 = .ok (.iload_n 3, 1) := by decide +kernel
theorem dL_law_1353 : decode cL_law 1353 = .ok (.iconst 1, 1) := by decide +kernel
theorem dL_law_1354 : decode cL_law 1354 = .ok (.iadd, 1) := by decide +kernel
theorem dL_law_1355 : decode cL_law 1355 = .ok (.iaload, 1) := by decide +kernel
theorem dL_law_1356 : decode cL_law 1356 = .ok (.aload_n 0, 1) := by decide +kernel
theorem dL_law_1357 : decode cL_law 1357 = .ok (.iload_n 3, 1) := by decide +kernel
theorem dL_law_1358 : decode cL_law 1358 = .ok (.iconst 2, 1) := by decide +kernel
theorem dL_law_1359 : decode cL_law 1359 = .ok (.iadd, 1) := by decide +kernel
theorem dL_law_1360 : decode cL_law 1360 = .ok (.iaload, 1) := by decide +kernel
theorem dL_law_1361 : decode cL_law 1361 = .ok (.invokevirtual 154, 3) := by decide +kernel
theorem dL_law_1364 : decode cL_law 1364 = .ok (.aload_n 2, 1) := by decide +kernel
theorem dL_law_1365 : decode cL_law 1365 = .ok (.aload_n 0, 1) := by decide +kernel
theorem dL_law_1366 : decode cL_law 1366 = .ok (.iload_n 3, 1) := by decide +kernel
theorem dL_law_1367 : decode cL_law 1367 = .ok (.iconst 1, 1) := by decide +kernel
theorem dL_law_1368 : decode cL_law 1368 = .ok (.iadd, 1) := by decide +kernel
theorem dL_law_1369 : decode cL_law 1369 = .ok (.iaload, 1) := by decide +kernel
theorem dL_law_1370 : decode cL_law 1370 = .ok (.aload_n 0, 1) := by decide +kernel
theorem dL_law_1371 : decode cL_law 1371 = .ok (.iload_n 3, 1) := by decide +kernel
theorem dL_law_1372 : decode cL_law 1372 = .ok (.iconst 2, 1) := by decide +kernel
theorem dL_law_1373 : decode cL_law 1373 = .ok (.iadd, 1) := by decide +kernel
theorem dL_law_1374 : decode cL_law 1374 = .ok (.iaload, 1) := by decide +kernel
theorem dL_law_1375 : decode cL_law 1375 = .ok (.invokevirtual 157, 3) := by decide +kernel
theorem dL_law_1378 : decode cL_law 1378 = .ok (.if_icmp .eq 243, 3) := by decide +kernel
theorem dL_law_1381 : decode cL_law 1381 = .ok (.iconst 0, 1) := by decide +kernel
theorem dL_law_1382 : decode cL_law 1382 = .ok (.ireturn, 1) := by decide +kernel
theorem dL_law_1383 : decode cL_law 1383 = .ok (.aload_n 1, 1) := by decide +kernel
theorem dL_law_1384 : decode cL_law 1384 = .ok (.aload_n 0, 1) := by decide +kernel
theorem dL_law_1385 : decode cL_law 1385 = .ok (.iload_n 3, 1) := by decide +kernel
theorem dL_law_1386 : decode cL_law 1386 = .ok (.iconst 1, 1) := by decide +kernel
theorem dL_law_1387 : decode cL_law 1387 = .ok (.iadd, 1) := by decide +kernel
theorem dL_law_1388 : decode cL_law 1388 = .ok (.iaload, 1) := by decide +kernel
theorem dL_law_1389 : decode cL_law 1389 = .ok (.aload_n 0, 1) := by decide +kernel
theorem dL_law_1390 : decode cL_law 1390 = .ok (.iload_n 3, 1) := by decide +kernel
theorem dL_law_1391 : decode cL_law 1391 = .ok (.iconst 2, 1) := by decide +kernel
theorem dL_law_1392 : decode cL_law 1392 = .ok (.iadd, 1) := by decide +kernel
theorem dL_law_1393 : decode cL_law 1393 = .ok (.iaload, 1) := by decide +kernel
theorem dL_law_1394 : decode cL_law 1394 = .ok (.aload_n 0, 1) := by decide +kernel
theorem dL_law_1395 : decode cL_law 1395 = .ok (.iload_n 3, 1) := by decide +kernel
theorem dL_law_1396 : decode cL_law 1396 = .ok (.iconst 3, 1) := by decide +kernel
theorem dL_law_1397 : decode cL_law 1397 = .ok (.iadd, 1) := by decide +kernel
theorem dL_law_1398 : decode cL_law 1398 = .ok (.iaload, 1) := by decide +kernel
theorem dL_law_1399 : decode cL_law 1399 = .ok (.invokevirtual 158, 3) := by decide +kernel
theorem dL_law_1402 : decode cL_law 1402 = .ok (.aload_n 2, 1) := by decide +kernel
theorem dL_law_1403 : decode cL_law 1403 = .ok (.aload_n 0, 1) := by decide +kernel
theorem dL_law_1404 : decode cL_law 1404 = .ok (.iload_n 3, 1) := by decide +kernel
theorem dL_law_1405 : decode cL_law 1405 = .ok (.iconst 1, 1) := by decide +kernel
theorem dL_law_1406 : decode cL_law 1406 = .ok (.iadd, 1) := by decide +kernel
theorem dL_law_1407 : decode cL_law 1407 = .ok (.iaload, 1) := by decide +kernel
theorem dL_law_1408 : decode cL_law 1408 = .ok (.aload_n 0, 1) := by decide +kernel
theorem dL_law_1409 : decode cL_law 1409 = .ok (.iload_n 3, 1) := by decide +kernel
theorem dL_law_1410 : decode cL_law 1410 = .ok (.iconst 2, 1) := by decide +kernel
theorem dL_law_1411 : decode cL_law 1411 = .ok (.iadd, 1) := by decide +kernel
theorem dL_law_1412 : decode cL_law 1412 = .ok (.iaload, 1) := by decide +kernel
theorem dL_law_1413 : decode cL_law 1413 = .ok (.aload_n 0, 1) := by decide +kernel
theorem dL_law_1414 : decode cL_law 1414 = .ok (.iload_n 3, 1) := by decide +kernel
theorem dL_law_1415 : decode cL_law 1415 = .ok (.iconst 3, 1) := by decide +kernel
theorem dL_law_1416 : decode cL_law 1416 = .ok (.iadd, 1) := by decide +kernel
theorem dL_law_1417 : decode cL_law 1417 = .ok (.iaload, 1) := by decide +kernel
theorem dL_law_1418 : decode cL_law 1418 = .ok (.invokevirtual 161, 3) := by decide +kernel
theorem dL_law_1421 : decode cL_law 1421 = .ok (.if_icmp .eq 200, 3) := by decide +kernel
theorem dL_law_1424 : decode cL_law 1424 = .ok (.iconst 0, 1) := by decide +kernel
theorem dL_law_1425 : decode cL_law 1425 = .ok (.ireturn, 1) := by decide +kernel
theorem dL_law_1426 : decode cL_law 1426 = .ok (.aload_n 1, 1) := by decide +kernel
theorem dL_law_1427 : decode cL_law 1427 = .ok (.aload_n 0, 1) := by decide +kernel
theorem dL_law_1428 : decode cL_law 1428 = .ok (.iload_n 3, 1) := by decide +kernel
theorem dL_law_1429 : decode cL_law 1429 = .ok (.iconst 1, 1) := by decide +kernel
theorem dL_law_1430 : decode cL_law 1430 = .ok (.iadd, 1) := by decide +kernel
theorem dL_law_1431 : decode cL_law 1431 = .ok (.iaload, 1) := by decide +kernel
theorem dL_law_1432 : decode cL_law 1432 = .ok (.aload_n 0, 1) := by decide +kernel
theorem dL_law_1433 : decode cL_law 1433 = .ok (.iload_n 3, 1) := by decide +kernel
theorem dL_law_1434 : decode cL_law 1434 = .ok (.iconst 2, 1) := by decide +kernel
theorem dL_law_1435 : decode cL_law 1435 = .ok (.iadd, 1) := by decide +kernel
theorem dL_law_1436 : decode cL_law 1436 = .ok (.iaload, 1) := by decide +kernel
theorem dL_law_1437 : decode cL_law 1437 = .ok (.invokevirtual 162, 3) := by decide +kernel
theorem dL_law_1440 : decode cL_law 1440 = .ok (.aload_n 2, 1) := by decide +kernel
theorem dL_law_1441 : decode cL_law 1441 = .ok (.aload_n 0, 1) := by decide +kernel
theorem dL_law_1442 : decode cL_law 1442 = .ok (.iload_n 3, 1) := by decide +kernel
theorem dL_law_1443 : decode cL_law 1443 = .ok (.iconst 1, 1) := by decide +kernel
theorem dL_law_1444 : decode cL_law 1444 = .ok (.iadd, 1) := by decide +kernel
theorem dL_law_1445 : decode cL_law 1445 = .ok (.iaload, 1) := by decide +kernel
theorem dL_law_1446 : decode cL_law 1446 = .ok (.aload_n 0, 1) := by decide +kernel
theorem dL_law_1447 : decode cL_law 1447 = .ok (.iload_n 3, 1) := by decide +kernel
theorem dL_law_1448 : decode cL_law 1448 = .ok (.iconst 2, 1) := by decide +kernel
theorem dL_law_1449 : decode cL_law 1449 = .ok (.iadd, 1) := by decide +kernel
theorem dL_law_1450 : decode cL_law 1450 = .ok (.iaload, 1) := by decide +kernel
theorem dL_law_1451 : decode cL_law 1451 = .ok (.invokevirtual 165, 3) := by decide +kernel
theorem dL_law_1454 : decode cL_law 1454 = .ok (.if_icmp .eq 167, 3) := by decide +kernel
theorem dL_law_1457 : decode cL_law 1457 = .ok (.iconst 0, 1) := by decide +kernel
theorem dL_law_1458 : decode cL_law 1458 = .ok (.ireturn, 1) := by decide +kernel
theorem dL_law_1459 : decode cL_law 1459 = .ok (.aload_n 1, 1) := by decide +kernel
theorem dL_law_1460 : decode cL_law 1460 = .ok (.aload_n 0, 1) := by decide +kernel
theorem dL_law_1461 : decode cL_law 1461 = .ok (.iload_n 3, 1) := by decide +kernel
theorem dL_law_1462 : decode cL_law 1462 = .ok (.iconst 1, 1) := by decide +kernel
theorem dL_law_1463 : decode cL_law 1463 = .ok (.iadd, 1) := by decide +kernel
theorem dL_law_1464 : decode cL_law 1464 = .ok (.iaload, 1) := by decide +kernel
theorem dL_law_1465 : decode cL_law 1465 = .ok (.aload_n 0, 1) := by decide +kernel
theorem dL_law_1466 : decode cL_law 1466 = .ok (.iload_n 3, 1) := by decide +kernel
theorem dL_law_1467 : decode cL_law 1467 = .ok (.iconst 2, 1) := by decide +kernel
theorem dL_law_1468 : decode cL_law 1468 = .ok (.iadd, 1) := by decide +kernel
theorem dL_law_1469 : decode cL_law 1469 = .ok (.iaload, 1) := by decide +kernel
theorem dL_law_1470 : decode cL_law 1470 = .ok (.aload_n 0, 1) := by decide +kernel
theorem dL_law_1471 : decode cL_law 1471 = .ok (.iload_n 3, 1) := by decide +kernel
theorem dL_law_1472 : decode cL_law 1472 = .ok (.iconst 3, 1) := by decide +kernel
theorem dL_law_1473 : decode cL_law 1473 = .ok (.iadd, 1) := by decide +kernel
theorem dL_law_1474 : decode cL_law 1474 = .ok (.iaload, 1) := by decide +kernel
theorem dL_law_1475 : decode cL_law 1475 = .ok (.invokevirtual 166, 3) := by decide +kernel
theorem dL_law_1478 : decode cL_law 1478 = .ok (.aload_n 2, 1) := by decide +kernel
theorem dL_law_1479 : decode cL_law 1479 = .ok (.aload_n 0, 1) := by decide +kernel
theorem dL_law_1480 : decode cL_law 1480 = .ok (.iload_n 3, 1) := by decide +kernel
theorem dL_law_1481 : decode cL_law 1481 = .ok (.iconst 1, 1) := by decide +kernel
theorem dL_law_1482 : decode cL_law 1482 = .ok (.iadd, 1) := by decide +kernel
theorem dL_law_1483 : decode cL_law 1483 = .ok (.iaload, 1) := by decide +kernel
theorem dL_law_1484 : decode cL_law 1484 = .ok (.aload_n 0, 1) := by decide +kernel
theorem dL_law_1485 : decode cL_law 1485 = .ok (.iload_n 3, 1) := by decide +kernel
theorem dL_law_1486 : decode cL_law 1486 = .ok (.iconst 2, 1) := by decide +kernel
theorem dL_law_1487 : decode cL_law 1487 = .ok (.iadd, 1) := by decide +kernel
theorem dL_law_1488 : decode cL_law 1488 = .ok (.iaload, 1) := by decide +kernel
theorem dL_law_1489 : decode cL_law 1489 = .ok (.aload_n 0, 1) := by decide +kernel
theorem dL_law_1490 : decode cL_law 1490 = .ok (.iload_n 3, 1) := by decide +kernel
theorem dL_law_1491 : decode cL_law 1491 = .ok (.iconst 3, 1) := by decide +kernel
theorem dL_law_1492 : decode cL_law 1492 = .ok (.iadd, 1) := by decide +kernel
theorem dL_law_1493 : decode cL_law 1493 = .ok (.iaload, 1) := by decide +kernel
theorem dL_law_1494 : decode cL_law 1494 = .ok (.invokevirtual 169, 3) := by decide +kernel
theorem dL_law_1497 : decode cL_law 1497 = .ok (.if_icmp .eq 124, 3) := by decide +kernel
theorem dL_law_1500 : decode cL_law 1500 = .ok (.iconst 0, 1) := by decide +kernel
theorem dL_law_1501 : decode cL_law 1501 = .ok (.ireturn, 1) := by decide +kernel
theorem dL_law_1502 : decode cL_law 1502 = .ok (.aload_n 1, 1) := by decide +kernel
theorem dL_law_1503 : decode cL_law 1503 = .ok (.aload_n 0, 1) := by decide +kernel
theorem dL_law_1504 : decode cL_law 1504 = .ok (.iload_n 3, 1) := by decide +kernel
theorem dL_law_1505 : decode cL_law 1505 = .ok (.iconst 1, 1) := by decide +kernel
theorem dL_law_1506 : decode cL_law 1506 = .ok (.iadd, 1) := by decide +kernel
theorem dL_law_1507 : decode cL_law 1507 = .ok (.iaload, 1) := by decide +kernel
theorem dL_law_1508 : decode cL_law 1508 = .ok (.aload_n 0, 1) := by decide +kernel
theorem dL_law_1509 : decode cL_law 1509 = .ok (.iload_n 3, 1) := by decide +kernel
theorem dL_law_1510 : decode cL_law 1510 = .ok (.iconst 2, 1) := by decide +kernel
theorem dL_law_1511 : decode cL_law 1511 = .ok (.iadd, 1) := by decide +kernel
theorem dL_law_1512 : decode cL_law 1512 = .ok (.iaload, 1) := by decide +kernel
theorem dL_law_1513 : decode cL_law 1513 = .ok (.aload_n 0, 1) := by decide +kernel
theorem dL_law_1514 : decode cL_law 1514 = .ok (.iload_n 3, 1) := by decide +kernel
theorem dL_law_1515 : decode cL_law 1515 = .ok (.iconst 3, 1) := by decide +kernel
theorem dL_law_1516 : decode cL_law 1516 = .ok (.iadd, 1) := by decide +kernel
theorem dL_law_1517 : decode cL_law 1517 = .ok (.iaload, 1) := by decide +kernel
theorem dL_law_1518 : decode cL_law 1518 = .ok (.aload_n 0, 1) := by decide +kernel
theorem dL_law_1519 : decode cL_law 1519 = .ok (.iload_n 3, 1) := by decide +kernel
theorem dL_law_1520 : decode cL_law 1520 = .ok (.iconst 4, 1) := by decide +kernel
theorem dL_law_1521 : decode cL_law 1521 = .ok (.iadd, 1) := by decide +kernel
theorem dL_law_1522 : decode cL_law 1522 = .ok (.iaload, 1) := by decide +kernel
theorem dL_law_1523 : decode cL_law 1523 = .ok (.invokevirtual 170, 3) := by decide +kernel
theorem dL_law_1526 : decode cL_law 1526 = .ok (.aload_n 2, 1) := by decide +kernel
theorem dL_law_1527 : decode cL_law 1527 = .ok (.aload_n 0, 1) := by decide +kernel
theorem dL_law_1528 : decode cL_law 1528 = .ok (.iload_n 3, 1) := by decide +kernel
theorem dL_law_1529 : decode cL_law 1529 = .ok (.iconst 1, 1) := by decide +kernel
theorem dL_law_1530 : decode cL_law 1530 = .ok (.iadd, 1) := by decide +kernel
theorem dL_law_1531 : decode cL_law 1531 = .ok (.iaload, 1) := by decide +kernel
theorem dL_law_1532 : decode cL_law 1532 = .ok (.aload_n 0, 1) := by decide +kernel
theorem dL_law_1533 : decode cL_law 1533 = .ok (.iload_n 3, 1) := by decide +kernel
theorem dL_law_1534 : decode cL_law 1534 = .ok (.iconst 2, 1) := by decide +kernel
theorem dL_law_1535 : decode cL_law 1535 = .ok (.iadd, 1) := by decide +kernel
theorem dL_law_1536 : decode cL_law 1536 = .ok (.iaload, 1) := by decide +kernel
theorem dL_law_1537 : decode cL_law 1537 = .ok (.aload_n 0, 1) := by decide +kernel
theorem dL_law_1538 : decode cL_law 1538 = .ok (.iload_n 3, 1) := by decide +kernel
theorem dL_law_1539 : decode cL_law 1539 = .ok (.iconst 3, 1) := by decide +kernel
theorem dL_law_1540 : decode cL_law 1540 = .ok (.iadd, 1) := by decide +kernel
theorem dL_law_1541 : decode cL_law 1541 = .ok (.iaload, 1) := by decide +kernel
theorem dL_law_1542 : decode cL_law 1542 = .ok (.aload_n 0, 1) := by decide +kernel
theorem dL_law_1543 : decode cL_law 1543 = .ok (.iload_n 3, 1) := by decide +kernel
theorem dL_law_1544 : decode cL_law 1544 = .ok (.iconst 4, 1) := by decide +kernel
theorem dL_law_1545 : decode cL_law 1545 = .ok (.iadd, 1) := by decide +kernel
theorem dL_law_1546 : decode cL_law 1546 = .ok (.iaload, 1) := by decide +kernel
theorem dL_law_1547 : decode cL_law 1547 = .ok (.invokevirtual 173, 3) := by decide +kernel
theorem dL_law_1550 : decode cL_law 1550 = .ok (.if_icmp .eq 71, 3) := by decide +kernel
theorem dL_law_1553 : decode cL_law 1553 = .ok (.iconst 0, 1) := by decide +kernel
theorem dL_law_1554 : decode cL_law 1554 = .ok (.ireturn, 1) := by decide +kernel
theorem dL_law_1555 : decode cL_law 1555 = .ok (.aload_n 1, 1) := by decide +kernel
theorem dL_law_1556 : decode cL_law 1556 = .ok (.aload_n 0, 1) := by decide +kernel
theorem dL_law_1557 : decode cL_law 1557 = .ok (.iload_n 3, 1) := by decide +kernel
theorem dL_law_1558 : decode cL_law 1558 = .ok (.iconst 1, 1) := by decide +kernel
theorem dL_law_1559 : decode cL_law 1559 = .ok (.iadd, 1) := by decide +kernel
theorem dL_law_1560 : decode cL_law 1560 = .ok (.iaload, 1) := by decide +kernel
theorem dL_law_1561 : decode cL_law 1561 = .ok (.aload_n 0, 1) := by decide +kernel
theorem dL_law_1562 : decode cL_law 1562 = .ok (.iload_n 3, 1) := by decide +kernel
theorem dL_law_1563 : decode cL_law 1563 = .ok (.iconst 2, 1) := by decide +kernel
theorem dL_law_1564 : decode cL_law 1564 = .ok (.iadd, 1) := by decide +kernel
theorem dL_law_1565 : decode cL_law 1565 = .ok (.iaload, 1) := by decide +kernel
theorem dL_law_1566 : decode cL_law 1566 = .ok (.aload_n 0, 1) := by decide +kernel
theorem dL_law_1567 : decode cL_law 1567 = .ok (.iload_n 3, 1) := by decide +kernel
theorem dL_law_1568 : decode cL_law 1568 = .ok (.iconst 3, 1) := by decide +kernel
theorem dL_law_1569 : decode cL_law 1569 = .ok (.iadd, 1) := by decide +kernel
theorem dL_law_1570 : decode cL_law 1570 = .ok (.iaload, 1) := by decide +kernel
theorem dL_law_1571 : decode cL_law 1571 = .ok (.invokevirtual 174, 3) := by decide +kernel
theorem dL_law_1574 : decode cL_law 1574 = .ok (.aload_n 2, 1) := by decide +kernel
theorem dL_law_1575 : decode cL_law 1575 = .ok (.aload_n 0, 1) := by decide +kernel
theorem dL_law_1576 : decode cL_law 1576 = .ok (.iload_n 3, 1) := by decide +kernel
theorem dL_law_1577 : decode cL_law 1577 = .ok (.iconst 1, 1) := by decide +kernel
theorem dL_law_1578 : decode cL_law 1578 = .ok (.iadd, 1) := by decide +kernel
theorem dL_law_1579 : decode cL_law 1579 = .ok (.iaload, 1) := by decide +kernel
theorem dL_law_1580 : decode cL_law 1580 = .ok (.aload_n 0, 1) := by decide +kernel
theorem dL_law_1581 : decode cL_law 1581 = .ok (.iload_n 3, 1) := by decide +kernel
theorem dL_law_1582 : decode cL_law 1582 = .ok (.iconst 2, 1) := by decide +kernel
theorem dL_law_1583 : decode cL_law 1583 = .ok (.iadd, 1) := by decide +kernel
theorem dL_law_1584 : decode cL_law 1584 = .ok (.iaload, 1) := by decide +kernel
theorem dL_law_1585 : decode cL_law 1585 = .ok (.aload_n 0, 1) := by decide +kernel
theorem dL_law_1586 : decode cL_law 1586 = .ok (.iload_n 3, 1) := by decide +kernel
theorem dL_law_1587 : decode cL_law 1587 = .ok (.iconst 3, 1) := by decide +kernel
theorem dL_law_1588 : decode cL_law 1588 = .ok (.iadd, 1) := by decide +kernel
theorem dL_law_1589 : decode cL_law 1589 = .ok (.iaload, 1) := by decide +kernel
theorem dL_law_1590 : decode cL_law 1590 = .ok (.invokevirtual 177, 3) := by decide +kernel
theorem dL_law_1593 : decode cL_law 1593 = .ok (.if_icmp .eq 28, 3) := by decide +kernel
theorem dL_law_1596 : decode cL_law 1596 = .ok (.iconst 0, 1) := by decide +kernel
theorem dL_law_1597 : decode cL_law 1597 = .ok (.ireturn, 1) := by decide +kernel
theorem dL_law_1598 : decode cL_law 1598 = .ok (.aload_n 1, 1) := by decide +kernel
theorem dL_law_1599 : decode cL_law 1599 = .ok (.aload_n 0, 1) := by decide +kernel
theorem dL_law_1600 : decode cL_law 1600 = .ok (.iload_n 3, 1) := by decide +kernel
theorem dL_law_1601 : decode cL_law 1601 = .ok (.iconst 1, 1) := by decide +kernel
theorem dL_law_1602 : decode cL_law 1602 = .ok (.iadd, 1) := by decide +kernel
theorem dL_law_1603 : decode cL_law 1603 = .ok (.iaload, 1) := by decide +kernel
theorem dL_law_1604 : decode cL_law 1604 = .ok (.invokevirtual 178, 3) := by decide +kernel
theorem dL_law_1607 : decode cL_law 1607 = .ok (.aload_n 2, 1) := by decide +kernel
theorem dL_law_1608 : decode cL_law 1608 = .ok (.aload_n 0, 1) := by decide +kernel
theorem dL_law_1609 : decode cL_law 1609 = .ok (.iload_n 3, 1) := by decide +kernel
theorem dL_law_1610 : decode cL_law 1610 = .ok (.iconst 1, 1) := by decide +kernel
theorem dL_law_1611 : decode cL_law 1611 = .ok (.iadd, 1) := by decide +kernel
theorem dL_law_1612 : decode cL_law 1612 = .ok (.iaload, 1) := by decide +kernel
theorem dL_law_1613 : decode cL_law 1613 = .ok (.invokevirtual 181, 3) := by decide +kernel
theorem dL_law_1616 : decode cL_law 1616 = .ok (.if_icmp .eq 5, 3) := by decide +kernel
theorem dL_law_1619 : decode cL_law 1619 = .ok (.iconst 0, 1) := by decide +kernel
theorem dL_law_1620 : decode cL_law 1620 = .ok (.ireturn, 1) := by decide +kernel
theorem dL_law_1621 : decode cL_law 1621 = .ok (.iinc 3 7, 3) := by decide +kernel
theorem dL_law_1624 : decode cL_law 1624 = .ok (.goto (-1606), 3) := by decide +kernel
theorem dL_law_1627 : decode cL_law 1627 = .ok (.iconst 1, 1) := by decide +kernel
theorem dL_law_1628 : decode cL_law 1628 = .ok (.ireturn, 1) := by decide +kernel
theorem dX0_add_0 : decode cX0_add 0 = .ok (.aload_n 0, 1) := by decide +kernel
theorem dX0_add_1 : decode cX0_add 1 = .ok (.getfield 19, 3) := by decide +kernel
theorem dX0_add_4 : decode cX0_add 4 = .ok (.sipush 3000, 3) := by decide +kernel
theorem dX0_add_7 : decode cX0_add 7 = .ok (.if_icmp .gt 33, 3) := by decide +kernel
theorem dX0_add_10 : decode cX0_add 10 = .ok (.aload_n 0, 1) := by decide +kernel
theorem dX0_add_11 : decode cX0_add 11 = .ok (.getfield 9, 3) := by decide +kernel
theorem dX0_add_14 : decode cX0_add 14 = .ok (.aload_n 0, 1) := by decide +kernel
theorem dX0_add_15 : decode cX0_add 15 = .ok (.getfield 19, 3) := by decide +kernel
theorem dX0_add_18 : decode cX0_add 18 = .ok (.iload_n 1, 1) := by decide +kernel
theorem dX0_add_19 : decode cX0_add 19 = .ok (.iastore, 1) := by decide +kernel
theorem dX0_add_20 : decode cX0_add 20 = .ok (.aload_n 0, 1) := by decide +kernel
theorem dX0_add_21 : decode cX0_add 21 = .ok (.getfield 15, 3) := by decide +kernel
theorem dX0_add_24 : decode cX0_add 24 = .ok (.aload_n 0, 1) := by decide +kernel
theorem dX0_add_25 : decode cX0_add 25 = .ok (.getfield 19, 3) := by decide +kernel
theorem dX0_add_28 : decode cX0_add 28 = .ok (.lload_n 2, 1) := by decide +kernel
theorem dX0_add_29 : decode cX0_add 29 = .ok (.lastore, 1) := by decide +kernel
theorem dX0_add_30 : decode cX0_add 30 = .ok (.aload_n 0, 1) := by decide +kernel
theorem dX0_add_31 : decode cX0_add 31 = .ok (.dup, 1) := by decide +kernel
theorem dX0_add_32 : decode cX0_add 32 = .ok (.getfield 19, 3) := by decide +kernel
theorem dX0_add_35 : decode cX0_add 35 = .ok (.iconst 1, 1) := by decide +kernel
theorem dX0_add_36 : decode cX0_add 36 = .ok (.iadd, 1) := by decide +kernel
theorem dX0_add_37 : decode cX0_add 37 = .ok (.putfield 19, 3) := by decide +kernel
theorem dX0_add_40 : decode cX0_add 40 = .ok (.return_, 1) := by decide +kernel
theorem dX0_alone_0 : decode cX0_alone 0 = .ok (.aload_n 0, 1) := by decide +kernel
theorem dX0_alone_1 : decode cX0_alone 1 = .ok (.iload_n 1, 1) := by decide +kernel
theorem dX0_alone_2 : decode cX0_alone 2 = .ok (.invokevirtual 23, 3) := by decide +kernel
theorem dX0_alone_5 : decode cX0_alone 5 = .ok (.iconst 3, 1) := by decide +kernel
theorem dX0_alone_6 : decode cX0_alone 6 = .ok (.if_icmp .ne 17, 3) := by decide +kernel
theorem dX0_alone_9 : decode cX0_alone 9 = .ok (.aload_n 0, 1) := by decide +kernel
theorem dX0_alone_10 : decode cX0_alone 10 = .ok (.iload_n 1, 1) := by decide +kernel
theorem dX0_alone_11 : decode cX0_alone 11 = .ok (.iconst 1, 1) := by decide +kernel
theorem dX0_alone_12 : decode cX0_alone 12 = .ok (.iadd, 1) := by decide +kernel
theorem dX0_alone_13 : decode cX0_alone 13 = .ok (.invokevirtual 23, 3) := by decide +kernel
theorem dX0_alone_16 : decode cX0_alone 16 = .ok (.ifCond .ne 7, 3) := by decide +kernel
theorem dX0_alone_19 : decode cX0_alone 19 = .ok (.iconst 1, 1) := by decide +kernel
theorem dX0_alone_20 : decode cX0_alone 20 = .ok (.goto 4, 3) := by decide +kernel
theorem dX0_alone_23 : decode cX0_alone 23 = .ok (.iconst 0, 1) := by decide +kernel
theorem dX0_alone_24 : decode cX0_alone 24 = .ok (.istore_n 3, 1) := by decide +kernel
theorem dX0_alone_25 : decode cX0_alone 25 = .ok (.iload_n 3, 1) := by decide +kernel
theorem dX0_alone_26 : decode cX0_alone 26 = .ok (.ifCond .eq 24, 3) := by decide +kernel
theorem dX0_alone_29 : decode cX0_alone 29 = .ok (.aload_n 0, 1) := by decide +kernel
theorem dX0_alone_30 : decode cX0_alone 30 = .ok (.getfield 15, 3) := by decide +kernel
theorem dX0_alone_33 : decode cX0_alone 33 = .ok (.iload_n 1, 1) := by decide +kernel
theorem dX0_alone_34 : decode cX0_alone 34 = .ok (.laload, 1) := by decide +kernel
theorem dX0_alone_35 : decode cX0_alone 35 = .ok (.iload_n 2, 1) := by decide +kernel
theorem dX0_alone_36 : decode cX0_alone 36 = .ok (.i2l, 1) := by decide +kernel
theorem dX0_alone_37 : decode cX0_alone 37 = .ok (.lcmp, 1) := by decide +kernel
theorem dX0_alone_38 : decode cX0_alone 38 = .ok (.ifCond .gt 12, 3) := by decide +kernel
theorem dX0_alone_41 : decode cX0_alone 41 = .ok (.aload_n 0, 1) := by decide +kernel
theorem dX0_alone_42 : decode cX0_alone 42 = .ok (.getfield 15, 3) := by decide +kernel
theorem dX0_alone_45 : decode cX0_alone 45 = .ok (.iload_n 1, 1) := by decide +kernel
theorem dX0_alone_46 : decode cX0_alone 46 = .ok (.laload, 1) := by decide +kernel
theorem dX0_alone_47 : decode cX0_alone 47 = .ok (.goto 6, 3) := by decide +kernel
theorem dX0_alone_50 : decode cX0_alone 50 = .ok (.ldc2_w 27, 3) := by decide +kernel
theorem dX0_alone_53 : decode cX0_alone 53 = .ok (.lreturn, 1) := by decide +kernel
theorem dX0_init_0 : decode cX0_init 0 = .ok (.aload_n 0, 1) := by decide +kernel
theorem dX0_init_1 : decode cX0_init 1 = .ok (.invokespecial 3, 3) := by decide +kernel
theorem dX0_init_4 : decode cX0_init 4 = .ok (.aload_n 0, 1) := by decide +kernel
theorem dX0_init_5 : decode cX0_init 5 = .ok (.sipush 3002, 3) := by decide +kernel
theorem dX0_init_8 : decode cX0_init 8 = .ok (.newarray .int, 2) := by decide +kernel
theorem dX0_init_10 : decode cX0_init 10 = .ok (.putfield 9, 3) := by decide +kernel
theorem dX0_init_13 : decode cX0_init 13 = .ok (.aload_n 0, 1) := by decide +kernel
theorem dX0_init_14 : decode cX0_init 14 = .ok (.sipush 3002, 3) := by decide +kernel
theorem dX0_init_17 : decode cX0_init 17 = .ok (.newarray .long, 2) := by decide +kernel
theorem dX0_init_19 : decode cX0_init 19 = .ok (.putfield 15, 3) := by decide +kernel
theorem dX0_init_22 : decode cX0_init 22 = .ok (.return_, 1) := by decide +kernel
theorem dX0_stepAt_0 : decode cX0_stepAt 0 = .ok (.iload_n 1, 1) := by decide +kernel
theorem dX0_stepAt_1 : decode cX0_stepAt 1 = .ok (.ifCond .lt 11, 3) := by decide +kernel
theorem dX0_stepAt_4 : decode cX0_stepAt 4 = .ok (.iload_n 1, 1) := by decide +kernel
theorem dX0_stepAt_5 : decode cX0_stepAt 5 = .ok (.aload_n 0, 1) := by decide +kernel
theorem dX0_stepAt_6 : decode cX0_stepAt 6 = .ok (.getfield 19, 3) := by decide +kernel
theorem dX0_stepAt_9 : decode cX0_stepAt 9 = .ok (.if_icmp .lt 7, 3) := by decide +kernel
theorem dX0_stepAt_12 : decode cX0_stepAt 12 = .ok (.iconst 0, 1) := by decide +kernel
theorem dX0_stepAt_13 : decode cX0_stepAt 13 = .ok (.goto 9, 3) := by decide +kernel
theorem dX0_stepAt_16 : decode cX0_stepAt 16 = .ok (.aload_n 0, 1) := by decide +kernel
theorem dX0_stepAt_17 : decode cX0_stepAt 17 = .ok (.getfield 9, 3) := by decide +kernel
theorem dX0_stepAt_20 : decode cX0_stepAt 20 = .ok (.iload_n 1, 1) := by decide +kernel
theorem dX0_stepAt_21 : decode cX0_stepAt 21 = .ok (.iaload, 1) := by decide +kernel
theorem dX0_stepAt_22 : decode cX0_stepAt 22 = .ok (.ireturn, 1) := by decide +kernel
theorem dX10_addNode_0 : decode cX10_addNode 0 = .ok (.aload_n 0, 1) := by decide +kernel
theorem dX10_addNode_1 : decode cX10_addNode 1 = .ok (.getfield 36, 3) := by decide +kernel
theorem dX10_addNode_4 : decode cX10_addNode 4 = .ok (.sipush 400, 3) := by decide +kernel
theorem dX10_addNode_7 : decode cX10_addNode 7 = .ok (.if_icmp .lt 10, 3) := by decide +kernel
theorem dX10_addNode_10 : decode cX10_addNode 10 = .ok (.aload_n 0, 1) := by decide +kernel
theorem dX10_addNode_11 : decode cX10_addNode 11 = .ok (.iconst 1, 1) := by decide +kernel
theorem dX10_addNode_12 : decode cX10_addNode 12 = .ok (.putfield 39, 3) := by decide +kernel
theorem dX10_addNode_15 : decode cX10_addNode 15 = .ok (.aconst_null, 1) := by decide +kernel
theorem dX10_addNode_16 : decode cX10_addNode 16 = .ok (.areturn, 1) := by decide +kernel
theorem dX10_addNode_17 : decode cX10_addNode 17 = .ok (.aload_n 0, 1) := by decide +kernel
theorem dX10_addNode_18 : decode cX10_addNode 18 = .ok (.getfield 11, 3) := by decide +kernel
theorem dX10_addNode_21 : decode cX10_addNode 21 = .ok (.aload_n 0, 1) := by decide +kernel
theorem dX10_addNode_22 : decode cX10_addNode 22 = .ok (.getfield 36, 3) := by decide +kernel
theorem dX10_addNode_25 : decode cX10_addNode 25 = .ok (.aaload, 1) := by decide +kernel
theorem dX10_addNode_26 : decode cX10_addNode 26 = .ok (.ifnonnull 23, 3) := by decide +kernel
theorem dX10_addNode_29 : decode cX10_addNode 29 = .ok (.aload_n 0, 1) := by decide +kernel
theorem dX10_addNode_30 : decode cX10_addNode 30 = .ok (.getfield 11, 3) := by decide +kernel
theorem dX10_addNode_33 : decode cX10_addNode 33 = .ok (.aload_n 0, 1) := by decide +kernel
theorem dX10_addNode_34 : decode cX10_addNode 34 = .ok (.getfield 36, 3) := by decide +kernel
theorem dX10_addNode_37 : decode cX10_addNode 37 = .ok (.new 9, 3) := by decide +kernel
theorem dX10_addNode_40 : decode cX10_addNode 40 = .ok (.dup, 1) := by decide +kernel
theorem dX10_addNode_41 : decode cX10_addNode 41 = .ok (.aload_n 0, 1) := by decide +kernel
theorem dX10_addNode_42 : decode cX10_addNode 42 = .ok (.getfield 36, 3) := by decide +kernel
theorem dX10_addNode_45 : decode cX10_addNode 45 = .ok (.invokespecial 106, 3) := by decide +kernel
theorem dX10_addNode_48 : decode cX10_addNode 48 = .ok (.aastore, 1) := by decide +kernel
theorem dX10_addNode_49 : decode cX10_addNode 49 = .ok (.aload_n 0, 1) := by decide +kernel
theorem dX10_addNode_50 : decode cX10_addNode 50 = .ok (.getfield 11, 3) := by decide +kernel
theorem dX10_addNode_53 : decode cX10_addNode 53 = .ok (.aload_n 0, 1) := by decide +kernel
theorem dX10_addNode_54 : decode cX10_addNode 54 = .ok (.getfield 36, 3) := by decide +kernel
theorem dX10_addNode_57 : decode cX10_addNode 57 = .ok (.aaload, 1) := by decide +kernel
theorem dX10_addNode_58 : decode cX10_addNode 58 = .ok (.astore 7, 2) := by decide +kernel
theorem dX10_addNode_60 : decode cX10_addNode 60 = .ok (.aload_n 0, 1) := by decide +kernel
theorem dX10_addNode_61 : decode cX10_addNode 61 = .ok (.dup, 1) := by decide +kernel
theorem dX10_addNode_62 : decode cX10_addNode 62 = .ok (.getfield 36, 3) := by decide +kernel
theorem dX10_addNode_65 : decode cX10_addNode 65 = .ok (.iconst 1, 1) := by decide +kernel
theorem dX10_addNode_66 : decode cX10_addNode 66 = .ok (.iadd, 1) := by decide +kernel
theorem dX10_addNode_67 : decode cX10_addNode 67 = .ok (.putfield 36, 3) := by decide +kernel
theorem dX10_addNode_70 : decode cX10_addNode 70 = .ok (.aload 7, 2) := by decide +kernel
theorem dX10_addNode_72 : decode cX10_addNode 72 = .ok (.aload_n 1, 1) := by decide +kernel
theorem dX10_addNode_73 : decode cX10_addNode 73 = .ok (.iload_n 2, 1) := by decide +kernel
theorem dX10_addNode_74 : decode cX10_addNode 74 = .ok (.iload_n 3, 1) := by decide +kernel
theorem dX10_addNode_75 : decode cX10_addNode 75 = .ok (.lload 4, 2) := by decide +kernel
theorem dX10_addNode_77 : decode cX10_addNode 77 = .ok (.aload 6, 2) := by decide +kernel
theorem dX10_addNode_79 : decode cX10_addNode 79 = .ok (.invokevirtual 109, 3) := by decide +kernel
theorem dX10_addNode_82 : decode cX10_addNode 82 = .ok (.aload_n 1, 1) := by decide +kernel
theorem dX10_addNode_83 : decode cX10_addNode 83 = .ok (.ifnull 9, 3) := by decide +kernel
theorem dX10_addNode_86 : decode cX10_addNode 86 = .ok (.aload_n 1, 1) := by decide +kernel
theorem dX10_addNode_87 : decode cX10_addNode 87 = .ok (.aload 7, 2) := by decide +kernel
theorem dX10_addNode_89 : decode cX10_addNode 89 = .ok (.invokevirtual 113, 3) := by decide +kernel
theorem dX10_addNode_92 : decode cX10_addNode 92 = .ok (.aload 7, 2) := by decide +kernel
theorem dX10_addNode_94 : decode cX10_addNode 94 = .ok (.areturn, 1) := by decide +kernel
theorem dX10_addStruct_0 : decode cX10_addStruct 0 = .ok (.aload_n 0, 1) := by decide +kernel
theorem dX10_addStruct_1 : decode cX10_addStruct 1 = .ok (.aload_n 1, 1) := by decide +kernel
theorem dX10_addStruct_2 : decode cX10_addStruct 2 = .ok (.iconst 0, 1) := by decide +kernel
theorem dX10_addStruct_3 : decode cX10_addStruct 3 = .ok (.iload_n 3, 1) := by decide +kernel
theorem dX10_addStruct_4 : decode cX10_addStruct 4 = .ok (.aload_n 0, 1) := by decide +kernel
theorem dX10_addStruct_5 : decode cX10_addStruct 5 = .ok (.getfield 28, 3) := by decide +kernel
theorem dX10_addStruct_8 : decode cX10_addStruct 8 = .ok (.getfield 117, 3) := by decide +kernel
theorem dX10_addStruct_11 : decode cX10_addStruct 11 = .ok (.iload_n 2, 1) := by decide +kernel
theorem dX10_addStruct_12 : decode cX10_addStruct 12 = .ok (.aaload, 1) := by decide +kernel
theorem dX10_addStruct_13 : decode cX10_addStruct 13 = .ok (.getfield 123, 3) := by decide +kernel
theorem dX10_addStruct_16 : decode cX10_addStruct 16 = .ok (.aconst_null, 1) := by decide +kernel
theorem dX10_addStruct_17 : decode cX10_addStruct 17 = .ok (.invokevirtual 129, 3) := by decide +kernel
theorem dX10_addStruct_20 : decode cX10_addStruct 20 = .ok (.astore 5, 2) := by decide +kernel
theorem dX10_addStruct_22 : decode cX10_addStruct 22 = .ok (.aload 5, 2) := by decide +kernel
theorem dX10_addStruct_24 : decode cX10_addStruct 24 = .ok (.ifnonnull 5, 3) := by decide +kernel
theorem dX10_addStruct_27 : decode cX10_addStruct 27 = .ok (.iload_n 3, 1) := by decide +kernel
theorem dX10_addStruct_28 : decode cX10_addStruct 28 = .ok (.ireturn, 1) := by decide +kernel
theorem dX10_addStruct_29 : decode cX10_addStruct 29 = .ok (.aload_n 0, 1) := by decide +kernel
theorem dX10_addStruct_30 : decode cX10_addStruct 30 = .ok (.aload 5, 2) := by decide +kernel
theorem dX10_addStruct_32 : decode cX10_addStruct 32 = .ok (.iload_n 2, 1) := by decide +kernel
theorem dX10_addStruct_33 : decode cX10_addStruct 33 = .ok (.iload 4, 2) := by decide +kernel
theorem dX10_addStruct_35 : decode cX10_addStruct 35 = .ok (.invokevirtual 133, 3) := by decide +kernel
theorem dX10_addStruct_38 : decode cX10_addStruct 38 = .ok (.aload 5, 2) := by decide +kernel
theorem dX10_addStruct_40 : decode cX10_addStruct 40 = .ok (.getfield 70, 3) := by decide +kernel
theorem dX10_addStruct_43 : decode cX10_addStruct 43 = .ok (.ireturn, 1) := by decide +kernel
theorem dX10_amount_0 : decode cX10_amount 0 = .ok (.aload_n 0, 1) := by decide +kernel
theorem dX10_amount_1 : decode cX10_amount 1 = .ok (.getfield 32, 3) := by decide +kernel
theorem dX10_amount_4 : decode cX10_amount 4 = .ok (.aload_n 0, 1) := by decide +kernel
theorem dX10_amount_5 : decode cX10_amount 5 = .ok (.getfield 28, 3) := by decide +kernel
theorem dX10_amount_8 : decode cX10_amount 8 = .ok (.getfield 156, 3) := by decide +kernel
theorem dX10_amount_11 : decode cX10_amount 11 = .ok (.aload_n 2, 1) := by decide +kernel
theorem dX10_amount_12 : decode cX10_amount 12 = .ok (.getfield 184, 3) := by decide +kernel
theorem dX10_amount_15 : decode cX10_amount 15 = .ok (.aload_n 1, 1) := by decide +kernel
theorem dX10_amount_16 : decode cX10_amount 16 = .ok (.getfield 82, 3) := by decide +kernel
theorem dX10_amount_19 : decode cX10_amount 19 = .ok (.aload_n 1, 1) := by decide +kernel
theorem dX10_amount_20 : decode cX10_amount 20 = .ok (.getfield 67, 3) := by decide +kernel
theorem dX10_amount_23 : decode cX10_amount 23 = .ok (.aload_n 0, 1) := by decide +kernel
theorem dX10_amount_24 : decode cX10_amount 24 = .ok (.getfield 17, 3) := by decide +kernel
theorem dX10_amount_27 : decode cX10_amount 27 = .ok (.invokevirtual 160, 3) := by decide +kernel
theorem dX10_amount_30 : decode cX10_amount 30 = .ok (.lstore 4, 2) := by decide +kernel
theorem dX10_amount_32 : decode cX10_amount 32 = .ok (.aload_n 0, 1) := by decide +kernel
theorem dX10_amount_33 : decode cX10_amount 33 = .ok (.getfield 32, 3) := by decide +kernel
theorem dX10_amount_36 : decode cX10_amount 36 = .ok (.getfield 166, 3) := by decide +kernel
theorem dX10_amount_39 : decode cX10_amount 39 = .ok (.ifCond .eq 11, 3) := by decide +kernel
theorem dX10_amount_42 : decode cX10_amount 42 = .ok (.aload_n 1, 1) := by decide +kernel
theorem dX10_amount_43 : decode cX10_amount 43 = .ok (.bipush 6, 2) := by decide +kernel
theorem dX10_amount_45 : decode cX10_amount 45 = .ok (.putfield 47, 3) := by decide +kernel
theorem dX10_amount_48 : decode cX10_amount 48 = .ok (.iconst (-1), 1) := by decide +kernel
theorem dX10_amount_49 : decode cX10_amount 49 = .ok (.ireturn, 1) := by decide +kernel
theorem dX10_amount_50 : decode cX10_amount 50 = .ok (.lload 4, 2) := by decide +kernel
theorem dX10_amount_52 : decode cX10_amount 52 = .ok (.lconst 0, 1) := by decide +kernel
theorem dX10_amount_53 : decode cX10_amount 53 = .ok (.lcmp, 1) := by decide +kernel
theorem dX10_amount_54 : decode cX10_amount 54 = .ok (.ifCond .lt 11, 3) := by decide +kernel
theorem dX10_amount_57 : decode cX10_amount 57 = .ok (.lload 4, 2) := by decide +kernel
theorem dX10_amount_59 : decode cX10_amount 59 = .ok (.iload_n 3, 1) := by decide +kernel
theorem dX10_amount_60 : decode cX10_amount 60 = .ok (.i2l, 1) := by decide +kernel
theorem dX10_amount_61 : decode cX10_amount 61 = .ok (.lcmp, 1) := by decide +kernel
theorem dX10_amount_62 : decode cX10_amount 62 = .ok (.ifCond .le 10, 3) := by decide +kernel
theorem dX10_amount_65 : decode cX10_amount 65 = .ok (.aload_n 1, 1) := by decide +kernel
theorem dX10_amount_66 : decode cX10_amount 66 = .ok (.iconst 5, 1) := by decide +kernel
theorem dX10_amount_67 : decode cX10_amount 67 = .ok (.putfield 47, 3) := by decide +kernel
theorem dX10_amount_70 : decode cX10_amount 70 = .ok (.iconst (-1), 1) := by decide +kernel
theorem dX10_amount_71 : decode cX10_amount 71 = .ok (.ireturn, 1) := by decide +kernel
theorem dX10_amount_72 : decode cX10_amount 72 = .ok (.lload 4, 2) := by decide +kernel
theorem dX10_amount_74 : decode cX10_amount 74 = .ok (.l2i, 1) := by decide +kernel
theorem dX10_amount_75 : decode cX10_amount 75 = .ok (.ireturn, 1) := by decide +kernel
theorem dX10_cover_0 : decode cX10_cover 0 = .ok (.iload_n 2, 1) := by decide +kernel
theorem dX10_cover_1 : decode cX10_cover 1 = .ok (.aload_n 0, 1) := by decide +kernel
theorem dX10_cover_2 : decode cX10_cover 2 = .ok (.getfield 17, 3) := by decide +kernel
theorem dX10_cover_5 : decode cX10_cover 5 = .ok (.getfield 73, 3) := by decide +kernel
theorem dX10_cover_8 : decode cX10_cover 8 = .ok (.aload_n 1, 1) := by decide +kernel
theorem dX10_cover_9 : decode cX10_cover 9 = .ok (.getfield 67, 3) := by decide +kernel
theorem dX10_cover_12 : decode cX10_cover 12 = .ok (.isub, 1) := by decide +kernel
theorem dX10_cover_13 : decode cX10_cover 13 = .ok (.if_icmp .le 10, 3) := by decide +kernel
theorem dX10_cover_16 : decode cX10_cover 16 = .ok (.aload_n 1, 1) := by decide +kernel
theorem dX10_cover_17 : decode cX10_cover 17 = .ok (.iconst 1, 1) := by decide +kernel
theorem dX10_cover_18 : decode cX10_cover 18 = .ok (.putfield 47, 3) := by decide +kernel
theorem dX10_cover_21 : decode cX10_cover 21 = .ok (.iconst 0, 1) := by decide +kernel
theorem dX10_cover_22 : decode cX10_cover 22 = .ok (.ireturn, 1) := by decide +kernel
theorem dX10_cover_23 : decode cX10_cover 23 = .ok (.aload_n 1, 1) := by decide +kernel
theorem dX10_cover_24 : decode cX10_cover 24 = .ok (.aload_n 1, 1) := by decide +kernel
theorem dX10_cover_25 : decode cX10_cover 25 = .ok (.getfield 67, 3) := by decide +kernel
theorem dX10_cover_28 : decode cX10_cover 28 = .ok (.iload_n 2, 1) := by decide +kernel
theorem dX10_cover_29 : decode cX10_cover 29 = .ok (.iadd, 1) := by decide +kernel
theorem dX10_cover_30 : decode cX10_cover 30 = .ok (.putfield 70, 3) := by decide +kernel
theorem dX10_cover_33 : decode cX10_cover 33 = .ok (.iconst 1, 1) := by decide +kernel
theorem dX10_cover_34 : decode cX10_cover 34 = .ok (.ireturn, 1) := by decide +kernel
theorem dX10_deepestOver_0 : decode cX10_deepestOver 0 = .ok (.iconst (-1), 1) := by decide +kernel
theorem dX10_deepestOver_1 : decode cX10_deepestOver 1 = .ok (.istore_n 2, 1) := by decide +kernel
theorem dX10_deepestOver_2 : decode cX10_deepestOver 2 = .ok (.iconst 0, 1) := by decide +kernel
theorem dX10_deepestOver_3 : decode cX10_deepestOver 3 = .ok (.istore_n 3, 1) := by decide +kernel
theorem dX10_deepestOver_4 : decode cX10_deepestOver 4 = .ok (.iload_n 3, 1) := by decide +kernel
theorem dX10_deepestOver_5 : decode cX10_deepestOver 5 = .ok (.aload_n 0, 1) := by decide +kernel
theorem dX10_deepestOver_6 : decode cX10_deepestOver 6 = .ok (.getfield 36, 3) := by decide +kernel
theorem dX10_deepestOver_9 : decode cX10_deepestOver 9 = .ok (.if_icmp .ge 50, 3) := by decide +kernel
theorem dX10_deepestOver_12 : decode cX10_deepestOver 12 = .ok (.aload_n 0, 1) := by decide +kernel
theorem dX10_deepestOver_13 : decode cX10_deepestOver 13 = .ok (.getfield 11, 3) := by decide +kernel
theorem dX10_deepestOver_16 : decode cX10_deepestOver 16 = .ok (.iload_n 3, 1) := by decide +kernel
theorem dX10_deepestOver_17 : decode cX10_deepestOver 17 = .ok (.aaload, 1) := by decide +kernel
theorem dX10_deepestOver_18 : decode cX10_deepestOver 18 = .ok (.iload_n 1, 1) := by decide +kernel
theorem dX10_deepestOver_19 : decode cX10_deepestOver 19 = .ok (.invokevirtual 50, 3) := by decide +kernel
theorem dX10_deepestOver_22 : decode cX10_deepestOver 22 = .ok (.ifCond .eq 31, 3) := by decide +kernel
theorem dX10_deepestOver_25 : decode cX10_deepestOver 25 = .ok (.iload_n 2, 1) := by decide +kernel
theorem dX10_deepestOver_26 : decode cX10_deepestOver 26 = .ok (.iconst (-1), 1) := by decide +kernel
theorem dX10_deepestOver_27 : decode cX10_deepestOver 27 = .ok (.if_icmp .eq 24, 3) := by decide +kernel
theorem dX10_deepestOver_30 : decode cX10_deepestOver 30 = .ok (.aload_n 0, 1) := by decide +kernel
theorem dX10_deepestOver_31 : decode cX10_deepestOver 31 = .ok (.getfield 11, 3) := by decide +kernel
theorem dX10_deepestOver_34 : decode cX10_deepestOver 34 = .ok (.iload_n 3, 1) := by decide +kernel
theorem dX10_deepestOver_35 : decode cX10_deepestOver 35 = .ok (.aaload, 1) := by decide +kernel
theorem dX10_deepestOver_36 : decode cX10_deepestOver 36 = .ok (.getfield 54, 3) := by decide +kernel
theorem dX10_deepestOver_39 : decode cX10_deepestOver 39 = .ok (.aload_n 0, 1) := by decide +kernel
theorem dX10_deepestOver_40 : decode cX10_deepestOver 40 = .ok (.getfield 11, 3) := by decide +kernel
theorem dX10_deepestOver_43 : decode cX10_deepestOver 43 = .ok (.iload_n 2, 1) := by decide +kernel
theorem dX10_deepestOver_44 : decode cX10_deepestOver 44 = .ok (.aaload, 1) := by decide +kernel
theorem dX10_deepestOver_45 : decode cX10_deepestOver 45 = .ok (.getfield 54, 3) := by decide +kernel
theorem dX10_deepestOver_48 : decode cX10_deepestOver 48 = .ok (.if_icmp .le 5, 3) := by decide +kernel
theorem dX10_deepestOver_51 : decode cX10_deepestOver 51 = .ok (.iload_n 3, 1) := by decide +kernel
theorem dX10_deepestOver_52 : decode cX10_deepestOver 52 = .ok (.istore_n 2, 1) := by decide +kernel
theorem dX10_deepestOver_53 : decode cX10_deepestOver 53 = .ok (.iinc 3 1, 3) := by decide +kernel
theorem dX10_deepestOver_56 : decode cX10_deepestOver 56 = .ok (.goto (-52), 3) := by decide +kernel
theorem dX10_deepestOver_59 : decode cX10_deepestOver 59 = .ok (.iload_n 2, 1) := by decide +kernel
theorem dX10_deepestOver_60 : decode cX10_deepestOver 60 = .ok (.ireturn, 1) := by decide +kernel
theorem dX10_due_0 : decode cX10_due 0 = .ok (.lconst 0, 1) := by decide +kernel
theorem dX10_due_1 : decode cX10_due 1 = .ok (.lstore_n 2, 1) := by decide +kernel
theorem dX10_due_2 : decode cX10_due 2 = .ok (.aload_n 1, 1) := by decide +kernel
theorem dX10_due_3 : decode cX10_due 3 = .ok (.getfield 78, 3) := by decide +kernel
theorem dX10_due_6 : decode cX10_due 6 = .ok (.getfield 269, 3) := by decide +kernel
theorem dX10_due_9 : decode cX10_due 9 = .ok (.l2i, 1) := by decide +kernel
theorem dX10_due_10 : decode cX10_due 10 = .ok (.istore 4, 2) := by decide +kernel
theorem dX10_due_12 : decode cX10_due 12 = .ok (.aload_n 0, 1) := by decide +kernel
theorem dX10_due_13 : decode cX10_due 13 = .ok (.getfield 299, 3) := by decide +kernel
theorem dX10_due_16 : decode cX10_due 16 = .ok (.istore 5, 2) := by decide +kernel
theorem dX10_due_18 : decode cX10_due 18 = .ok (.iload 5, 2) := by decide +kernel
theorem dX10_due_20 : decode cX10_due 20 = .ok (.aload_n 0, 1) := by decide +kernel
theorem dX10_due_21 : decode cX10_due 21 = .ok (.getfield 302, 3) := by decide +kernel
theorem dX10_due_24 : decode cX10_due 24 = .ok (.if_icmp .ge 71, 3) := by decide +kernel
theorem dX10_due_27 : decode cX10_due 27 = .ok (.aload_n 1, 1) := by decide +kernel
theorem dX10_due_28 : decode cX10_due 28 = .ok (.iload 5, 2) := by decide +kernel
theorem dX10_due_30 : decode cX10_due 30 = .ok (.invokevirtual 50, 3) := by decide +kernel
theorem dX10_due_33 : decode cX10_due 33 = .ok (.ifCond .ne 56, 3) := by decide +kernel
theorem dX10_due_36 : decode cX10_due 36 = .ok (.aload_n 0, 1) := by decide +kernel
theorem dX10_due_37 : decode cX10_due 37 = .ok (.getfield 17, 3) := by decide +kernel
theorem dX10_due_40 : decode cX10_due 40 = .ok (.iload 5, 2) := by decide +kernel
theorem dX10_due_42 : decode cX10_due 42 = .ok (.invokevirtual 289, 3) := by decide +kernel
theorem dX10_due_45 : decode cX10_due 45 = .ok (.istore 6, 2) := by decide +kernel
theorem dX10_due_47 : decode cX10_due 47 = .ok (.iload 4, 2) := by decide +kernel
theorem dX10_due_49 : decode cX10_due 49 = .ok (.sipush 218, 3) := by decide +kernel
theorem dX10_due_52 : decode cX10_due 52 = .ok (.if_icmp .ne 11, 3) := by decide +kernel
theorem dX10_due_55 : decode cX10_due 55 = .ok (.lload_n 2, 1) := by decide +kernel
theorem dX10_due_56 : decode cX10_due 56 = .ok (.iload 6, 2) := by decide +kernel
theorem dX10_due_58 : decode cX10_due 58 = .ok (.i2l, 1) := by decide +kernel
theorem dX10_due_59 : decode cX10_due 59 = .ok (.lxor, 1) := by decide +kernel
theorem dX10_due_60 : decode cX10_due 60 = .ok (.goto 28, 3) := by decide +kernel
theorem dX10_due_63 : decode cX10_due 63 = .ok (.iload 4, 2) := by decide +kernel
theorem dX10_due_65 : decode cX10_due 65 = .ok (.sipush 220, 3) := by decide +kernel
theorem dX10_due_68 : decode cX10_due 68 = .ok (.if_icmp .ne 15, 3) := by decide +kernel
theorem dX10_due_71 : decode cX10_due 71 = .ok (.lload_n 2, 1) := by decide +kernel
theorem dX10_due_72 : decode cX10_due 72 = .ok (.ldc2_w 305, 3) := by decide +kernel
theorem dX10_due_75 : decode cX10_due 75 = .ok (.lmul, 1) := by decide +kernel
theorem dX10_due_76 : decode cX10_due 76 = .ok (.iload 6, 2) := by decide +kernel
theorem dX10_due_78 : decode cX10_due 78 = .ok (.i2l, 1) := by decide +kernel
theorem dX10_due_79 : decode cX10_due 79 = .ok (.ladd, 1) := by decide +kernel
theorem dX10_due_80 : decode cX10_due 80 = .ok (.goto 8, 3) := by decide +kernel
theorem dX10_due_83 : decode cX10_due 83 = .ok (.lload_n 2, 1) := by decide +kernel
theorem dX10_due_84 : decode cX10_due 84 = .ok (.iload 6, 2) := by decide +kernel
theorem dX10_due_86 : decode cX10_due 86 = .ok (.i2l, 1) := by decide +kernel
theorem dX10_due_87 : decode cX10_due 87 = .ok (.ladd, 1) := by decide +kernel
theorem dX10_due_88 : decode cX10_due 88 = .ok (.lstore_n 2, 1) := by decide +kernel
theorem dX10_due_89 : decode cX10_due 89 = .ok (.iinc 5 1, 3) := by decide +kernel
theorem dX10_due_92 : decode cX10_due 92 = .ok (.goto (-74), 3) := by decide +kernel
theorem dX10_due_95 : decode cX10_due 95 = .ok (.iload 4, 2) := by decide +kernel
theorem dX10_due_97 : decode cX10_due 97 = .ok (.sipush 219, 3) := by decide +kernel
theorem dX10_due_100 : decode cX10_due 100 = .ok (.if_icmp .ne 11, 3) := by decide +kernel
theorem dX10_due_103 : decode cX10_due 103 = .ok (.ldc2_w 287, 3) := by decide +kernel
theorem dX10_due_106 : decode cX10_due 106 = .ok (.lload_n 2, 1) := by decide +kernel
theorem dX10_due_107 : decode cX10_due 107 = .ok (.lsub, 1) := by decide +kernel
theorem dX10_due_108 : decode cX10_due 108 = .ok (.goto 4, 3) := by decide +kernel
theorem dX10_due_111 : decode cX10_due 111 = .ok (.lload_n 2, 1) := by decide +kernel
theorem dX10_due_112 : decode cX10_due 112 = .ok (.lreturn, 1) := by decide +kernel
theorem dX10_faultCount_0 : decode cX10_faultCount 0 = .ok (.iconst 0, 1) := by decide +kernel
theorem dX10_faultCount_1 : decode cX10_faultCount 1 = .ok (.istore_n 1, 1) := by decide +kernel
theorem dX10_faultCount_2 : decode cX10_faultCount 2 = .ok (.iconst 0, 1) := by decide +kernel
theorem dX10_faultCount_3 : decode cX10_faultCount 3 = .ok (.istore_n 2, 1) := by decide +kernel
theorem dX10_faultCount_4 : decode cX10_faultCount 4 = .ok (.iload_n 2, 1) := by decide +kernel
theorem dX10_faultCount_5 : decode cX10_faultCount 5 = .ok (.aload_n 0, 1) := by decide +kernel
theorem dX10_faultCount_6 : decode cX10_faultCount 6 = .ok (.getfield 36, 3) := by decide +kernel
theorem dX10_faultCount_9 : decode cX10_faultCount 9 = .ok (.if_icmp .ge 29, 3) := by decide +kernel
theorem dX10_faultCount_12 : decode cX10_faultCount 12 = .ok (.iload_n 1, 1) := by decide +kernel
theorem dX10_faultCount_13 : decode cX10_faultCount 13 = .ok (.aload_n 0, 1) := by decide +kernel
theorem dX10_faultCount_14 : decode cX10_faultCount 14 = .ok (.getfield 11, 3) := by decide +kernel
theorem dX10_faultCount_17 : decode cX10_faultCount 17 = .ok (.iload_n 2, 1) := by decide +kernel
theorem dX10_faultCount_18 : decode cX10_faultCount 18 = .ok (.aaload, 1) := by decide +kernel
theorem dX10_faultCount_19 : decode cX10_faultCount 19 = .ok (.getfield 47, 3) := by decide +kernel
theorem dX10_faultCount_22 : decode cX10_faultCount 22 = .ok (.ifCond .ne 7, 3) := by decide +kernel
theorem dX10_faultCount_25 : decode cX10_faultCount 25 = .ok (.iconst 0, 1) := by decide +kernel
theorem dX10_faultCount_26 : decode cX10_faultCount 26 = .ok (.goto 4, 3) := by decide +kernel
theorem dX10_faultCount_29 : decode cX10_faultCount 29 = .ok (.iconst 1, 1) := by decide +kernel
theorem dX10_faultCount_30 : decode cX10_faultCount 30 = .ok (.iadd, 1) := by decide +kernel
theorem dX10_faultCount_31 : decode cX10_faultCount 31 = .ok (.istore_n 1, 1) := by decide +kernel
theorem dX10_faultCount_32 : decode cX10_faultCount 32 = .ok (.iinc 2 1, 3) := by decide +kernel
theorem dX10_faultCount_35 : decode cX10_faultCount 35 = .ok (.goto (-31), 3) := by decide +kernel
theorem dX10_faultCount_38 : decode cX10_faultCount 38 = .ok (.iload_n 1, 1) := by decide +kernel
theorem dX10_faultCount_39 : decode cX10_faultCount 39 = .ok (.ireturn, 1) := by decide +kernel
theorem dX10_fillingAmount_0 : decode cX10_fillingAmount 0 = .ok (.aload_n 2, 1) := by decide +kernel
theorem dX10_fillingAmount_1 : decode cX10_fillingAmount 1 = .ok (.getfield 173, 3) := by decide +kernel
theorem dX10_fillingAmount_4 : decode cX10_fillingAmount 4 = .ok (.iconst (-1), 1) := by decide +kernel
theorem dX10_fillingAmount_5 : decode cX10_fillingAmount 5 = .ok (.if_icmp .ne 10, 3) := by decide +kernel
theorem dX10_fillingAmount_8 : decode cX10_fillingAmount 8 = .ok (.aload_n 2, 1) := by decide +kernel
theorem dX10_fillingAmount_9 : decode cX10_fillingAmount 9 = .ok (.getfield 90, 3) := by decide +kernel
theorem dX10_fillingAmount_12 : decode cX10_fillingAmount 12 = .ok (.goto 14, 3) := by decide +kernel
theorem dX10_fillingAmount_15 : decode cX10_fillingAmount 15 = .ok (.aload_n 0, 1) := by decide +kernel
theorem dX10_fillingAmount_16 : decode cX10_fillingAmount 16 = .ok (.getfield 28, 3) := by decide +kernel
theorem dX10_fillingAmount_19 : decode cX10_fillingAmount 19 = .ok (.aload_n 2, 1) := by decide +kernel
theorem dX10_fillingAmount_20 : decode cX10_fillingAmount 20 = .ok (.getfield 173, 3) := by decide +kernel
theorem dX10_fillingAmount_23 : decode cX10_fillingAmount 23 = .ok (.invokevirtual 225, 3) := by decide +kernel
theorem dX10_fillingAmount_26 : decode cX10_fillingAmount 26 = .ok (.istore_n 3, 1) := by decide +kernel
theorem dX10_fillingAmount_27 : decode cX10_fillingAmount 27 = .ok (.iload_n 3, 1) := by decide +kernel
theorem dX10_fillingAmount_28 : decode cX10_fillingAmount 28 = .ok (.ifCond .gt 7, 3) := by decide +kernel
theorem dX10_fillingAmount_31 : decode cX10_fillingAmount 31 = .ok (.iconst 0, 1) := by decide +kernel
theorem dX10_fillingAmount_32 : decode cX10_fillingAmount 32 = .ok (.goto 23, 3) := by decide +kernel
theorem dX10_fillingAmount_35 : decode cX10_fillingAmount 35 = .ok (.sipush 200, 3) := by decide +kernel
theorem dX10_fillingAmount_38 : decode cX10_fillingAmount 38 = .ok (.aload_n 0, 1) := by decide +kernel
theorem dX10_fillingAmount_39 : decode cX10_fillingAmount 39 = .ok (.getfield 17, 3) := by decide +kernel
theorem dX10_fillingAmount_42 : decode cX10_fillingAmount 42 = .ok (.getfield 73, 3) := by decide +kernel
theorem dX10_fillingAmount_45 : decode cX10_fillingAmount 45 = .ok (.aload_n 1, 1) := by decide +kernel
theorem dX10_fillingAmount_46 : decode cX10_fillingAmount 46 = .ok (.getfield 67, 3) := by decide +kernel
theorem dX10_fillingAmount_49 : decode cX10_fillingAmount 49 = .ok (.isub, 1) := by decide +kernel
theorem dX10_fillingAmount_50 : decode cX10_fillingAmount 50 = .ok (.iload_n 3, 1) := by decide +kernel
theorem dX10_fillingAmount_51 : decode cX10_fillingAmount 51 = .ok (.idiv, 1) := by decide +kernel
theorem dX10_fillingAmount_52 : decode cX10_fillingAmount 52 = .ok (.invokestatic 229, 3) := by decide +kernel
theorem dX10_fillingAmount_55 : decode cX10_fillingAmount 55 = .ok (.ireturn, 1) := by decide +kernel
theorem dX10_firstFault_0 : decode cX10_firstFault 0 = .ok (.iconst 0, 1) := by decide +kernel
theorem dX10_firstFault_1 : decode cX10_firstFault 1 = .ok (.istore_n 1, 1) := by decide +kernel
theorem dX10_firstFault_2 : decode cX10_firstFault 2 = .ok (.iload_n 1, 1) := by decide +kernel
theorem dX10_firstFault_3 : decode cX10_firstFault 3 = .ok (.aload_n 0, 1) := by decide +kernel
theorem dX10_firstFault_4 : decode cX10_firstFault 4 = .ok (.getfield 36, 3) := by decide +kernel
theorem dX10_firstFault_7 : decode cX10_firstFault 7 = .ok (.if_icmp .ge 23, 3) := by decide +kernel
theorem dX10_firstFault_10 : decode cX10_firstFault 10 = .ok (.aload_n 0, 1) := by decide +kernel
theorem dX10_firstFault_11 : decode cX10_firstFault 11 = .ok (.getfield 11, 3) := by decide +kernel
theorem dX10_firstFault_14 : decode cX10_firstFault 14 = .ok (.iload_n 1, 1) := by decide +kernel
theorem dX10_firstFault_15 : decode cX10_firstFault 15 = .ok (.aaload, 1) := by decide +kernel
theorem dX10_firstFault_16 : decode cX10_firstFault 16 = .ok (.getfield 47, 3) := by decide +kernel
theorem dX10_firstFault_19 : decode cX10_firstFault 19 = .ok (.ifCond .eq 5, 3) := by decide +kernel
theorem dX10_firstFault_22 : decode cX10_firstFault 22 = .ok (.iload_n 1, 1) := by decide +kernel
theorem dX10_firstFault_23 : decode cX10_firstFault 23 = .ok (.ireturn, 1) := by decide +kernel
theorem dX10_firstFault_24 : decode cX10_firstFault 24 = .ok (.iinc 1 1, 3) := by decide +kernel
theorem dX10_firstFault_27 : decode cX10_firstFault 27 = .ok (.goto (-25), 3) := by decide +kernel
theorem dX10_firstFault_30 : decode cX10_firstFault 30 = .ok (.iconst (-1), 1) := by decide +kernel
theorem dX10_firstFault_31 : decode cX10_firstFault 31 = .ok (.ireturn, 1) := by decide +kernel
theorem dX10_init_0 : decode cX10_init 0 = .ok (.aload_n 0, 1) := by decide +kernel
theorem dX10_init_1 : decode cX10_init 1 = .ok (.invokespecial 3, 3) := by decide +kernel
theorem dX10_init_4 : decode cX10_init 4 = .ok (.aload_n 0, 1) := by decide +kernel
theorem dX10_init_5 : decode cX10_init 5 = .ok (.sipush 400, 3) := by decide +kernel
theorem dX10_init_8 : decode cX10_init 8 = .ok (.anewarray 9, 3) := by decide +kernel
theorem dX10_init_11 : decode cX10_init 11 = .ok (.putfield 11, 3) := by decide +kernel
theorem dX10_init_14 : decode cX10_init 14 = .ok (.return_, 1) := by decide +kernel
theorem dX10_isAbove_0 : decode cX10_isAbove 0 = .ok (.aload_n 0, 1) := by decide +kernel
theorem dX10_isAbove_1 : decode cX10_isAbove 1 = .ok (.getfield 82, 3) := by decide +kernel
theorem dX10_isAbove_4 : decode cX10_isAbove 4 = .ok (.astore_n 3, 1) := by decide +kernel
theorem dX10_isAbove_5 : decode cX10_isAbove 5 = .ok (.aload_n 3, 1) := by decide +kernel
theorem dX10_isAbove_6 : decode cX10_isAbove 6 = .ok (.ifnull 36, 3) := by decide +kernel
theorem dX10_isAbove_9 : decode cX10_isAbove 9 = .ok (.aload_n 3, 1) := by decide +kernel
theorem dX10_isAbove_10 : decode cX10_isAbove 10 = .ok (.getfield 286, 3) := by decide +kernel
theorem dX10_isAbove_13 : decode cX10_isAbove 13 = .ok (.ifCond .ne 21, 3) := by decide +kernel
theorem dX10_isAbove_16 : decode cX10_isAbove 16 = .ok (.aload_n 3, 1) := by decide +kernel
theorem dX10_isAbove_17 : decode cX10_isAbove 17 = .ok (.getfield 137, 3) := by decide +kernel
theorem dX10_isAbove_20 : decode cX10_isAbove 20 = .ok (.iload_n 1, 1) := by decide +kernel
theorem dX10_isAbove_21 : decode cX10_isAbove 21 = .ok (.if_icmp .ne 13, 3) := by decide +kernel
theorem dX10_isAbove_24 : decode cX10_isAbove 24 = .ok (.aload_n 3, 1) := by decide +kernel
theorem dX10_isAbove_25 : decode cX10_isAbove 25 = .ok (.getfield 67, 3) := by decide +kernel
theorem dX10_isAbove_28 : decode cX10_isAbove 28 = .ok (.iload_n 2, 1) := by decide +kernel
theorem dX10_isAbove_29 : decode cX10_isAbove 29 = .ok (.if_icmp .ne 5, 3) := by decide +kernel
theorem dX10_isAbove_32 : decode cX10_isAbove 32 = .ok (.iconst 1, 1) := by decide +kernel
theorem dX10_isAbove_33 : decode cX10_isAbove 33 = .ok (.ireturn, 1) := by decide +kernel
theorem dX10_isAbove_34 : decode cX10_isAbove 34 = .ok (.aload_n 3, 1) := by decide +kernel
theorem dX10_isAbove_35 : decode cX10_isAbove 35 = .ok (.getfield 82, 3) := by decide +kernel
theorem dX10_isAbove_38 : decode cX10_isAbove 38 = .ok (.astore_n 3, 1) := by decide +kernel
theorem dX10_isAbove_39 : decode cX10_isAbove 39 = .ok (.goto (-34), 3) := by decide +kernel
theorem dX10_isAbove_42 : decode cX10_isAbove 42 = .ok (.iconst 0, 1) := by decide +kernel
theorem dX10_isAbove_43 : decode cX10_isAbove 43 = .ok (.ireturn, 1) := by decide +kernel
theorem dX10_isThere_0 : decode cX10_isThere 0 = .ok (.aload_n 1, 1) := by decide +kernel
theorem dX10_isThere_1 : decode cX10_isThere 1 = .ok (.getfield 153, 3) := by decide +kernel
theorem dX10_isThere_4 : decode cX10_isThere 4 = .ok (.iconst (-1), 1) := by decide +kernel
theorem dX10_isThere_5 : decode cX10_isThere 5 = .ok (.if_icmp .ne 5, 3) := by decide +kernel
theorem dX10_isThere_8 : decode cX10_isThere 8 = .ok (.iconst 1, 1) := by decide +kernel
theorem dX10_isThere_9 : decode cX10_isThere 9 = .ok (.ireturn, 1) := by decide +kernel
theorem dX10_isThere_10 : decode cX10_isThere 10 = .ok (.aload_n 0, 1) := by decide +kernel
theorem dX10_isThere_11 : decode cX10_isThere 11 = .ok (.getfield 32, 3) := by decide +kernel
theorem dX10_isThere_14 : decode cX10_isThere 14 = .ok (.aload_n 0, 1) := by decide +kernel
theorem dX10_isThere_15 : decode cX10_isThere 15 = .ok (.getfield 28, 3) := by decide +kernel
theorem dX10_isThere_18 : decode cX10_isThere 18 = .ok (.getfield 156, 3) := by decide +kernel
theorem dX10_isThere_21 : decode cX10_isThere 21 = .ok (.aload_n 1, 1) := by decide +kernel
theorem dX10_isThere_22 : decode cX10_isThere 22 = .ok (.getfield 153, 3) := by decide +kernel
theorem dX10_isThere_25 : decode cX10_isThere 25 = .ok (.aload_n 2, 1) := by decide +kernel
theorem dX10_isThere_26 : decode cX10_isThere 26 = .ok (.aload_n 2, 1) := by decide +kernel
theorem dX10_isThere_27 : decode cX10_isThere 27 = .ok (.getfield 70, 3) := by decide +kernel
theorem dX10_isThere_30 : decode cX10_isThere 30 = .ok (.aload_n 0, 1) := by decide +kernel
theorem dX10_isThere_31 : decode cX10_isThere 31 = .ok (.getfield 17, 3) := by decide +kernel
theorem dX10_isThere_34 : decode cX10_isThere 34 = .ok (.invokevirtual 160, 3) := by decide +kernel
theorem dX10_isThere_37 : decode cX10_isThere 37 = .ok (.lstore_n 3, 1) := by decide +kernel
theorem dX10_isThere_38 : decode cX10_isThere 38 = .ok (.aload_n 0, 1) := by decide +kernel
theorem dX10_isThere_39 : decode cX10_isThere 39 = .ok (.getfield 32, 3) := by decide +kernel
theorem dX10_isThere_42 : decode cX10_isThere 42 = .ok (.getfield 166, 3) := by decide +kernel
theorem dX10_isThere_45 : decode cX10_isThere 45 = .ok (.ifCond .eq 16, 3) := by decide +kernel
theorem dX10_isThere_48 : decode cX10_isThere 48 = .ok (.aload_n 2, 1) := by decide +kernel
theorem dX10_isThere_49 : decode cX10_isThere 49 = .ok (.getfield 47, 3) := by decide +kernel
theorem dX10_isThere_52 : decode cX10_isThere 52 = .ok (.ifCond .ne 9, 3) := by decide +kernel
theorem dX10_isThere_55 : decode cX10_isThere 55 = .ok (.aload_n 2, 1) := by decide +kernel
theorem dX10_isThere_56 : decode cX10_isThere 56 = .ok (.bipush 6, 2) := by decide +kernel
theorem dX10_isThere_58 : decode cX10_isThere 58 = .ok (.putfield 47, 3) := by decide +kernel
theorem dX10_isThere_61 : decode cX10_isThere 61 = .ok (.aload_n 0, 1) := by decide +kernel
theorem dX10_isThere_62 : decode cX10_isThere 62 = .ok (.getfield 32, 3) := by decide +kernel
theorem dX10_isThere_65 : decode cX10_isThere 65 = .ok (.getfield 166, 3) := by decide +kernel
theorem dX10_isThere_68 : decode cX10_isThere 68 = .ok (.ifCond .ne 13, 3) := by decide +kernel
theorem dX10_isThere_71 : decode cX10_isThere 71 = .ok (.lload_n 3, 1) := by decide +kernel
theorem dX10_isThere_72 : decode cX10_isThere 72 = .ok (.lconst 0, 1) := by decide +kernel
theorem dX10_isThere_73 : decode cX10_isThere 73 = .ok (.lcmp, 1) := by decide +kernel
theorem dX10_isThere_74 : decode cX10_isThere 74 = .ok (.ifCond .eq 7, 3) := by decide +kernel
theorem dX10_isThere_77 : decode cX10_isThere 77 = .ok (.iconst 1, 1) := by decide +kernel
theorem dX10_isThere_78 : decode cX10_isThere 78 = .ok (.goto 4, 3) := by decide +kernel
theorem dX10_isThere_81 : decode cX10_isThere 81 = .ok (.iconst 0, 1) := by decide +kernel
theorem dX10_isThere_82 : decode cX10_isThere 82 = .ok (.ireturn, 1) := by decide +kernel
theorem dX10_layAll_0 : decode cX10_layAll 0 = .ok (.aload_n 0, 1) := by decide +kernel
theorem dX10_layAll_1 : decode cX10_layAll 1 = .ok (.aload_n 1, 1) := by decide +kernel
theorem dX10_layAll_2 : decode cX10_layAll 2 = .ok (.putfield 17, 3) := by decide +kernel
theorem dX10_layAll_5 : decode cX10_layAll 5 = .ok (.aload_n 0, 1) := by decide +kernel
theorem dX10_layAll_6 : decode cX10_layAll 6 = .ok (.iload_n 2, 1) := by decide +kernel
theorem dX10_layAll_7 : decode cX10_layAll 7 = .ok (.putfield 21, 3) := by decide +kernel
theorem dX10_layAll_10 : decode cX10_layAll 10 = .ok (.aload_n 0, 1) := by decide +kernel
theorem dX10_layAll_11 : decode cX10_layAll 11 = .ok (.iload_n 3, 1) := by decide +kernel
theorem dX10_layAll_12 : decode cX10_layAll 12 = .ok (.putfield 25, 3) := by decide +kernel
theorem dX10_layAll_15 : decode cX10_layAll 15 = .ok (.aload_n 0, 1) := by decide +kernel
theorem dX10_layAll_16 : decode cX10_layAll 16 = .ok (.aload 4, 2) := by decide +kernel
theorem dX10_layAll_18 : decode cX10_layAll 18 = .ok (.putfield 28, 3) := by decide +kernel
theorem dX10_layAll_21 : decode cX10_layAll 21 = .ok (.aload_n 0, 1) := by decide +kernel
theorem dX10_layAll_22 : decode cX10_layAll 22 = .ok (.aload 5, 2) := by decide +kernel
theorem dX10_layAll_24 : decode cX10_layAll 24 = .ok (.putfield 32, 3) := by decide +kernel
theorem dX10_layAll_27 : decode cX10_layAll 27 = .ok (.aload_n 0, 1) := by decide +kernel
theorem dX10_layAll_28 : decode cX10_layAll 28 = .ok (.iconst 0, 1) := by decide +kernel
theorem dX10_layAll_29 : decode cX10_layAll 29 = .ok (.putfield 36, 3) := by decide +kernel
theorem dX10_layAll_32 : decode cX10_layAll 32 = .ok (.aload_n 0, 1) := by decide +kernel
theorem dX10_layAll_33 : decode cX10_layAll 33 = .ok (.iconst 0, 1) := by decide +kernel
theorem dX10_layAll_34 : decode cX10_layAll 34 = .ok (.putfield 39, 3) := by decide +kernel
theorem dX10_layAll_37 : decode cX10_layAll 37 = .ok (.aload_n 0, 1) := by decide +kernel
theorem dX10_layAll_38 : decode cX10_layAll 38 = .ok (.aconst_null, 1) := by decide +kernel
theorem dX10_layAll_39 : decode cX10_layAll 39 = .ok (.iload_n 2, 1) := by decide +kernel
theorem dX10_layAll_40 : decode cX10_layAll 40 = .ok (.iload_n 3, 1) := by decide +kernel
theorem dX10_layAll_41 : decode cX10_layAll 41 = .ok (.iconst 1, 1) := by decide +kernel
theorem dX10_layAll_42 : decode cX10_layAll 42 = .ok (.invokevirtual 43, 3) := by decide +kernel
theorem dX10_layAll_45 : decode cX10_layAll 45 = .ok (.pop, 1) := by decide +kernel
theorem dX10_layAll_46 : decode cX10_layAll 46 = .ok (.return_, 1) := by decide +kernel
theorem dX10_layArray_0 : decode cX10_layArray 0 = .ok (.aload_n 2, 1) := by decide +kernel
theorem dX10_layArray_1 : decode cX10_layArray 1 = .ok (.getfield 184, 3) := by decide +kernel
theorem dX10_layArray_4 : decode cX10_layArray 4 = .ok (.iconst (-1), 1) := by decide +kernel
theorem dX10_layArray_5 : decode cX10_layArray 5 = .ok (.if_icmp .ne 12, 3) := by decide +kernel
theorem dX10_layArray_8 : decode cX10_layArray 8 = .ok (.aload_n 0, 1) := by decide +kernel
theorem dX10_layArray_9 : decode cX10_layArray 9 = .ok (.aload_n 1, 1) := by decide +kernel
theorem dX10_layArray_10 : decode cX10_layArray 10 = .ok (.aload_n 2, 1) := by decide +kernel
theorem dX10_layArray_11 : decode cX10_layArray 11 = .ok (.invokevirtual 235, 3) := by decide +kernel
theorem dX10_layArray_14 : decode cX10_layArray 14 = .ok (.goto 12, 3) := by decide +kernel
theorem dX10_layArray_17 : decode cX10_layArray 17 = .ok (.aload_n 0, 1) := by decide +kernel
theorem dX10_layArray_18 : decode cX10_layArray 18 = .ok (.aload_n 1, 1) := by decide +kernel
theorem dX10_layArray_19 : decode cX10_layArray 19 = .ok (.aload_n 2, 1) := by decide +kernel
theorem dX10_layArray_20 : decode cX10_layArray 20 = .ok (.sipush 200, 3) := by decide +kernel
theorem dX10_layArray_23 : decode cX10_layArray 23 = .ok (.invokevirtual 239, 3) := by decide +kernel
theorem dX10_layArray_26 : decode cX10_layArray 26 = .ok (.istore 4, 2) := by decide +kernel
theorem dX10_layArray_28 : decode cX10_layArray 28 = .ok (.iconst 1, 1) := by decide +kernel
theorem dX10_layArray_29 : decode cX10_layArray 29 = .ok (.istore 5, 2) := by decide +kernel
theorem dX10_layArray_31 : decode cX10_layArray 31 = .ok (.iconst 0, 1) := by decide +kernel
theorem dX10_layArray_32 : decode cX10_layArray 32 = .ok (.istore 6, 2) := by decide +kernel
theorem dX10_layArray_34 : decode cX10_layArray 34 = .ok (.iload 6, 2) := by decide +kernel
theorem dX10_layArray_36 : decode cX10_layArray 36 = .ok (.iload 4, 2) := by decide +kernel
theorem dX10_layArray_38 : decode cX10_layArray 38 = .ok (.if_icmp .ge 112, 3) := by decide +kernel
theorem dX10_layArray_41 : decode cX10_layArray 41 = .ok (.iload 5, 2) := by decide +kernel
theorem dX10_layArray_43 : decode cX10_layArray 43 = .ok (.ifCond .eq 107, 3) := by decide +kernel
theorem dX10_layArray_46 : decode cX10_layArray 46 = .ok (.aload_n 0, 1) := by decide +kernel
theorem dX10_layArray_47 : decode cX10_layArray 47 = .ok (.getfield 39, 3) := by decide +kernel
theorem dX10_layArray_50 : decode cX10_layArray 50 = .ok (.ifCond .ne 100, 3) := by decide +kernel
theorem dX10_layArray_53 : decode cX10_layArray 53 = .ok (.aload_n 2, 1) := by decide +kernel
theorem dX10_layArray_54 : decode cX10_layArray 54 = .ok (.getfield 173, 3) := by decide +kernel
theorem dX10_layArray_57 : decode cX10_layArray 57 = .ok (.iconst (-1), 1) := by decide +kernel
theorem dX10_layArray_58 : decode cX10_layArray 58 = .ok (.if_icmp .eq 26, 3) := by decide +kernel
theorem dX10_layArray_61 : decode cX10_layArray 61 = .ok (.aload_n 1, 1) := by decide +kernel
theorem dX10_layArray_62 : decode cX10_layArray 62 = .ok (.aload_n 0, 1) := by decide +kernel
theorem dX10_layArray_63 : decode cX10_layArray 63 = .ok (.aload_n 1, 1) := by decide +kernel
theorem dX10_layArray_64 : decode cX10_layArray 64 = .ok (.aload_n 2, 1) := by decide +kernel
theorem dX10_layArray_65 : decode cX10_layArray 65 = .ok (.getfield 173, 3) := by decide +kernel
theorem dX10_layArray_68 : decode cX10_layArray 68 = .ok (.aload_n 1, 1) := by decide +kernel
theorem dX10_layArray_69 : decode cX10_layArray 69 = .ok (.getfield 70, 3) := by decide +kernel
theorem dX10_layArray_72 : decode cX10_layArray 72 = .ok (.iload_n 3, 1) := by decide +kernel
theorem dX10_layArray_73 : decode cX10_layArray 73 = .ok (.iconst 1, 1) := by decide +kernel
theorem dX10_layArray_74 : decode cX10_layArray 74 = .ok (.iadd, 1) := by decide +kernel
theorem dX10_layArray_75 : decode cX10_layArray 75 = .ok (.invokevirtual 43, 3) := by decide +kernel
theorem dX10_layArray_78 : decode cX10_layArray 78 = .ok (.putfield 70, 3) := by decide +kernel
theorem dX10_layArray_81 : decode cX10_layArray 81 = .ok (.goto 63, 3) := by decide +kernel
theorem dX10_layArray_84 : decode cX10_layArray 84 = .ok (.aload_n 0, 1) := by decide +kernel
theorem dX10_layArray_85 : decode cX10_layArray 85 = .ok (.aload_n 1, 1) := by decide +kernel
theorem dX10_layArray_86 : decode cX10_layArray 86 = .ok (.iconst 1, 1) := by decide +kernel
theorem dX10_layArray_87 : decode cX10_layArray 87 = .ok (.aload_n 1, 1) := by decide +kernel
theorem dX10_layArray_88 : decode cX10_layArray 88 = .ok (.getfield 70, 3) := by decide +kernel
theorem dX10_layArray_91 : decode cX10_layArray 91 = .ok (.lconst 0, 1) := by decide +kernel
theorem dX10_layArray_92 : decode cX10_layArray 92 = .ok (.aload_n 2, 1) := by decide +kernel
theorem dX10_layArray_93 : decode cX10_layArray 93 = .ok (.invokevirtual 129, 3) := by decide +kernel
theorem dX10_layArray_96 : decode cX10_layArray 96 = .ok (.astore 7, 2) := by decide +kernel
theorem dX10_layArray_98 : decode cX10_layArray 98 = .ok (.aload 7, 2) := by decide +kernel
theorem dX10_layArray_100 : decode cX10_layArray 100 = .ok (.ifnull 20, 3) := by decide +kernel
theorem dX10_layArray_103 : decode cX10_layArray 103 = .ok (.aload_n 0, 1) := by decide +kernel
theorem dX10_layArray_104 : decode cX10_layArray 104 = .ok (.aload 7, 2) := by decide +kernel
theorem dX10_layArray_106 : decode cX10_layArray 106 = .ok (.aload_n 2, 1) := by decide +kernel
theorem dX10_layArray_107 : decode cX10_layArray 107 = .ok (.getfield 90, 3) := by decide +kernel
theorem dX10_layArray_110 : decode cX10_layArray 110 = .ok (.invokevirtual 204, 3) := by decide +kernel
theorem dX10_layArray_113 : decode cX10_layArray 113 = .ok (.ifCond .eq 7, 3) := by decide +kernel
theorem dX10_layArray_116 : decode cX10_layArray 116 = .ok (.iconst 1, 1) := by decide +kernel
theorem dX10_layArray_117 : decode cX10_layArray 117 = .ok (.goto 4, 3) := by decide +kernel
theorem dX10_layArray_120 : decode cX10_layArray 120 = .ok (.iconst 0, 1) := by decide +kernel
theorem dX10_layArray_121 : decode cX10_layArray 121 = .ok (.istore 5, 2) := by decide +kernel
theorem dX10_layArray_123 : decode cX10_layArray 123 = .ok (.aload_n 1, 1) := by decide +kernel
theorem dX10_layArray_124 : decode cX10_layArray 124 = .ok (.aload 7, 2) := by decide +kernel
theorem dX10_layArray_126 : decode cX10_layArray 126 = .ok (.ifnonnull 10, 3) := by decide +kernel
theorem dX10_layArray_129 : decode cX10_layArray 129 = .ok (.aload_n 1, 1) := by decide +kernel
theorem dX10_layArray_130 : decode cX10_layArray 130 = .ok (.getfield 70, 3) := by decide +kernel
theorem dX10_layArray_133 : decode cX10_layArray 133 = .ok (.goto 8, 3) := by decide +kernel
theorem dX10_layArray_136 : decode cX10_layArray 136 = .ok (.aload 7, 2) := by decide +kernel
theorem dX10_layArray_138 : decode cX10_layArray 138 = .ok (.getfield 70, 3) := by decide +kernel
theorem dX10_layArray_141 : decode cX10_layArray 141 = .ok (.putfield 70, 3) := by decide +kernel
theorem dX10_layArray_144 : decode cX10_layArray 144 = .ok (.iinc 6 1, 3) := by decide +kernel
theorem dX10_layArray_147 : decode cX10_layArray 147 = .ok (.goto (-113), 3) := by decide +kernel
theorem dX10_layArray_150 : decode cX10_layArray 150 = .ok (.iload 5, 2) := by decide +kernel
theorem dX10_layArray_152 : decode cX10_layArray 152 = .ok (.ireturn, 1) := by decide +kernel
theorem dX10_layBits_0 : decode cX10_layBits 0 = .ok (.aload_n 0, 1) := by decide +kernel
theorem dX10_layBits_1 : decode cX10_layBits 1 = .ok (.aload_n 1, 1) := by decide +kernel
theorem dX10_layBits_2 : decode cX10_layBits 2 = .ok (.aload_n 2, 1) := by decide +kernel
theorem dX10_layBits_3 : decode cX10_layBits 3 = .ok (.getfield 90, 3) := by decide +kernel
theorem dX10_layBits_6 : decode cX10_layBits 6 = .ok (.invokevirtual 204, 3) := by decide +kernel
theorem dX10_layBits_9 : decode cX10_layBits 9 = .ok (.ifCond .ne 5, 3) := by decide +kernel
theorem dX10_layBits_12 : decode cX10_layBits 12 = .ok (.iconst 0, 1) := by decide +kernel
theorem dX10_layBits_13 : decode cX10_layBits 13 = .ok (.ireturn, 1) := by decide +kernel
theorem dX10_layBits_14 : decode cX10_layBits 14 = .ok (.aload_n 2, 1) := by decide +kernel
theorem dX10_layBits_15 : decode cX10_layBits 15 = .ok (.getfield 243, 3) := by decide +kernel
theorem dX10_layBits_18 : decode cX10_layBits 18 = .ok (.istore_n 3, 1) := by decide +kernel
theorem dX10_layBits_19 : decode cX10_layBits 19 = .ok (.iload_n 3, 1) := by decide +kernel
theorem dX10_layBits_20 : decode cX10_layBits 20 = .ok (.aload_n 2, 1) := by decide +kernel
theorem dX10_layBits_21 : decode cX10_layBits 21 = .ok (.getfield 243, 3) := by decide +kernel
theorem dX10_layBits_24 : decode cX10_layBits 24 = .ok (.aload_n 2, 1) := by decide +kernel
theorem dX10_layBits_25 : decode cX10_layBits 25 = .ok (.getfield 246, 3) := by decide +kernel
theorem dX10_layBits_28 : decode cX10_layBits 28 = .ok (.iadd, 1) := by decide +kernel
theorem dX10_layBits_29 : decode cX10_layBits 29 = .ok (.if_icmp .ge 81, 3) := by decide +kernel
theorem dX10_layBits_32 : decode cX10_layBits 32 = .ok (.aload_n 0, 1) := by decide +kernel
theorem dX10_layBits_33 : decode cX10_layBits 33 = .ok (.getfield 39, 3) := by decide +kernel
theorem dX10_layBits_36 : decode cX10_layBits 36 = .ok (.ifCond .ne 74, 3) := by decide +kernel
theorem dX10_layBits_39 : decode cX10_layBits 39 = .ok (.aload_n 0, 1) := by decide +kernel
theorem dX10_layBits_40 : decode cX10_layBits 40 = .ok (.aload_n 1, 1) := by decide +kernel
theorem dX10_layBits_41 : decode cX10_layBits 41 = .ok (.iconst 4, 1) := by decide +kernel
theorem dX10_layBits_42 : decode cX10_layBits 42 = .ok (.aload_n 1, 1) := by decide +kernel
theorem dX10_layBits_43 : decode cX10_layBits 43 = .ok (.getfield 67, 3) := by decide +kernel
theorem dX10_layBits_46 : decode cX10_layBits 46 = .ok (.aload_n 0, 1) := by decide +kernel
theorem dX10_layBits_47 : decode cX10_layBits 47 = .ok (.getfield 28, 3) := by decide +kernel
theorem dX10_layBits_50 : decode cX10_layBits 50 = .ok (.getfield 249, 3) := by decide +kernel
theorem dX10_layBits_53 : decode cX10_layBits 53 = .ok (.iload_n 3, 1) := by decide +kernel
theorem dX10_layBits_54 : decode cX10_layBits 54 = .ok (.laload, 1) := by decide +kernel
theorem dX10_layBits_55 : decode cX10_layBits 55 = .ok (.aload_n 2, 1) := by decide +kernel
theorem dX10_layBits_56 : decode cX10_layBits 56 = .ok (.invokevirtual 129, 3) := by decide +kernel
theorem dX10_layBits_59 : decode cX10_layBits 59 = .ok (.astore 4, 2) := by decide +kernel
theorem dX10_layBits_61 : decode cX10_layBits 61 = .ok (.aload 4, 2) := by decide +kernel
theorem dX10_layBits_63 : decode cX10_layBits 63 = .ok (.ifnull 41, 3) := by decide +kernel
theorem dX10_layBits_66 : decode cX10_layBits 66 = .ok (.aload 4, 2) := by decide +kernel
theorem dX10_layBits_68 : decode cX10_layBits 68 = .ok (.aload_n 1, 1) := by decide +kernel
theorem dX10_layBits_69 : decode cX10_layBits 69 = .ok (.getfield 70, 3) := by decide +kernel
theorem dX10_layBits_72 : decode cX10_layBits 72 = .ok (.putfield 70, 3) := by decide +kernel
theorem dX10_layBits_75 : decode cX10_layBits 75 = .ok (.aload 4, 2) := by decide +kernel
theorem dX10_layBits_77 : decode cX10_layBits 77 = .ok (.aload_n 0, 1) := by decide +kernel
theorem dX10_layBits_78 : decode cX10_layBits 78 = .ok (.getfield 28, 3) := by decide +kernel
theorem dX10_layBits_81 : decode cX10_layBits 81 = .ok (.getfield 253, 3) := by decide +kernel
theorem dX10_layBits_84 : decode cX10_layBits 84 = .ok (.iload_n 3, 1) := by decide +kernel
theorem dX10_layBits_85 : decode cX10_layBits 85 = .ok (.iaload, 1) := by decide +kernel
theorem dX10_layBits_86 : decode cX10_layBits 86 = .ok (.putfield 257, 3) := by decide +kernel
theorem dX10_layBits_89 : decode cX10_layBits 89 = .ok (.aload 4, 2) := by decide +kernel
theorem dX10_layBits_91 : decode cX10_layBits 91 = .ok (.aload_n 0, 1) := by decide +kernel
theorem dX10_layBits_92 : decode cX10_layBits 92 = .ok (.getfield 28, 3) := by decide +kernel
theorem dX10_layBits_95 : decode cX10_layBits 95 = .ok (.getfield 260, 3) := by decide +kernel
theorem dX10_layBits_98 : decode cX10_layBits 98 = .ok (.iload_n 3, 1) := by decide +kernel
theorem dX10_layBits_99 : decode cX10_layBits 99 = .ok (.laload, 1) := by decide +kernel
theorem dX10_layBits_100 : decode cX10_layBits 100 = .ok (.l2i, 1) := by decide +kernel
theorem dX10_layBits_101 : decode cX10_layBits 101 = .ok (.putfield 263, 3) := by decide +kernel
theorem dX10_layBits_104 : decode cX10_layBits 104 = .ok (.iinc 3 1, 3) := by decide +kernel
theorem dX10_layBits_107 : decode cX10_layBits 107 = .ok (.goto (-88), 3) := by decide +kernel
theorem dX10_layBits_110 : decode cX10_layBits 110 = .ok (.iconst 1, 1) := by decide +kernel
theorem dX10_layBits_111 : decode cX10_layBits 111 = .ok (.ireturn, 1) := by decide +kernel
theorem dX10_layField_0 : decode cX10_layField 0 = .ok (.aload_n 0, 1) := by decide +kernel
theorem dX10_layField_1 : decode cX10_layField 1 = .ok (.aload_n 1, 1) := by decide +kernel
theorem dX10_layField_2 : decode cX10_layField 2 = .ok (.aload_n 2, 1) := by decide +kernel
theorem dX10_layField_3 : decode cX10_layField 3 = .ok (.getfield 169, 3) := by decide +kernel
theorem dX10_layField_6 : decode cX10_layField 6 = .ok (.aload_n 1, 1) := by decide +kernel
theorem dX10_layField_7 : decode cX10_layField 7 = .ok (.getfield 70, 3) := by decide +kernel
theorem dX10_layField_10 : decode cX10_layField 10 = .ok (.aload_n 2, 1) := by decide +kernel
theorem dX10_layField_11 : decode cX10_layField 11 = .ok (.getfield 172, 3) := by decide +kernel
theorem dX10_layField_14 : decode cX10_layField 14 = .ok (.aload_n 2, 1) := by decide +kernel
theorem dX10_layField_15 : decode cX10_layField 15 = .ok (.invokevirtual 129, 3) := by decide +kernel
theorem dX10_layField_18 : decode cX10_layField 18 = .ok (.astore 4, 2) := by decide +kernel
theorem dX10_layField_20 : decode cX10_layField 20 = .ok (.aload 4, 2) := by decide +kernel
theorem dX10_layField_22 : decode cX10_layField 22 = .ok (.ifnonnull 5, 3) := by decide +kernel
theorem dX10_layField_25 : decode cX10_layField 25 = .ok (.iconst 0, 1) := by decide +kernel
theorem dX10_layField_26 : decode cX10_layField 26 = .ok (.ireturn, 1) := by decide +kernel
theorem dX10_layField_27 : decode cX10_layField 27 = .ok (.iconst 1, 1) := by decide +kernel
theorem dX10_layField_28 : decode cX10_layField 28 = .ok (.istore 5, 2) := by decide +kernel
theorem dX10_layField_30 : decode cX10_layField 30 = .ok (.aload_n 2, 1) := by decide +kernel
theorem dX10_layField_31 : decode cX10_layField 31 = .ok (.getfield 169, 3) := by decide +kernel
theorem dX10_layField_34 : decode cX10_layField 34 = .ok (.tableswitch 200 0 9 #[54, 70, 82, 95, 200, 107, 137, 148, 161, 188], 54) := by decide +kernel
theorem dX10_layField_88 : decode cX10_layField 88 = .ok (.aload_n 0, 1) := by decide +kernel
theorem dX10_layField_89 : decode cX10_layField 89 = .ok (.aload 4, 2) := by decide +kernel
theorem dX10_layField_91 : decode cX10_layField 91 = .ok (.aload_n 2, 1) := by decide +kernel
theorem dX10_layField_92 : decode cX10_layField 92 = .ok (.getfield 173, 3) := by decide +kernel
theorem dX10_layField_95 : decode cX10_layField 95 = .ok (.iload_n 3, 1) := by decide +kernel
theorem dX10_layField_96 : decode cX10_layField 96 = .ok (.iconst 1, 1) := by decide +kernel
theorem dX10_layField_97 : decode cX10_layField 97 = .ok (.iadd, 1) := by decide +kernel
theorem dX10_layField_98 : decode cX10_layField 98 = .ok (.invokevirtual 133, 3) := by decide +kernel
theorem dX10_layField_101 : decode cX10_layField 101 = .ok (.goto 142, 3) := by decide +kernel
theorem dX10_layField_104 : decode cX10_layField 104 = .ok (.aload_n 0, 1) := by decide +kernel
theorem dX10_layField_105 : decode cX10_layField 105 = .ok (.aload 4, 2) := by decide +kernel
theorem dX10_layField_107 : decode cX10_layField 107 = .ok (.aload_n 2, 1) := by decide +kernel
theorem dX10_layField_108 : decode cX10_layField 108 = .ok (.invokevirtual 174, 3) := by decide +kernel
theorem dX10_layField_111 : decode cX10_layField 111 = .ok (.istore 5, 2) := by decide +kernel
theorem dX10_layField_113 : decode cX10_layField 113 = .ok (.goto 130, 3) := by decide +kernel
theorem dX10_layField_116 : decode cX10_layField 116 = .ok (.aload_n 0, 1) := by decide +kernel
theorem dX10_layField_117 : decode cX10_layField 117 = .ok (.aload 4, 2) := by decide +kernel
theorem dX10_layField_119 : decode cX10_layField 119 = .ok (.aload_n 2, 1) := by decide +kernel
theorem dX10_layField_120 : decode cX10_layField 120 = .ok (.iload_n 3, 1) := by decide +kernel
theorem dX10_layField_121 : decode cX10_layField 121 = .ok (.invokevirtual 178, 3) := by decide +kernel
theorem dX10_layField_124 : decode cX10_layField 124 = .ok (.istore 5, 2) := by decide +kernel
theorem dX10_layField_126 : decode cX10_layField 126 = .ok (.goto 117, 3) := by decide +kernel
theorem dX10_layField_129 : decode cX10_layField 129 = .ok (.aload_n 0, 1) := by decide +kernel
theorem dX10_layField_130 : decode cX10_layField 130 = .ok (.aload 4, 2) := by decide +kernel
theorem dX10_layField_132 : decode cX10_layField 132 = .ok (.aload_n 2, 1) := by decide +kernel
theorem dX10_layField_133 : decode cX10_layField 133 = .ok (.invokevirtual 181, 3) := by decide +kernel
theorem dX10_layField_136 : decode cX10_layField 136 = .ok (.istore 5, 2) := by decide +kernel
theorem dX10_layField_138 : decode cX10_layField 138 = .ok (.goto 105, 3) := by decide +kernel
theorem dX10_layField_141 : decode cX10_layField 141 = .ok (.aload_n 2, 1) := by decide +kernel
theorem dX10_layField_142 : decode cX10_layField 142 = .ok (.getfield 184, 3) := by decide +kernel
theorem dX10_layField_145 : decode cX10_layField 145 = .ok (.iconst (-1), 1) := by decide +kernel
theorem dX10_layField_146 : decode cX10_layField 146 = .ok (.if_icmp .ne 13, 3) := by decide +kernel
theorem dX10_layField_149 : decode cX10_layField 149 = .ok (.aload_n 0, 1) := by decide +kernel
theorem dX10_layField_150 : decode cX10_layField 150 = .ok (.aload 4, 2) := by decide +kernel
theorem dX10_layField_152 : decode cX10_layField 152 = .ok (.aload_n 2, 1) := by decide +kernel
theorem dX10_layField_153 : decode cX10_layField 153 = .ok (.invokevirtual 187, 3) := by decide +kernel
theorem dX10_layField_156 : decode cX10_layField 156 = .ok (.goto 10, 3) := by decide +kernel
theorem dX10_layField_159 : decode cX10_layField 159 = .ok (.aload_n 0, 1) := by decide +kernel
theorem dX10_layField_160 : decode cX10_layField 160 = .ok (.aload 4, 2) := by decide +kernel
theorem dX10_layField_162 : decode cX10_layField 162 = .ok (.aload_n 2, 1) := by decide +kernel
theorem dX10_layField_163 : decode cX10_layField 163 = .ok (.invokevirtual 190, 3) := by decide +kernel
theorem dX10_layField_166 : decode cX10_layField 166 = .ok (.istore 5, 2) := by decide +kernel
theorem dX10_layField_168 : decode cX10_layField 168 = .ok (.goto 75, 3) := by decide +kernel
theorem dX10_layField_171 : decode cX10_layField 171 = .ok (.aload_n 0, 1) := by decide +kernel
theorem dX10_layField_172 : decode cX10_layField 172 = .ok (.aload 4, 2) := by decide +kernel
theorem dX10_layField_174 : decode cX10_layField 174 = .ok (.aload_n 2, 1) := by decide +kernel
theorem dX10_layField_175 : decode cX10_layField 175 = .ok (.iload_n 3, 1) := by decide +kernel
theorem dX10_layField_176 : decode cX10_layField 176 = .ok (.invokevirtual 193, 3) := by decide +kernel
theorem dX10_layField_179 : decode cX10_layField 179 = .ok (.goto 64, 3) := by decide +kernel
theorem dX10_layField_182 : decode cX10_layField 182 = .ok (.aload_n 0, 1) := by decide +kernel
theorem dX10_layField_183 : decode cX10_layField 183 = .ok (.aload 4, 2) := by decide +kernel
theorem dX10_layField_185 : decode cX10_layField 185 = .ok (.aload_n 2, 1) := by decide +kernel
theorem dX10_layField_186 : decode cX10_layField 186 = .ok (.iload_n 3, 1) := by decide +kernel
theorem dX10_layField_187 : decode cX10_layField 187 = .ok (.invokevirtual 197, 3) := by decide +kernel
theorem dX10_layField_190 : decode cX10_layField 190 = .ok (.istore 5, 2) := by decide +kernel
theorem dX10_layField_192 : decode cX10_layField 192 = .ok (.goto 51, 3) := by decide +kernel
theorem dX10_layField_195 : decode cX10_layField 195 = .ok (.aload_n 0, 1) := by decide +kernel
theorem dX10_layField_196 : decode cX10_layField 196 = .ok (.aload 4, 2) := by decide +kernel
theorem dX10_layField_198 : decode cX10_layField 198 = .ok (.aload_n 2, 1) := by decide +kernel
theorem dX10_layField_199 : decode cX10_layField 199 = .ok (.aload 4, 2) := by decide +kernel
theorem dX10_layField_201 : decode cX10_layField 201 = .ok (.getfield 67, 3) := by decide +kernel
theorem dX10_layField_204 : decode cX10_layField 204 = .ok (.aload_n 1, 1) := by decide +kernel
theorem dX10_layField_205 : decode cX10_layField 205 = .ok (.getfield 67, 3) := by decide +kernel
theorem dX10_layField_208 : decode cX10_layField 208 = .ok (.isub, 1) := by decide +kernel
theorem dX10_layField_209 : decode cX10_layField 209 = .ok (.i2l, 1) := by decide +kernel
theorem dX10_layField_210 : decode cX10_layField 210 = .ok (.invokevirtual 200, 3) := by decide +kernel
theorem dX10_layField_213 : decode cX10_layField 213 = .ok (.l2i, 1) := by decide +kernel
theorem dX10_layField_214 : decode cX10_layField 214 = .ok (.invokevirtual 204, 3) := by decide +kernel
theorem dX10_layField_217 : decode cX10_layField 217 = .ok (.istore 5, 2) := by decide +kernel
theorem dX10_layField_219 : decode cX10_layField 219 = .ok (.goto 24, 3) := by decide +kernel
theorem dX10_layField_222 : decode cX10_layField 222 = .ok (.aload_n 0, 1) := by decide +kernel
theorem dX10_layField_223 : decode cX10_layField 223 = .ok (.aload 4, 2) := by decide +kernel
theorem dX10_layField_225 : decode cX10_layField 225 = .ok (.aload_n 2, 1) := by decide +kernel
theorem dX10_layField_226 : decode cX10_layField 226 = .ok (.invokevirtual 208, 3) := by decide +kernel
theorem dX10_layField_229 : decode cX10_layField 229 = .ok (.istore 5, 2) := by decide +kernel
theorem dX10_layField_231 : decode cX10_layField 231 = .ok (.goto 12, 3) := by decide +kernel
theorem dX10_layField_234 : decode cX10_layField 234 = .ok (.aload_n 0, 1) := by decide +kernel
theorem dX10_layField_235 : decode cX10_layField 235 = .ok (.aload 4, 2) := by decide +kernel
theorem dX10_layField_237 : decode cX10_layField 237 = .ok (.aload_n 2, 1) := by decide +kernel
theorem dX10_layField_238 : decode cX10_layField 238 = .ok (.invokevirtual 211, 3) := by decide +kernel
theorem dX10_layField_241 : decode cX10_layField 241 = .ok (.istore 5, 2) := by decide +kernel
theorem dX10_layField_243 : decode cX10_layField 243 = .ok (.aload_n 1, 1) := by decide +kernel
theorem dX10_layField_244 : decode cX10_layField 244 = .ok (.aload 4, 2) := by decide +kernel
theorem dX10_layField_246 : decode cX10_layField 246 = .ok (.getfield 70, 3) := by decide +kernel
theorem dX10_layField_249 : decode cX10_layField 249 = .ok (.putfield 70, 3) := by decide +kernel
theorem dX10_layField_252 : decode cX10_layField 252 = .ok (.iload 5, 2) := by decide +kernel
theorem dX10_layField_254 : decode cX10_layField 254 = .ok (.ireturn, 1) := by decide +kernel
theorem dX10_layMagic_0 : decode cX10_layMagic 0 = .ok (.aload_n 0, 1) := by decide +kernel
theorem dX10_layMagic_1 : decode cX10_layMagic 1 = .ok (.aload_n 1, 1) := by decide +kernel
theorem dX10_layMagic_2 : decode cX10_layMagic 2 = .ok (.aload_n 2, 1) := by decide +kernel
theorem dX10_layMagic_3 : decode cX10_layMagic 3 = .ok (.getfield 246, 3) := by decide +kernel
theorem dX10_layMagic_6 : decode cX10_layMagic 6 = .ok (.invokevirtual 204, 3) := by decide +kernel
theorem dX10_layMagic_9 : decode cX10_layMagic 9 = .ok (.ifCond .ne 5, 3) := by decide +kernel
theorem dX10_layMagic_12 : decode cX10_layMagic 12 = .ok (.iconst 0, 1) := by decide +kernel
theorem dX10_layMagic_13 : decode cX10_layMagic 13 = .ok (.ireturn, 1) := by decide +kernel
theorem dX10_layMagic_14 : decode cX10_layMagic 14 = .ok (.iconst 0, 1) := by decide +kernel
theorem dX10_layMagic_15 : decode cX10_layMagic 15 = .ok (.istore_n 3, 1) := by decide +kernel
theorem dX10_layMagic_16 : decode cX10_layMagic 16 = .ok (.iload_n 3, 1) := by decide +kernel
theorem dX10_layMagic_17 : decode cX10_layMagic 17 = .ok (.aload_n 2, 1) := by decide +kernel
theorem dX10_layMagic_18 : decode cX10_layMagic 18 = .ok (.getfield 246, 3) := by decide +kernel
theorem dX10_layMagic_21 : decode cX10_layMagic 21 = .ok (.if_icmp .ge 59, 3) := by decide +kernel
theorem dX10_layMagic_24 : decode cX10_layMagic 24 = .ok (.aload_n 0, 1) := by decide +kernel
theorem dX10_layMagic_25 : decode cX10_layMagic 25 = .ok (.getfield 28, 3) := by decide +kernel
theorem dX10_layMagic_28 : decode cX10_layMagic 28 = .ok (.getfield 260, 3) := by decide +kernel
theorem dX10_layMagic_31 : decode cX10_layMagic 31 = .ok (.aload_n 2, 1) := by decide +kernel
theorem dX10_layMagic_32 : decode cX10_layMagic 32 = .ok (.getfield 243, 3) := by decide +kernel
theorem dX10_layMagic_35 : decode cX10_layMagic 35 = .ok (.iload_n 3, 1) := by decide +kernel
theorem dX10_layMagic_36 : decode cX10_layMagic 36 = .ok (.iadd, 1) := by decide +kernel
theorem dX10_layMagic_37 : decode cX10_layMagic 37 = .ok (.laload, 1) := by decide +kernel
theorem dX10_layMagic_38 : decode cX10_layMagic 38 = .ok (.lstore 4, 2) := by decide +kernel
theorem dX10_layMagic_40 : decode cX10_layMagic 40 = .ok (.lload 4, 2) := by decide +kernel
theorem dX10_layMagic_42 : decode cX10_layMagic 42 = .ok (.ldc2_w 287, 3) := by decide +kernel
theorem dX10_layMagic_45 : decode cX10_layMagic 45 = .ok (.lcmp, 1) := by decide +kernel
theorem dX10_layMagic_46 : decode cX10_layMagic 46 = .ok (.ifCond .eq 28, 3) := by decide +kernel
theorem dX10_layMagic_49 : decode cX10_layMagic 49 = .ok (.lload 4, 2) := by decide +kernel
theorem dX10_layMagic_51 : decode cX10_layMagic 51 = .ok (.aload_n 0, 1) := by decide +kernel
theorem dX10_layMagic_52 : decode cX10_layMagic 52 = .ok (.getfield 17, 3) := by decide +kernel
theorem dX10_layMagic_55 : decode cX10_layMagic 55 = .ok (.aload_n 1, 1) := by decide +kernel
theorem dX10_layMagic_56 : decode cX10_layMagic 56 = .ok (.getfield 67, 3) := by decide +kernel
theorem dX10_layMagic_59 : decode cX10_layMagic 59 = .ok (.iload_n 3, 1) := by decide +kernel
theorem dX10_layMagic_60 : decode cX10_layMagic 60 = .ok (.iadd, 1) := by decide +kernel
theorem dX10_layMagic_61 : decode cX10_layMagic 61 = .ok (.invokevirtual 289, 3) := by decide +kernel
theorem dX10_layMagic_64 : decode cX10_layMagic 64 = .ok (.i2l, 1) := by decide +kernel
theorem dX10_layMagic_65 : decode cX10_layMagic 65 = .ok (.lcmp, 1) := by decide +kernel
theorem dX10_layMagic_66 : decode cX10_layMagic 66 = .ok (.ifCond .eq 8, 3) := by decide +kernel
theorem dX10_layMagic_69 : decode cX10_layMagic 69 = .ok (.aload_n 1, 1) := by decide +kernel
theorem dX10_layMagic_70 : decode cX10_layMagic 70 = .ok (.iconst 2, 1) := by decide +kernel
theorem dX10_layMagic_71 : decode cX10_layMagic 71 = .ok (.putfield 47, 3) := by decide +kernel
theorem dX10_layMagic_74 : decode cX10_layMagic 74 = .ok (.iinc 3 1, 3) := by decide +kernel
theorem dX10_layMagic_77 : decode cX10_layMagic 77 = .ok (.goto (-61), 3) := by decide +kernel
theorem dX10_layMagic_80 : decode cX10_layMagic 80 = .ok (.iconst 1, 1) := by decide +kernel
theorem dX10_layMagic_81 : decode cX10_layMagic 81 = .ok (.ireturn, 1) := by decide +kernel
theorem dX10_layPointer_0 : decode cX10_layPointer 0 = .ok (.aload_n 0, 1) := by decide +kernel
theorem dX10_layPointer_1 : decode cX10_layPointer 1 = .ok (.aload_n 1, 1) := by decide +kernel
theorem dX10_layPointer_2 : decode cX10_layPointer 2 = .ok (.aload_n 2, 1) := by decide +kernel
theorem dX10_layPointer_3 : decode cX10_layPointer 3 = .ok (.getfield 90, 3) := by decide +kernel
theorem dX10_layPointer_6 : decode cX10_layPointer 6 = .ok (.invokevirtual 204, 3) := by decide +kernel
theorem dX10_layPointer_9 : decode cX10_layPointer 9 = .ok (.ifCond .ne 5, 3) := by decide +kernel
theorem dX10_layPointer_12 : decode cX10_layPointer 12 = .ok (.iconst 0, 1) := by decide +kernel
theorem dX10_layPointer_13 : decode cX10_layPointer 13 = .ok (.ireturn, 1) := by decide +kernel
theorem dX10_layPointer_14 : decode cX10_layPointer 14 = .ok (.aload_n 1, 1) := by decide +kernel
theorem dX10_layPointer_15 : decode cX10_layPointer 15 = .ok (.aload_n 0, 1) := by decide +kernel
theorem dX10_layPointer_16 : decode cX10_layPointer 16 = .ok (.getfield 17, 3) := by decide +kernel
theorem dX10_layPointer_19 : decode cX10_layPointer 19 = .ok (.invokevirtual 217, 3) := by decide +kernel
theorem dX10_layPointer_22 : decode cX10_layPointer 22 = .ok (.aload_n 2, 1) := by decide +kernel
theorem dX10_layPointer_23 : decode cX10_layPointer 23 = .ok (.getfield 269, 3) := by decide +kernel
theorem dX10_layPointer_26 : decode cX10_layPointer 26 = .ok (.lmul, 1) := by decide +kernel
theorem dX10_layPointer_27 : decode cX10_layPointer 27 = .ok (.lstore 4, 2) := by decide +kernel
theorem dX10_layPointer_29 : decode cX10_layPointer 29 = .ok (.aload_n 2, 1) := by decide +kernel
theorem dX10_layPointer_30 : decode cX10_layPointer 30 = .ok (.getfield 184, 3) := by decide +kernel
theorem dX10_layPointer_33 : decode cX10_layPointer 33 = .ok (.iconst (-1), 1) := by decide +kernel
theorem dX10_layPointer_34 : decode cX10_layPointer 34 = .ok (.if_icmp .eq 56, 3) := by decide +kernel
theorem dX10_layPointer_37 : decode cX10_layPointer 37 = .ok (.lload 4, 2) := by decide +kernel
theorem dX10_layPointer_39 : decode cX10_layPointer 39 = .ok (.aload_n 0, 1) := by decide +kernel
theorem dX10_layPointer_40 : decode cX10_layPointer 40 = .ok (.getfield 32, 3) := by decide +kernel
theorem dX10_layPointer_43 : decode cX10_layPointer 43 = .ok (.aload_n 0, 1) := by decide +kernel
theorem dX10_layPointer_44 : decode cX10_layPointer 44 = .ok (.getfield 28, 3) := by decide +kernel
theorem dX10_layPointer_47 : decode cX10_layPointer 47 = .ok (.getfield 156, 3) := by decide +kernel
theorem dX10_layPointer_50 : decode cX10_layPointer 50 = .ok (.aload_n 2, 1) := by decide +kernel
theorem dX10_layPointer_51 : decode cX10_layPointer 51 = .ok (.getfield 184, 3) := by decide +kernel
theorem dX10_layPointer_54 : decode cX10_layPointer 54 = .ok (.aload_n 1, 1) := by decide +kernel
theorem dX10_layPointer_55 : decode cX10_layPointer 55 = .ok (.getfield 82, 3) := by decide +kernel
theorem dX10_layPointer_58 : decode cX10_layPointer 58 = .ok (.aload_n 1, 1) := by decide +kernel
theorem dX10_layPointer_59 : decode cX10_layPointer 59 = .ok (.getfield 67, 3) := by decide +kernel
theorem dX10_layPointer_62 : decode cX10_layPointer 62 = .ok (.aload_n 0, 1) := by decide +kernel
theorem dX10_layPointer_63 : decode cX10_layPointer 63 = .ok (.getfield 17, 3) := by decide +kernel
theorem dX10_layPointer_66 : decode cX10_layPointer 66 = .ok (.invokevirtual 160, 3) := by decide +kernel
theorem dX10_layPointer_69 : decode cX10_layPointer 69 = .ok (.ladd, 1) := by decide +kernel
theorem dX10_layPointer_70 : decode cX10_layPointer 70 = .ok (.lstore 4, 2) := by decide +kernel
theorem dX10_layPointer_72 : decode cX10_layPointer 72 = .ok (.aload_n 0, 1) := by decide +kernel
theorem dX10_layPointer_73 : decode cX10_layPointer 73 = .ok (.getfield 32, 3) := by decide +kernel
theorem dX10_layPointer_76 : decode cX10_layPointer 76 = .ok (.getfield 166, 3) := by decide +kernel
theorem dX10_layPointer_79 : decode cX10_layPointer 79 = .ok (.ifCond .eq 11, 3) := by decide +kernel
theorem dX10_layPointer_82 : decode cX10_layPointer 82 = .ok (.aload_n 1, 1) := by decide +kernel
theorem dX10_layPointer_83 : decode cX10_layPointer 83 = .ok (.bipush 6, 2) := by decide +kernel
theorem dX10_layPointer_85 : decode cX10_layPointer 85 = .ok (.putfield 47, 3) := by decide +kernel
theorem dX10_layPointer_88 : decode cX10_layPointer 88 = .ok (.iconst 1, 1) := by decide +kernel
theorem dX10_layPointer_89 : decode cX10_layPointer 89 = .ok (.ireturn, 1) := by decide +kernel
theorem dX10_layPointer_90 : decode cX10_layPointer 90 = .ok (.lload 4, 2) := by decide +kernel
theorem dX10_layPointer_92 : decode cX10_layPointer 92 = .ok (.lconst 0, 1) := by decide +kernel
theorem dX10_layPointer_93 : decode cX10_layPointer 93 = .ok (.lcmp, 1) := by decide +kernel
theorem dX10_layPointer_94 : decode cX10_layPointer 94 = .ok (.ifCond .lt 17, 3) := by decide +kernel
theorem dX10_layPointer_97 : decode cX10_layPointer 97 = .ok (.lload 4, 2) := by decide +kernel
theorem dX10_layPointer_99 : decode cX10_layPointer 99 = .ok (.aload_n 0, 1) := by decide +kernel
theorem dX10_layPointer_100 : decode cX10_layPointer 100 = .ok (.getfield 17, 3) := by decide +kernel
theorem dX10_layPointer_103 : decode cX10_layPointer 103 = .ok (.getfield 73, 3) := by decide +kernel
theorem dX10_layPointer_106 : decode cX10_layPointer 106 = .ok (.i2l, 1) := by decide +kernel
theorem dX10_layPointer_107 : decode cX10_layPointer 107 = .ok (.lcmp, 1) := by decide +kernel
theorem dX10_layPointer_108 : decode cX10_layPointer 108 = .ok (.ifCond .lt 12, 3) := by decide +kernel
theorem dX10_layPointer_111 : decode cX10_layPointer 111 = .ok (.aload_n 1, 1) := by decide +kernel
theorem dX10_layPointer_112 : decode cX10_layPointer 112 = .ok (.bipush 8, 2) := by decide +kernel
theorem dX10_layPointer_114 : decode cX10_layPointer 114 = .ok (.putfield 47, 3) := by decide +kernel
theorem dX10_layPointer_117 : decode cX10_layPointer 117 = .ok (.goto 41, 3) := by decide +kernel
theorem dX10_layPointer_120 : decode cX10_layPointer 120 = .ok (.aload_n 1, 1) := by decide +kernel
theorem dX10_layPointer_121 : decode cX10_layPointer 121 = .ok (.aload_n 2, 1) := by decide +kernel
theorem dX10_layPointer_122 : decode cX10_layPointer 122 = .ok (.getfield 173, 3) := by decide +kernel
theorem dX10_layPointer_125 : decode cX10_layPointer 125 = .ok (.lload 4, 2) := by decide +kernel
theorem dX10_layPointer_127 : decode cX10_layPointer 127 = .ok (.l2i, 1) := by decide +kernel
theorem dX10_layPointer_128 : decode cX10_layPointer 128 = .ok (.invokestatic 279, 3) := by decide +kernel
theorem dX10_layPointer_131 : decode cX10_layPointer 131 = .ok (.ifCond .eq 11, 3) := by decide +kernel
theorem dX10_layPointer_134 : decode cX10_layPointer 134 = .ok (.aload_n 1, 1) := by decide +kernel
theorem dX10_layPointer_135 : decode cX10_layPointer 135 = .ok (.iconst 1, 1) := by decide +kernel
theorem dX10_layPointer_136 : decode cX10_layPointer 136 = .ok (.putfield 283, 3) := by decide +kernel
theorem dX10_layPointer_139 : decode cX10_layPointer 139 = .ok (.goto 19, 3) := by decide +kernel
theorem dX10_layPointer_142 : decode cX10_layPointer 142 = .ok (.aload_n 0, 1) := by decide +kernel
theorem dX10_layPointer_143 : decode cX10_layPointer 143 = .ok (.aload_n 1, 1) := by decide +kernel
theorem dX10_layPointer_144 : decode cX10_layPointer 144 = .ok (.aload_n 2, 1) := by decide +kernel
theorem dX10_layPointer_145 : decode cX10_layPointer 145 = .ok (.getfield 173, 3) := by decide +kernel
theorem dX10_layPointer_148 : decode cX10_layPointer 148 = .ok (.lload 4, 2) := by decide +kernel
theorem dX10_layPointer_150 : decode cX10_layPointer 150 = .ok (.l2i, 1) := by decide +kernel
theorem dX10_layPointer_151 : decode cX10_layPointer 151 = .ok (.iload_n 3, 1) := by decide +kernel
theorem dX10_layPointer_152 : decode cX10_layPointer 152 = .ok (.iconst 1, 1) := by decide +kernel
theorem dX10_layPointer_153 : decode cX10_layPointer 153 = .ok (.iadd, 1) := by decide +kernel
theorem dX10_layPointer_154 : decode cX10_layPointer 154 = .ok (.invokevirtual 43, 3) := by decide +kernel
theorem dX10_layPointer_157 : decode cX10_layPointer 157 = .ok (.pop, 1) := by decide +kernel
theorem dX10_layPointer_158 : decode cX10_layPointer 158 = .ok (.iconst 1, 1) := by decide +kernel
theorem dX10_layPointer_159 : decode cX10_layPointer 159 = .ok (.ireturn, 1) := by decide +kernel
theorem dX10_layStruct_0 : decode cX10_layStruct 0 = .ok (.aload_n 1, 1) := by decide +kernel
theorem dX10_layStruct_1 : decode cX10_layStruct 1 = .ok (.iload_n 2, 1) := by decide +kernel
theorem dX10_layStruct_2 : decode cX10_layStruct 2 = .ok (.putfield 137, 3) := by decide +kernel
theorem dX10_layStruct_5 : decode cX10_layStruct 5 = .ok (.iload_n 3, 1) := by decide +kernel
theorem dX10_layStruct_6 : decode cX10_layStruct 6 = .ok (.bipush 20, 2) := by decide +kernel
theorem dX10_layStruct_8 : decode cX10_layStruct 8 = .ok (.if_icmp .le 10, 3) := by decide +kernel
theorem dX10_layStruct_11 : decode cX10_layStruct 11 = .ok (.aload_n 1, 1) := by decide +kernel
theorem dX10_layStruct_12 : decode cX10_layStruct 12 = .ok (.bipush 9, 2) := by decide +kernel
theorem dX10_layStruct_14 : decode cX10_layStruct 14 = .ok (.putfield 47, 3) := by decide +kernel
theorem dX10_layStruct_17 : decode cX10_layStruct 17 = .ok (.return_, 1) := by decide +kernel
theorem dX10_layStruct_18 : decode cX10_layStruct 18 = .ok (.aload_n 0, 1) := by decide +kernel
theorem dX10_layStruct_19 : decode cX10_layStruct 19 = .ok (.getfield 28, 3) := by decide +kernel
theorem dX10_layStruct_22 : decode cX10_layStruct 22 = .ok (.getfield 117, 3) := by decide +kernel
theorem dX10_layStruct_25 : decode cX10_layStruct 25 = .ok (.iload_n 2, 1) := by decide +kernel
theorem dX10_layStruct_26 : decode cX10_layStruct 26 = .ok (.aaload, 1) := by decide +kernel
theorem dX10_layStruct_27 : decode cX10_layStruct 27 = .ok (.astore 4, 2) := by decide +kernel
theorem dX10_layStruct_29 : decode cX10_layStruct 29 = .ok (.iconst 1, 1) := by decide +kernel
theorem dX10_layStruct_30 : decode cX10_layStruct 30 = .ok (.istore 5, 2) := by decide +kernel
theorem dX10_layStruct_32 : decode cX10_layStruct 32 = .ok (.iconst 0, 1) := by decide +kernel
theorem dX10_layStruct_33 : decode cX10_layStruct 33 = .ok (.istore 6, 2) := by decide +kernel
theorem dX10_layStruct_35 : decode cX10_layStruct 35 = .ok (.iload 6, 2) := by decide +kernel
theorem dX10_layStruct_37 : decode cX10_layStruct 37 = .ok (.aload 4, 2) := by decide +kernel
theorem dX10_layStruct_39 : decode cX10_layStruct 39 = .ok (.getfield 138, 3) := by decide +kernel
theorem dX10_layStruct_42 : decode cX10_layStruct 42 = .ok (.if_icmp .ge 51, 3) := by decide +kernel
theorem dX10_layStruct_45 : decode cX10_layStruct 45 = .ok (.iload 5, 2) := by decide +kernel
theorem dX10_layStruct_47 : decode cX10_layStruct 47 = .ok (.ifCond .eq 46, 3) := by decide +kernel
theorem dX10_layStruct_50 : decode cX10_layStruct 50 = .ok (.aload_n 0, 1) := by decide +kernel
theorem dX10_layStruct_51 : decode cX10_layStruct 51 = .ok (.getfield 39, 3) := by decide +kernel
theorem dX10_layStruct_54 : decode cX10_layStruct 54 = .ok (.ifCond .ne 39, 3) := by decide +kernel
theorem dX10_layStruct_57 : decode cX10_layStruct 57 = .ok (.aload 4, 2) := by decide +kernel
theorem dX10_layStruct_59 : decode cX10_layStruct 59 = .ok (.getfield 141, 3) := by decide +kernel
theorem dX10_layStruct_62 : decode cX10_layStruct 62 = .ok (.iload 6, 2) := by decide +kernel
theorem dX10_layStruct_64 : decode cX10_layStruct 64 = .ok (.aaload, 1) := by decide +kernel
theorem dX10_layStruct_65 : decode cX10_layStruct 65 = .ok (.astore 7, 2) := by decide +kernel
theorem dX10_layStruct_67 : decode cX10_layStruct 67 = .ok (.aload_n 0, 1) := by decide +kernel
theorem dX10_layStruct_68 : decode cX10_layStruct 68 = .ok (.aload 7, 2) := by decide +kernel
theorem dX10_layStruct_70 : decode cX10_layStruct 70 = .ok (.aload_n 1, 1) := by decide +kernel
theorem dX10_layStruct_71 : decode cX10_layStruct 71 = .ok (.invokevirtual 145, 3) := by decide +kernel
theorem dX10_layStruct_74 : decode cX10_layStruct 74 = .ok (.ifCond .eq 13, 3) := by decide +kernel
theorem dX10_layStruct_77 : decode cX10_layStruct 77 = .ok (.aload_n 0, 1) := by decide +kernel
theorem dX10_layStruct_78 : decode cX10_layStruct 78 = .ok (.aload_n 1, 1) := by decide +kernel
theorem dX10_layStruct_79 : decode cX10_layStruct 79 = .ok (.aload 7, 2) := by decide +kernel
theorem dX10_layStruct_81 : decode cX10_layStruct 81 = .ok (.iload_n 3, 1) := by decide +kernel
theorem dX10_layStruct_82 : decode cX10_layStruct 82 = .ok (.invokevirtual 149, 3) := by decide +kernel
theorem dX10_layStruct_85 : decode cX10_layStruct 85 = .ok (.istore 5, 2) := by decide +kernel
theorem dX10_layStruct_87 : decode cX10_layStruct 87 = .ok (.iinc 6 1, 3) := by decide +kernel
theorem dX10_layStruct_90 : decode cX10_layStruct 90 = .ok (.goto (-55), 3) := by decide +kernel
theorem dX10_layStruct_93 : decode cX10_layStruct 93 = .ok (.return_, 1) := by decide +kernel
theorem dX10_laySum_0 : decode cX10_laySum 0 = .ok (.aload_n 0, 1) := by decide +kernel
theorem dX10_laySum_1 : decode cX10_laySum 1 = .ok (.aload_n 1, 1) := by decide +kernel
theorem dX10_laySum_2 : decode cX10_laySum 2 = .ok (.aload_n 2, 1) := by decide +kernel
theorem dX10_laySum_3 : decode cX10_laySum 3 = .ok (.getfield 90, 3) := by decide +kernel
theorem dX10_laySum_6 : decode cX10_laySum 6 = .ok (.invokevirtual 204, 3) := by decide +kernel
theorem dX10_laySum_9 : decode cX10_laySum 9 = .ok (.ifCond .ne 5, 3) := by decide +kernel
theorem dX10_laySum_12 : decode cX10_laySum 12 = .ok (.iconst 0, 1) := by decide +kernel
theorem dX10_laySum_13 : decode cX10_laySum 13 = .ok (.ireturn, 1) := by decide +kernel
theorem dX10_laySum_14 : decode cX10_laySum 14 = .ok (.aload_n 1, 1) := by decide +kernel
theorem dX10_laySum_15 : decode cX10_laySum 15 = .ok (.aload_n 0, 1) := by decide +kernel
theorem dX10_laySum_16 : decode cX10_laySum 16 = .ok (.aload_n 1, 1) := by decide +kernel
theorem dX10_laySum_17 : decode cX10_laySum 17 = .ok (.invokevirtual 86, 3) := by decide +kernel
theorem dX10_laySum_20 : decode cX10_laySum 20 = .ok (.putfield 47, 3) := by decide +kernel
theorem dX10_laySum_23 : decode cX10_laySum 23 = .ok (.aload_n 1, 1) := by decide +kernel
theorem dX10_laySum_24 : decode cX10_laySum 24 = .ok (.getfield 47, 3) := by decide +kernel
theorem dX10_laySum_27 : decode cX10_laySum 27 = .ok (.ifCond .ne 38, 3) := by decide +kernel
theorem dX10_laySum_30 : decode cX10_laySum 30 = .ok (.aload_n 1, 1) := by decide +kernel
theorem dX10_laySum_31 : decode cX10_laySum 31 = .ok (.aload_n 0, 1) := by decide +kernel
theorem dX10_laySum_32 : decode cX10_laySum 32 = .ok (.getfield 17, 3) := by decide +kernel
theorem dX10_laySum_35 : decode cX10_laySum 35 = .ok (.invokevirtual 217, 3) := by decide +kernel
theorem dX10_laySum_38 : decode cX10_laySum 38 = .ok (.aload_n 0, 1) := by decide +kernel
theorem dX10_laySum_39 : decode cX10_laySum 39 = .ok (.aload_n 1, 1) := by decide +kernel
theorem dX10_laySum_40 : decode cX10_laySum 40 = .ok (.invokevirtual 95, 3) := by decide +kernel
theorem dX10_laySum_43 : decode cX10_laySum 43 = .ok (.lxor, 1) := by decide +kernel
theorem dX10_laySum_44 : decode cX10_laySum 44 = .ok (.bipush 8, 2) := by decide +kernel
theorem dX10_laySum_46 : decode cX10_laySum 46 = .ok (.aload_n 2, 1) := by decide +kernel
theorem dX10_laySum_47 : decode cX10_laySum 47 = .ok (.getfield 90, 3) := by decide +kernel
theorem dX10_laySum_50 : decode cX10_laySum 50 = .ok (.imul, 1) := by decide +kernel
theorem dX10_laySum_51 : decode cX10_laySum 51 = .ok (.invokestatic 292, 3) := by decide +kernel
theorem dX10_laySum_54 : decode cX10_laySum 54 = .ok (.land, 1) := by decide +kernel
theorem dX10_laySum_55 : decode cX10_laySum 55 = .ok (.lconst 0, 1) := by decide +kernel
theorem dX10_laySum_56 : decode cX10_laySum 56 = .ok (.lcmp, 1) := by decide +kernel
theorem dX10_laySum_57 : decode cX10_laySum 57 = .ok (.ifCond .eq 8, 3) := by decide +kernel
theorem dX10_laySum_60 : decode cX10_laySum 60 = .ok (.aload_n 1, 1) := by decide +kernel
theorem dX10_laySum_61 : decode cX10_laySum 61 = .ok (.iconst 3, 1) := by decide +kernel
theorem dX10_laySum_62 : decode cX10_laySum 62 = .ok (.putfield 47, 3) := by decide +kernel
theorem dX10_laySum_65 : decode cX10_laySum 65 = .ok (.iconst 1, 1) := by decide +kernel
theorem dX10_laySum_66 : decode cX10_laySum 66 = .ok (.ireturn, 1) := by decide +kernel
theorem dX10_layText_0 : decode cX10_layText 0 = .ok (.aload_n 0, 1) := by decide +kernel
theorem dX10_layText_1 : decode cX10_layText 1 = .ok (.aload_n 1, 1) := by decide +kernel
theorem dX10_layText_2 : decode cX10_layText 2 = .ok (.aload_n 2, 1) := by decide +kernel
theorem dX10_layText_3 : decode cX10_layText 3 = .ok (.sipush 2000, 3) := by decide +kernel
theorem dX10_layText_6 : decode cX10_layText 6 = .ok (.invokevirtual 239, 3) := by decide +kernel
theorem dX10_layText_9 : decode cX10_layText 9 = .ok (.istore_n 3, 1) := by decide +kernel
theorem dX10_layText_10 : decode cX10_layText 10 = .ok (.iload_n 3, 1) := by decide +kernel
theorem dX10_layText_11 : decode cX10_layText 11 = .ok (.iconst (-1), 1) := by decide +kernel
theorem dX10_layText_12 : decode cX10_layText 12 = .ok (.if_icmp .eq 12, 3) := by decide +kernel
theorem dX10_layText_15 : decode cX10_layText 15 = .ok (.aload_n 0, 1) := by decide +kernel
theorem dX10_layText_16 : decode cX10_layText 16 = .ok (.aload_n 1, 1) := by decide +kernel
theorem dX10_layText_17 : decode cX10_layText 17 = .ok (.iload_n 3, 1) := by decide +kernel
theorem dX10_layText_18 : decode cX10_layText 18 = .ok (.invokevirtual 204, 3) := by decide +kernel
theorem dX10_layText_21 : decode cX10_layText 21 = .ok (.ifCond .eq 7, 3) := by decide +kernel
theorem dX10_layText_24 : decode cX10_layText 24 = .ok (.iconst 1, 1) := by decide +kernel
theorem dX10_layText_25 : decode cX10_layText 25 = .ok (.goto 4, 3) := by decide +kernel
theorem dX10_layText_28 : decode cX10_layText 28 = .ok (.iconst 0, 1) := by decide +kernel
theorem dX10_layText_29 : decode cX10_layText 29 = .ok (.ireturn, 1) := by decide +kernel
theorem dX10_layUnion_0 : decode cX10_layUnion 0 = .ok (.aload_n 0, 1) := by decide +kernel
theorem dX10_layUnion_1 : decode cX10_layUnion 1 = .ok (.getfield 32, 3) := by decide +kernel
theorem dX10_layUnion_4 : decode cX10_layUnion 4 = .ok (.aload_n 0, 1) := by decide +kernel
theorem dX10_layUnion_5 : decode cX10_layUnion 5 = .ok (.getfield 28, 3) := by decide +kernel
theorem dX10_layUnion_8 : decode cX10_layUnion 8 = .ok (.getfield 156, 3) := by decide +kernel
theorem dX10_layUnion_11 : decode cX10_layUnion 11 = .ok (.aload_n 2, 1) := by decide +kernel
theorem dX10_layUnion_12 : decode cX10_layUnion 12 = .ok (.getfield 184, 3) := by decide +kernel
theorem dX10_layUnion_15 : decode cX10_layUnion 15 = .ok (.aload_n 1, 1) := by decide +kernel
theorem dX10_layUnion_16 : decode cX10_layUnion 16 = .ok (.getfield 82, 3) := by decide +kernel
theorem dX10_layUnion_19 : decode cX10_layUnion 19 = .ok (.aload_n 1, 1) := by decide +kernel
theorem dX10_layUnion_20 : decode cX10_layUnion 20 = .ok (.getfield 67, 3) := by decide +kernel
theorem dX10_layUnion_23 : decode cX10_layUnion 23 = .ok (.aload_n 0, 1) := by decide +kernel
theorem dX10_layUnion_24 : decode cX10_layUnion 24 = .ok (.getfield 17, 3) := by decide +kernel
theorem dX10_layUnion_27 : decode cX10_layUnion 27 = .ok (.invokevirtual 160, 3) := by decide +kernel
theorem dX10_layUnion_30 : decode cX10_layUnion 30 = .ok (.lstore 4, 2) := by decide +kernel
theorem dX10_layUnion_32 : decode cX10_layUnion 32 = .ok (.aload_n 0, 1) := by decide +kernel
theorem dX10_layUnion_33 : decode cX10_layUnion 33 = .ok (.getfield 32, 3) := by decide +kernel
theorem dX10_layUnion_36 : decode cX10_layUnion 36 = .ok (.getfield 166, 3) := by decide +kernel
theorem dX10_layUnion_39 : decode cX10_layUnion 39 = .ok (.ifCond .eq 10, 3) := by decide +kernel
theorem dX10_layUnion_42 : decode cX10_layUnion 42 = .ok (.aload_n 1, 1) := by decide +kernel
theorem dX10_layUnion_43 : decode cX10_layUnion 43 = .ok (.bipush 6, 2) := by decide +kernel
theorem dX10_layUnion_45 : decode cX10_layUnion 45 = .ok (.putfield 47, 3) := by decide +kernel
theorem dX10_layUnion_48 : decode cX10_layUnion 48 = .ok (.return_, 1) := by decide +kernel
theorem dX10_layUnion_49 : decode cX10_layUnion 49 = .ok (.aload_n 0, 1) := by decide +kernel
theorem dX10_layUnion_50 : decode cX10_layUnion 50 = .ok (.getfield 28, 3) := by decide +kernel
theorem dX10_layUnion_53 : decode cX10_layUnion 53 = .ok (.aload_n 2, 1) := by decide +kernel
theorem dX10_layUnion_54 : decode cX10_layUnion 54 = .ok (.getfield 243, 3) := by decide +kernel
theorem dX10_layUnion_57 : decode cX10_layUnion 57 = .ok (.aload_n 2, 1) := by decide +kernel
theorem dX10_layUnion_58 : decode cX10_layUnion 58 = .ok (.getfield 246, 3) := by decide +kernel
theorem dX10_layUnion_61 : decode cX10_layUnion 61 = .ok (.lload 4, 2) := by decide +kernel
theorem dX10_layUnion_63 : decode cX10_layUnion 63 = .ok (.invokevirtual 272, 3) := by decide +kernel
theorem dX10_layUnion_66 : decode cX10_layUnion 66 = .ok (.istore 6, 2) := by decide +kernel
theorem dX10_layUnion_68 : decode cX10_layUnion 68 = .ok (.iload 6, 2) := by decide +kernel
theorem dX10_layUnion_70 : decode cX10_layUnion 70 = .ok (.iconst (-1), 1) := by decide +kernel
theorem dX10_layUnion_71 : decode cX10_layUnion 71 = .ok (.if_icmp .ne 10, 3) := by decide +kernel
theorem dX10_layUnion_74 : decode cX10_layUnion 74 = .ok (.aload_n 2, 1) := by decide +kernel
theorem dX10_layUnion_75 : decode cX10_layUnion 75 = .ok (.getfield 276, 3) := by decide +kernel
theorem dX10_layUnion_78 : decode cX10_layUnion 78 = .ok (.goto 13, 3) := by decide +kernel
theorem dX10_layUnion_81 : decode cX10_layUnion 81 = .ok (.aload_n 0, 1) := by decide +kernel
theorem dX10_layUnion_82 : decode cX10_layUnion 82 = .ok (.getfield 28, 3) := by decide +kernel
theorem dX10_layUnion_85 : decode cX10_layUnion 85 = .ok (.getfield 253, 3) := by decide +kernel
theorem dX10_layUnion_88 : decode cX10_layUnion 88 = .ok (.iload 6, 2) := by decide +kernel
theorem dX10_layUnion_90 : decode cX10_layUnion 90 = .ok (.iaload, 1) := by decide +kernel
theorem dX10_layUnion_91 : decode cX10_layUnion 91 = .ok (.istore 7, 2) := by decide +kernel
theorem dX10_layUnion_93 : decode cX10_layUnion 93 = .ok (.iload 7, 2) := by decide +kernel
theorem dX10_layUnion_95 : decode cX10_layUnion 95 = .ok (.iconst (-1), 1) := by decide +kernel
theorem dX10_layUnion_96 : decode cX10_layUnion 96 = .ok (.if_icmp .ne 12, 3) := by decide +kernel
theorem dX10_layUnion_99 : decode cX10_layUnion 99 = .ok (.aload_n 1, 1) := by decide +kernel
theorem dX10_layUnion_100 : decode cX10_layUnion 100 = .ok (.bipush 7, 2) := by decide +kernel
theorem dX10_layUnion_102 : decode cX10_layUnion 102 = .ok (.putfield 47, 3) := by decide +kernel
theorem dX10_layUnion_105 : decode cX10_layUnion 105 = .ok (.goto 21, 3) := by decide +kernel
theorem dX10_layUnion_108 : decode cX10_layUnion 108 = .ok (.aload_n 1, 1) := by decide +kernel
theorem dX10_layUnion_109 : decode cX10_layUnion 109 = .ok (.aload_n 0, 1) := by decide +kernel
theorem dX10_layUnion_110 : decode cX10_layUnion 110 = .ok (.aload_n 1, 1) := by decide +kernel
theorem dX10_layUnion_111 : decode cX10_layUnion 111 = .ok (.iload 7, 2) := by decide +kernel
theorem dX10_layUnion_113 : decode cX10_layUnion 113 = .ok (.aload_n 1, 1) := by decide +kernel
theorem dX10_layUnion_114 : decode cX10_layUnion 114 = .ok (.getfield 67, 3) := by decide +kernel
theorem dX10_layUnion_117 : decode cX10_layUnion 117 = .ok (.iload_n 3, 1) := by decide +kernel
theorem dX10_layUnion_118 : decode cX10_layUnion 118 = .ok (.iconst 1, 1) := by decide +kernel
theorem dX10_layUnion_119 : decode cX10_layUnion 119 = .ok (.iadd, 1) := by decide +kernel
theorem dX10_layUnion_120 : decode cX10_layUnion 120 = .ok (.invokevirtual 43, 3) := by decide +kernel
theorem dX10_layUnion_123 : decode cX10_layUnion 123 = .ok (.putfield 70, 3) := by decide +kernel
theorem dX10_layUnion_126 : decode cX10_layUnion 126 = .ok (.return_, 1) := by decide +kernel
theorem dX10_layUntil_0 : decode cX10_layUntil 0 = .ok (.aload_n 1, 1) := by decide +kernel
theorem dX10_layUntil_1 : decode cX10_layUntil 1 = .ok (.getfield 67, 3) := by decide +kernel
theorem dX10_layUntil_4 : decode cX10_layUntil 4 = .ok (.istore_n 3, 1) := by decide +kernel
theorem dX10_layUntil_5 : decode cX10_layUntil 5 = .ok (.iload_n 3, 1) := by decide +kernel
theorem dX10_layUntil_6 : decode cX10_layUntil 6 = .ok (.aload_n 0, 1) := by decide +kernel
theorem dX10_layUntil_7 : decode cX10_layUntil 7 = .ok (.getfield 17, 3) := by decide +kernel
theorem dX10_layUntil_10 : decode cX10_layUntil 10 = .ok (.getfield 73, 3) := by decide +kernel
theorem dX10_layUntil_13 : decode cX10_layUntil 13 = .ok (.if_icmp .ge 27, 3) := by decide +kernel
theorem dX10_layUntil_16 : decode cX10_layUntil 16 = .ok (.aload_n 0, 1) := by decide +kernel
theorem dX10_layUntil_17 : decode cX10_layUntil 17 = .ok (.getfield 17, 3) := by decide +kernel
theorem dX10_layUntil_20 : decode cX10_layUntil 20 = .ok (.getfield 266, 3) := by decide +kernel
theorem dX10_layUntil_23 : decode cX10_layUntil 23 = .ok (.iload_n 3, 1) := by decide +kernel
theorem dX10_layUntil_24 : decode cX10_layUntil 24 = .ok (.iaload, 1) := by decide +kernel
theorem dX10_layUntil_25 : decode cX10_layUntil 25 = .ok (.i2l, 1) := by decide +kernel
theorem dX10_layUntil_26 : decode cX10_layUntil 26 = .ok (.aload_n 2, 1) := by decide +kernel
theorem dX10_layUntil_27 : decode cX10_layUntil 27 = .ok (.getfield 269, 3) := by decide +kernel
theorem dX10_layUntil_30 : decode cX10_layUntil 30 = .ok (.lcmp, 1) := by decide +kernel
theorem dX10_layUntil_31 : decode cX10_layUntil 31 = .ok (.ifCond .eq 9, 3) := by decide +kernel
theorem dX10_layUntil_34 : decode cX10_layUntil 34 = .ok (.iinc 3 1, 3) := by decide +kernel
theorem dX10_layUntil_37 : decode cX10_layUntil 37 = .ok (.goto (-32), 3) := by decide +kernel
theorem dX10_layUntil_40 : decode cX10_layUntil 40 = .ok (.aload_n 0, 1) := by decide +kernel
theorem dX10_layUntil_41 : decode cX10_layUntil 41 = .ok (.aload_n 1, 1) := by decide +kernel
theorem dX10_layUntil_42 : decode cX10_layUntil 42 = .ok (.iload_n 3, 1) := by decide +kernel
theorem dX10_layUntil_43 : decode cX10_layUntil 43 = .ok (.iconst 1, 1) := by decide +kernel
theorem dX10_layUntil_44 : decode cX10_layUntil 44 = .ok (.iadd, 1) := by decide +kernel
theorem dX10_layUntil_45 : decode cX10_layUntil 45 = .ok (.aload_n 1, 1) := by decide +kernel
theorem dX10_layUntil_46 : decode cX10_layUntil 46 = .ok (.getfield 67, 3) := by decide +kernel
theorem dX10_layUntil_49 : decode cX10_layUntil 49 = .ok (.isub, 1) := by decide +kernel
theorem dX10_layUntil_50 : decode cX10_layUntil 50 = .ok (.invokevirtual 204, 3) := by decide +kernel
theorem dX10_layUntil_53 : decode cX10_layUntil 53 = .ok (.ireturn, 1) := by decide +kernel
theorem dX10_layWhole_0 : decode cX10_layWhole 0 = .ok (.aload_n 0, 1) := by decide +kernel
theorem dX10_layWhole_1 : decode cX10_layWhole 1 = .ok (.aload_n 1, 1) := by decide +kernel
theorem dX10_layWhole_2 : decode cX10_layWhole 2 = .ok (.aload_n 2, 1) := by decide +kernel
theorem dX10_layWhole_3 : decode cX10_layWhole 3 = .ok (.getfield 90, 3) := by decide +kernel
theorem dX10_layWhole_6 : decode cX10_layWhole 6 = .ok (.invokevirtual 204, 3) := by decide +kernel
theorem dX10_layWhole_9 : decode cX10_layWhole 9 = .ok (.ifCond .ne 5, 3) := by decide +kernel
theorem dX10_layWhole_12 : decode cX10_layWhole 12 = .ok (.iconst 0, 1) := by decide +kernel
theorem dX10_layWhole_13 : decode cX10_layWhole 13 = .ok (.ireturn, 1) := by decide +kernel
theorem dX10_layWhole_14 : decode cX10_layWhole 14 = .ok (.aload_n 2, 1) := by decide +kernel
theorem dX10_layWhole_15 : decode cX10_layWhole 15 = .ok (.getfield 214, 3) := by decide +kernel
theorem dX10_layWhole_18 : decode cX10_layWhole 18 = .ok (.iconst (-1), 1) := by decide +kernel
theorem dX10_layWhole_19 : decode cX10_layWhole 19 = .ok (.if_icmp .eq 31, 3) := by decide +kernel
theorem dX10_layWhole_22 : decode cX10_layWhole 22 = .ok (.aload_n 0, 1) := by decide +kernel
theorem dX10_layWhole_23 : decode cX10_layWhole 23 = .ok (.getfield 28, 3) := by decide +kernel
theorem dX10_layWhole_26 : decode cX10_layWhole 26 = .ok (.aload_n 2, 1) := by decide +kernel
theorem dX10_layWhole_27 : decode cX10_layWhole 27 = .ok (.getfield 214, 3) := by decide +kernel
theorem dX10_layWhole_30 : decode cX10_layWhole 30 = .ok (.aload_n 1, 1) := by decide +kernel
theorem dX10_layWhole_31 : decode cX10_layWhole 31 = .ok (.aload_n 0, 1) := by decide +kernel
theorem dX10_layWhole_32 : decode cX10_layWhole 32 = .ok (.getfield 17, 3) := by decide +kernel
theorem dX10_layWhole_35 : decode cX10_layWhole 35 = .ok (.invokevirtual 217, 3) := by decide +kernel
theorem dX10_layWhole_38 : decode cX10_layWhole 38 = .ok (.invokevirtual 221, 3) := by decide +kernel
theorem dX10_layWhole_41 : decode cX10_layWhole 41 = .ok (.iconst (-1), 1) := by decide +kernel
theorem dX10_layWhole_42 : decode cX10_layWhole 42 = .ok (.if_icmp .ne 8, 3) := by decide +kernel
theorem dX10_layWhole_45 : decode cX10_layWhole 45 = .ok (.aload_n 1, 1) := by decide +kernel
theorem dX10_layWhole_46 : decode cX10_layWhole 46 = .ok (.iconst 4, 1) := by decide +kernel
theorem dX10_layWhole_47 : decode cX10_layWhole 47 = .ok (.putfield 47, 3) := by decide +kernel
theorem dX10_layWhole_50 : decode cX10_layWhole 50 = .ok (.iconst 1, 1) := by decide +kernel
theorem dX10_layWhole_51 : decode cX10_layWhole 51 = .ok (.ireturn, 1) := by decide +kernel
theorem dX10_makeDue_0 : decode cX10_makeDue 0 = .ok (.aload_n 1, 1) := by decide +kernel
theorem dX10_makeDue_1 : decode cX10_makeDue 1 = .ok (.getfield 78, 3) := by decide +kernel
theorem dX10_makeDue_4 : decode cX10_makeDue 4 = .ok (.ifnull 18, 3) := by decide +kernel
theorem dX10_makeDue_7 : decode cX10_makeDue 7 = .ok (.aload_n 1, 1) := by decide +kernel
theorem dX10_makeDue_8 : decode cX10_makeDue 8 = .ok (.getfield 82, 3) := by decide +kernel
theorem dX10_makeDue_11 : decode cX10_makeDue 11 = .ok (.ifnull 11, 3) := by decide +kernel
theorem dX10_makeDue_14 : decode cX10_makeDue 14 = .ok (.aload_n 0, 1) := by decide +kernel
theorem dX10_makeDue_15 : decode cX10_makeDue 15 = .ok (.aload_n 1, 1) := by decide +kernel
theorem dX10_makeDue_16 : decode cX10_makeDue 16 = .ok (.invokevirtual 86, 3) := by decide +kernel
theorem dX10_makeDue_19 : decode cX10_makeDue 19 = .ok (.ifCond .eq 5, 3) := by decide +kernel
theorem dX10_makeDue_22 : decode cX10_makeDue 22 = .ok (.iconst 0, 1) := by decide +kernel
theorem dX10_makeDue_23 : decode cX10_makeDue 23 = .ok (.ireturn, 1) := by decide +kernel
theorem dX10_makeDue_24 : decode cX10_makeDue 24 = .ok (.aload_n 0, 1) := by decide +kernel
theorem dX10_makeDue_25 : decode cX10_makeDue 25 = .ok (.getfield 17, 3) := by decide +kernel
theorem dX10_makeDue_28 : decode cX10_makeDue 28 = .ok (.aload_n 1, 1) := by decide +kernel
theorem dX10_makeDue_29 : decode cX10_makeDue 29 = .ok (.getfield 67, 3) := by decide +kernel
theorem dX10_makeDue_32 : decode cX10_makeDue 32 = .ok (.aload_n 1, 1) := by decide +kernel
theorem dX10_makeDue_33 : decode cX10_makeDue 33 = .ok (.getfield 78, 3) := by decide +kernel
theorem dX10_makeDue_36 : decode cX10_makeDue 36 = .ok (.getfield 90, 3) := by decide +kernel
theorem dX10_makeDue_39 : decode cX10_makeDue 39 = .ok (.aload_n 0, 1) := by decide +kernel
theorem dX10_makeDue_40 : decode cX10_makeDue 40 = .ok (.aload_n 1, 1) := by decide +kernel
theorem dX10_makeDue_41 : decode cX10_makeDue 41 = .ok (.invokevirtual 95, 3) := by decide +kernel
theorem dX10_makeDue_44 : decode cX10_makeDue 44 = .ok (.aload_n 1, 1) := by decide +kernel
theorem dX10_makeDue_45 : decode cX10_makeDue 45 = .ok (.getfield 78, 3) := by decide +kernel
theorem dX10_makeDue_48 : decode cX10_makeDue 48 = .ok (.getfield 99, 3) := by decide +kernel
theorem dX10_makeDue_51 : decode cX10_makeDue 51 = .ok (.invokevirtual 102, 3) := by decide +kernel
theorem dX10_makeDue_54 : decode cX10_makeDue 54 = .ok (.aload_n 1, 1) := by decide +kernel
theorem dX10_makeDue_55 : decode cX10_makeDue 55 = .ok (.getfield 47, 3) := by decide +kernel
theorem dX10_makeDue_58 : decode cX10_makeDue 58 = .ok (.iconst 3, 1) := by decide +kernel
theorem dX10_makeDue_59 : decode cX10_makeDue 59 = .ok (.if_icmp .ne 8, 3) := by decide +kernel
theorem dX10_makeDue_62 : decode cX10_makeDue 62 = .ok (.aload_n 1, 1) := by decide +kernel
theorem dX10_makeDue_63 : decode cX10_makeDue 63 = .ok (.iconst 0, 1) := by decide +kernel
theorem dX10_makeDue_64 : decode cX10_makeDue 64 = .ok (.putfield 47, 3) := by decide +kernel
theorem dX10_makeDue_67 : decode cX10_makeDue 67 = .ok (.iconst 1, 1) := by decide +kernel
theorem dX10_makeDue_68 : decode cX10_makeDue 68 = .ok (.ireturn, 1) := by decide +kernel
theorem dX10_markGaps_0 : decode cX10_markGaps 0 = .ok (.aload_n 1, 1) := by decide +kernel
theorem dX10_markGaps_1 : decode cX10_markGaps 1 = .ok (.iconst 0, 1) := by decide +kernel
theorem dX10_markGaps_2 : decode cX10_markGaps 2 = .ok (.invokestatic 57, 3) := by decide +kernel
theorem dX10_markGaps_5 : decode cX10_markGaps 5 = .ok (.iconst 0, 1) := by decide +kernel
theorem dX10_markGaps_6 : decode cX10_markGaps 6 = .ok (.istore_n 2, 1) := by decide +kernel
theorem dX10_markGaps_7 : decode cX10_markGaps 7 = .ok (.iload_n 2, 1) := by decide +kernel
theorem dX10_markGaps_8 : decode cX10_markGaps 8 = .ok (.aload_n 0, 1) := by decide +kernel
theorem dX10_markGaps_9 : decode cX10_markGaps 9 = .ok (.getfield 36, 3) := by decide +kernel
theorem dX10_markGaps_12 : decode cX10_markGaps 12 = .ok (.if_icmp .ge 51, 3) := by decide +kernel
theorem dX10_markGaps_15 : decode cX10_markGaps 15 = .ok (.aload_n 0, 1) := by decide +kernel
theorem dX10_markGaps_16 : decode cX10_markGaps 16 = .ok (.getfield 11, 3) := by decide +kernel
theorem dX10_markGaps_19 : decode cX10_markGaps 19 = .ok (.iload_n 2, 1) := by decide +kernel
theorem dX10_markGaps_20 : decode cX10_markGaps 20 = .ok (.aaload, 1) := by decide +kernel
theorem dX10_markGaps_21 : decode cX10_markGaps 21 = .ok (.invokevirtual 63, 3) := by decide +kernel
theorem dX10_markGaps_24 : decode cX10_markGaps 24 = .ok (.ifCond .ne 33, 3) := by decide +kernel
theorem dX10_markGaps_27 : decode cX10_markGaps 27 = .ok (.aload_n 1, 1) := by decide +kernel
theorem dX10_markGaps_28 : decode cX10_markGaps 28 = .ok (.aload_n 0, 1) := by decide +kernel
theorem dX10_markGaps_29 : decode cX10_markGaps 29 = .ok (.getfield 11, 3) := by decide +kernel
theorem dX10_markGaps_32 : decode cX10_markGaps 32 = .ok (.iload_n 2, 1) := by decide +kernel
theorem dX10_markGaps_33 : decode cX10_markGaps 33 = .ok (.aaload, 1) := by decide +kernel
theorem dX10_markGaps_34 : decode cX10_markGaps 34 = .ok (.getfield 67, 3) := by decide +kernel
theorem dX10_markGaps_37 : decode cX10_markGaps 37 = .ok (.dup2, 1) := by decide +kernel
theorem dX10_markGaps_38 : decode cX10_markGaps 38 = .ok (.iaload, 1) := by decide +kernel
theorem dX10_markGaps_39 : decode cX10_markGaps 39 = .ok (.iconst 1, 1) := by decide +kernel
theorem dX10_markGaps_40 : decode cX10_markGaps 40 = .ok (.iadd, 1) := by decide +kernel
theorem dX10_markGaps_41 : decode cX10_markGaps 41 = .ok (.iastore, 1) := by decide +kernel
theorem dX10_markGaps_42 : decode cX10_markGaps 42 = .ok (.aload_n 1, 1) := by decide +kernel
theorem dX10_markGaps_43 : decode cX10_markGaps 43 = .ok (.aload_n 0, 1) := by decide +kernel
theorem dX10_markGaps_44 : decode cX10_markGaps 44 = .ok (.getfield 11, 3) := by decide +kernel
theorem dX10_markGaps_47 : decode cX10_markGaps 47 = .ok (.iload_n 2, 1) := by decide +kernel
theorem dX10_markGaps_48 : decode cX10_markGaps 48 = .ok (.aaload, 1) := by decide +kernel
theorem dX10_markGaps_49 : decode cX10_markGaps 49 = .ok (.getfield 70, 3) := by decide +kernel
theorem dX10_markGaps_52 : decode cX10_markGaps 52 = .ok (.dup2, 1) := by decide +kernel
theorem dX10_markGaps_53 : decode cX10_markGaps 53 = .ok (.iaload, 1) := by decide +kernel
theorem dX10_markGaps_54 : decode cX10_markGaps 54 = .ok (.iconst 1, 1) := by decide +kernel
theorem dX10_markGaps_55 : decode cX10_markGaps 55 = .ok (.isub, 1) := by decide +kernel
theorem dX10_markGaps_56 : decode cX10_markGaps 56 = .ok (.iastore, 1) := by decide +kernel
theorem dX10_markGaps_57 : decode cX10_markGaps 57 = .ok (.iinc 2 1, 3) := by decide +kernel
theorem dX10_markGaps_60 : decode cX10_markGaps 60 = .ok (.goto (-53), 3) := by decide +kernel
theorem dX10_markGaps_63 : decode cX10_markGaps 63 = .ok (.iconst 0, 1) := by decide +kernel
theorem dX10_markGaps_64 : decode cX10_markGaps 64 = .ok (.istore_n 2, 1) := by decide +kernel
theorem dX10_markGaps_65 : decode cX10_markGaps 65 = .ok (.iconst 0, 1) := by decide +kernel
theorem dX10_markGaps_66 : decode cX10_markGaps 66 = .ok (.istore_n 3, 1) := by decide +kernel
theorem dX10_markGaps_67 : decode cX10_markGaps 67 = .ok (.iload_n 3, 1) := by decide +kernel
theorem dX10_markGaps_68 : decode cX10_markGaps 68 = .ok (.aload_n 0, 1) := by decide +kernel
theorem dX10_markGaps_69 : decode cX10_markGaps 69 = .ok (.getfield 17, 3) := by decide +kernel
theorem dX10_markGaps_72 : decode cX10_markGaps 72 = .ok (.getfield 73, 3) := by decide +kernel
theorem dX10_markGaps_75 : decode cX10_markGaps 75 = .ok (.if_icmp .ge 27, 3) := by decide +kernel
theorem dX10_markGaps_78 : decode cX10_markGaps 78 = .ok (.iload_n 2, 1) := by decide +kernel
theorem dX10_markGaps_79 : decode cX10_markGaps 79 = .ok (.aload_n 1, 1) := by decide +kernel
theorem dX10_markGaps_80 : decode cX10_markGaps 80 = .ok (.iload_n 3, 1) := by decide +kernel
theorem dX10_markGaps_81 : decode cX10_markGaps 81 = .ok (.iaload, 1) := by decide +kernel
theorem dX10_markGaps_82 : decode cX10_markGaps 82 = .ok (.iadd, 1) := by decide +kernel
theorem dX10_markGaps_83 : decode cX10_markGaps 83 = .ok (.istore_n 2, 1) := by decide +kernel
theorem dX10_markGaps_84 : decode cX10_markGaps 84 = .ok (.aload_n 1, 1) := by decide +kernel
theorem dX10_markGaps_85 : decode cX10_markGaps 85 = .ok (.iload_n 3, 1) := by decide +kernel
theorem dX10_markGaps_86 : decode cX10_markGaps 86 = .ok (.iload_n 2, 1) := by decide +kernel
theorem dX10_markGaps_87 : decode cX10_markGaps 87 = .ok (.ifCond .ne 7, 3) := by decide +kernel
theorem dX10_markGaps_90 : decode cX10_markGaps 90 = .ok (.iconst 1, 1) := by decide +kernel
theorem dX10_markGaps_91 : decode cX10_markGaps 91 = .ok (.goto 4, 3) := by decide +kernel
theorem dX10_markGaps_94 : decode cX10_markGaps 94 = .ok (.iconst 0, 1) := by decide +kernel
theorem dX10_markGaps_95 : decode cX10_markGaps 95 = .ok (.iastore, 1) := by decide +kernel
theorem dX10_markGaps_96 : decode cX10_markGaps 96 = .ok (.iinc 3 1, 3) := by decide +kernel
theorem dX10_markGaps_99 : decode cX10_markGaps 99 = .ok (.goto (-32), 3) := by decide +kernel
theorem dX10_markGaps_102 : decode cX10_markGaps 102 = .ok (.return_, 1) := by decide +kernel
theorem dX10_rangeFault_0 : decode cX10_rangeFault 0 = .ok (.aload_n 1, 1) := by decide +kernel
theorem dX10_rangeFault_1 : decode cX10_rangeFault 1 = .ok (.getfield 82, 3) := by decide +kernel
theorem dX10_rangeFault_4 : decode cX10_rangeFault 4 = .ok (.astore_n 2, 1) := by decide +kernel
theorem dX10_rangeFault_5 : decode cX10_rangeFault 5 = .ok (.aload_n 0, 1) := by decide +kernel
theorem dX10_rangeFault_6 : decode cX10_rangeFault 6 = .ok (.getfield 32, 3) := by decide +kernel
theorem dX10_rangeFault_9 : decode cX10_rangeFault 9 = .ok (.aload_n 0, 1) := by decide +kernel
theorem dX10_rangeFault_10 : decode cX10_rangeFault 10 = .ok (.getfield 28, 3) := by decide +kernel
theorem dX10_rangeFault_13 : decode cX10_rangeFault 13 = .ok (.getfield 156, 3) := by decide +kernel
theorem dX10_rangeFault_16 : decode cX10_rangeFault 16 = .ok (.aload_n 1, 1) := by decide +kernel
theorem dX10_rangeFault_17 : decode cX10_rangeFault 17 = .ok (.getfield 78, 3) := by decide +kernel
theorem dX10_rangeFault_20 : decode cX10_rangeFault 20 = .ok (.getfield 184, 3) := by decide +kernel
theorem dX10_rangeFault_23 : decode cX10_rangeFault 23 = .ok (.aload_n 2, 1) := by decide +kernel
theorem dX10_rangeFault_24 : decode cX10_rangeFault 24 = .ok (.aload_n 1, 1) := by decide +kernel
theorem dX10_rangeFault_25 : decode cX10_rangeFault 25 = .ok (.getfield 67, 3) := by decide +kernel
theorem dX10_rangeFault_28 : decode cX10_rangeFault 28 = .ok (.aload_n 0, 1) := by decide +kernel
theorem dX10_rangeFault_29 : decode cX10_rangeFault 29 = .ok (.getfield 17, 3) := by decide +kernel
theorem dX10_rangeFault_32 : decode cX10_rangeFault 32 = .ok (.invokevirtual 160, 3) := by decide +kernel
theorem dX10_rangeFault_35 : decode cX10_rangeFault 35 = .ok (.lstore_n 3, 1) := by decide +kernel
theorem dX10_rangeFault_36 : decode cX10_rangeFault 36 = .ok (.aload_n 0, 1) := by decide +kernel
theorem dX10_rangeFault_37 : decode cX10_rangeFault 37 = .ok (.getfield 32, 3) := by decide +kernel
theorem dX10_rangeFault_40 : decode cX10_rangeFault 40 = .ok (.getfield 166, 3) := by decide +kernel
theorem dX10_rangeFault_43 : decode cX10_rangeFault 43 = .ok (.istore 5, 2) := by decide +kernel
theorem dX10_rangeFault_45 : decode cX10_rangeFault 45 = .ok (.aload_n 0, 1) := by decide +kernel
theorem dX10_rangeFault_46 : decode cX10_rangeFault 46 = .ok (.getfield 32, 3) := by decide +kernel
theorem dX10_rangeFault_49 : decode cX10_rangeFault 49 = .ok (.aload_n 0, 1) := by decide +kernel
theorem dX10_rangeFault_50 : decode cX10_rangeFault 50 = .ok (.getfield 28, 3) := by decide +kernel
theorem dX10_rangeFault_53 : decode cX10_rangeFault 53 = .ok (.getfield 156, 3) := by decide +kernel
theorem dX10_rangeFault_56 : decode cX10_rangeFault 56 = .ok (.aload_n 1, 1) := by decide +kernel
theorem dX10_rangeFault_57 : decode cX10_rangeFault 57 = .ok (.getfield 78, 3) := by decide +kernel
theorem dX10_rangeFault_60 : decode cX10_rangeFault 60 = .ok (.getfield 296, 3) := by decide +kernel
theorem dX10_rangeFault_63 : decode cX10_rangeFault 63 = .ok (.aload_n 2, 1) := by decide +kernel
theorem dX10_rangeFault_64 : decode cX10_rangeFault 64 = .ok (.aload_n 1, 1) := by decide +kernel
theorem dX10_rangeFault_65 : decode cX10_rangeFault 65 = .ok (.getfield 67, 3) := by decide +kernel
theorem dX10_rangeFault_68 : decode cX10_rangeFault 68 = .ok (.aload_n 0, 1) := by decide +kernel
theorem dX10_rangeFault_69 : decode cX10_rangeFault 69 = .ok (.getfield 17, 3) := by decide +kernel
theorem dX10_rangeFault_72 : decode cX10_rangeFault 72 = .ok (.invokevirtual 160, 3) := by decide +kernel
theorem dX10_rangeFault_75 : decode cX10_rangeFault 75 = .ok (.lstore 6, 2) := by decide +kernel
theorem dX10_rangeFault_77 : decode cX10_rangeFault 77 = .ok (.iload 5, 2) := by decide +kernel
theorem dX10_rangeFault_79 : decode cX10_rangeFault 79 = .ok (.ifCond .ne 13, 3) := by decide +kernel
theorem dX10_rangeFault_82 : decode cX10_rangeFault 82 = .ok (.aload_n 0, 1) := by decide +kernel
theorem dX10_rangeFault_83 : decode cX10_rangeFault 83 = .ok (.getfield 32, 3) := by decide +kernel
theorem dX10_rangeFault_86 : decode cX10_rangeFault 86 = .ok (.getfield 166, 3) := by decide +kernel
theorem dX10_rangeFault_89 : decode cX10_rangeFault 89 = .ok (.ifCond .eq 6, 3) := by decide +kernel
theorem dX10_rangeFault_92 : decode cX10_rangeFault 92 = .ok (.bipush 6, 2) := by decide +kernel
theorem dX10_rangeFault_94 : decode cX10_rangeFault 94 = .ok (.ireturn, 1) := by decide +kernel
theorem dX10_rangeFault_95 : decode cX10_rangeFault 95 = .ok (.lload_n 3, 1) := by decide +kernel
theorem dX10_rangeFault_96 : decode cX10_rangeFault 96 = .ok (.lconst 0, 1) := by decide +kernel
theorem dX10_rangeFault_97 : decode cX10_rangeFault 97 = .ok (.lcmp, 1) := by decide +kernel
theorem dX10_rangeFault_98 : decode cX10_rangeFault 98 = .ok (.ifCond .lt 29, 3) := by decide +kernel
theorem dX10_rangeFault_101 : decode cX10_rangeFault 101 = .ok (.lload 6, 2) := by decide +kernel
theorem dX10_rangeFault_103 : decode cX10_rangeFault 103 = .ok (.lload_n 3, 1) := by decide +kernel
theorem dX10_rangeFault_104 : decode cX10_rangeFault 104 = .ok (.lcmp, 1) := by decide +kernel
theorem dX10_rangeFault_105 : decode cX10_rangeFault 105 = .ok (.ifCond .lt 22, 3) := by decide +kernel
theorem dX10_rangeFault_108 : decode cX10_rangeFault 108 = .ok (.lload 6, 2) := by decide +kernel
theorem dX10_rangeFault_110 : decode cX10_rangeFault 110 = .ok (.aload_n 0, 1) := by decide +kernel
theorem dX10_rangeFault_111 : decode cX10_rangeFault 111 = .ok (.getfield 17, 3) := by decide +kernel
theorem dX10_rangeFault_114 : decode cX10_rangeFault 114 = .ok (.getfield 73, 3) := by decide +kernel
theorem dX10_rangeFault_117 : decode cX10_rangeFault 117 = .ok (.aload_n 2, 1) := by decide +kernel
theorem dX10_rangeFault_118 : decode cX10_rangeFault 118 = .ok (.getfield 67, 3) := by decide +kernel
theorem dX10_rangeFault_121 : decode cX10_rangeFault 121 = .ok (.isub, 1) := by decide +kernel
theorem dX10_rangeFault_122 : decode cX10_rangeFault 122 = .ok (.i2l, 1) := by decide +kernel
theorem dX10_rangeFault_123 : decode cX10_rangeFault 123 = .ok (.lcmp, 1) := by decide +kernel
theorem dX10_rangeFault_124 : decode cX10_rangeFault 124 = .ok (.ifCond .le 5, 3) := by decide +kernel
theorem dX10_rangeFault_127 : decode cX10_rangeFault 127 = .ok (.iconst 5, 1) := by decide +kernel
theorem dX10_rangeFault_128 : decode cX10_rangeFault 128 = .ok (.ireturn, 1) := by decide +kernel
theorem dX10_rangeFault_129 : decode cX10_rangeFault 129 = .ok (.aload_n 0, 1) := by decide +kernel
theorem dX10_rangeFault_130 : decode cX10_rangeFault 130 = .ok (.aload_n 2, 1) := by decide +kernel
theorem dX10_rangeFault_131 : decode cX10_rangeFault 131 = .ok (.getfield 67, 3) := by decide +kernel
theorem dX10_rangeFault_134 : decode cX10_rangeFault 134 = .ok (.lload_n 3, 1) := by decide +kernel
theorem dX10_rangeFault_135 : decode cX10_rangeFault 135 = .ok (.l2i, 1) := by decide +kernel
theorem dX10_rangeFault_136 : decode cX10_rangeFault 136 = .ok (.iadd, 1) := by decide +kernel
theorem dX10_rangeFault_137 : decode cX10_rangeFault 137 = .ok (.putfield 299, 3) := by decide +kernel
theorem dX10_rangeFault_140 : decode cX10_rangeFault 140 = .ok (.aload_n 0, 1) := by decide +kernel
theorem dX10_rangeFault_141 : decode cX10_rangeFault 141 = .ok (.aload_n 2, 1) := by decide +kernel
theorem dX10_rangeFault_142 : decode cX10_rangeFault 142 = .ok (.getfield 67, 3) := by decide +kernel
theorem dX10_rangeFault_145 : decode cX10_rangeFault 145 = .ok (.lload 6, 2) := by decide +kernel
theorem dX10_rangeFault_147 : decode cX10_rangeFault 147 = .ok (.l2i, 1) := by decide +kernel
theorem dX10_rangeFault_148 : decode cX10_rangeFault 148 = .ok (.iadd, 1) := by decide +kernel
theorem dX10_rangeFault_149 : decode cX10_rangeFault 149 = .ok (.putfield 302, 3) := by decide +kernel
theorem dX10_rangeFault_152 : decode cX10_rangeFault 152 = .ok (.iconst 0, 1) := by decide +kernel
theorem dX10_rangeFault_153 : decode cX10_rangeFault 153 = .ok (.ireturn, 1) := by decide +kernel
theorem dX11_at_0 : decode cX11_at 0 = .ok (.aload_n 0, 1) := by decide +kernel
theorem dX11_at_1 : decode cX11_at 1 = .ok (.iload_n 1, 1) := by decide +kernel
theorem dX11_at_2 : decode cX11_at 2 = .ok (.invokevirtual 79, 3) := by decide +kernel
theorem dX11_at_5 : decode cX11_at 5 = .ok (.astore_n 3, 1) := by decide +kernel
theorem dX11_at_6 : decode cX11_at 6 = .ok (.aload_n 3, 1) := by decide +kernel
theorem dX11_at_7 : decode cX11_at 7 = .ok (.ifnonnull 7, 3) := by decide +kernel
theorem dX11_at_10 : decode cX11_at 10 = .ok (.iconst (-1), 1) := by decide +kernel
theorem dX11_at_11 : decode cX11_at 11 = .ok (.goto 8, 3) := by decide +kernel
theorem dX11_at_14 : decode cX11_at 14 = .ok (.aload_n 3, 1) := by decide +kernel
theorem dX11_at_15 : decode cX11_at 15 = .ok (.iload_n 2, 1) := by decide +kernel
theorem dX11_at_16 : decode cX11_at 16 = .ok (.invokevirtual 93, 3) := by decide +kernel
theorem dX11_at_19 : decode cX11_at 19 = .ok (.ireturn, 1) := by decide +kernel
