/-! fetch rows of the law, by wip/whole/gen56.py -/
-- L_law
theorem f154_0 : amFetch 154 0 = some (.new 8, 3, 0, 3, 0) := rfl
theorem f154_3 : amFetch 154 3 = some (.dup, 1, 0, 0, 0) := rfl
theorem f154_4 : amFetch 154 4 = some (.invokespecial 107, 3, 3, 36, 0) := rfl
theorem f154_7 : amFetch 154 7 = some (.astore_n 1, 1, 0, 0, 0) := rfl
theorem f154_8 : amFetch 154 8 = some (.new 108, 3, 0, 4, 0) := rfl
theorem f154_11 : amFetch 154 11 = some (.dup, 1, 0, 0, 0) := rfl
theorem f154_12 : amFetch 154 12 = some (.invokespecial 110, 3, 3, 77, 0) := rfl
theorem f154_15 : amFetch 154 15 = some (.astore_n 2, 1, 0, 0, 0) := rfl
theorem f154_16 : amFetch 154 16 = some (.iconst 1, 1, 0, 0, 0) := rfl
theorem f154_17 : amFetch 154 17 = some (.newarray .long, 2, 0, 0, 0) := rfl
theorem f154_19 : amFetch 154 19 = some (.astore_n 3, 1, 0, 0, 0) := rfl
theorem f154_20 : amFetch 154 20 = some (.iconst 0, 1, 0, 0, 0) := rfl
theorem f154_21 : amFetch 154 21 = some (.istore 4, 2, 0, 0, 0) := rfl
theorem f154_23 : amFetch 154 23 = some (.iload 4, 2, 0, 0, 0) := rfl
theorem f154_25 : amFetch 154 25 = some (.aload_n 0, 1, 0, 0, 0) := rfl
theorem f154_26 : amFetch 154 26 = some (.arraylength, 1, 0, 0, 0) := rfl
theorem f154_27 : amFetch 154 27 = some (.iconst 4, 1, 0, 0, 0) := rfl
theorem f154_28 : amFetch 154 28 = some (.isub, 1, 0, 0, 0) := rfl
theorem f154_29 : amFetch 154 29 = some (.if_icmp .gt 2089, 3, 0, 0, 0) := rfl
theorem f154_32 : amFetch 154 32 = some (.aload_n 0, 1, 0, 0, 0) := rfl
theorem f154_33 : amFetch 154 33 = some (.iload 4, 2, 0, 0, 0) := rfl
theorem f154_35 : amFetch 154 35 = some (.iaload, 1, 0, 0, 0) := rfl
theorem f154_36 : amFetch 154 36 = some (.bipush 31, 2, 0, 0, 0) := rfl
theorem f154_38 : amFetch 154 38 = some (.iand, 1, 0, 0, 0) := rfl
theorem f154_39 : amFetch 154 39 = some (.tableswitch 2073 0 29 #[133, 158, 226, 301, 369, 449, 529, 597, 665, 733, 769, 825, 881, 949, 1017, 1092, 1148, 1204, 1260, 1316, 1384, 1452, 1520, 1588, 1663, 1738, 1813, 1881, 1949, 2017], 133, 0, 0, 0) := rfl
theorem f154_172 : amFetch 154 172 = some (.aload_n 1, 1, 0, 0, 0) := rfl
theorem f154_173 : amFetch 154 173 = some (.aload_n 0, 1, 0, 0, 0) := rfl
theorem f154_174 : amFetch 154 174 = some (.iload 4, 2, 0, 0, 0) := rfl
theorem f154_176 : amFetch 154 176 = some (.iconst 1, 1, 0, 0, 0) := rfl
theorem f154_177 : amFetch 154 177 = some (.iadd, 1, 0, 0, 0) := rfl
theorem f154_178 : amFetch 154 178 = some (.iaload, 1, 0, 0, 0) := rfl
theorem f154_179 : amFetch 154 179 = some (.invokevirtual 111, 3, 0, 37, 1) := rfl
theorem f154_182 : amFetch 154 182 = some (.aload_n 2, 1, 0, 0, 0) := rfl
theorem f154_183 : amFetch 154 183 = some (.aload_n 0, 1, 0, 0, 0) := rfl
theorem f154_184 : amFetch 154 184 = some (.iload 4, 2, 0, 0, 0) := rfl
theorem f154_186 : amFetch 154 186 = some (.iconst 1, 1, 0, 0, 0) := rfl
theorem f154_187 : amFetch 154 187 = some (.iadd, 1, 0, 0, 0) := rfl
theorem f154_188 : amFetch 154 188 = some (.iaload, 1, 0, 0, 0) := rfl
theorem f154_189 : amFetch 154 189 = some (.invokevirtual 114, 3, 0, 93, 1) := rfl
theorem f154_192 : amFetch 154 192 = some (.if_icmp .eq 1920, 3, 0, 0, 0) := rfl
theorem f154_195 : amFetch 154 195 = some (.iconst 0, 1, 0, 0, 0) := rfl
theorem f154_196 : amFetch 154 196 = some (.ireturn, 1, 0, 0, 0) := rfl
theorem f154_197 : amFetch 154 197 = some (.aload_n 1, 1, 0, 0, 0) := rfl
theorem f154_198 : amFetch 154 198 = some (.aload_n 0, 1, 0, 0, 0) := rfl
theorem f154_199 : amFetch 154 199 = some (.iload 4, 2, 0, 0, 0) := rfl
theorem f154_201 : amFetch 154 201 = some (.iconst 1, 1, 0, 0, 0) := rfl
theorem f154_202 : amFetch 154 202 = some (.iadd, 1, 0, 0, 0) := rfl
theorem f154_203 : amFetch 154 203 = some (.iaload, 1, 0, 0, 0) := rfl
theorem f154_204 : amFetch 154 204 = some (.aload_n 0, 1, 0, 0, 0) := rfl
theorem f154_205 : amFetch 154 205 = some (.iload 4, 2, 0, 0, 0) := rfl
theorem f154_207 : amFetch 154 207 = some (.iconst 2, 1, 0, 0, 0) := rfl
theorem f154_208 : amFetch 154 208 = some (.iadd, 1, 0, 0, 0) := rfl
theorem f154_209 : amFetch 154 209 = some (.iaload, 1, 0, 0, 0) := rfl
theorem f154_210 : amFetch 154 210 = some (.aload_n 3, 1, 0, 0, 0) := rfl
theorem f154_211 : amFetch 154 211 = some (.invokestatic 115, 3, 1, 125, 4) := rfl
theorem f154_214 : amFetch 154 214 = some (.istore 5, 2, 0, 0, 0) := rfl
theorem f154_216 : amFetch 154 216 = some (.aload_n 2, 1, 0, 0, 0) := rfl
theorem f154_217 : amFetch 154 217 = some (.aload_n 0, 1, 0, 0, 0) := rfl
theorem f154_218 : amFetch 154 218 = some (.iload 4, 2, 0, 0, 0) := rfl
theorem f154_220 : amFetch 154 220 = some (.iconst 1, 1, 0, 0, 0) := rfl
theorem f154_221 : amFetch 154 221 = some (.iadd, 1, 0, 0, 0) := rfl
theorem f154_222 : amFetch 154 222 = some (.iaload, 1, 0, 0, 0) := rfl
theorem f154_223 : amFetch 154 223 = some (.aload_n 0, 1, 0, 0, 0) := rfl
theorem f154_224 : amFetch 154 224 = some (.iload 4, 2, 0, 0, 0) := rfl
theorem f154_226 : amFetch 154 226 = some (.iconst 2, 1, 0, 0, 0) := rfl
theorem f154_227 : amFetch 154 227 = some (.iadd, 1, 0, 0, 0) := rfl
theorem f154_228 : amFetch 154 228 = some (.iaload, 1, 0, 0, 0) := rfl
theorem f154_229 : amFetch 154 229 = some (.invokevirtual 120, 3, 0, 95, 2) := rfl
theorem f154_232 : amFetch 154 232 = some (.istore 6, 2, 0, 0, 0) := rfl
theorem f154_234 : amFetch 154 234 = some (.aload_n 2, 1, 0, 0, 0) := rfl
theorem f154_235 : amFetch 154 235 = some (.invokevirtual 121, 3, 0, 78, 0) := rfl
theorem f154_238 : amFetch 154 238 = some (.iload 5, 2, 0, 0, 0) := rfl
theorem f154_240 : amFetch 154 240 = some (.if_icmp .eq 5, 3, 0, 0, 0) := rfl
theorem f154_243 : amFetch 154 243 = some (.iconst 0, 1, 0, 0, 0) := rfl
theorem f154_244 : amFetch 154 244 = some (.ireturn, 1, 0, 0, 0) := rfl
theorem f154_245 : amFetch 154 245 = some (.iload 5, 2, 0, 0, 0) := rfl
theorem f154_247 : amFetch 154 247 = some (.ifCond .ne 15, 3, 0, 0, 0) := rfl
theorem f154_250 : amFetch 154 250 = some (.aload_n 3, 1, 0, 0, 0) := rfl
theorem f154_251 : amFetch 154 251 = some (.iconst 0, 1, 0, 0, 0) := rfl
theorem f154_252 : amFetch 154 252 = some (.laload, 1, 0, 0, 0) := rfl
theorem f154_253 : amFetch 154 253 = some (.iload 6, 2, 0, 0, 0) := rfl
theorem f154_255 : amFetch 154 255 = some (.i2l, 1, 0, 0, 0) := rfl
theorem f154_256 : amFetch 154 256 = some (.lcmp, 1, 0, 0, 0) := rfl
theorem f154_257 : amFetch 154 257 = some (.ifCond .eq 5, 3, 0, 0, 0) := rfl
theorem f154_260 : amFetch 154 260 = some (.iconst 0, 1, 0, 0, 0) := rfl
theorem f154_261 : amFetch 154 261 = some (.ireturn, 1, 0, 0, 0) := rfl
theorem f154_262 : amFetch 154 262 = some (.goto 1850, 3, 0, 0, 0) := rfl
theorem f154_265 : amFetch 154 265 = some (.aload_n 1, 1, 0, 0, 0) := rfl
theorem f154_266 : amFetch 154 266 = some (.aload_n 0, 1, 0, 0, 0) := rfl
theorem f154_267 : amFetch 154 267 = some (.iload 4, 2, 0, 0, 0) := rfl
theorem f154_269 : amFetch 154 269 = some (.iconst 1, 1, 0, 0, 0) := rfl
theorem f154_270 : amFetch 154 270 = some (.iadd, 1, 0, 0, 0) := rfl
theorem f154_271 : amFetch 154 271 = some (.iaload, 1, 0, 0, 0) := rfl
theorem f154_272 : amFetch 154 272 = some (.aload_n 0, 1, 0, 0, 0) := rfl
theorem f154_273 : amFetch 154 273 = some (.iload 4, 2, 0, 0, 0) := rfl
theorem f154_275 : amFetch 154 275 = some (.iconst 2, 1, 0, 0, 0) := rfl
theorem f154_276 : amFetch 154 276 = some (.iadd, 1, 0, 0, 0) := rfl
theorem f154_277 : amFetch 154 277 = some (.iaload, 1, 0, 0, 0) := rfl
theorem f154_278 : amFetch 154 278 = some (.aload_n 3, 1, 0, 0, 0) := rfl
theorem f154_279 : amFetch 154 279 = some (.invokestatic 125, 3, 1, 126, 4) := rfl
theorem f154_282 : amFetch 154 282 = some (.istore 5, 2, 0, 0, 0) := rfl
theorem f154_284 : amFetch 154 284 = some (.aload_n 2, 1, 0, 0, 0) := rfl
theorem f154_285 : amFetch 154 285 = some (.aload_n 0, 1, 0, 0, 0) := rfl
theorem f154_286 : amFetch 154 286 = some (.iload 4, 2, 0, 0, 0) := rfl
theorem f154_288 : amFetch 154 288 = some (.iconst 1, 1, 0, 0, 0) := rfl
theorem f154_289 : amFetch 154 289 = some (.iadd, 1, 0, 0, 0) := rfl
theorem f154_290 : amFetch 154 290 = some (.iaload, 1, 0, 0, 0) := rfl
theorem f154_291 : amFetch 154 291 = some (.aload_n 0, 1, 0, 0, 0) := rfl
theorem f154_292 : amFetch 154 292 = some (.iload 4, 2, 0, 0, 0) := rfl
theorem f154_294 : amFetch 154 294 = some (.iconst 2, 1, 0, 0, 0) := rfl
theorem f154_295 : amFetch 154 295 = some (.iadd, 1, 0, 0, 0) := rfl
theorem f154_296 : amFetch 154 296 = some (.iaload, 1, 0, 0, 0) := rfl
theorem f154_297 : amFetch 154 297 = some (.invokevirtual 127, 3, 0, 96, 2) := rfl
theorem f154_300 : amFetch 154 300 = some (.istore 6, 2, 0, 0, 0) := rfl
theorem f154_302 : amFetch 154 302 = some (.aload_n 2, 1, 0, 0, 0) := rfl
theorem f154_303 : amFetch 154 303 = some (.invokevirtual 121, 3, 0, 78, 0) := rfl
theorem f154_306 : amFetch 154 306 = some (.iload 5, 2, 0, 0, 0) := rfl
theorem f154_308 : amFetch 154 308 = some (.if_icmp .eq 5, 3, 0, 0, 0) := rfl
theorem f154_311 : amFetch 154 311 = some (.iconst 0, 1, 0, 0, 0) := rfl
theorem f154_312 : amFetch 154 312 = some (.ireturn, 1, 0, 0, 0) := rfl
theorem f154_313 : amFetch 154 313 = some (.iload 5, 2, 0, 0, 0) := rfl
theorem f154_315 : amFetch 154 315 = some (.ifCond .ne 22, 3, 0, 0, 0) := rfl
theorem f154_318 : amFetch 154 318 = some (.aload_n 3, 1, 0, 0, 0) := rfl
theorem f154_319 : amFetch 154 319 = some (.iconst 0, 1, 0, 0, 0) := rfl
theorem f154_320 : amFetch 154 320 = some (.laload, 1, 0, 0, 0) := rfl
theorem f154_321 : amFetch 154 321 = some (.iload 6, 2, 0, 0, 0) := rfl
theorem f154_323 : amFetch 154 323 = some (.ifCond .eq 7, 3, 0, 0, 0) := rfl
theorem f154_326 : amFetch 154 326 = some (.lconst 1, 1, 0, 0, 0) := rfl
theorem f154_327 : amFetch 154 327 = some (.goto 4, 3, 0, 0, 0) := rfl
theorem f154_330 : amFetch 154 330 = some (.lconst 0, 1, 0, 0, 0) := rfl
theorem f154_331 : amFetch 154 331 = some (.lcmp, 1, 0, 0, 0) := rfl
theorem f154_332 : amFetch 154 332 = some (.ifCond .eq 5, 3, 0, 0, 0) := rfl
theorem f154_335 : amFetch 154 335 = some (.iconst 0, 1, 0, 0, 0) := rfl
theorem f154_336 : amFetch 154 336 = some (.ireturn, 1, 0, 0, 0) := rfl
theorem f154_337 : amFetch 154 337 = some (.goto 1775, 3, 0, 0, 0) := rfl
theorem f154_340 : amFetch 154 340 = some (.aload_n 1, 1, 0, 0, 0) := rfl
theorem f154_341 : amFetch 154 341 = some (.aload_n 0, 1, 0, 0, 0) := rfl
theorem f154_342 : amFetch 154 342 = some (.iload 4, 2, 0, 0, 0) := rfl
theorem f154_344 : amFetch 154 344 = some (.iconst 1, 1, 0, 0, 0) := rfl
theorem f154_345 : amFetch 154 345 = some (.iadd, 1, 0, 0, 0) := rfl
theorem f154_346 : amFetch 154 346 = some (.iaload, 1, 0, 0, 0) := rfl
theorem f154_347 : amFetch 154 347 = some (.aload_n 0, 1, 0, 0, 0) := rfl
theorem f154_348 : amFetch 154 348 = some (.iload 4, 2, 0, 0, 0) := rfl
theorem f154_350 : amFetch 154 350 = some (.iconst 2, 1, 0, 0, 0) := rfl
theorem f154_351 : amFetch 154 351 = some (.iadd, 1, 0, 0, 0) := rfl
theorem f154_352 : amFetch 154 352 = some (.iaload, 1, 0, 0, 0) := rfl
theorem f154_353 : amFetch 154 353 = some (.aload_n 3, 1, 0, 0, 0) := rfl
theorem f154_354 : amFetch 154 354 = some (.invokestatic 128, 3, 1, 127, 4) := rfl
theorem f154_357 : amFetch 154 357 = some (.istore 5, 2, 0, 0, 0) := rfl
theorem f154_359 : amFetch 154 359 = some (.aload_n 2, 1, 0, 0, 0) := rfl
theorem f154_360 : amFetch 154 360 = some (.aload_n 0, 1, 0, 0, 0) := rfl
theorem f154_361 : amFetch 154 361 = some (.iload 4, 2, 0, 0, 0) := rfl
theorem f154_363 : amFetch 154 363 = some (.iconst 1, 1, 0, 0, 0) := rfl
theorem f154_364 : amFetch 154 364 = some (.iadd, 1, 0, 0, 0) := rfl
theorem f154_365 : amFetch 154 365 = some (.iaload, 1, 0, 0, 0) := rfl
theorem f154_366 : amFetch 154 366 = some (.aload_n 0, 1, 0, 0, 0) := rfl
theorem f154_367 : amFetch 154 367 = some (.iload 4, 2, 0, 0, 0) := rfl
theorem f154_369 : amFetch 154 369 = some (.iconst 2, 1, 0, 0, 0) := rfl
theorem f154_370 : amFetch 154 370 = some (.iadd, 1, 0, 0, 0) := rfl
theorem f154_371 : amFetch 154 371 = some (.iaload, 1, 0, 0, 0) := rfl
theorem f154_372 : amFetch 154 372 = some (.invokevirtual 130, 3, 0, 97, 2) := rfl
theorem f154_375 : amFetch 154 375 = some (.istore 6, 2, 0, 0, 0) := rfl
theorem f154_377 : amFetch 154 377 = some (.aload_n 2, 1, 0, 0, 0) := rfl
theorem f154_378 : amFetch 154 378 = some (.invokevirtual 121, 3, 0, 78, 0) := rfl
theorem f154_381 : amFetch 154 381 = some (.iload 5, 2, 0, 0, 0) := rfl
theorem f154_383 : amFetch 154 383 = some (.if_icmp .eq 5, 3, 0, 0, 0) := rfl
theorem f154_386 : amFetch 154 386 = some (.iconst 0, 1, 0, 0, 0) := rfl
theorem f154_387 : amFetch 154 387 = some (.ireturn, 1, 0, 0, 0) := rfl
theorem f154_388 : amFetch 154 388 = some (.iload 5, 2, 0, 0, 0) := rfl
theorem f154_390 : amFetch 154 390 = some (.ifCond .ne 15, 3, 0, 0, 0) := rfl
theorem f154_393 : amFetch 154 393 = some (.aload_n 3, 1, 0, 0, 0) := rfl
theorem f154_394 : amFetch 154 394 = some (.iconst 0, 1, 0, 0, 0) := rfl
theorem f154_395 : amFetch 154 395 = some (.laload, 1, 0, 0, 0) := rfl
theorem f154_396 : amFetch 154 396 = some (.iload 6, 2, 0, 0, 0) := rfl
theorem f154_398 : amFetch 154 398 = some (.i2l, 1, 0, 0, 0) := rfl
theorem f154_399 : amFetch 154 399 = some (.lcmp, 1, 0, 0, 0) := rfl
theorem f154_400 : amFetch 154 400 = some (.ifCond .eq 5, 3, 0, 0, 0) := rfl
theorem f154_403 : amFetch 154 403 = some (.iconst 0, 1, 0, 0, 0) := rfl
theorem f154_404 : amFetch 154 404 = some (.ireturn, 1, 0, 0, 0) := rfl
theorem f154_405 : amFetch 154 405 = some (.goto 1707, 3, 0, 0, 0) := rfl
theorem f154_408 : amFetch 154 408 = some (.aload_n 1, 1, 0, 0, 0) := rfl
theorem f154_409 : amFetch 154 409 = some (.aload_n 0, 1, 0, 0, 0) := rfl
theorem f154_410 : amFetch 154 410 = some (.iload 4, 2, 0, 0, 0) := rfl
theorem f154_412 : amFetch 154 412 = some (.iconst 1, 1, 0, 0, 0) := rfl
theorem f154_413 : amFetch 154 413 = some (.iadd, 1, 0, 0, 0) := rfl
theorem f154_414 : amFetch 154 414 = some (.iaload, 1, 0, 0, 0) := rfl
theorem f154_415 : amFetch 154 415 = some (.aload_n 0, 1, 0, 0, 0) := rfl
theorem f154_416 : amFetch 154 416 = some (.iload 4, 2, 0, 0, 0) := rfl
theorem f154_418 : amFetch 154 418 = some (.iconst 2, 1, 0, 0, 0) := rfl
theorem f154_419 : amFetch 154 419 = some (.iadd, 1, 0, 0, 0) := rfl
theorem f154_420 : amFetch 154 420 = some (.iaload, 1, 0, 0, 0) := rfl
theorem f154_421 : amFetch 154 421 = some (.aload_n 0, 1, 0, 0, 0) := rfl
theorem f154_422 : amFetch 154 422 = some (.iload 4, 2, 0, 0, 0) := rfl
theorem f154_424 : amFetch 154 424 = some (.iconst 3, 1, 0, 0, 0) := rfl
theorem f154_425 : amFetch 154 425 = some (.iadd, 1, 0, 0, 0) := rfl
theorem f154_426 : amFetch 154 426 = some (.iaload, 1, 0, 0, 0) := rfl
theorem f154_427 : amFetch 154 427 = some (.aload_n 3, 1, 0, 0, 0) := rfl
theorem f154_428 : amFetch 154 428 = some (.invokestatic 131, 3, 1, 128, 5) := rfl
theorem f154_431 : amFetch 154 431 = some (.istore 5, 2, 0, 0, 0) := rfl
theorem f154_433 : amFetch 154 433 = some (.aload_n 2, 1, 0, 0, 0) := rfl
theorem f154_434 : amFetch 154 434 = some (.aload_n 0, 1, 0, 0, 0) := rfl
theorem f154_435 : amFetch 154 435 = some (.iload 4, 2, 0, 0, 0) := rfl
theorem f154_437 : amFetch 154 437 = some (.iconst 1, 1, 0, 0, 0) := rfl
theorem f154_438 : amFetch 154 438 = some (.iadd, 1, 0, 0, 0) := rfl
theorem f154_439 : amFetch 154 439 = some (.iaload, 1, 0, 0, 0) := rfl
theorem f154_440 : amFetch 154 440 = some (.aload_n 0, 1, 0, 0, 0) := rfl
theorem f154_441 : amFetch 154 441 = some (.iload 4, 2, 0, 0, 0) := rfl
theorem f154_443 : amFetch 154 443 = some (.iconst 2, 1, 0, 0, 0) := rfl
theorem f154_444 : amFetch 154 444 = some (.iadd, 1, 0, 0, 0) := rfl
theorem f154_445 : amFetch 154 445 = some (.iaload, 1, 0, 0, 0) := rfl
theorem f154_446 : amFetch 154 446 = some (.aload_n 0, 1, 0, 0, 0) := rfl
theorem f154_447 : amFetch 154 447 = some (.iload 4, 2, 0, 0, 0) := rfl
theorem f154_449 : amFetch 154 449 = some (.iconst 3, 1, 0, 0, 0) := rfl
theorem f154_450 : amFetch 154 450 = some (.iadd, 1, 0, 0, 0) := rfl
theorem f154_451 : amFetch 154 451 = some (.iaload, 1, 0, 0, 0) := rfl
theorem f154_452 : amFetch 154 452 = some (.invokevirtual 134, 3, 0, 98, 3) := rfl
theorem f154_455 : amFetch 154 455 = some (.istore 6, 2, 0, 0, 0) := rfl
theorem f154_457 : amFetch 154 457 = some (.aload_n 2, 1, 0, 0, 0) := rfl
theorem f154_458 : amFetch 154 458 = some (.invokevirtual 121, 3, 0, 78, 0) := rfl
theorem f154_461 : amFetch 154 461 = some (.iload 5, 2, 0, 0, 0) := rfl
theorem f154_463 : amFetch 154 463 = some (.if_icmp .eq 5, 3, 0, 0, 0) := rfl
theorem f154_466 : amFetch 154 466 = some (.iconst 0, 1, 0, 0, 0) := rfl
theorem f154_467 : amFetch 154 467 = some (.ireturn, 1, 0, 0, 0) := rfl
theorem f154_468 : amFetch 154 468 = some (.iload 5, 2, 0, 0, 0) := rfl
theorem f154_470 : amFetch 154 470 = some (.ifCond .ne 15, 3, 0, 0, 0) := rfl
theorem f154_473 : amFetch 154 473 = some (.aload_n 3, 1, 0, 0, 0) := rfl
theorem f154_474 : amFetch 154 474 = some (.iconst 0, 1, 0, 0, 0) := rfl
theorem f154_475 : amFetch 154 475 = some (.laload, 1, 0, 0, 0) := rfl
theorem f154_476 : amFetch 154 476 = some (.iload 6, 2, 0, 0, 0) := rfl
theorem f154_478 : amFetch 154 478 = some (.i2l, 1, 0, 0, 0) := rfl
theorem f154_479 : amFetch 154 479 = some (.lcmp, 1, 0, 0, 0) := rfl
theorem f154_480 : amFetch 154 480 = some (.ifCond .eq 5, 3, 0, 0, 0) := rfl
theorem f154_483 : amFetch 154 483 = some (.iconst 0, 1, 0, 0, 0) := rfl
theorem f154_484 : amFetch 154 484 = some (.ireturn, 1, 0, 0, 0) := rfl
theorem f154_485 : amFetch 154 485 = some (.goto 1627, 3, 0, 0, 0) := rfl
theorem f154_488 : amFetch 154 488 = some (.aload_n 1, 1, 0, 0, 0) := rfl
theorem f154_489 : amFetch 154 489 = some (.aload_n 0, 1, 0, 0, 0) := rfl
theorem f154_490 : amFetch 154 490 = some (.iload 4, 2, 0, 0, 0) := rfl
theorem f154_492 : amFetch 154 492 = some (.iconst 1, 1, 0, 0, 0) := rfl
theorem f154_493 : amFetch 154 493 = some (.iadd, 1, 0, 0, 0) := rfl
theorem f154_494 : amFetch 154 494 = some (.iaload, 1, 0, 0, 0) := rfl
theorem f154_495 : amFetch 154 495 = some (.aload_n 0, 1, 0, 0, 0) := rfl
theorem f154_496 : amFetch 154 496 = some (.iload 4, 2, 0, 0, 0) := rfl
theorem f154_498 : amFetch 154 498 = some (.iconst 2, 1, 0, 0, 0) := rfl
theorem f154_499 : amFetch 154 499 = some (.iadd, 1, 0, 0, 0) := rfl
theorem f154_500 : amFetch 154 500 = some (.iaload, 1, 0, 0, 0) := rfl
theorem f154_501 : amFetch 154 501 = some (.aload_n 0, 1, 0, 0, 0) := rfl
theorem f154_502 : amFetch 154 502 = some (.iload 4, 2, 0, 0, 0) := rfl
theorem f154_504 : amFetch 154 504 = some (.iconst 3, 1, 0, 0, 0) := rfl
theorem f154_505 : amFetch 154 505 = some (.iadd, 1, 0, 0, 0) := rfl
theorem f154_506 : amFetch 154 506 = some (.iaload, 1, 0, 0, 0) := rfl
theorem f154_507 : amFetch 154 507 = some (.aload_n 3, 1, 0, 0, 0) := rfl
theorem f154_508 : amFetch 154 508 = some (.invokestatic 135, 3, 1, 129, 5) := rfl
theorem f154_511 : amFetch 154 511 = some (.istore 5, 2, 0, 0, 0) := rfl
theorem f154_513 : amFetch 154 513 = some (.aload_n 2, 1, 0, 0, 0) := rfl
theorem f154_514 : amFetch 154 514 = some (.aload_n 0, 1, 0, 0, 0) := rfl
theorem f154_515 : amFetch 154 515 = some (.iload 4, 2, 0, 0, 0) := rfl
theorem f154_517 : amFetch 154 517 = some (.iconst 1, 1, 0, 0, 0) := rfl
theorem f154_518 : amFetch 154 518 = some (.iadd, 1, 0, 0, 0) := rfl
theorem f154_519 : amFetch 154 519 = some (.iaload, 1, 0, 0, 0) := rfl
theorem f154_520 : amFetch 154 520 = some (.aload_n 0, 1, 0, 0, 0) := rfl
theorem f154_521 : amFetch 154 521 = some (.iload 4, 2, 0, 0, 0) := rfl
theorem f154_523 : amFetch 154 523 = some (.iconst 2, 1, 0, 0, 0) := rfl
theorem f154_524 : amFetch 154 524 = some (.iadd, 1, 0, 0, 0) := rfl
theorem f154_525 : amFetch 154 525 = some (.iaload, 1, 0, 0, 0) := rfl
theorem f154_526 : amFetch 154 526 = some (.aload_n 0, 1, 0, 0, 0) := rfl
theorem f154_527 : amFetch 154 527 = some (.iload 4, 2, 0, 0, 0) := rfl
theorem f154_529 : amFetch 154 529 = some (.iconst 3, 1, 0, 0, 0) := rfl
theorem f154_530 : amFetch 154 530 = some (.iadd, 1, 0, 0, 0) := rfl
theorem f154_531 : amFetch 154 531 = some (.iaload, 1, 0, 0, 0) := rfl
theorem f154_532 : amFetch 154 532 = some (.invokevirtual 137, 3, 0, 99, 3) := rfl
theorem f154_535 : amFetch 154 535 = some (.istore 6, 2, 0, 0, 0) := rfl
theorem f154_537 : amFetch 154 537 = some (.aload_n 2, 1, 0, 0, 0) := rfl
theorem f154_538 : amFetch 154 538 = some (.invokevirtual 121, 3, 0, 78, 0) := rfl
theorem f154_541 : amFetch 154 541 = some (.iload 5, 2, 0, 0, 0) := rfl
theorem f154_543 : amFetch 154 543 = some (.if_icmp .eq 5, 3, 0, 0, 0) := rfl
theorem f154_546 : amFetch 154 546 = some (.iconst 0, 1, 0, 0, 0) := rfl
theorem f154_547 : amFetch 154 547 = some (.ireturn, 1, 0, 0, 0) := rfl
theorem f154_548 : amFetch 154 548 = some (.iload 5, 2, 0, 0, 0) := rfl
theorem f154_550 : amFetch 154 550 = some (.ifCond .ne 15, 3, 0, 0, 0) := rfl
theorem f154_553 : amFetch 154 553 = some (.aload_n 3, 1, 0, 0, 0) := rfl
theorem f154_554 : amFetch 154 554 = some (.iconst 0, 1, 0, 0, 0) := rfl
theorem f154_555 : amFetch 154 555 = some (.laload, 1, 0, 0, 0) := rfl
theorem f154_556 : amFetch 154 556 = some (.iload 6, 2, 0, 0, 0) := rfl
theorem f154_558 : amFetch 154 558 = some (.i2l, 1, 0, 0, 0) := rfl
theorem f154_559 : amFetch 154 559 = some (.lcmp, 1, 0, 0, 0) := rfl
theorem f154_560 : amFetch 154 560 = some (.ifCond .eq 5, 3, 0, 0, 0) := rfl
theorem f154_563 : amFetch 154 563 = some (.iconst 0, 1, 0, 0, 0) := rfl
theorem f154_564 : amFetch 154 564 = some (.ireturn, 1, 0, 0, 0) := rfl
theorem f154_565 : amFetch 154 565 = some (.goto 1547, 3, 0, 0, 0) := rfl
theorem f154_568 : amFetch 154 568 = some (.aload_n 1, 1, 0, 0, 0) := rfl
theorem f154_569 : amFetch 154 569 = some (.aload_n 0, 1, 0, 0, 0) := rfl
theorem f154_570 : amFetch 154 570 = some (.iload 4, 2, 0, 0, 0) := rfl
theorem f154_572 : amFetch 154 572 = some (.iconst 1, 1, 0, 0, 0) := rfl
theorem f154_573 : amFetch 154 573 = some (.iadd, 1, 0, 0, 0) := rfl
theorem f154_574 : amFetch 154 574 = some (.iaload, 1, 0, 0, 0) := rfl
theorem f154_575 : amFetch 154 575 = some (.aload_n 0, 1, 0, 0, 0) := rfl
theorem f154_576 : amFetch 154 576 = some (.iload 4, 2, 0, 0, 0) := rfl
theorem f154_578 : amFetch 154 578 = some (.iconst 2, 1, 0, 0, 0) := rfl
theorem f154_579 : amFetch 154 579 = some (.iadd, 1, 0, 0, 0) := rfl
theorem f154_580 : amFetch 154 580 = some (.iaload, 1, 0, 0, 0) := rfl
theorem f154_581 : amFetch 154 581 = some (.aload_n 3, 1, 0, 0, 0) := rfl
theorem f154_582 : amFetch 154 582 = some (.invokestatic 138, 3, 1, 130, 4) := rfl
theorem f154_585 : amFetch 154 585 = some (.istore 5, 2, 0, 0, 0) := rfl
theorem f154_587 : amFetch 154 587 = some (.aload_n 2, 1, 0, 0, 0) := rfl
theorem f154_588 : amFetch 154 588 = some (.aload_n 0, 1, 0, 0, 0) := rfl
theorem f154_589 : amFetch 154 589 = some (.iload 4, 2, 0, 0, 0) := rfl
theorem f154_591 : amFetch 154 591 = some (.iconst 1, 1, 0, 0, 0) := rfl
theorem f154_592 : amFetch 154 592 = some (.iadd, 1, 0, 0, 0) := rfl
theorem f154_593 : amFetch 154 593 = some (.iaload, 1, 0, 0, 0) := rfl
theorem f154_594 : amFetch 154 594 = some (.aload_n 0, 1, 0, 0, 0) := rfl
theorem f154_595 : amFetch 154 595 = some (.iload 4, 2, 0, 0, 0) := rfl
theorem f154_597 : amFetch 154 597 = some (.iconst 2, 1, 0, 0, 0) := rfl
theorem f154_598 : amFetch 154 598 = some (.iadd, 1, 0, 0, 0) := rfl
theorem f154_599 : amFetch 154 599 = some (.iaload, 1, 0, 0, 0) := rfl
theorem f154_600 : amFetch 154 600 = some (.invokevirtual 140, 3, 0, 100, 2) := rfl
theorem f154_603 : amFetch 154 603 = some (.istore 6, 2, 0, 0, 0) := rfl
theorem f154_605 : amFetch 154 605 = some (.aload_n 2, 1, 0, 0, 0) := rfl
theorem f154_606 : amFetch 154 606 = some (.invokevirtual 121, 3, 0, 78, 0) := rfl
theorem f154_609 : amFetch 154 609 = some (.iload 5, 2, 0, 0, 0) := rfl
theorem f154_611 : amFetch 154 611 = some (.if_icmp .eq 5, 3, 0, 0, 0) := rfl
theorem f154_614 : amFetch 154 614 = some (.iconst 0, 1, 0, 0, 0) := rfl
theorem f154_615 : amFetch 154 615 = some (.ireturn, 1, 0, 0, 0) := rfl
theorem f154_616 : amFetch 154 616 = some (.iload 5, 2, 0, 0, 0) := rfl
theorem f154_618 : amFetch 154 618 = some (.ifCond .ne 15, 3, 0, 0, 0) := rfl
theorem f154_621 : amFetch 154 621 = some (.aload_n 3, 1, 0, 0, 0) := rfl
theorem f154_622 : amFetch 154 622 = some (.iconst 0, 1, 0, 0, 0) := rfl
theorem f154_623 : amFetch 154 623 = some (.laload, 1, 0, 0, 0) := rfl
theorem f154_624 : amFetch 154 624 = some (.iload 6, 2, 0, 0, 0) := rfl
theorem f154_626 : amFetch 154 626 = some (.i2l, 1, 0, 0, 0) := rfl
theorem f154_627 : amFetch 154 627 = some (.lcmp, 1, 0, 0, 0) := rfl
theorem f154_628 : amFetch 154 628 = some (.ifCond .eq 5, 3, 0, 0, 0) := rfl
theorem f154_631 : amFetch 154 631 = some (.iconst 0, 1, 0, 0, 0) := rfl
theorem f154_632 : amFetch 154 632 = some (.ireturn, 1, 0, 0, 0) := rfl
theorem f154_633 : amFetch 154 633 = some (.goto 1479, 3, 0, 0, 0) := rfl
theorem f154_636 : amFetch 154 636 = some (.aload_n 1, 1, 0, 0, 0) := rfl
theorem f154_637 : amFetch 154 637 = some (.aload_n 0, 1, 0, 0, 0) := rfl
theorem f154_638 : amFetch 154 638 = some (.iload 4, 2, 0, 0, 0) := rfl
theorem f154_640 : amFetch 154 640 = some (.iconst 1, 1, 0, 0, 0) := rfl
theorem f154_641 : amFetch 154 641 = some (.iadd, 1, 0, 0, 0) := rfl
theorem f154_642 : amFetch 154 642 = some (.iaload, 1, 0, 0, 0) := rfl
theorem f154_643 : amFetch 154 643 = some (.aload_n 0, 1, 0, 0, 0) := rfl
theorem f154_644 : amFetch 154 644 = some (.iload 4, 2, 0, 0, 0) := rfl
theorem f154_646 : amFetch 154 646 = some (.iconst 2, 1, 0, 0, 0) := rfl
theorem f154_647 : amFetch 154 647 = some (.iadd, 1, 0, 0, 0) := rfl
theorem f154_648 : amFetch 154 648 = some (.iaload, 1, 0, 0, 0) := rfl
theorem f154_649 : amFetch 154 649 = some (.aload_n 3, 1, 0, 0, 0) := rfl
theorem f154_650 : amFetch 154 650 = some (.invokestatic 141, 3, 1, 131, 4) := rfl
theorem f154_653 : amFetch 154 653 = some (.istore 5, 2, 0, 0, 0) := rfl
theorem f154_655 : amFetch 154 655 = some (.aload_n 2, 1, 0, 0, 0) := rfl
theorem f154_656 : amFetch 154 656 = some (.aload_n 0, 1, 0, 0, 0) := rfl
theorem f154_657 : amFetch 154 657 = some (.iload 4, 2, 0, 0, 0) := rfl
theorem f154_659 : amFetch 154 659 = some (.iconst 1, 1, 0, 0, 0) := rfl
theorem f154_660 : amFetch 154 660 = some (.iadd, 1, 0, 0, 0) := rfl
theorem f154_661 : amFetch 154 661 = some (.iaload, 1, 0, 0, 0) := rfl
theorem f154_662 : amFetch 154 662 = some (.aload_n 0, 1, 0, 0, 0) := rfl
theorem f154_663 : amFetch 154 663 = some (.iload 4, 2, 0, 0, 0) := rfl
theorem f154_665 : amFetch 154 665 = some (.iconst 2, 1, 0, 0, 0) := rfl
theorem f154_666 : amFetch 154 666 = some (.iadd, 1, 0, 0, 0) := rfl
theorem f154_667 : amFetch 154 667 = some (.iaload, 1, 0, 0, 0) := rfl
theorem f154_668 : amFetch 154 668 = some (.invokevirtual 143, 3, 0, 101, 2) := rfl
theorem f154_671 : amFetch 154 671 = some (.istore 6, 2, 0, 0, 0) := rfl
theorem f154_673 : amFetch 154 673 = some (.aload_n 2, 1, 0, 0, 0) := rfl
theorem f154_674 : amFetch 154 674 = some (.invokevirtual 121, 3, 0, 78, 0) := rfl
theorem f154_677 : amFetch 154 677 = some (.iload 5, 2, 0, 0, 0) := rfl
theorem f154_679 : amFetch 154 679 = some (.if_icmp .eq 5, 3, 0, 0, 0) := rfl
theorem f154_682 : amFetch 154 682 = some (.iconst 0, 1, 0, 0, 0) := rfl
theorem f154_683 : amFetch 154 683 = some (.ireturn, 1, 0, 0, 0) := rfl
theorem f154_684 : amFetch 154 684 = some (.iload 5, 2, 0, 0, 0) := rfl
theorem f154_686 : amFetch 154 686 = some (.ifCond .ne 15, 3, 0, 0, 0) := rfl
theorem f154_689 : amFetch 154 689 = some (.aload_n 3, 1, 0, 0, 0) := rfl
theorem f154_690 : amFetch 154 690 = some (.iconst 0, 1, 0, 0, 0) := rfl
theorem f154_691 : amFetch 154 691 = some (.laload, 1, 0, 0, 0) := rfl
theorem f154_692 : amFetch 154 692 = some (.iload 6, 2, 0, 0, 0) := rfl
theorem f154_694 : amFetch 154 694 = some (.i2l, 1, 0, 0, 0) := rfl
theorem f154_695 : amFetch 154 695 = some (.lcmp, 1, 0, 0, 0) := rfl
theorem f154_696 : amFetch 154 696 = some (.ifCond .eq 5, 3, 0, 0, 0) := rfl
theorem f154_699 : amFetch 154 699 = some (.iconst 0, 1, 0, 0, 0) := rfl
theorem f154_700 : amFetch 154 700 = some (.ireturn, 1, 0, 0, 0) := rfl
theorem f154_701 : amFetch 154 701 = some (.goto 1411, 3, 0, 0, 0) := rfl
theorem f154_704 : amFetch 154 704 = some (.aload_n 1, 1, 0, 0, 0) := rfl
theorem f154_705 : amFetch 154 705 = some (.aload_n 0, 1, 0, 0, 0) := rfl
theorem f154_706 : amFetch 154 706 = some (.iload 4, 2, 0, 0, 0) := rfl
theorem f154_708 : amFetch 154 708 = some (.iconst 1, 1, 0, 0, 0) := rfl
theorem f154_709 : amFetch 154 709 = some (.iadd, 1, 0, 0, 0) := rfl
theorem f154_710 : amFetch 154 710 = some (.iaload, 1, 0, 0, 0) := rfl
theorem f154_711 : amFetch 154 711 = some (.aload_n 0, 1, 0, 0, 0) := rfl
theorem f154_712 : amFetch 154 712 = some (.iload 4, 2, 0, 0, 0) := rfl
theorem f154_714 : amFetch 154 714 = some (.iconst 2, 1, 0, 0, 0) := rfl
theorem f154_715 : amFetch 154 715 = some (.iadd, 1, 0, 0, 0) := rfl
theorem f154_716 : amFetch 154 716 = some (.iaload, 1, 0, 0, 0) := rfl
theorem f154_717 : amFetch 154 717 = some (.aload_n 3, 1, 0, 0, 0) := rfl
theorem f154_718 : amFetch 154 718 = some (.invokestatic 144, 3, 1, 132, 4) := rfl
theorem f154_721 : amFetch 154 721 = some (.istore 5, 2, 0, 0, 0) := rfl
theorem f154_723 : amFetch 154 723 = some (.aload_n 2, 1, 0, 0, 0) := rfl
theorem f154_724 : amFetch 154 724 = some (.aload_n 0, 1, 0, 0, 0) := rfl
theorem f154_725 : amFetch 154 725 = some (.iload 4, 2, 0, 0, 0) := rfl
theorem f154_727 : amFetch 154 727 = some (.iconst 1, 1, 0, 0, 0) := rfl
theorem f154_728 : amFetch 154 728 = some (.iadd, 1, 0, 0, 0) := rfl
theorem f154_729 : amFetch 154 729 = some (.iaload, 1, 0, 0, 0) := rfl
theorem f154_730 : amFetch 154 730 = some (.aload_n 0, 1, 0, 0, 0) := rfl
theorem f154_731 : amFetch 154 731 = some (.iload 4, 2, 0, 0, 0) := rfl
theorem f154_733 : amFetch 154 733 = some (.iconst 2, 1, 0, 0, 0) := rfl
theorem f154_734 : amFetch 154 734 = some (.iadd, 1, 0, 0, 0) := rfl
theorem f154_735 : amFetch 154 735 = some (.iaload, 1, 0, 0, 0) := rfl
theorem f154_736 : amFetch 154 736 = some (.invokevirtual 146, 3, 0, 102, 2) := rfl
theorem f154_739 : amFetch 154 739 = some (.istore 6, 2, 0, 0, 0) := rfl
theorem f154_741 : amFetch 154 741 = some (.aload_n 2, 1, 0, 0, 0) := rfl
theorem f154_742 : amFetch 154 742 = some (.invokevirtual 121, 3, 0, 78, 0) := rfl
theorem f154_745 : amFetch 154 745 = some (.iload 5, 2, 0, 0, 0) := rfl
theorem f154_747 : amFetch 154 747 = some (.if_icmp .eq 5, 3, 0, 0, 0) := rfl
theorem f154_750 : amFetch 154 750 = some (.iconst 0, 1, 0, 0, 0) := rfl
theorem f154_751 : amFetch 154 751 = some (.ireturn, 1, 0, 0, 0) := rfl
theorem f154_752 : amFetch 154 752 = some (.iload 5, 2, 0, 0, 0) := rfl
theorem f154_754 : amFetch 154 754 = some (.ifCond .ne 15, 3, 0, 0, 0) := rfl
theorem f154_757 : amFetch 154 757 = some (.aload_n 3, 1, 0, 0, 0) := rfl
theorem f154_758 : amFetch 154 758 = some (.iconst 0, 1, 0, 0, 0) := rfl
theorem f154_759 : amFetch 154 759 = some (.laload, 1, 0, 0, 0) := rfl
theorem f154_760 : amFetch 154 760 = some (.iload 6, 2, 0, 0, 0) := rfl
theorem f154_762 : amFetch 154 762 = some (.i2l, 1, 0, 0, 0) := rfl
theorem f154_763 : amFetch 154 763 = some (.lcmp, 1, 0, 0, 0) := rfl
theorem f154_764 : amFetch 154 764 = some (.ifCond .eq 5, 3, 0, 0, 0) := rfl
theorem f154_767 : amFetch 154 767 = some (.iconst 0, 1, 0, 0, 0) := rfl
theorem f154_768 : amFetch 154 768 = some (.ireturn, 1, 0, 0, 0) := rfl
theorem f154_769 : amFetch 154 769 = some (.goto 1343, 3, 0, 0, 0) := rfl
theorem f154_772 : amFetch 154 772 = some (.aload_n 1, 1, 0, 0, 0) := rfl
theorem f154_773 : amFetch 154 773 = some (.aload_n 0, 1, 0, 0, 0) := rfl
theorem f154_774 : amFetch 154 774 = some (.iload 4, 2, 0, 0, 0) := rfl
theorem f154_776 : amFetch 154 776 = some (.iconst 1, 1, 0, 0, 0) := rfl
theorem f154_777 : amFetch 154 777 = some (.iadd, 1, 0, 0, 0) := rfl
theorem f154_778 : amFetch 154 778 = some (.iaload, 1, 0, 0, 0) := rfl
theorem f154_779 : amFetch 154 779 = some (.invokestatic 147, 3, 1, 133, 2) := rfl
theorem f154_782 : amFetch 154 782 = some (.istore 5, 2, 0, 0, 0) := rfl
theorem f154_784 : amFetch 154 784 = some (.aload_n 2, 1, 0, 0, 0) := rfl
theorem f154_785 : amFetch 154 785 = some (.aload_n 0, 1, 0, 0, 0) := rfl
theorem f154_786 : amFetch 154 786 = some (.iload 4, 2, 0, 0, 0) := rfl
theorem f154_788 : amFetch 154 788 = some (.iconst 1, 1, 0, 0, 0) := rfl
theorem f154_789 : amFetch 154 789 = some (.iadd, 1, 0, 0, 0) := rfl
theorem f154_790 : amFetch 154 790 = some (.iaload, 1, 0, 0, 0) := rfl
theorem f154_791 : amFetch 154 791 = some (.invokevirtual 150, 3, 0, 103, 1) := rfl
theorem f154_794 : amFetch 154 794 = some (.aload_n 2, 1, 0, 0, 0) := rfl
theorem f154_795 : amFetch 154 795 = some (.invokevirtual 121, 3, 0, 78, 0) := rfl
theorem f154_798 : amFetch 154 798 = some (.iload 5, 2, 0, 0, 0) := rfl
theorem f154_800 : amFetch 154 800 = some (.if_icmp .eq 5, 3, 0, 0, 0) := rfl
theorem f154_803 : amFetch 154 803 = some (.iconst 0, 1, 0, 0, 0) := rfl
theorem f154_804 : amFetch 154 804 = some (.ireturn, 1, 0, 0, 0) := rfl
theorem f154_805 : amFetch 154 805 = some (.goto 1307, 3, 0, 0, 0) := rfl
theorem f154_808 : amFetch 154 808 = some (.aload_n 1, 1, 0, 0, 0) := rfl
theorem f154_809 : amFetch 154 809 = some (.aload_n 0, 1, 0, 0, 0) := rfl
theorem f154_810 : amFetch 154 810 = some (.iload 4, 2, 0, 0, 0) := rfl
theorem f154_812 : amFetch 154 812 = some (.iconst 1, 1, 0, 0, 0) := rfl
theorem f154_813 : amFetch 154 813 = some (.iadd, 1, 0, 0, 0) := rfl
theorem f154_814 : amFetch 154 814 = some (.iaload, 1, 0, 0, 0) := rfl
theorem f154_815 : amFetch 154 815 = some (.aload_n 3, 1, 0, 0, 0) := rfl
theorem f154_816 : amFetch 154 816 = some (.invokestatic 151, 3, 1, 134, 3) := rfl
theorem f154_819 : amFetch 154 819 = some (.istore 5, 2, 0, 0, 0) := rfl
theorem f154_821 : amFetch 154 821 = some (.aload_n 2, 1, 0, 0, 0) := rfl
theorem f154_822 : amFetch 154 822 = some (.aload_n 0, 1, 0, 0, 0) := rfl
theorem f154_823 : amFetch 154 823 = some (.iload 4, 2, 0, 0, 0) := rfl
theorem f154_825 : amFetch 154 825 = some (.iconst 1, 1, 0, 0, 0) := rfl
theorem f154_826 : amFetch 154 826 = some (.iadd, 1, 0, 0, 0) := rfl
theorem f154_827 : amFetch 154 827 = some (.iaload, 1, 0, 0, 0) := rfl
theorem f154_828 : amFetch 154 828 = some (.invokevirtual 154, 3, 0, 104, 1) := rfl
theorem f154_831 : amFetch 154 831 = some (.istore 6, 2, 0, 0, 0) := rfl
theorem f154_833 : amFetch 154 833 = some (.aload_n 2, 1, 0, 0, 0) := rfl
theorem f154_834 : amFetch 154 834 = some (.invokevirtual 121, 3, 0, 78, 0) := rfl
theorem f154_837 : amFetch 154 837 = some (.iload 5, 2, 0, 0, 0) := rfl
theorem f154_839 : amFetch 154 839 = some (.if_icmp .eq 5, 3, 0, 0, 0) := rfl
theorem f154_842 : amFetch 154 842 = some (.iconst 0, 1, 0, 0, 0) := rfl
theorem f154_843 : amFetch 154 843 = some (.ireturn, 1, 0, 0, 0) := rfl
theorem f154_844 : amFetch 154 844 = some (.iload 5, 2, 0, 0, 0) := rfl
theorem f154_846 : amFetch 154 846 = some (.ifCond .ne 15, 3, 0, 0, 0) := rfl
theorem f154_849 : amFetch 154 849 = some (.aload_n 3, 1, 0, 0, 0) := rfl
theorem f154_850 : amFetch 154 850 = some (.iconst 0, 1, 0, 0, 0) := rfl
theorem f154_851 : amFetch 154 851 = some (.laload, 1, 0, 0, 0) := rfl
theorem f154_852 : amFetch 154 852 = some (.iload 6, 2, 0, 0, 0) := rfl
theorem f154_854 : amFetch 154 854 = some (.i2l, 1, 0, 0, 0) := rfl
theorem f154_855 : amFetch 154 855 = some (.lcmp, 1, 0, 0, 0) := rfl
theorem f154_856 : amFetch 154 856 = some (.ifCond .eq 5, 3, 0, 0, 0) := rfl
theorem f154_859 : amFetch 154 859 = some (.iconst 0, 1, 0, 0, 0) := rfl
theorem f154_860 : amFetch 154 860 = some (.ireturn, 1, 0, 0, 0) := rfl
theorem f154_861 : amFetch 154 861 = some (.goto 1251, 3, 0, 0, 0) := rfl
theorem f154_864 : amFetch 154 864 = some (.aload_n 1, 1, 0, 0, 0) := rfl
theorem f154_865 : amFetch 154 865 = some (.aload_n 0, 1, 0, 0, 0) := rfl
theorem f154_866 : amFetch 154 866 = some (.iload 4, 2, 0, 0, 0) := rfl
theorem f154_868 : amFetch 154 868 = some (.iconst 1, 1, 0, 0, 0) := rfl
theorem f154_869 : amFetch 154 869 = some (.iadd, 1, 0, 0, 0) := rfl
theorem f154_870 : amFetch 154 870 = some (.iaload, 1, 0, 0, 0) := rfl
theorem f154_871 : amFetch 154 871 = some (.aload_n 3, 1, 0, 0, 0) := rfl
theorem f154_872 : amFetch 154 872 = some (.invokestatic 155, 3, 1, 135, 3) := rfl
theorem f154_875 : amFetch 154 875 = some (.istore 5, 2, 0, 0, 0) := rfl
theorem f154_877 : amFetch 154 877 = some (.aload_n 2, 1, 0, 0, 0) := rfl
theorem f154_878 : amFetch 154 878 = some (.aload_n 0, 1, 0, 0, 0) := rfl
theorem f154_879 : amFetch 154 879 = some (.iload 4, 2, 0, 0, 0) := rfl
theorem f154_881 : amFetch 154 881 = some (.iconst 1, 1, 0, 0, 0) := rfl
theorem f154_882 : amFetch 154 882 = some (.iadd, 1, 0, 0, 0) := rfl
theorem f154_883 : amFetch 154 883 = some (.iaload, 1, 0, 0, 0) := rfl
theorem f154_884 : amFetch 154 884 = some (.invokevirtual 157, 3, 0, 105, 1) := rfl
theorem f154_887 : amFetch 154 887 = some (.istore 6, 2, 0, 0, 0) := rfl
theorem f154_889 : amFetch 154 889 = some (.aload_n 2, 1, 0, 0, 0) := rfl
theorem f154_890 : amFetch 154 890 = some (.invokevirtual 121, 3, 0, 78, 0) := rfl
theorem f154_893 : amFetch 154 893 = some (.iload 5, 2, 0, 0, 0) := rfl
theorem f154_895 : amFetch 154 895 = some (.if_icmp .eq 5, 3, 0, 0, 0) := rfl
theorem f154_898 : amFetch 154 898 = some (.iconst 0, 1, 0, 0, 0) := rfl
theorem f154_899 : amFetch 154 899 = some (.ireturn, 1, 0, 0, 0) := rfl
theorem f154_900 : amFetch 154 900 = some (.iload 5, 2, 0, 0, 0) := rfl
theorem f154_902 : amFetch 154 902 = some (.ifCond .ne 15, 3, 0, 0, 0) := rfl
theorem f154_905 : amFetch 154 905 = some (.aload_n 3, 1, 0, 0, 0) := rfl
theorem f154_906 : amFetch 154 906 = some (.iconst 0, 1, 0, 0, 0) := rfl
theorem f154_907 : amFetch 154 907 = some (.laload, 1, 0, 0, 0) := rfl
theorem f154_908 : amFetch 154 908 = some (.iload 6, 2, 0, 0, 0) := rfl
theorem f154_910 : amFetch 154 910 = some (.i2l, 1, 0, 0, 0) := rfl
theorem f154_911 : amFetch 154 911 = some (.lcmp, 1, 0, 0, 0) := rfl
theorem f154_912 : amFetch 154 912 = some (.ifCond .eq 5, 3, 0, 0, 0) := rfl
theorem f154_915 : amFetch 154 915 = some (.iconst 0, 1, 0, 0, 0) := rfl
theorem f154_916 : amFetch 154 916 = some (.ireturn, 1, 0, 0, 0) := rfl
theorem f154_917 : amFetch 154 917 = some (.goto 1195, 3, 0, 0, 0) := rfl
theorem f154_920 : amFetch 154 920 = some (.aload_n 1, 1, 0, 0, 0) := rfl
theorem f154_921 : amFetch 154 921 = some (.aload_n 0, 1, 0, 0, 0) := rfl
theorem f154_922 : amFetch 154 922 = some (.iload 4, 2, 0, 0, 0) := rfl
theorem f154_924 : amFetch 154 924 = some (.iconst 1, 1, 0, 0, 0) := rfl
theorem f154_925 : amFetch 154 925 = some (.iadd, 1, 0, 0, 0) := rfl
theorem f154_926 : amFetch 154 926 = some (.iaload, 1, 0, 0, 0) := rfl
theorem f154_927 : amFetch 154 927 = some (.aload_n 0, 1, 0, 0, 0) := rfl
theorem f154_928 : amFetch 154 928 = some (.iload 4, 2, 0, 0, 0) := rfl
theorem f154_930 : amFetch 154 930 = some (.iconst 2, 1, 0, 0, 0) := rfl
theorem f154_931 : amFetch 154 931 = some (.iadd, 1, 0, 0, 0) := rfl
theorem f154_932 : amFetch 154 932 = some (.iaload, 1, 0, 0, 0) := rfl
theorem f154_933 : amFetch 154 933 = some (.aload_n 3, 1, 0, 0, 0) := rfl
theorem f154_934 : amFetch 154 934 = some (.invokestatic 158, 3, 1, 136, 4) := rfl
theorem f154_937 : amFetch 154 937 = some (.istore 5, 2, 0, 0, 0) := rfl
theorem f154_939 : amFetch 154 939 = some (.aload_n 2, 1, 0, 0, 0) := rfl
theorem f154_940 : amFetch 154 940 = some (.aload_n 0, 1, 0, 0, 0) := rfl
theorem f154_941 : amFetch 154 941 = some (.iload 4, 2, 0, 0, 0) := rfl
theorem f154_943 : amFetch 154 943 = some (.iconst 1, 1, 0, 0, 0) := rfl
theorem f154_944 : amFetch 154 944 = some (.iadd, 1, 0, 0, 0) := rfl
theorem f154_945 : amFetch 154 945 = some (.iaload, 1, 0, 0, 0) := rfl
theorem f154_946 : amFetch 154 946 = some (.aload_n 0, 1, 0, 0, 0) := rfl
theorem f154_947 : amFetch 154 947 = some (.iload 4, 2, 0, 0, 0) := rfl
theorem f154_949 : amFetch 154 949 = some (.iconst 2, 1, 0, 0, 0) := rfl
theorem f154_950 : amFetch 154 950 = some (.iadd, 1, 0, 0, 0) := rfl
theorem f154_951 : amFetch 154 951 = some (.iaload, 1, 0, 0, 0) := rfl
theorem f154_952 : amFetch 154 952 = some (.invokevirtual 160, 3, 0, 106, 2) := rfl
theorem f154_955 : amFetch 154 955 = some (.istore 6, 2, 0, 0, 0) := rfl
theorem f154_957 : amFetch 154 957 = some (.aload_n 2, 1, 0, 0, 0) := rfl
theorem f154_958 : amFetch 154 958 = some (.invokevirtual 121, 3, 0, 78, 0) := rfl
theorem f154_961 : amFetch 154 961 = some (.iload 5, 2, 0, 0, 0) := rfl
theorem f154_963 : amFetch 154 963 = some (.if_icmp .eq 5, 3, 0, 0, 0) := rfl
theorem f154_966 : amFetch 154 966 = some (.iconst 0, 1, 0, 0, 0) := rfl
theorem f154_967 : amFetch 154 967 = some (.ireturn, 1, 0, 0, 0) := rfl
theorem f154_968 : amFetch 154 968 = some (.iload 5, 2, 0, 0, 0) := rfl
theorem f154_970 : amFetch 154 970 = some (.ifCond .ne 15, 3, 0, 0, 0) := rfl
theorem f154_973 : amFetch 154 973 = some (.aload_n 3, 1, 0, 0, 0) := rfl
theorem f154_974 : amFetch 154 974 = some (.iconst 0, 1, 0, 0, 0) := rfl
theorem f154_975 : amFetch 154 975 = some (.laload, 1, 0, 0, 0) := rfl
theorem f154_976 : amFetch 154 976 = some (.iload 6, 2, 0, 0, 0) := rfl
theorem f154_978 : amFetch 154 978 = some (.i2l, 1, 0, 0, 0) := rfl
theorem f154_979 : amFetch 154 979 = some (.lcmp, 1, 0, 0, 0) := rfl
theorem f154_980 : amFetch 154 980 = some (.ifCond .eq 5, 3, 0, 0, 0) := rfl
theorem f154_983 : amFetch 154 983 = some (.iconst 0, 1, 0, 0, 0) := rfl
theorem f154_984 : amFetch 154 984 = some (.ireturn, 1, 0, 0, 0) := rfl
theorem f154_985 : amFetch 154 985 = some (.goto 1127, 3, 0, 0, 0) := rfl
theorem f154_988 : amFetch 154 988 = some (.aload_n 1, 1, 0, 0, 0) := rfl
theorem f154_989 : amFetch 154 989 = some (.aload_n 0, 1, 0, 0, 0) := rfl
theorem f154_990 : amFetch 154 990 = some (.iload 4, 2, 0, 0, 0) := rfl
theorem f154_992 : amFetch 154 992 = some (.iconst 1, 1, 0, 0, 0) := rfl
theorem f154_993 : amFetch 154 993 = some (.iadd, 1, 0, 0, 0) := rfl
theorem f154_994 : amFetch 154 994 = some (.iaload, 1, 0, 0, 0) := rfl
theorem f154_995 : amFetch 154 995 = some (.aload_n 0, 1, 0, 0, 0) := rfl
theorem f154_996 : amFetch 154 996 = some (.iload 4, 2, 0, 0, 0) := rfl
theorem f154_998 : amFetch 154 998 = some (.iconst 2, 1, 0, 0, 0) := rfl
theorem f154_999 : amFetch 154 999 = some (.iadd, 1, 0, 0, 0) := rfl
theorem f154_1000 : amFetch 154 1000 = some (.iaload, 1, 0, 0, 0) := rfl
theorem f154_1001 : amFetch 154 1001 = some (.aload_n 3, 1, 0, 0, 0) := rfl
theorem f154_1002 : amFetch 154 1002 = some (.invokestatic 161, 3, 1, 137, 4) := rfl
theorem f154_1005 : amFetch 154 1005 = some (.istore 5, 2, 0, 0, 0) := rfl
theorem f154_1007 : amFetch 154 1007 = some (.aload_n 2, 1, 0, 0, 0) := rfl
theorem f154_1008 : amFetch 154 1008 = some (.aload_n 0, 1, 0, 0, 0) := rfl
theorem f154_1009 : amFetch 154 1009 = some (.iload 4, 2, 0, 0, 0) := rfl
theorem f154_1011 : amFetch 154 1011 = some (.iconst 1, 1, 0, 0, 0) := rfl
theorem f154_1012 : amFetch 154 1012 = some (.iadd, 1, 0, 0, 0) := rfl
theorem f154_1013 : amFetch 154 1013 = some (.iaload, 1, 0, 0, 0) := rfl
theorem f154_1014 : amFetch 154 1014 = some (.aload_n 0, 1, 0, 0, 0) := rfl
theorem f154_1015 : amFetch 154 1015 = some (.iload 4, 2, 0, 0, 0) := rfl
theorem f154_1017 : amFetch 154 1017 = some (.iconst 2, 1, 0, 0, 0) := rfl
theorem f154_1018 : amFetch 154 1018 = some (.iadd, 1, 0, 0, 0) := rfl
theorem f154_1019 : amFetch 154 1019 = some (.iaload, 1, 0, 0, 0) := rfl
theorem f154_1020 : amFetch 154 1020 = some (.invokevirtual 163, 3, 0, 107, 2) := rfl
theorem f154_1023 : amFetch 154 1023 = some (.istore 6, 2, 0, 0, 0) := rfl
theorem f154_1025 : amFetch 154 1025 = some (.aload_n 2, 1, 0, 0, 0) := rfl
theorem f154_1026 : amFetch 154 1026 = some (.invokevirtual 121, 3, 0, 78, 0) := rfl
theorem f154_1029 : amFetch 154 1029 = some (.iload 5, 2, 0, 0, 0) := rfl
theorem f154_1031 : amFetch 154 1031 = some (.if_icmp .eq 5, 3, 0, 0, 0) := rfl
theorem f154_1034 : amFetch 154 1034 = some (.iconst 0, 1, 0, 0, 0) := rfl
theorem f154_1035 : amFetch 154 1035 = some (.ireturn, 1, 0, 0, 0) := rfl
theorem f154_1036 : amFetch 154 1036 = some (.iload 5, 2, 0, 0, 0) := rfl
theorem f154_1038 : amFetch 154 1038 = some (.ifCond .ne 15, 3, 0, 0, 0) := rfl
theorem f154_1041 : amFetch 154 1041 = some (.aload_n 3, 1, 0, 0, 0) := rfl
theorem f154_1042 : amFetch 154 1042 = some (.iconst 0, 1, 0, 0, 0) := rfl
theorem f154_1043 : amFetch 154 1043 = some (.laload, 1, 0, 0, 0) := rfl
theorem f154_1044 : amFetch 154 1044 = some (.iload 6, 2, 0, 0, 0) := rfl
theorem f154_1046 : amFetch 154 1046 = some (.i2l, 1, 0, 0, 0) := rfl
theorem f154_1047 : amFetch 154 1047 = some (.lcmp, 1, 0, 0, 0) := rfl
theorem f154_1048 : amFetch 154 1048 = some (.ifCond .eq 5, 3, 0, 0, 0) := rfl
theorem f154_1051 : amFetch 154 1051 = some (.iconst 0, 1, 0, 0, 0) := rfl
theorem f154_1052 : amFetch 154 1052 = some (.ireturn, 1, 0, 0, 0) := rfl
theorem f154_1053 : amFetch 154 1053 = some (.goto 1059, 3, 0, 0, 0) := rfl
theorem f154_1056 : amFetch 154 1056 = some (.aload_n 1, 1, 0, 0, 0) := rfl
theorem f154_1057 : amFetch 154 1057 = some (.aload_n 0, 1, 0, 0, 0) := rfl
theorem f154_1058 : amFetch 154 1058 = some (.iload 4, 2, 0, 0, 0) := rfl
theorem f154_1060 : amFetch 154 1060 = some (.iconst 1, 1, 0, 0, 0) := rfl
theorem f154_1061 : amFetch 154 1061 = some (.iadd, 1, 0, 0, 0) := rfl
theorem f154_1062 : amFetch 154 1062 = some (.iaload, 1, 0, 0, 0) := rfl
theorem f154_1063 : amFetch 154 1063 = some (.aload_n 0, 1, 0, 0, 0) := rfl
theorem f154_1064 : amFetch 154 1064 = some (.iload 4, 2, 0, 0, 0) := rfl
theorem f154_1066 : amFetch 154 1066 = some (.iconst 2, 1, 0, 0, 0) := rfl
theorem f154_1067 : amFetch 154 1067 = some (.iadd, 1, 0, 0, 0) := rfl
theorem f154_1068 : amFetch 154 1068 = some (.iaload, 1, 0, 0, 0) := rfl
theorem f154_1069 : amFetch 154 1069 = some (.aload_n 3, 1, 0, 0, 0) := rfl
theorem f154_1070 : amFetch 154 1070 = some (.invokestatic 164, 3, 1, 138, 4) := rfl
theorem f154_1073 : amFetch 154 1073 = some (.istore 5, 2, 0, 0, 0) := rfl
theorem f154_1075 : amFetch 154 1075 = some (.aload_n 2, 1, 0, 0, 0) := rfl
theorem f154_1076 : amFetch 154 1076 = some (.aload_n 0, 1, 0, 0, 0) := rfl
theorem f154_1077 : amFetch 154 1077 = some (.iload 4, 2, 0, 0, 0) := rfl
theorem f154_1079 : amFetch 154 1079 = some (.iconst 1, 1, 0, 0, 0) := rfl
theorem f154_1080 : amFetch 154 1080 = some (.iadd, 1, 0, 0, 0) := rfl
theorem f154_1081 : amFetch 154 1081 = some (.iaload, 1, 0, 0, 0) := rfl
theorem f154_1082 : amFetch 154 1082 = some (.aload_n 0, 1, 0, 0, 0) := rfl
theorem f154_1083 : amFetch 154 1083 = some (.iload 4, 2, 0, 0, 0) := rfl
theorem f154_1085 : amFetch 154 1085 = some (.iconst 2, 1, 0, 0, 0) := rfl
theorem f154_1086 : amFetch 154 1086 = some (.iadd, 1, 0, 0, 0) := rfl
theorem f154_1087 : amFetch 154 1087 = some (.iaload, 1, 0, 0, 0) := rfl
theorem f154_1088 : amFetch 154 1088 = some (.invokevirtual 166, 3, 0, 108, 2) := rfl
theorem f154_1091 : amFetch 154 1091 = some (.istore 6, 2, 0, 0, 0) := rfl
theorem f154_1093 : amFetch 154 1093 = some (.aload_n 2, 1, 0, 0, 0) := rfl
theorem f154_1094 : amFetch 154 1094 = some (.invokevirtual 121, 3, 0, 78, 0) := rfl
theorem f154_1097 : amFetch 154 1097 = some (.iload 5, 2, 0, 0, 0) := rfl
theorem f154_1099 : amFetch 154 1099 = some (.if_icmp .eq 5, 3, 0, 0, 0) := rfl
theorem f154_1102 : amFetch 154 1102 = some (.iconst 0, 1, 0, 0, 0) := rfl
theorem f154_1103 : amFetch 154 1103 = some (.ireturn, 1, 0, 0, 0) := rfl
theorem f154_1104 : amFetch 154 1104 = some (.iload 5, 2, 0, 0, 0) := rfl
theorem f154_1106 : amFetch 154 1106 = some (.ifCond .ne 22, 3, 0, 0, 0) := rfl
theorem f154_1109 : amFetch 154 1109 = some (.aload_n 3, 1, 0, 0, 0) := rfl
theorem f154_1110 : amFetch 154 1110 = some (.iconst 0, 1, 0, 0, 0) := rfl
theorem f154_1111 : amFetch 154 1111 = some (.laload, 1, 0, 0, 0) := rfl
theorem f154_1112 : amFetch 154 1112 = some (.iload 6, 2, 0, 0, 0) := rfl
theorem f154_1114 : amFetch 154 1114 = some (.ifCond .eq 7, 3, 0, 0, 0) := rfl
theorem f154_1117 : amFetch 154 1117 = some (.lconst 1, 1, 0, 0, 0) := rfl
theorem f154_1118 : amFetch 154 1118 = some (.goto 4, 3, 0, 0, 0) := rfl
theorem f154_1121 : amFetch 154 1121 = some (.lconst 0, 1, 0, 0, 0) := rfl
theorem f154_1122 : amFetch 154 1122 = some (.lcmp, 1, 0, 0, 0) := rfl
theorem f154_1123 : amFetch 154 1123 = some (.ifCond .eq 5, 3, 0, 0, 0) := rfl
theorem f154_1126 : amFetch 154 1126 = some (.iconst 0, 1, 0, 0, 0) := rfl
theorem f154_1127 : amFetch 154 1127 = some (.ireturn, 1, 0, 0, 0) := rfl
theorem f154_1128 : amFetch 154 1128 = some (.goto 984, 3, 0, 0, 0) := rfl
theorem f154_1131 : amFetch 154 1131 = some (.aload_n 1, 1, 0, 0, 0) := rfl
theorem f154_1132 : amFetch 154 1132 = some (.aload_n 0, 1, 0, 0, 0) := rfl
theorem f154_1133 : amFetch 154 1133 = some (.iload 4, 2, 0, 0, 0) := rfl
theorem f154_1135 : amFetch 154 1135 = some (.iconst 1, 1, 0, 0, 0) := rfl
theorem f154_1136 : amFetch 154 1136 = some (.iadd, 1, 0, 0, 0) := rfl
theorem f154_1137 : amFetch 154 1137 = some (.iaload, 1, 0, 0, 0) := rfl
theorem f154_1138 : amFetch 154 1138 = some (.aload_n 3, 1, 0, 0, 0) := rfl
theorem f154_1139 : amFetch 154 1139 = some (.invokestatic 167, 3, 1, 139, 3) := rfl
theorem f154_1142 : amFetch 154 1142 = some (.istore 5, 2, 0, 0, 0) := rfl
theorem f154_1144 : amFetch 154 1144 = some (.aload_n 2, 1, 0, 0, 0) := rfl
theorem f154_1145 : amFetch 154 1145 = some (.aload_n 0, 1, 0, 0, 0) := rfl
theorem f154_1146 : amFetch 154 1146 = some (.iload 4, 2, 0, 0, 0) := rfl
theorem f154_1148 : amFetch 154 1148 = some (.iconst 1, 1, 0, 0, 0) := rfl
theorem f154_1149 : amFetch 154 1149 = some (.iadd, 1, 0, 0, 0) := rfl
theorem f154_1150 : amFetch 154 1150 = some (.iaload, 1, 0, 0, 0) := rfl
theorem f154_1151 : amFetch 154 1151 = some (.invokevirtual 169, 3, 0, 109, 1) := rfl
theorem f154_1154 : amFetch 154 1154 = some (.istore 6, 2, 0, 0, 0) := rfl
theorem f154_1156 : amFetch 154 1156 = some (.aload_n 2, 1, 0, 0, 0) := rfl
theorem f154_1157 : amFetch 154 1157 = some (.invokevirtual 121, 3, 0, 78, 0) := rfl
theorem f154_1160 : amFetch 154 1160 = some (.iload 5, 2, 0, 0, 0) := rfl
theorem f154_1162 : amFetch 154 1162 = some (.if_icmp .eq 5, 3, 0, 0, 0) := rfl
theorem f154_1165 : amFetch 154 1165 = some (.iconst 0, 1, 0, 0, 0) := rfl
theorem f154_1166 : amFetch 154 1166 = some (.ireturn, 1, 0, 0, 0) := rfl
theorem f154_1167 : amFetch 154 1167 = some (.iload 5, 2, 0, 0, 0) := rfl
theorem f154_1169 : amFetch 154 1169 = some (.ifCond .ne 15, 3, 0, 0, 0) := rfl
theorem f154_1172 : amFetch 154 1172 = some (.aload_n 3, 1, 0, 0, 0) := rfl
theorem f154_1173 : amFetch 154 1173 = some (.iconst 0, 1, 0, 0, 0) := rfl
theorem f154_1174 : amFetch 154 1174 = some (.laload, 1, 0, 0, 0) := rfl
theorem f154_1175 : amFetch 154 1175 = some (.iload 6, 2, 0, 0, 0) := rfl
theorem f154_1177 : amFetch 154 1177 = some (.i2l, 1, 0, 0, 0) := rfl
theorem f154_1178 : amFetch 154 1178 = some (.lcmp, 1, 0, 0, 0) := rfl
theorem f154_1179 : amFetch 154 1179 = some (.ifCond .eq 5, 3, 0, 0, 0) := rfl
theorem f154_1182 : amFetch 154 1182 = some (.iconst 0, 1, 0, 0, 0) := rfl
theorem f154_1183 : amFetch 154 1183 = some (.ireturn, 1, 0, 0, 0) := rfl
theorem f154_1184 : amFetch 154 1184 = some (.goto 928, 3, 0, 0, 0) := rfl
theorem f154_1187 : amFetch 154 1187 = some (.aload_n 1, 1, 0, 0, 0) := rfl
theorem f154_1188 : amFetch 154 1188 = some (.aload_n 0, 1, 0, 0, 0) := rfl
theorem f154_1189 : amFetch 154 1189 = some (.iload 4, 2, 0, 0, 0) := rfl
theorem f154_1191 : amFetch 154 1191 = some (.iconst 1, 1, 0, 0, 0) := rfl
theorem f154_1192 : amFetch 154 1192 = some (.iadd, 1, 0, 0, 0) := rfl
theorem f154_1193 : amFetch 154 1193 = some (.iaload, 1, 0, 0, 0) := rfl
theorem f154_1194 : amFetch 154 1194 = some (.aload_n 3, 1, 0, 0, 0) := rfl
theorem f154_1195 : amFetch 154 1195 = some (.invokestatic 170, 3, 1, 140, 3) := rfl
theorem f154_1198 : amFetch 154 1198 = some (.istore 5, 2, 0, 0, 0) := rfl
theorem f154_1200 : amFetch 154 1200 = some (.aload_n 2, 1, 0, 0, 0) := rfl
theorem f154_1201 : amFetch 154 1201 = some (.aload_n 0, 1, 0, 0, 0) := rfl
theorem f154_1202 : amFetch 154 1202 = some (.iload 4, 2, 0, 0, 0) := rfl
theorem f154_1204 : amFetch 154 1204 = some (.iconst 1, 1, 0, 0, 0) := rfl
theorem f154_1205 : amFetch 154 1205 = some (.iadd, 1, 0, 0, 0) := rfl
theorem f154_1206 : amFetch 154 1206 = some (.iaload, 1, 0, 0, 0) := rfl
theorem f154_1207 : amFetch 154 1207 = some (.invokevirtual 172, 3, 0, 110, 1) := rfl
theorem f154_1210 : amFetch 154 1210 = some (.istore 6, 2, 0, 0, 0) := rfl
theorem f154_1212 : amFetch 154 1212 = some (.aload_n 2, 1, 0, 0, 0) := rfl
theorem f154_1213 : amFetch 154 1213 = some (.invokevirtual 121, 3, 0, 78, 0) := rfl
theorem f154_1216 : amFetch 154 1216 = some (.iload 5, 2, 0, 0, 0) := rfl
theorem f154_1218 : amFetch 154 1218 = some (.if_icmp .eq 5, 3, 0, 0, 0) := rfl
theorem f154_1221 : amFetch 154 1221 = some (.iconst 0, 1, 0, 0, 0) := rfl
theorem f154_1222 : amFetch 154 1222 = some (.ireturn, 1, 0, 0, 0) := rfl
theorem f154_1223 : amFetch 154 1223 = some (.iload 5, 2, 0, 0, 0) := rfl
theorem f154_1225 : amFetch 154 1225 = some (.ifCond .ne 15, 3, 0, 0, 0) := rfl
theorem f154_1228 : amFetch 154 1228 = some (.aload_n 3, 1, 0, 0, 0) := rfl
theorem f154_1229 : amFetch 154 1229 = some (.iconst 0, 1, 0, 0, 0) := rfl
theorem f154_1230 : amFetch 154 1230 = some (.laload, 1, 0, 0, 0) := rfl
theorem f154_1231 : amFetch 154 1231 = some (.iload 6, 2, 0, 0, 0) := rfl
theorem f154_1233 : amFetch 154 1233 = some (.i2l, 1, 0, 0, 0) := rfl
theorem f154_1234 : amFetch 154 1234 = some (.lcmp, 1, 0, 0, 0) := rfl
theorem f154_1235 : amFetch 154 1235 = some (.ifCond .eq 5, 3, 0, 0, 0) := rfl
theorem f154_1238 : amFetch 154 1238 = some (.iconst 0, 1, 0, 0, 0) := rfl
theorem f154_1239 : amFetch 154 1239 = some (.ireturn, 1, 0, 0, 0) := rfl
theorem f154_1240 : amFetch 154 1240 = some (.goto 872, 3, 0, 0, 0) := rfl
theorem f154_1243 : amFetch 154 1243 = some (.aload_n 1, 1, 0, 0, 0) := rfl
theorem f154_1244 : amFetch 154 1244 = some (.aload_n 0, 1, 0, 0, 0) := rfl
theorem f154_1245 : amFetch 154 1245 = some (.iload 4, 2, 0, 0, 0) := rfl
theorem f154_1247 : amFetch 154 1247 = some (.iconst 1, 1, 0, 0, 0) := rfl
theorem f154_1248 : amFetch 154 1248 = some (.iadd, 1, 0, 0, 0) := rfl
theorem f154_1249 : amFetch 154 1249 = some (.iaload, 1, 0, 0, 0) := rfl
theorem f154_1250 : amFetch 154 1250 = some (.aload_n 3, 1, 0, 0, 0) := rfl
theorem f154_1251 : amFetch 154 1251 = some (.invokestatic 173, 3, 1, 141, 3) := rfl
theorem f154_1254 : amFetch 154 1254 = some (.istore 5, 2, 0, 0, 0) := rfl
theorem f154_1256 : amFetch 154 1256 = some (.aload_n 2, 1, 0, 0, 0) := rfl
theorem f154_1257 : amFetch 154 1257 = some (.aload_n 0, 1, 0, 0, 0) := rfl
theorem f154_1258 : amFetch 154 1258 = some (.iload 4, 2, 0, 0, 0) := rfl
theorem f154_1260 : amFetch 154 1260 = some (.iconst 1, 1, 0, 0, 0) := rfl
theorem f154_1261 : amFetch 154 1261 = some (.iadd, 1, 0, 0, 0) := rfl
theorem f154_1262 : amFetch 154 1262 = some (.iaload, 1, 0, 0, 0) := rfl
theorem f154_1263 : amFetch 154 1263 = some (.invokevirtual 175, 3, 0, 111, 1) := rfl
theorem f154_1266 : amFetch 154 1266 = some (.istore 6, 2, 0, 0, 0) := rfl
theorem f154_1268 : amFetch 154 1268 = some (.aload_n 2, 1, 0, 0, 0) := rfl
theorem f154_1269 : amFetch 154 1269 = some (.invokevirtual 121, 3, 0, 78, 0) := rfl
theorem f154_1272 : amFetch 154 1272 = some (.iload 5, 2, 0, 0, 0) := rfl
theorem f154_1274 : amFetch 154 1274 = some (.if_icmp .eq 5, 3, 0, 0, 0) := rfl
theorem f154_1277 : amFetch 154 1277 = some (.iconst 0, 1, 0, 0, 0) := rfl
theorem f154_1278 : amFetch 154 1278 = some (.ireturn, 1, 0, 0, 0) := rfl
theorem f154_1279 : amFetch 154 1279 = some (.iload 5, 2, 0, 0, 0) := rfl
theorem f154_1281 : amFetch 154 1281 = some (.ifCond .ne 15, 3, 0, 0, 0) := rfl
theorem f154_1284 : amFetch 154 1284 = some (.aload_n 3, 1, 0, 0, 0) := rfl
theorem f154_1285 : amFetch 154 1285 = some (.iconst 0, 1, 0, 0, 0) := rfl
theorem f154_1286 : amFetch 154 1286 = some (.laload, 1, 0, 0, 0) := rfl
theorem f154_1287 : amFetch 154 1287 = some (.iload 6, 2, 0, 0, 0) := rfl
theorem f154_1289 : amFetch 154 1289 = some (.i2l, 1, 0, 0, 0) := rfl
theorem f154_1290 : amFetch 154 1290 = some (.lcmp, 1, 0, 0, 0) := rfl
theorem f154_1291 : amFetch 154 1291 = some (.ifCond .eq 5, 3, 0, 0, 0) := rfl
theorem f154_1294 : amFetch 154 1294 = some (.iconst 0, 1, 0, 0, 0) := rfl
theorem f154_1295 : amFetch 154 1295 = some (.ireturn, 1, 0, 0, 0) := rfl
theorem f154_1296 : amFetch 154 1296 = some (.goto 816, 3, 0, 0, 0) := rfl
theorem f154_1299 : amFetch 154 1299 = some (.aload_n 1, 1, 0, 0, 0) := rfl
theorem f154_1300 : amFetch 154 1300 = some (.aload_n 0, 1, 0, 0, 0) := rfl
theorem f154_1301 : amFetch 154 1301 = some (.iload 4, 2, 0, 0, 0) := rfl
theorem f154_1303 : amFetch 154 1303 = some (.iconst 1, 1, 0, 0, 0) := rfl
theorem f154_1304 : amFetch 154 1304 = some (.iadd, 1, 0, 0, 0) := rfl
theorem f154_1305 : amFetch 154 1305 = some (.iaload, 1, 0, 0, 0) := rfl
theorem f154_1306 : amFetch 154 1306 = some (.aload_n 3, 1, 0, 0, 0) := rfl
theorem f154_1307 : amFetch 154 1307 = some (.invokestatic 176, 3, 1, 142, 3) := rfl
theorem f154_1310 : amFetch 154 1310 = some (.istore 5, 2, 0, 0, 0) := rfl
theorem f154_1312 : amFetch 154 1312 = some (.aload_n 2, 1, 0, 0, 0) := rfl
theorem f154_1313 : amFetch 154 1313 = some (.aload_n 0, 1, 0, 0, 0) := rfl
theorem f154_1314 : amFetch 154 1314 = some (.iload 4, 2, 0, 0, 0) := rfl
theorem f154_1316 : amFetch 154 1316 = some (.iconst 1, 1, 0, 0, 0) := rfl
theorem f154_1317 : amFetch 154 1317 = some (.iadd, 1, 0, 0, 0) := rfl
theorem f154_1318 : amFetch 154 1318 = some (.iaload, 1, 0, 0, 0) := rfl
theorem f154_1319 : amFetch 154 1319 = some (.invokevirtual 178, 3, 0, 112, 1) := rfl
theorem f154_1322 : amFetch 154 1322 = some (.istore 6, 2, 0, 0, 0) := rfl
theorem f154_1324 : amFetch 154 1324 = some (.aload_n 2, 1, 0, 0, 0) := rfl
theorem f154_1325 : amFetch 154 1325 = some (.invokevirtual 121, 3, 0, 78, 0) := rfl
theorem f154_1328 : amFetch 154 1328 = some (.iload 5, 2, 0, 0, 0) := rfl
theorem f154_1330 : amFetch 154 1330 = some (.if_icmp .eq 5, 3, 0, 0, 0) := rfl
theorem f154_1333 : amFetch 154 1333 = some (.iconst 0, 1, 0, 0, 0) := rfl
theorem f154_1334 : amFetch 154 1334 = some (.ireturn, 1, 0, 0, 0) := rfl
theorem f154_1335 : amFetch 154 1335 = some (.iload 5, 2, 0, 0, 0) := rfl
theorem f154_1337 : amFetch 154 1337 = some (.ifCond .ne 15, 3, 0, 0, 0) := rfl
theorem f154_1340 : amFetch 154 1340 = some (.aload_n 3, 1, 0, 0, 0) := rfl
theorem f154_1341 : amFetch 154 1341 = some (.iconst 0, 1, 0, 0, 0) := rfl
theorem f154_1342 : amFetch 154 1342 = some (.laload, 1, 0, 0, 0) := rfl
theorem f154_1343 : amFetch 154 1343 = some (.iload 6, 2, 0, 0, 0) := rfl
theorem f154_1345 : amFetch 154 1345 = some (.i2l, 1, 0, 0, 0) := rfl
theorem f154_1346 : amFetch 154 1346 = some (.lcmp, 1, 0, 0, 0) := rfl
theorem f154_1347 : amFetch 154 1347 = some (.ifCond .eq 5, 3, 0, 0, 0) := rfl
theorem f154_1350 : amFetch 154 1350 = some (.iconst 0, 1, 0, 0, 0) := rfl
theorem f154_1351 : amFetch 154 1351 = some (.ireturn, 1, 0, 0, 0) := rfl
theorem f154_1352 : amFetch 154 1352 = some (.goto 760, 3, 0, 0, 0) := rfl
theorem f154_1355 : amFetch 154 1355 = some (.aload_n 1, 1, 0, 0, 0) := rfl
theorem f154_1356 : amFetch 154 1356 = some (.aload_n 0, 1, 0, 0, 0) := rfl
theorem f154_1357 : amFetch 154 1357 = some (.iload 4, 2, 0, 0, 0) := rfl
theorem f154_1359 : amFetch 154 1359 = some (.iconst 1, 1, 0, 0, 0) := rfl
theorem f154_1360 : amFetch 154 1360 = some (.iadd, 1, 0, 0, 0) := rfl
theorem f154_1361 : amFetch 154 1361 = some (.iaload, 1, 0, 0, 0) := rfl
theorem f154_1362 : amFetch 154 1362 = some (.aload_n 0, 1, 0, 0, 0) := rfl
theorem f154_1363 : amFetch 154 1363 = some (.iload 4, 2, 0, 0, 0) := rfl
theorem f154_1365 : amFetch 154 1365 = some (.iconst 2, 1, 0, 0, 0) := rfl
theorem f154_1366 : amFetch 154 1366 = some (.iadd, 1, 0, 0, 0) := rfl
theorem f154_1367 : amFetch 154 1367 = some (.iaload, 1, 0, 0, 0) := rfl
theorem f154_1368 : amFetch 154 1368 = some (.aload_n 3, 1, 0, 0, 0) := rfl
theorem f154_1369 : amFetch 154 1369 = some (.invokestatic 179, 3, 1, 143, 4) := rfl
theorem f154_1372 : amFetch 154 1372 = some (.istore 5, 2, 0, 0, 0) := rfl
theorem f154_1374 : amFetch 154 1374 = some (.aload_n 2, 1, 0, 0, 0) := rfl
theorem f154_1375 : amFetch 154 1375 = some (.aload_n 0, 1, 0, 0, 0) := rfl
theorem f154_1376 : amFetch 154 1376 = some (.iload 4, 2, 0, 0, 0) := rfl
theorem f154_1378 : amFetch 154 1378 = some (.iconst 1, 1, 0, 0, 0) := rfl
theorem f154_1379 : amFetch 154 1379 = some (.iadd, 1, 0, 0, 0) := rfl
theorem f154_1380 : amFetch 154 1380 = some (.iaload, 1, 0, 0, 0) := rfl
theorem f154_1381 : amFetch 154 1381 = some (.aload_n 0, 1, 0, 0, 0) := rfl
theorem f154_1382 : amFetch 154 1382 = some (.iload 4, 2, 0, 0, 0) := rfl
theorem f154_1384 : amFetch 154 1384 = some (.iconst 2, 1, 0, 0, 0) := rfl
theorem f154_1385 : amFetch 154 1385 = some (.iadd, 1, 0, 0, 0) := rfl
theorem f154_1386 : amFetch 154 1386 = some (.iaload, 1, 0, 0, 0) := rfl
theorem f154_1387 : amFetch 154 1387 = some (.invokevirtual 181, 3, 0, 113, 2) := rfl
theorem f154_1390 : amFetch 154 1390 = some (.istore 6, 2, 0, 0, 0) := rfl
theorem f154_1392 : amFetch 154 1392 = some (.aload_n 2, 1, 0, 0, 0) := rfl
theorem f154_1393 : amFetch 154 1393 = some (.invokevirtual 121, 3, 0, 78, 0) := rfl
theorem f154_1396 : amFetch 154 1396 = some (.iload 5, 2, 0, 0, 0) := rfl
theorem f154_1398 : amFetch 154 1398 = some (.if_icmp .eq 5, 3, 0, 0, 0) := rfl
theorem f154_1401 : amFetch 154 1401 = some (.iconst 0, 1, 0, 0, 0) := rfl
theorem f154_1402 : amFetch 154 1402 = some (.ireturn, 1, 0, 0, 0) := rfl
theorem f154_1403 : amFetch 154 1403 = some (.iload 5, 2, 0, 0, 0) := rfl
theorem f154_1405 : amFetch 154 1405 = some (.ifCond .ne 15, 3, 0, 0, 0) := rfl
theorem f154_1408 : amFetch 154 1408 = some (.aload_n 3, 1, 0, 0, 0) := rfl
theorem f154_1409 : amFetch 154 1409 = some (.iconst 0, 1, 0, 0, 0) := rfl
theorem f154_1410 : amFetch 154 1410 = some (.laload, 1, 0, 0, 0) := rfl
theorem f154_1411 : amFetch 154 1411 = some (.iload 6, 2, 0, 0, 0) := rfl
theorem f154_1413 : amFetch 154 1413 = some (.i2l, 1, 0, 0, 0) := rfl
theorem f154_1414 : amFetch 154 1414 = some (.lcmp, 1, 0, 0, 0) := rfl
theorem f154_1415 : amFetch 154 1415 = some (.ifCond .eq 5, 3, 0, 0, 0) := rfl
theorem f154_1418 : amFetch 154 1418 = some (.iconst 0, 1, 0, 0, 0) := rfl
theorem f154_1419 : amFetch 154 1419 = some (.ireturn, 1, 0, 0, 0) := rfl
theorem f154_1420 : amFetch 154 1420 = some (.goto 692, 3, 0, 0, 0) := rfl
theorem f154_1423 : amFetch 154 1423 = some (.aload_n 1, 1, 0, 0, 0) := rfl
theorem f154_1424 : amFetch 154 1424 = some (.aload_n 0, 1, 0, 0, 0) := rfl
theorem f154_1425 : amFetch 154 1425 = some (.iload 4, 2, 0, 0, 0) := rfl
theorem f154_1427 : amFetch 154 1427 = some (.iconst 1, 1, 0, 0, 0) := rfl
theorem f154_1428 : amFetch 154 1428 = some (.iadd, 1, 0, 0, 0) := rfl
theorem f154_1429 : amFetch 154 1429 = some (.iaload, 1, 0, 0, 0) := rfl
theorem f154_1430 : amFetch 154 1430 = some (.aload_n 0, 1, 0, 0, 0) := rfl
theorem f154_1431 : amFetch 154 1431 = some (.iload 4, 2, 0, 0, 0) := rfl
theorem f154_1433 : amFetch 154 1433 = some (.iconst 2, 1, 0, 0, 0) := rfl
theorem f154_1434 : amFetch 154 1434 = some (.iadd, 1, 0, 0, 0) := rfl
theorem f154_1435 : amFetch 154 1435 = some (.iaload, 1, 0, 0, 0) := rfl
theorem f154_1436 : amFetch 154 1436 = some (.aload_n 3, 1, 0, 0, 0) := rfl
theorem f154_1437 : amFetch 154 1437 = some (.invokestatic 182, 3, 1, 144, 4) := rfl
theorem f154_1440 : amFetch 154 1440 = some (.istore 5, 2, 0, 0, 0) := rfl
theorem f154_1442 : amFetch 154 1442 = some (.aload_n 2, 1, 0, 0, 0) := rfl
theorem f154_1443 : amFetch 154 1443 = some (.aload_n 0, 1, 0, 0, 0) := rfl
theorem f154_1444 : amFetch 154 1444 = some (.iload 4, 2, 0, 0, 0) := rfl
theorem f154_1446 : amFetch 154 1446 = some (.iconst 1, 1, 0, 0, 0) := rfl
theorem f154_1447 : amFetch 154 1447 = some (.iadd, 1, 0, 0, 0) := rfl
theorem f154_1448 : amFetch 154 1448 = some (.iaload, 1, 0, 0, 0) := rfl
theorem f154_1449 : amFetch 154 1449 = some (.aload_n 0, 1, 0, 0, 0) := rfl
theorem f154_1450 : amFetch 154 1450 = some (.iload 4, 2, 0, 0, 0) := rfl
theorem f154_1452 : amFetch 154 1452 = some (.iconst 2, 1, 0, 0, 0) := rfl
theorem f154_1453 : amFetch 154 1453 = some (.iadd, 1, 0, 0, 0) := rfl
theorem f154_1454 : amFetch 154 1454 = some (.iaload, 1, 0, 0, 0) := rfl
theorem f154_1455 : amFetch 154 1455 = some (.invokevirtual 184, 3, 0, 115, 2) := rfl
theorem f154_1458 : amFetch 154 1458 = some (.istore 6, 2, 0, 0, 0) := rfl
theorem f154_1460 : amFetch 154 1460 = some (.aload_n 2, 1, 0, 0, 0) := rfl
theorem f154_1461 : amFetch 154 1461 = some (.invokevirtual 121, 3, 0, 78, 0) := rfl
theorem f154_1464 : amFetch 154 1464 = some (.iload 5, 2, 0, 0, 0) := rfl
theorem f154_1466 : amFetch 154 1466 = some (.if_icmp .eq 5, 3, 0, 0, 0) := rfl
theorem f154_1469 : amFetch 154 1469 = some (.iconst 0, 1, 0, 0, 0) := rfl
theorem f154_1470 : amFetch 154 1470 = some (.ireturn, 1, 0, 0, 0) := rfl
theorem f154_1471 : amFetch 154 1471 = some (.iload 5, 2, 0, 0, 0) := rfl
theorem f154_1473 : amFetch 154 1473 = some (.ifCond .ne 15, 3, 0, 0, 0) := rfl
theorem f154_1476 : amFetch 154 1476 = some (.aload_n 3, 1, 0, 0, 0) := rfl
theorem f154_1477 : amFetch 154 1477 = some (.iconst 0, 1, 0, 0, 0) := rfl
theorem f154_1478 : amFetch 154 1478 = some (.laload, 1, 0, 0, 0) := rfl
theorem f154_1479 : amFetch 154 1479 = some (.iload 6, 2, 0, 0, 0) := rfl
theorem f154_1481 : amFetch 154 1481 = some (.i2l, 1, 0, 0, 0) := rfl
theorem f154_1482 : amFetch 154 1482 = some (.lcmp, 1, 0, 0, 0) := rfl
theorem f154_1483 : amFetch 154 1483 = some (.ifCond .eq 5, 3, 0, 0, 0) := rfl
theorem f154_1486 : amFetch 154 1486 = some (.iconst 0, 1, 0, 0, 0) := rfl
theorem f154_1487 : amFetch 154 1487 = some (.ireturn, 1, 0, 0, 0) := rfl
theorem f154_1488 : amFetch 154 1488 = some (.goto 624, 3, 0, 0, 0) := rfl
theorem f154_1491 : amFetch 154 1491 = some (.aload_n 1, 1, 0, 0, 0) := rfl
theorem f154_1492 : amFetch 154 1492 = some (.aload_n 0, 1, 0, 0, 0) := rfl
theorem f154_1493 : amFetch 154 1493 = some (.iload 4, 2, 0, 0, 0) := rfl
theorem f154_1495 : amFetch 154 1495 = some (.iconst 1, 1, 0, 0, 0) := rfl
theorem f154_1496 : amFetch 154 1496 = some (.iadd, 1, 0, 0, 0) := rfl
theorem f154_1497 : amFetch 154 1497 = some (.iaload, 1, 0, 0, 0) := rfl
theorem f154_1498 : amFetch 154 1498 = some (.aload_n 0, 1, 0, 0, 0) := rfl
theorem f154_1499 : amFetch 154 1499 = some (.iload 4, 2, 0, 0, 0) := rfl
theorem f154_1501 : amFetch 154 1501 = some (.iconst 2, 1, 0, 0, 0) := rfl
theorem f154_1502 : amFetch 154 1502 = some (.iadd, 1, 0, 0, 0) := rfl
theorem f154_1503 : amFetch 154 1503 = some (.iaload, 1, 0, 0, 0) := rfl
theorem f154_1504 : amFetch 154 1504 = some (.aload_n 3, 1, 0, 0, 0) := rfl
theorem f154_1505 : amFetch 154 1505 = some (.invokestatic 185, 3, 1, 145, 4) := rfl
theorem f154_1508 : amFetch 154 1508 = some (.istore 5, 2, 0, 0, 0) := rfl
theorem f154_1510 : amFetch 154 1510 = some (.aload_n 2, 1, 0, 0, 0) := rfl
theorem f154_1511 : amFetch 154 1511 = some (.aload_n 0, 1, 0, 0, 0) := rfl
theorem f154_1512 : amFetch 154 1512 = some (.iload 4, 2, 0, 0, 0) := rfl
theorem f154_1514 : amFetch 154 1514 = some (.iconst 1, 1, 0, 0, 0) := rfl
theorem f154_1515 : amFetch 154 1515 = some (.iadd, 1, 0, 0, 0) := rfl
theorem f154_1516 : amFetch 154 1516 = some (.iaload, 1, 0, 0, 0) := rfl
theorem f154_1517 : amFetch 154 1517 = some (.aload_n 0, 1, 0, 0, 0) := rfl
theorem f154_1518 : amFetch 154 1518 = some (.iload 4, 2, 0, 0, 0) := rfl
theorem f154_1520 : amFetch 154 1520 = some (.iconst 2, 1, 0, 0, 0) := rfl
theorem f154_1521 : amFetch 154 1521 = some (.iadd, 1, 0, 0, 0) := rfl
theorem f154_1522 : amFetch 154 1522 = some (.iaload, 1, 0, 0, 0) := rfl
theorem f154_1523 : amFetch 154 1523 = some (.invokevirtual 187, 3, 0, 116, 2) := rfl
theorem f154_1526 : amFetch 154 1526 = some (.istore 6, 2, 0, 0, 0) := rfl
theorem f154_1528 : amFetch 154 1528 = some (.aload_n 2, 1, 0, 0, 0) := rfl
theorem f154_1529 : amFetch 154 1529 = some (.invokevirtual 121, 3, 0, 78, 0) := rfl
theorem f154_1532 : amFetch 154 1532 = some (.iload 5, 2, 0, 0, 0) := rfl
theorem f154_1534 : amFetch 154 1534 = some (.if_icmp .eq 5, 3, 0, 0, 0) := rfl
theorem f154_1537 : amFetch 154 1537 = some (.iconst 0, 1, 0, 0, 0) := rfl
theorem f154_1538 : amFetch 154 1538 = some (.ireturn, 1, 0, 0, 0) := rfl
theorem f154_1539 : amFetch 154 1539 = some (.iload 5, 2, 0, 0, 0) := rfl
theorem f154_1541 : amFetch 154 1541 = some (.ifCond .ne 15, 3, 0, 0, 0) := rfl
theorem f154_1544 : amFetch 154 1544 = some (.aload_n 3, 1, 0, 0, 0) := rfl
theorem f154_1545 : amFetch 154 1545 = some (.iconst 0, 1, 0, 0, 0) := rfl
theorem f154_1546 : amFetch 154 1546 = some (.laload, 1, 0, 0, 0) := rfl
theorem f154_1547 : amFetch 154 1547 = some (.iload 6, 2, 0, 0, 0) := rfl
theorem f154_1549 : amFetch 154 1549 = some (.i2l, 1, 0, 0, 0) := rfl
theorem f154_1550 : amFetch 154 1550 = some (.lcmp, 1, 0, 0, 0) := rfl
theorem f154_1551 : amFetch 154 1551 = some (.ifCond .eq 5, 3, 0, 0, 0) := rfl
theorem f154_1554 : amFetch 154 1554 = some (.iconst 0, 1, 0, 0, 0) := rfl
theorem f154_1555 : amFetch 154 1555 = some (.ireturn, 1, 0, 0, 0) := rfl
theorem f154_1556 : amFetch 154 1556 = some (.goto 556, 3, 0, 0, 0) := rfl
theorem f154_1559 : amFetch 154 1559 = some (.aload_n 1, 1, 0, 0, 0) := rfl
theorem f154_1560 : amFetch 154 1560 = some (.aload_n 0, 1, 0, 0, 0) := rfl
theorem f154_1561 : amFetch 154 1561 = some (.iload 4, 2, 0, 0, 0) := rfl
theorem f154_1563 : amFetch 154 1563 = some (.iconst 1, 1, 0, 0, 0) := rfl
theorem f154_1564 : amFetch 154 1564 = some (.iadd, 1, 0, 0, 0) := rfl
theorem f154_1565 : amFetch 154 1565 = some (.iaload, 1, 0, 0, 0) := rfl
theorem f154_1566 : amFetch 154 1566 = some (.aload_n 0, 1, 0, 0, 0) := rfl
theorem f154_1567 : amFetch 154 1567 = some (.iload 4, 2, 0, 0, 0) := rfl
theorem f154_1569 : amFetch 154 1569 = some (.iconst 2, 1, 0, 0, 0) := rfl
theorem f154_1570 : amFetch 154 1570 = some (.iadd, 1, 0, 0, 0) := rfl
theorem f154_1571 : amFetch 154 1571 = some (.iaload, 1, 0, 0, 0) := rfl
theorem f154_1572 : amFetch 154 1572 = some (.aload_n 3, 1, 0, 0, 0) := rfl
theorem f154_1573 : amFetch 154 1573 = some (.invokestatic 188, 3, 1, 146, 4) := rfl
theorem f154_1576 : amFetch 154 1576 = some (.istore 5, 2, 0, 0, 0) := rfl
theorem f154_1578 : amFetch 154 1578 = some (.aload_n 2, 1, 0, 0, 0) := rfl
theorem f154_1579 : amFetch 154 1579 = some (.aload_n 0, 1, 0, 0, 0) := rfl
theorem f154_1580 : amFetch 154 1580 = some (.iload 4, 2, 0, 0, 0) := rfl
theorem f154_1582 : amFetch 154 1582 = some (.iconst 1, 1, 0, 0, 0) := rfl
theorem f154_1583 : amFetch 154 1583 = some (.iadd, 1, 0, 0, 0) := rfl
theorem f154_1584 : amFetch 154 1584 = some (.iaload, 1, 0, 0, 0) := rfl
theorem f154_1585 : amFetch 154 1585 = some (.aload_n 0, 1, 0, 0, 0) := rfl
theorem f154_1586 : amFetch 154 1586 = some (.iload 4, 2, 0, 0, 0) := rfl
theorem f154_1588 : amFetch 154 1588 = some (.iconst 2, 1, 0, 0, 0) := rfl
theorem f154_1589 : amFetch 154 1589 = some (.iadd, 1, 0, 0, 0) := rfl
theorem f154_1590 : amFetch 154 1590 = some (.iaload, 1, 0, 0, 0) := rfl
theorem f154_1591 : amFetch 154 1591 = some (.invokevirtual 190, 3, 0, 117, 2) := rfl
theorem f154_1594 : amFetch 154 1594 = some (.istore 6, 2, 0, 0, 0) := rfl
theorem f154_1596 : amFetch 154 1596 = some (.aload_n 2, 1, 0, 0, 0) := rfl
theorem f154_1597 : amFetch 154 1597 = some (.invokevirtual 121, 3, 0, 78, 0) := rfl
theorem f154_1600 : amFetch 154 1600 = some (.iload 5, 2, 0, 0, 0) := rfl
theorem f154_1602 : amFetch 154 1602 = some (.if_icmp .eq 5, 3, 0, 0, 0) := rfl
theorem f154_1605 : amFetch 154 1605 = some (.iconst 0, 1, 0, 0, 0) := rfl
theorem f154_1606 : amFetch 154 1606 = some (.ireturn, 1, 0, 0, 0) := rfl
theorem f154_1607 : amFetch 154 1607 = some (.iload 5, 2, 0, 0, 0) := rfl
theorem f154_1609 : amFetch 154 1609 = some (.ifCond .ne 15, 3, 0, 0, 0) := rfl
theorem f154_1612 : amFetch 154 1612 = some (.aload_n 3, 1, 0, 0, 0) := rfl
theorem f154_1613 : amFetch 154 1613 = some (.iconst 0, 1, 0, 0, 0) := rfl
theorem f154_1614 : amFetch 154 1614 = some (.laload, 1, 0, 0, 0) := rfl
theorem f154_1615 : amFetch 154 1615 = some (.iload 6, 2, 0, 0, 0) := rfl
theorem f154_1617 : amFetch 154 1617 = some (.i2l, 1, 0, 0, 0) := rfl
theorem f154_1618 : amFetch 154 1618 = some (.lcmp, 1, 0, 0, 0) := rfl
theorem f154_1619 : amFetch 154 1619 = some (.ifCond .eq 5, 3, 0, 0, 0) := rfl
theorem f154_1622 : amFetch 154 1622 = some (.iconst 0, 1, 0, 0, 0) := rfl
theorem f154_1623 : amFetch 154 1623 = some (.ireturn, 1, 0, 0, 0) := rfl
theorem f154_1624 : amFetch 154 1624 = some (.goto 488, 3, 0, 0, 0) := rfl
theorem f154_1627 : amFetch 154 1627 = some (.aload_n 1, 1, 0, 0, 0) := rfl
theorem f154_1628 : amFetch 154 1628 = some (.aload_n 0, 1, 0, 0, 0) := rfl
theorem f154_1629 : amFetch 154 1629 = some (.iload 4, 2, 0, 0, 0) := rfl
theorem f154_1631 : amFetch 154 1631 = some (.iconst 1, 1, 0, 0, 0) := rfl
theorem f154_1632 : amFetch 154 1632 = some (.iadd, 1, 0, 0, 0) := rfl
theorem f154_1633 : amFetch 154 1633 = some (.iaload, 1, 0, 0, 0) := rfl
theorem f154_1634 : amFetch 154 1634 = some (.aload_n 0, 1, 0, 0, 0) := rfl
theorem f154_1635 : amFetch 154 1635 = some (.iload 4, 2, 0, 0, 0) := rfl
theorem f154_1637 : amFetch 154 1637 = some (.iconst 2, 1, 0, 0, 0) := rfl
theorem f154_1638 : amFetch 154 1638 = some (.iadd, 1, 0, 0, 0) := rfl
theorem f154_1639 : amFetch 154 1639 = some (.iaload, 1, 0, 0, 0) := rfl
theorem f154_1640 : amFetch 154 1640 = some (.aload_n 3, 1, 0, 0, 0) := rfl
theorem f154_1641 : amFetch 154 1641 = some (.invokestatic 191, 3, 1, 147, 4) := rfl
theorem f154_1644 : amFetch 154 1644 = some (.istore 5, 2, 0, 0, 0) := rfl
theorem f154_1646 : amFetch 154 1646 = some (.aload_n 2, 1, 0, 0, 0) := rfl
theorem f154_1647 : amFetch 154 1647 = some (.aload_n 0, 1, 0, 0, 0) := rfl
theorem f154_1648 : amFetch 154 1648 = some (.iload 4, 2, 0, 0, 0) := rfl
theorem f154_1650 : amFetch 154 1650 = some (.iconst 1, 1, 0, 0, 0) := rfl
theorem f154_1651 : amFetch 154 1651 = some (.iadd, 1, 0, 0, 0) := rfl
theorem f154_1652 : amFetch 154 1652 = some (.iaload, 1, 0, 0, 0) := rfl
theorem f154_1653 : amFetch 154 1653 = some (.aload_n 0, 1, 0, 0, 0) := rfl
theorem f154_1654 : amFetch 154 1654 = some (.iload 4, 2, 0, 0, 0) := rfl
theorem f154_1656 : amFetch 154 1656 = some (.iconst 2, 1, 0, 0, 0) := rfl
theorem f154_1657 : amFetch 154 1657 = some (.iadd, 1, 0, 0, 0) := rfl
theorem f154_1658 : amFetch 154 1658 = some (.iaload, 1, 0, 0, 0) := rfl
theorem f154_1659 : amFetch 154 1659 = some (.invokevirtual 193, 3, 0, 118, 2) := rfl
theorem f154_1662 : amFetch 154 1662 = some (.istore 6, 2, 0, 0, 0) := rfl
theorem f154_1664 : amFetch 154 1664 = some (.aload_n 2, 1, 0, 0, 0) := rfl
theorem f154_1665 : amFetch 154 1665 = some (.invokevirtual 121, 3, 0, 78, 0) := rfl
theorem f154_1668 : amFetch 154 1668 = some (.iload 5, 2, 0, 0, 0) := rfl
theorem f154_1670 : amFetch 154 1670 = some (.if_icmp .eq 5, 3, 0, 0, 0) := rfl
theorem f154_1673 : amFetch 154 1673 = some (.iconst 0, 1, 0, 0, 0) := rfl
theorem f154_1674 : amFetch 154 1674 = some (.ireturn, 1, 0, 0, 0) := rfl
theorem f154_1675 : amFetch 154 1675 = some (.iload 5, 2, 0, 0, 0) := rfl
theorem f154_1677 : amFetch 154 1677 = some (.ifCond .ne 22, 3, 0, 0, 0) := rfl
theorem f154_1680 : amFetch 154 1680 = some (.aload_n 3, 1, 0, 0, 0) := rfl
theorem f154_1681 : amFetch 154 1681 = some (.iconst 0, 1, 0, 0, 0) := rfl
theorem f154_1682 : amFetch 154 1682 = some (.laload, 1, 0, 0, 0) := rfl
theorem f154_1683 : amFetch 154 1683 = some (.iload 6, 2, 0, 0, 0) := rfl
theorem f154_1685 : amFetch 154 1685 = some (.ifCond .eq 7, 3, 0, 0, 0) := rfl
theorem f154_1688 : amFetch 154 1688 = some (.lconst 1, 1, 0, 0, 0) := rfl
theorem f154_1689 : amFetch 154 1689 = some (.goto 4, 3, 0, 0, 0) := rfl
theorem f154_1692 : amFetch 154 1692 = some (.lconst 0, 1, 0, 0, 0) := rfl
theorem f154_1693 : amFetch 154 1693 = some (.lcmp, 1, 0, 0, 0) := rfl
theorem f154_1694 : amFetch 154 1694 = some (.ifCond .eq 5, 3, 0, 0, 0) := rfl
theorem f154_1697 : amFetch 154 1697 = some (.iconst 0, 1, 0, 0, 0) := rfl
theorem f154_1698 : amFetch 154 1698 = some (.ireturn, 1, 0, 0, 0) := rfl
theorem f154_1699 : amFetch 154 1699 = some (.goto 413, 3, 0, 0, 0) := rfl
theorem f154_1702 : amFetch 154 1702 = some (.aload_n 1, 1, 0, 0, 0) := rfl
theorem f154_1703 : amFetch 154 1703 = some (.aload_n 0, 1, 0, 0, 0) := rfl
theorem f154_1704 : amFetch 154 1704 = some (.iload 4, 2, 0, 0, 0) := rfl
theorem f154_1706 : amFetch 154 1706 = some (.iconst 1, 1, 0, 0, 0) := rfl
theorem f154_1707 : amFetch 154 1707 = some (.iadd, 1, 0, 0, 0) := rfl
theorem f154_1708 : amFetch 154 1708 = some (.iaload, 1, 0, 0, 0) := rfl
theorem f154_1709 : amFetch 154 1709 = some (.aload_n 0, 1, 0, 0, 0) := rfl
theorem f154_1710 : amFetch 154 1710 = some (.iload 4, 2, 0, 0, 0) := rfl
theorem f154_1712 : amFetch 154 1712 = some (.iconst 2, 1, 0, 0, 0) := rfl
theorem f154_1713 : amFetch 154 1713 = some (.iadd, 1, 0, 0, 0) := rfl
theorem f154_1714 : amFetch 154 1714 = some (.iaload, 1, 0, 0, 0) := rfl
theorem f154_1715 : amFetch 154 1715 = some (.aload_n 3, 1, 0, 0, 0) := rfl
theorem f154_1716 : amFetch 154 1716 = some (.invokestatic 194, 3, 1, 148, 4) := rfl
theorem f154_1719 : amFetch 154 1719 = some (.istore 5, 2, 0, 0, 0) := rfl
theorem f154_1721 : amFetch 154 1721 = some (.aload_n 2, 1, 0, 0, 0) := rfl
theorem f154_1722 : amFetch 154 1722 = some (.aload_n 0, 1, 0, 0, 0) := rfl
theorem f154_1723 : amFetch 154 1723 = some (.iload 4, 2, 0, 0, 0) := rfl
theorem f154_1725 : amFetch 154 1725 = some (.iconst 1, 1, 0, 0, 0) := rfl
theorem f154_1726 : amFetch 154 1726 = some (.iadd, 1, 0, 0, 0) := rfl
theorem f154_1727 : amFetch 154 1727 = some (.iaload, 1, 0, 0, 0) := rfl
theorem f154_1728 : amFetch 154 1728 = some (.aload_n 0, 1, 0, 0, 0) := rfl
theorem f154_1729 : amFetch 154 1729 = some (.iload 4, 2, 0, 0, 0) := rfl
theorem f154_1731 : amFetch 154 1731 = some (.iconst 2, 1, 0, 0, 0) := rfl
theorem f154_1732 : amFetch 154 1732 = some (.iadd, 1, 0, 0, 0) := rfl
theorem f154_1733 : amFetch 154 1733 = some (.iaload, 1, 0, 0, 0) := rfl
theorem f154_1734 : amFetch 154 1734 = some (.invokevirtual 196, 3, 0, 119, 2) := rfl
theorem f154_1737 : amFetch 154 1737 = some (.istore 6, 2, 0, 0, 0) := rfl
theorem f154_1739 : amFetch 154 1739 = some (.aload_n 2, 1, 0, 0, 0) := rfl
theorem f154_1740 : amFetch 154 1740 = some (.invokevirtual 121, 3, 0, 78, 0) := rfl
theorem f154_1743 : amFetch 154 1743 = some (.iload 5, 2, 0, 0, 0) := rfl
theorem f154_1745 : amFetch 154 1745 = some (.if_icmp .eq 5, 3, 0, 0, 0) := rfl
theorem f154_1748 : amFetch 154 1748 = some (.iconst 0, 1, 0, 0, 0) := rfl
theorem f154_1749 : amFetch 154 1749 = some (.ireturn, 1, 0, 0, 0) := rfl
theorem f154_1750 : amFetch 154 1750 = some (.iload 5, 2, 0, 0, 0) := rfl
theorem f154_1752 : amFetch 154 1752 = some (.ifCond .ne 22, 3, 0, 0, 0) := rfl
theorem f154_1755 : amFetch 154 1755 = some (.aload_n 3, 1, 0, 0, 0) := rfl
theorem f154_1756 : amFetch 154 1756 = some (.iconst 0, 1, 0, 0, 0) := rfl
theorem f154_1757 : amFetch 154 1757 = some (.laload, 1, 0, 0, 0) := rfl
theorem f154_1758 : amFetch 154 1758 = some (.iload 6, 2, 0, 0, 0) := rfl
theorem f154_1760 : amFetch 154 1760 = some (.ifCond .eq 7, 3, 0, 0, 0) := rfl
theorem f154_1763 : amFetch 154 1763 = some (.lconst 1, 1, 0, 0, 0) := rfl
theorem f154_1764 : amFetch 154 1764 = some (.goto 4, 3, 0, 0, 0) := rfl
theorem f154_1767 : amFetch 154 1767 = some (.lconst 0, 1, 0, 0, 0) := rfl
theorem f154_1768 : amFetch 154 1768 = some (.lcmp, 1, 0, 0, 0) := rfl
theorem f154_1769 : amFetch 154 1769 = some (.ifCond .eq 5, 3, 0, 0, 0) := rfl
theorem f154_1772 : amFetch 154 1772 = some (.iconst 0, 1, 0, 0, 0) := rfl
theorem f154_1773 : amFetch 154 1773 = some (.ireturn, 1, 0, 0, 0) := rfl
theorem f154_1774 : amFetch 154 1774 = some (.goto 338, 3, 0, 0, 0) := rfl
theorem f154_1777 : amFetch 154 1777 = some (.aload_n 1, 1, 0, 0, 0) := rfl
theorem f154_1778 : amFetch 154 1778 = some (.aload_n 0, 1, 0, 0, 0) := rfl
theorem f154_1779 : amFetch 154 1779 = some (.iload 4, 2, 0, 0, 0) := rfl
theorem f154_1781 : amFetch 154 1781 = some (.iconst 1, 1, 0, 0, 0) := rfl
theorem f154_1782 : amFetch 154 1782 = some (.iadd, 1, 0, 0, 0) := rfl
theorem f154_1783 : amFetch 154 1783 = some (.iaload, 1, 0, 0, 0) := rfl
theorem f154_1784 : amFetch 154 1784 = some (.aload_n 0, 1, 0, 0, 0) := rfl
theorem f154_1785 : amFetch 154 1785 = some (.iload 4, 2, 0, 0, 0) := rfl
theorem f154_1787 : amFetch 154 1787 = some (.iconst 2, 1, 0, 0, 0) := rfl
theorem f154_1788 : amFetch 154 1788 = some (.iadd, 1, 0, 0, 0) := rfl
theorem f154_1789 : amFetch 154 1789 = some (.iaload, 1, 0, 0, 0) := rfl
theorem f154_1790 : amFetch 154 1790 = some (.aload_n 3, 1, 0, 0, 0) := rfl
theorem f154_1791 : amFetch 154 1791 = some (.invokestatic 197, 3, 1, 149, 4) := rfl
theorem f154_1794 : amFetch 154 1794 = some (.istore 5, 2, 0, 0, 0) := rfl
theorem f154_1796 : amFetch 154 1796 = some (.aload_n 2, 1, 0, 0, 0) := rfl
theorem f154_1797 : amFetch 154 1797 = some (.aload_n 0, 1, 0, 0, 0) := rfl
theorem f154_1798 : amFetch 154 1798 = some (.iload 4, 2, 0, 0, 0) := rfl
theorem f154_1800 : amFetch 154 1800 = some (.iconst 1, 1, 0, 0, 0) := rfl
theorem f154_1801 : amFetch 154 1801 = some (.iadd, 1, 0, 0, 0) := rfl
theorem f154_1802 : amFetch 154 1802 = some (.iaload, 1, 0, 0, 0) := rfl
theorem f154_1803 : amFetch 154 1803 = some (.aload_n 0, 1, 0, 0, 0) := rfl
theorem f154_1804 : amFetch 154 1804 = some (.iload 4, 2, 0, 0, 0) := rfl
theorem f154_1806 : amFetch 154 1806 = some (.iconst 2, 1, 0, 0, 0) := rfl
theorem f154_1807 : amFetch 154 1807 = some (.iadd, 1, 0, 0, 0) := rfl
theorem f154_1808 : amFetch 154 1808 = some (.iaload, 1, 0, 0, 0) := rfl
theorem f154_1809 : amFetch 154 1809 = some (.invokevirtual 199, 3, 0, 120, 2) := rfl
theorem f154_1812 : amFetch 154 1812 = some (.istore 6, 2, 0, 0, 0) := rfl
theorem f154_1814 : amFetch 154 1814 = some (.aload_n 2, 1, 0, 0, 0) := rfl
theorem f154_1815 : amFetch 154 1815 = some (.invokevirtual 121, 3, 0, 78, 0) := rfl
theorem f154_1818 : amFetch 154 1818 = some (.iload 5, 2, 0, 0, 0) := rfl
theorem f154_1820 : amFetch 154 1820 = some (.if_icmp .eq 5, 3, 0, 0, 0) := rfl
theorem f154_1823 : amFetch 154 1823 = some (.iconst 0, 1, 0, 0, 0) := rfl
theorem f154_1824 : amFetch 154 1824 = some (.ireturn, 1, 0, 0, 0) := rfl
theorem f154_1825 : amFetch 154 1825 = some (.iload 5, 2, 0, 0, 0) := rfl
theorem f154_1827 : amFetch 154 1827 = some (.ifCond .ne 22, 3, 0, 0, 0) := rfl
theorem f154_1830 : amFetch 154 1830 = some (.aload_n 3, 1, 0, 0, 0) := rfl
theorem f154_1831 : amFetch 154 1831 = some (.iconst 0, 1, 0, 0, 0) := rfl
theorem f154_1832 : amFetch 154 1832 = some (.laload, 1, 0, 0, 0) := rfl
theorem f154_1833 : amFetch 154 1833 = some (.iload 6, 2, 0, 0, 0) := rfl
theorem f154_1835 : amFetch 154 1835 = some (.ifCond .eq 7, 3, 0, 0, 0) := rfl
theorem f154_1838 : amFetch 154 1838 = some (.lconst 1, 1, 0, 0, 0) := rfl
theorem f154_1839 : amFetch 154 1839 = some (.goto 4, 3, 0, 0, 0) := rfl
theorem f154_1842 : amFetch 154 1842 = some (.lconst 0, 1, 0, 0, 0) := rfl
theorem f154_1843 : amFetch 154 1843 = some (.lcmp, 1, 0, 0, 0) := rfl
theorem f154_1844 : amFetch 154 1844 = some (.ifCond .eq 5, 3, 0, 0, 0) := rfl
theorem f154_1847 : amFetch 154 1847 = some (.iconst 0, 1, 0, 0, 0) := rfl
theorem f154_1848 : amFetch 154 1848 = some (.ireturn, 1, 0, 0, 0) := rfl
theorem f154_1849 : amFetch 154 1849 = some (.goto 263, 3, 0, 0, 0) := rfl
theorem f154_1852 : amFetch 154 1852 = some (.aload_n 1, 1, 0, 0, 0) := rfl
theorem f154_1853 : amFetch 154 1853 = some (.aload_n 0, 1, 0, 0, 0) := rfl
theorem f154_1854 : amFetch 154 1854 = some (.iload 4, 2, 0, 0, 0) := rfl
theorem f154_1856 : amFetch 154 1856 = some (.iconst 1, 1, 0, 0, 0) := rfl
theorem f154_1857 : amFetch 154 1857 = some (.iadd, 1, 0, 0, 0) := rfl
theorem f154_1858 : amFetch 154 1858 = some (.iaload, 1, 0, 0, 0) := rfl
theorem f154_1859 : amFetch 154 1859 = some (.aload_n 0, 1, 0, 0, 0) := rfl
theorem f154_1860 : amFetch 154 1860 = some (.iload 4, 2, 0, 0, 0) := rfl
theorem f154_1862 : amFetch 154 1862 = some (.iconst 2, 1, 0, 0, 0) := rfl
theorem f154_1863 : amFetch 154 1863 = some (.iadd, 1, 0, 0, 0) := rfl
theorem f154_1864 : amFetch 154 1864 = some (.iaload, 1, 0, 0, 0) := rfl
theorem f154_1865 : amFetch 154 1865 = some (.aload_n 3, 1, 0, 0, 0) := rfl
theorem f154_1866 : amFetch 154 1866 = some (.invokestatic 200, 3, 1, 150, 4) := rfl
theorem f154_1869 : amFetch 154 1869 = some (.istore 5, 2, 0, 0, 0) := rfl
theorem f154_1871 : amFetch 154 1871 = some (.aload_n 2, 1, 0, 0, 0) := rfl
theorem f154_1872 : amFetch 154 1872 = some (.aload_n 0, 1, 0, 0, 0) := rfl
theorem f154_1873 : amFetch 154 1873 = some (.iload 4, 2, 0, 0, 0) := rfl
theorem f154_1875 : amFetch 154 1875 = some (.iconst 1, 1, 0, 0, 0) := rfl
theorem f154_1876 : amFetch 154 1876 = some (.iadd, 1, 0, 0, 0) := rfl
theorem f154_1877 : amFetch 154 1877 = some (.iaload, 1, 0, 0, 0) := rfl
theorem f154_1878 : amFetch 154 1878 = some (.aload_n 0, 1, 0, 0, 0) := rfl
theorem f154_1879 : amFetch 154 1879 = some (.iload 4, 2, 0, 0, 0) := rfl
theorem f154_1881 : amFetch 154 1881 = some (.iconst 2, 1, 0, 0, 0) := rfl
theorem f154_1882 : amFetch 154 1882 = some (.iadd, 1, 0, 0, 0) := rfl
theorem f154_1883 : amFetch 154 1883 = some (.iaload, 1, 0, 0, 0) := rfl
theorem f154_1884 : amFetch 154 1884 = some (.invokevirtual 202, 3, 0, 121, 2) := rfl
theorem f154_1887 : amFetch 154 1887 = some (.istore 6, 2, 0, 0, 0) := rfl
theorem f154_1889 : amFetch 154 1889 = some (.aload_n 2, 1, 0, 0, 0) := rfl
theorem f154_1890 : amFetch 154 1890 = some (.invokevirtual 121, 3, 0, 78, 0) := rfl
theorem f154_1893 : amFetch 154 1893 = some (.iload 5, 2, 0, 0, 0) := rfl
theorem f154_1895 : amFetch 154 1895 = some (.if_icmp .eq 5, 3, 0, 0, 0) := rfl
theorem f154_1898 : amFetch 154 1898 = some (.iconst 0, 1, 0, 0, 0) := rfl
theorem f154_1899 : amFetch 154 1899 = some (.ireturn, 1, 0, 0, 0) := rfl
theorem f154_1900 : amFetch 154 1900 = some (.iload 5, 2, 0, 0, 0) := rfl
theorem f154_1902 : amFetch 154 1902 = some (.ifCond .ne 15, 3, 0, 0, 0) := rfl
theorem f154_1905 : amFetch 154 1905 = some (.aload_n 3, 1, 0, 0, 0) := rfl
theorem f154_1906 : amFetch 154 1906 = some (.iconst 0, 1, 0, 0, 0) := rfl
theorem f154_1907 : amFetch 154 1907 = some (.laload, 1, 0, 0, 0) := rfl
theorem f154_1908 : amFetch 154 1908 = some (.iload 6, 2, 0, 0, 0) := rfl
theorem f154_1910 : amFetch 154 1910 = some (.i2l, 1, 0, 0, 0) := rfl
theorem f154_1911 : amFetch 154 1911 = some (.lcmp, 1, 0, 0, 0) := rfl
theorem f154_1912 : amFetch 154 1912 = some (.ifCond .eq 5, 3, 0, 0, 0) := rfl
theorem f154_1915 : amFetch 154 1915 = some (.iconst 0, 1, 0, 0, 0) := rfl
theorem f154_1916 : amFetch 154 1916 = some (.ireturn, 1, 0, 0, 0) := rfl
theorem f154_1917 : amFetch 154 1917 = some (.goto 195, 3, 0, 0, 0) := rfl
theorem f154_1920 : amFetch 154 1920 = some (.aload_n 1, 1, 0, 0, 0) := rfl
theorem f154_1921 : amFetch 154 1921 = some (.aload_n 0, 1, 0, 0, 0) := rfl
theorem f154_1922 : amFetch 154 1922 = some (.iload 4, 2, 0, 0, 0) := rfl
theorem f154_1924 : amFetch 154 1924 = some (.iconst 1, 1, 0, 0, 0) := rfl
theorem f154_1925 : amFetch 154 1925 = some (.iadd, 1, 0, 0, 0) := rfl
theorem f154_1926 : amFetch 154 1926 = some (.iaload, 1, 0, 0, 0) := rfl
theorem f154_1927 : amFetch 154 1927 = some (.aload_n 0, 1, 0, 0, 0) := rfl
theorem f154_1928 : amFetch 154 1928 = some (.iload 4, 2, 0, 0, 0) := rfl
theorem f154_1930 : amFetch 154 1930 = some (.iconst 2, 1, 0, 0, 0) := rfl
theorem f154_1931 : amFetch 154 1931 = some (.iadd, 1, 0, 0, 0) := rfl
theorem f154_1932 : amFetch 154 1932 = some (.iaload, 1, 0, 0, 0) := rfl
theorem f154_1933 : amFetch 154 1933 = some (.aload_n 3, 1, 0, 0, 0) := rfl
theorem f154_1934 : amFetch 154 1934 = some (.invokestatic 203, 3, 1, 151, 4) := rfl
theorem f154_1937 : amFetch 154 1937 = some (.istore 5, 2, 0, 0, 0) := rfl
theorem f154_1939 : amFetch 154 1939 = some (.aload_n 2, 1, 0, 0, 0) := rfl
theorem f154_1940 : amFetch 154 1940 = some (.aload_n 0, 1, 0, 0, 0) := rfl
theorem f154_1941 : amFetch 154 1941 = some (.iload 4, 2, 0, 0, 0) := rfl
theorem f154_1943 : amFetch 154 1943 = some (.iconst 1, 1, 0, 0, 0) := rfl
theorem f154_1944 : amFetch 154 1944 = some (.iadd, 1, 0, 0, 0) := rfl
theorem f154_1945 : amFetch 154 1945 = some (.iaload, 1, 0, 0, 0) := rfl
theorem f154_1946 : amFetch 154 1946 = some (.aload_n 0, 1, 0, 0, 0) := rfl
theorem f154_1947 : amFetch 154 1947 = some (.iload 4, 2, 0, 0, 0) := rfl
theorem f154_1949 : amFetch 154 1949 = some (.iconst 2, 1, 0, 0, 0) := rfl
theorem f154_1950 : amFetch 154 1950 = some (.iadd, 1, 0, 0, 0) := rfl
theorem f154_1951 : amFetch 154 1951 = some (.iaload, 1, 0, 0, 0) := rfl
theorem f154_1952 : amFetch 154 1952 = some (.invokevirtual 205, 3, 0, 122, 2) := rfl
theorem f154_1955 : amFetch 154 1955 = some (.istore 6, 2, 0, 0, 0) := rfl
theorem f154_1957 : amFetch 154 1957 = some (.aload_n 2, 1, 0, 0, 0) := rfl
theorem f154_1958 : amFetch 154 1958 = some (.invokevirtual 121, 3, 0, 78, 0) := rfl
theorem f154_1961 : amFetch 154 1961 = some (.iload 5, 2, 0, 0, 0) := rfl
theorem f154_1963 : amFetch 154 1963 = some (.if_icmp .eq 5, 3, 0, 0, 0) := rfl
theorem f154_1966 : amFetch 154 1966 = some (.iconst 0, 1, 0, 0, 0) := rfl
theorem f154_1967 : amFetch 154 1967 = some (.ireturn, 1, 0, 0, 0) := rfl
theorem f154_1968 : amFetch 154 1968 = some (.iload 5, 2, 0, 0, 0) := rfl
theorem f154_1970 : amFetch 154 1970 = some (.ifCond .ne 15, 3, 0, 0, 0) := rfl
theorem f154_1973 : amFetch 154 1973 = some (.aload_n 3, 1, 0, 0, 0) := rfl
theorem f154_1974 : amFetch 154 1974 = some (.iconst 0, 1, 0, 0, 0) := rfl
theorem f154_1975 : amFetch 154 1975 = some (.laload, 1, 0, 0, 0) := rfl
theorem f154_1976 : amFetch 154 1976 = some (.iload 6, 2, 0, 0, 0) := rfl
theorem f154_1978 : amFetch 154 1978 = some (.i2l, 1, 0, 0, 0) := rfl
theorem f154_1979 : amFetch 154 1979 = some (.lcmp, 1, 0, 0, 0) := rfl
theorem f154_1980 : amFetch 154 1980 = some (.ifCond .eq 5, 3, 0, 0, 0) := rfl
theorem f154_1983 : amFetch 154 1983 = some (.iconst 0, 1, 0, 0, 0) := rfl
theorem f154_1984 : amFetch 154 1984 = some (.ireturn, 1, 0, 0, 0) := rfl
theorem f154_1985 : amFetch 154 1985 = some (.goto 127, 3, 0, 0, 0) := rfl
theorem f154_1988 : amFetch 154 1988 = some (.aload_n 1, 1, 0, 0, 0) := rfl
theorem f154_1989 : amFetch 154 1989 = some (.aload_n 0, 1, 0, 0, 0) := rfl
theorem f154_1990 : amFetch 154 1990 = some (.iload 4, 2, 0, 0, 0) := rfl
theorem f154_1992 : amFetch 154 1992 = some (.iconst 1, 1, 0, 0, 0) := rfl
theorem f154_1993 : amFetch 154 1993 = some (.iadd, 1, 0, 0, 0) := rfl
theorem f154_1994 : amFetch 154 1994 = some (.iaload, 1, 0, 0, 0) := rfl
theorem f154_1995 : amFetch 154 1995 = some (.aload_n 0, 1, 0, 0, 0) := rfl
theorem f154_1996 : amFetch 154 1996 = some (.iload 4, 2, 0, 0, 0) := rfl
theorem f154_1998 : amFetch 154 1998 = some (.iconst 2, 1, 0, 0, 0) := rfl
theorem f154_1999 : amFetch 154 1999 = some (.iadd, 1, 0, 0, 0) := rfl
theorem f154_2000 : amFetch 154 2000 = some (.iaload, 1, 0, 0, 0) := rfl
theorem f154_2001 : amFetch 154 2001 = some (.aload_n 3, 1, 0, 0, 0) := rfl
theorem f154_2002 : amFetch 154 2002 = some (.invokestatic 206, 3, 1, 152, 4) := rfl
theorem f154_2005 : amFetch 154 2005 = some (.istore 5, 2, 0, 0, 0) := rfl
theorem f154_2007 : amFetch 154 2007 = some (.aload_n 2, 1, 0, 0, 0) := rfl
theorem f154_2008 : amFetch 154 2008 = some (.aload_n 0, 1, 0, 0, 0) := rfl
theorem f154_2009 : amFetch 154 2009 = some (.iload 4, 2, 0, 0, 0) := rfl
theorem f154_2011 : amFetch 154 2011 = some (.iconst 1, 1, 0, 0, 0) := rfl
theorem f154_2012 : amFetch 154 2012 = some (.iadd, 1, 0, 0, 0) := rfl
theorem f154_2013 : amFetch 154 2013 = some (.iaload, 1, 0, 0, 0) := rfl
theorem f154_2014 : amFetch 154 2014 = some (.aload_n 0, 1, 0, 0, 0) := rfl
theorem f154_2015 : amFetch 154 2015 = some (.iload 4, 2, 0, 0, 0) := rfl
theorem f154_2017 : amFetch 154 2017 = some (.iconst 2, 1, 0, 0, 0) := rfl
theorem f154_2018 : amFetch 154 2018 = some (.iadd, 1, 0, 0, 0) := rfl
theorem f154_2019 : amFetch 154 2019 = some (.iaload, 1, 0, 0, 0) := rfl
theorem f154_2020 : amFetch 154 2020 = some (.invokevirtual 208, 3, 0, 123, 2) := rfl
theorem f154_2023 : amFetch 154 2023 = some (.istore 6, 2, 0, 0, 0) := rfl
theorem f154_2025 : amFetch 154 2025 = some (.aload_n 2, 1, 0, 0, 0) := rfl
theorem f154_2026 : amFetch 154 2026 = some (.invokevirtual 121, 3, 0, 78, 0) := rfl
theorem f154_2029 : amFetch 154 2029 = some (.iload 5, 2, 0, 0, 0) := rfl
theorem f154_2031 : amFetch 154 2031 = some (.if_icmp .eq 5, 3, 0, 0, 0) := rfl
theorem f154_2034 : amFetch 154 2034 = some (.iconst 0, 1, 0, 0, 0) := rfl
theorem f154_2035 : amFetch 154 2035 = some (.ireturn, 1, 0, 0, 0) := rfl
theorem f154_2036 : amFetch 154 2036 = some (.iload 5, 2, 0, 0, 0) := rfl
theorem f154_2038 : amFetch 154 2038 = some (.ifCond .ne 15, 3, 0, 0, 0) := rfl
theorem f154_2041 : amFetch 154 2041 = some (.aload_n 3, 1, 0, 0, 0) := rfl
theorem f154_2042 : amFetch 154 2042 = some (.iconst 0, 1, 0, 0, 0) := rfl
theorem f154_2043 : amFetch 154 2043 = some (.laload, 1, 0, 0, 0) := rfl
theorem f154_2044 : amFetch 154 2044 = some (.iload 6, 2, 0, 0, 0) := rfl
theorem f154_2046 : amFetch 154 2046 = some (.i2l, 1, 0, 0, 0) := rfl
theorem f154_2047 : amFetch 154 2047 = some (.lcmp, 1, 0, 0, 0) := rfl
theorem f154_2048 : amFetch 154 2048 = some (.ifCond .eq 5, 3, 0, 0, 0) := rfl
theorem f154_2051 : amFetch 154 2051 = some (.iconst 0, 1, 0, 0, 0) := rfl
theorem f154_2052 : amFetch 154 2052 = some (.ireturn, 1, 0, 0, 0) := rfl
theorem f154_2053 : amFetch 154 2053 = some (.goto 59, 3, 0, 0, 0) := rfl
theorem f154_2056 : amFetch 154 2056 = some (.aload_n 1, 1, 0, 0, 0) := rfl
theorem f154_2057 : amFetch 154 2057 = some (.aload_n 0, 1, 0, 0, 0) := rfl
theorem f154_2058 : amFetch 154 2058 = some (.iload 4, 2, 0, 0, 0) := rfl
theorem f154_2060 : amFetch 154 2060 = some (.iconst 1, 1, 0, 0, 0) := rfl
theorem f154_2061 : amFetch 154 2061 = some (.iadd, 1, 0, 0, 0) := rfl
theorem f154_2062 : amFetch 154 2062 = some (.iaload, 1, 0, 0, 0) := rfl
theorem f154_2063 : amFetch 154 2063 = some (.aload_n 3, 1, 0, 0, 0) := rfl
theorem f154_2064 : amFetch 154 2064 = some (.invokestatic 209, 3, 1, 153, 3) := rfl
theorem f154_2067 : amFetch 154 2067 = some (.istore 5, 2, 0, 0, 0) := rfl
theorem f154_2069 : amFetch 154 2069 = some (.aload_n 2, 1, 0, 0, 0) := rfl
theorem f154_2070 : amFetch 154 2070 = some (.aload_n 0, 1, 0, 0, 0) := rfl
theorem f154_2071 : amFetch 154 2071 = some (.iload 4, 2, 0, 0, 0) := rfl
theorem f154_2073 : amFetch 154 2073 = some (.iconst 1, 1, 0, 0, 0) := rfl
theorem f154_2074 : amFetch 154 2074 = some (.iadd, 1, 0, 0, 0) := rfl
theorem f154_2075 : amFetch 154 2075 = some (.iaload, 1, 0, 0, 0) := rfl
theorem f154_2076 : amFetch 154 2076 = some (.invokevirtual 211, 3, 0, 124, 1) := rfl
theorem f154_2079 : amFetch 154 2079 = some (.istore 6, 2, 0, 0, 0) := rfl
theorem f154_2081 : amFetch 154 2081 = some (.aload_n 2, 1, 0, 0, 0) := rfl
theorem f154_2082 : amFetch 154 2082 = some (.invokevirtual 121, 3, 0, 78, 0) := rfl
theorem f154_2085 : amFetch 154 2085 = some (.iload 5, 2, 0, 0, 0) := rfl
theorem f154_2087 : amFetch 154 2087 = some (.if_icmp .eq 5, 3, 0, 0, 0) := rfl
theorem f154_2090 : amFetch 154 2090 = some (.iconst 0, 1, 0, 0, 0) := rfl
theorem f154_2091 : amFetch 154 2091 = some (.ireturn, 1, 0, 0, 0) := rfl
theorem f154_2092 : amFetch 154 2092 = some (.iload 5, 2, 0, 0, 0) := rfl
theorem f154_2094 : amFetch 154 2094 = some (.ifCond .ne 15, 3, 0, 0, 0) := rfl
theorem f154_2097 : amFetch 154 2097 = some (.aload_n 3, 1, 0, 0, 0) := rfl
theorem f154_2098 : amFetch 154 2098 = some (.iconst 0, 1, 0, 0, 0) := rfl
theorem f154_2099 : amFetch 154 2099 = some (.laload, 1, 0, 0, 0) := rfl
theorem f154_2100 : amFetch 154 2100 = some (.iload 6, 2, 0, 0, 0) := rfl
theorem f154_2102 : amFetch 154 2102 = some (.i2l, 1, 0, 0, 0) := rfl
theorem f154_2103 : amFetch 154 2103 = some (.lcmp, 1, 0, 0, 0) := rfl
theorem f154_2104 : amFetch 154 2104 = some (.ifCond .eq 5, 3, 0, 0, 0) := rfl
theorem f154_2107 : amFetch 154 2107 = some (.iconst 0, 1, 0, 0, 0) := rfl
theorem f154_2108 : amFetch 154 2108 = some (.ireturn, 1, 0, 0, 0) := rfl
theorem f154_2109 : amFetch 154 2109 = some (.goto 3, 3, 0, 0, 0) := rfl
theorem f154_2112 : amFetch 154 2112 = some (.iinc 4 4, 3, 0, 0, 0) := rfl
theorem f154_2115 : amFetch 154 2115 = some (.goto (-2092), 3, 0, 0, 0) := rfl
theorem f154_2118 : amFetch 154 2118 = some (.iconst 1, 1, 0, 0, 0) := rfl
theorem f154_2119 : amFetch 154 2119 = some (.ireturn, 1, 0, 0, 0) := rfl
theorem ow154 : amOwnL 154 = some (5, 7) := rfl
