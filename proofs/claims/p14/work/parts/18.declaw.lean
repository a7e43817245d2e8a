/-! the law's instructions, by program -/
theorem dL_0 : decode code 0 = .ok (.new 7, 3) := by decide +kernel
theorem dL_3 : decode code 3 = .ok (.dup, 1) := by decide +kernel
theorem dL_4 : decode code 4 = .ok (.invokespecial 9, 3) := by decide +kernel
theorem dL_7 : decode code 7 = .ok (.astore_n 1, 1) := by decide +kernel
theorem dL_8 : decode code 8 = .ok (.new 10, 3) := by decide +kernel
theorem dL_11 : decode code 11 = .ok (.dup, 1) := by decide +kernel
theorem dL_12 : decode code 12 = .ok (.invokespecial 12, 3) := by decide +kernel
theorem dL_15 : decode code 15 = .ok (.astore_n 2, 1) := by decide +kernel
theorem dL_16 : decode code 16 = .ok (.iconst 0, 1) := by decide +kernel
theorem dL_17 : decode code 17 = .ok (.istore_n 3, 1) := by decide +kernel
theorem dL_18 : decode code 18 = .ok (.iload_n 3, 1) := by decide +kernel
theorem dL_19 : decode code 19 = .ok (.aload_n 0, 1) := by decide +kernel
theorem dL_20 : decode code 20 = .ok (.arraylength, 1) := by decide +kernel
theorem dL_21 : decode code 21 = .ok (.iconst 4, 1) := by decide +kernel
theorem dL_22 : decode code 22 = .ok (.isub, 1) := by decide +kernel
theorem dL_23 : decode code 23 = .ok (.if_icmp .gt 753, 3) := by decide +kernel
theorem dL_26 : decode code 26 = .ok (.aload_n 0, 1) := by decide +kernel
theorem dL_27 : decode code 27 = .ok (.iload_n 3, 1) := by decide +kernel
theorem dL_28 : decode code 28 = .ok (.iaload, 1) := by decide +kernel
theorem dL_29 : decode code 29 = .ok (.bipush 31, 2) := by decide +kernel
theorem dL_31 : decode code 31 = .ok (.iand, 1) := by decide +kernel
theorem dL_32 : decode code 32 = .ok (.tableswitch 738 0 25 #[120, 143, 156, 179, 192, 225, 268, 291, 314, 337, 350, 373, 406, 439, 462, 495, 518, 541, 564, 587, 610, 633, 646, 689, 702, 715], 120) := by decide +kernel
theorem dL_152 : decode code 152 = .ok (.aload_n 1, 1) := by decide +kernel
theorem dL_153 : decode code 153 = .ok (.aload_n 0, 1) := by decide +kernel
theorem dL_154 : decode code 154 = .ok (.iload_n 3, 1) := by decide +kernel
theorem dL_155 : decode code 155 = .ok (.iconst 1, 1) := by decide +kernel
theorem dL_156 : decode code 156 = .ok (.iadd, 1) := by decide +kernel
theorem dL_157 : decode code 157 = .ok (.iaload, 1) := by decide +kernel
theorem dL_158 : decode code 158 = .ok (.invokevirtual 13, 3) := by decide +kernel
theorem dL_161 : decode code 161 = .ok (.pop, 1) := by decide +kernel
theorem dL_162 : decode code 162 = .ok (.aload_n 2, 1) := by decide +kernel
theorem dL_163 : decode code 163 = .ok (.aload_n 0, 1) := by decide +kernel
theorem dL_164 : decode code 164 = .ok (.iload_n 3, 1) := by decide +kernel
theorem dL_165 : decode code 165 = .ok (.iconst 1, 1) := by decide +kernel
theorem dL_166 : decode code 166 = .ok (.iadd, 1) := by decide +kernel
theorem dL_167 : decode code 167 = .ok (.iaload, 1) := by decide +kernel
theorem dL_168 : decode code 168 = .ok (.invokevirtual 17, 3) := by decide +kernel
theorem dL_171 : decode code 171 = .ok (.pop, 1) := by decide +kernel
theorem dL_172 : decode code 172 = .ok (.goto 598, 3) := by decide +kernel
theorem dL_175 : decode code 175 = .ok (.aload_n 1, 1) := by decide +kernel
theorem dL_176 : decode code 176 = .ok (.invokevirtual 18, 3) := by decide +kernel
theorem dL_179 : decode code 179 = .ok (.pop, 1) := by decide +kernel
theorem dL_180 : decode code 180 = .ok (.aload_n 2, 1) := by decide +kernel
theorem dL_181 : decode code 181 = .ok (.invokevirtual 22, 3) := by decide +kernel
theorem dL_184 : decode code 184 = .ok (.pop, 1) := by decide +kernel
theorem dL_185 : decode code 185 = .ok (.goto 585, 3) := by decide +kernel
theorem dL_188 : decode code 188 = .ok (.aload_n 1, 1) := by decide +kernel
theorem dL_189 : decode code 189 = .ok (.aload_n 0, 1) := by decide +kernel
theorem dL_190 : decode code 190 = .ok (.iload_n 3, 1) := by decide +kernel
theorem dL_191 : decode code 191 = .ok (.iconst 1, 1) := by decide +kernel
theorem dL_192 : decode code 192 = .ok (.iadd, 1) := by decide +kernel
theorem dL_193 : decode code 193 = .ok (.iaload, 1) := by decide +kernel
theorem dL_194 : decode code 194 = .ok (.invokevirtual 23, 3) := by decide +kernel
theorem dL_197 : decode code 197 = .ok (.pop, 1) := by decide +kernel
theorem dL_198 : decode code 198 = .ok (.aload_n 2, 1) := by decide +kernel
theorem dL_199 : decode code 199 = .ok (.aload_n 0, 1) := by decide +kernel
theorem dL_200 : decode code 200 = .ok (.iload_n 3, 1) := by decide +kernel
theorem dL_201 : decode code 201 = .ok (.iconst 1, 1) := by decide +kernel
theorem dL_202 : decode code 202 = .ok (.iadd, 1) := by decide +kernel
theorem dL_203 : decode code 203 = .ok (.iaload, 1) := by decide +kernel
theorem dL_204 : decode code 204 = .ok (.invokevirtual 26, 3) := by decide +kernel
theorem dL_207 : decode code 207 = .ok (.pop, 1) := by decide +kernel
theorem dL_208 : decode code 208 = .ok (.goto 562, 3) := by decide +kernel
theorem dL_211 : decode code 211 = .ok (.aload_n 1, 1) := by decide +kernel
theorem dL_212 : decode code 212 = .ok (.invokevirtual 27, 3) := by decide +kernel
theorem dL_215 : decode code 215 = .ok (.pop, 1) := by decide +kernel
theorem dL_216 : decode code 216 = .ok (.aload_n 2, 1) := by decide +kernel
theorem dL_217 : decode code 217 = .ok (.invokevirtual 30, 3) := by decide +kernel
theorem dL_220 : decode code 220 = .ok (.pop, 1) := by decide +kernel
theorem dL_221 : decode code 221 = .ok (.goto 549, 3) := by decide +kernel
theorem dL_224 : decode code 224 = .ok (.aload_n 1, 1) := by decide +kernel
theorem dL_225 : decode code 225 = .ok (.aload_n 0, 1) := by decide +kernel
theorem dL_226 : decode code 226 = .ok (.iload_n 3, 1) := by decide +kernel
theorem dL_227 : decode code 227 = .ok (.iconst 1, 1) := by decide +kernel
theorem dL_228 : decode code 228 = .ok (.iadd, 1) := by decide +kernel
theorem dL_229 : decode code 229 = .ok (.iaload, 1) := by decide +kernel
theorem dL_230 : decode code 230 = .ok (.aload_n 0, 1) := by decide +kernel
theorem dL_231 : decode code 231 = .ok (.iload_n 3, 1) := by decide +kernel
theorem dL_232 : decode code 232 = .ok (.iconst 2, 1) := by decide +kernel
theorem dL_233 : decode code 233 = .ok (.iadd, 1) := by decide +kernel
theorem dL_234 : decode code 234 = .ok (.iaload, 1) := by decide +kernel
theorem dL_235 : decode code 235 = .ok (.invokevirtual 31, 3) := by decide +kernel
theorem dL_238 : decode code 238 = .ok (.pop, 1) := by decide +kernel
theorem dL_239 : decode code 239 = .ok (.aload_n 2, 1) := by decide +kernel
theorem dL_240 : decode code 240 = .ok (.aload_n 0, 1) := by decide +kernel
theorem dL_241 : decode code 241 = .ok (.iload_n 3, 1) := by decide +kernel
theorem dL_242 : decode code 242 = .ok (.iconst 1, 1) := by decide +kernel
theorem dL_243 : decode code 243 = .ok (.iadd, 1) := by decide +kernel
theorem dL_244 : decode code 244 = .ok (.iaload, 1) := by decide +kernel
theorem dL_245 : decode code 245 = .ok (.aload_n 0, 1) := by decide +kernel
theorem dL_246 : decode code 246 = .ok (.iload_n 3, 1) := by decide +kernel
theorem dL_247 : decode code 247 = .ok (.iconst 2, 1) := by decide +kernel
theorem dL_248 : decode code 248 = .ok (.iadd, 1) := by decide +kernel
theorem dL_249 : decode code 249 = .ok (.iaload, 1) := by decide +kernel
theorem dL_250 : decode code 250 = .ok (.invokevirtual 35, 3) := by decide +kernel
theorem dL_253 : decode code 253 = .ok (.pop, 1) := by decide +kernel
theorem dL_254 : decode code 254 = .ok (.goto 516, 3) := by decide +kernel
theorem dL_257 : decode code 257 = .ok (.aload_n 1, 1) := by decide +kernel
theorem dL_258 : decode code 258 = .ok (.aload_n 0, 1) := by decide +kernel
theorem dL_259 : decode code 259 = .ok (.iload_n 3, 1) := by decide +kernel
theorem dL_260 : decode code 260 = .ok (.iconst 1, 1) := by decide +kernel
theorem dL_261 : decode code 261 = .ok (.iadd, 1) := by decide +kernel
theorem dL_262 : decode code 262 = .ok (.iaload, 1) := by decide +kernel
theorem dL_263 : decode code 263 = .ok (.aload_n 0, 1) := by decide +kernel
theorem dL_264 : decode code 264 = .ok (.iload_n 3, 1) := by decide +kernel
theorem dL_265 : decode code 265 = .ok (.iconst 2, 1) := by decide +kernel
theorem dL_266 : decode code 266 = .ok (.iadd, 1) := by decide +kernel
theorem dL_267 : decode code 267 = .ok (.iaload, 1) := by decide +kernel
theorem dL_268 : decode code 268 = .ok (.aload_n 0, 1) := by decide +kernel
theorem dL_269 : decode code 269 = .ok (.iload_n 3, 1) := by decide +kernel
theorem dL_270 : decode code 270 = .ok (.iconst 3, 1) := by decide +kernel
theorem dL_271 : decode code 271 = .ok (.iadd, 1) := by decide +kernel
theorem dL_272 : decode code 272 = .ok (.iaload, 1) := by decide +kernel
theorem dL_273 : decode code 273 = .ok (.invokevirtual 36, 3) := by decide +kernel
theorem dL_276 : decode code 276 = .ok (.pop, 1) := by decide +kernel
theorem dL_277 : decode code 277 = .ok (.aload_n 2, 1) := by decide +kernel
theorem dL_278 : decode code 278 = .ok (.aload_n 0, 1) := by decide +kernel
theorem dL_279 : decode code 279 = .ok (.iload_n 3, 1) := by decide +kernel
theorem dL_280 : decode code 280 = .ok (.iconst 1, 1) := by decide +kernel
theorem dL_281 : decode code 281 = .ok (.iadd, 1) := by decide +kernel
theorem dL_282 : decode code 282 = .ok (.iaload, 1) := by decide +kernel
theorem dL_283 : decode code 283 = .ok (.aload_n 0, 1) := by decide +kernel
theorem dL_284 : decode code 284 = .ok (.iload_n 3, 1) := by decide +kernel
theorem dL_285 : decode code 285 = .ok (.iconst 2, 1) := by decide +kernel
theorem dL_286 : decode code 286 = .ok (.iadd, 1) := by decide +kernel
theorem dL_287 : decode code 287 = .ok (.iaload, 1) := by decide +kernel
theorem dL_288 : decode code 288 = .ok (.aload_n 0, 1) := by decide +kernel
theorem dL_289 : decode code 289 = .ok (.iload_n 3, 1) := by decide +kernel
theorem dL_290 : decode code 290 = .ok (.iconst 3, 1) := by decide +kernel
theorem dL_291 : decode code 291 = .ok (.iadd, 1) := by decide +kernel
theorem dL_292 : decode code 292 = .ok (.iaload, 1) := by decide +kernel
theorem dL_293 : decode code 293 = .ok (.invokevirtual 40, 3) := by decide +kernel
theorem dL_296 : decode code 296 = .ok (.pop, 1) := by decide +kernel
theorem dL_297 : decode code 297 = .ok (.goto 473, 3) := by decide +kernel
theorem dL_300 : decode code 300 = .ok (.aload_n 1, 1) := by decide +kernel
theorem dL_301 : decode code 301 = .ok (.aload_n 0, 1) := by decide +kernel
theorem dL_302 : decode code 302 = .ok (.iload_n 3, 1) := by decide +kernel
theorem dL_303 : decode code 303 = .ok (.iconst 1, 1) := by decide +kernel
theorem dL_304 : decode code 304 = .ok (.iadd, 1) := by decide +kernel
theorem dL_305 : decode code 305 = .ok (.iaload, 1) := by decide +kernel
theorem dL_306 : decode code 306 = .ok (.invokevirtual 41, 3) := by decide +kernel
theorem dL_309 : decode code 309 = .ok (.pop, 1) := by decide +kernel
theorem dL_310 : decode code 310 = .ok (.aload_n 2, 1) := by decide +kernel
theorem dL_311 : decode code 311 = .ok (.aload_n 0, 1) := by decide +kernel
theorem dL_312 : decode code 312 = .ok (.iload_n 3, 1) := by decide +kernel
theorem dL_313 : decode code 313 = .ok (.iconst 1, 1) := by decide +kernel
theorem dL_314 : decode code 314 = .ok (.iadd, 1) := by decide +kernel
theorem dL_315 : decode code 315 = .ok (.iaload, 1) := by decide +kernel
theorem dL_316 : decode code 316 = .ok (.invokevirtual 44, 3) := by decide +kernel
theorem dL_319 : decode code 319 = .ok (.pop, 1) := by decide +kernel
theorem dL_320 : decode code 320 = .ok (.goto 450, 3) := by decide +kernel
theorem dL_323 : decode code 323 = .ok (.aload_n 1, 1) := by decide +kernel
theorem dL_324 : decode code 324 = .ok (.aload_n 0, 1) := by decide +kernel
theorem dL_325 : decode code 325 = .ok (.iload_n 3, 1) := by decide +kernel
theorem dL_326 : decode code 326 = .ok (.iconst 1, 1) := by decide +kernel
theorem dL_327 : decode code 327 = .ok (.iadd, 1) := by decide +kernel
theorem dL_328 : decode code 328 = .ok (.iaload, 1) := by decide +kernel
theorem dL_329 : decode code 329 = .ok (.invokevirtual 45, 3) := by decide +kernel
theorem dL_332 : decode code 332 = .ok (.pop, 1) := by decide +kernel
theorem dL_333 : decode code 333 = .ok (.aload_n 2, 1) := by decide +kernel
theorem dL_334 : decode code 334 = .ok (.aload_n 0, 1) := by decide +kernel
theorem dL_335 : decode code 335 = .ok (.iload_n 3, 1) := by decide +kernel
theorem dL_336 : decode code 336 = .ok (.iconst 1, 1) := by decide +kernel
theorem dL_337 : decode code 337 = .ok (.iadd, 1) := by decide +kernel
theorem dL_338 : decode code 338 = .ok (.iaload, 1) := by decide +kernel
theorem dL_339 : decode code 339 = .ok (.invokevirtual 48, 3) := by decide +kernel
theorem dL_342 : decode code 342 = .ok (.pop, 1) := by decide +kernel
theorem dL_343 : decode code 343 = .ok (.goto 427, 3) := by decide +kernel
theorem dL_346 : decode code 346 = .ok (.aload_n 1, 1) := by decide +kernel
theorem dL_347 : decode code 347 = .ok (.aload_n 0, 1) := by decide +kernel
theorem dL_348 : decode code 348 = .ok (.iload_n 3, 1) := by decide +kernel
theorem dL_349 : decode code 349 = .ok (.iconst 1, 1) := by decide +kernel
theorem dL_350 : decode code 350 = .ok (.iadd, 1) := by decide +kernel
theorem dL_351 : decode code 351 = .ok (.iaload, 1) := by decide +kernel
theorem dL_352 : decode code 352 = .ok (.invokevirtual 49, 3) := by decide +kernel
theorem dL_355 : decode code 355 = .ok (.pop, 1) := by decide +kernel
theorem dL_356 : decode code 356 = .ok (.aload_n 2, 1) := by decide +kernel
theorem dL_357 : decode code 357 = .ok (.aload_n 0, 1) := by decide +kernel
theorem dL_358 : decode code 358 = .ok (.iload_n 3, 1) := by decide +kernel
theorem dL_359 : decode code 359 = .ok (.iconst 1, 1) := by decide +kernel
theorem dL_360 : decode code 360 = .ok (.iadd, 1) := by decide +kernel
theorem dL_361 : decode code 361 = .ok (.iaload, 1) := by decide +kernel
theorem dL_362 : decode code 362 = .ok (.invokevirtual 52, 3) := by decide +kernel
theorem dL_365 : decode code 365 = .ok (.pop, 1) := by decide +kernel
theorem dL_366 : decode code 366 = .ok (.goto 404, 3) := by decide +kernel
theorem dL_369 : decode code 369 = .ok (.aload_n 1, 1) := by decide +kernel
theorem dL_370 : decode code 370 = .ok (.invokevirtual 53, 3) := by decide +kernel
theorem dL_373 : decode code 373 = .ok (.pop, 1) := by decide +kernel
theorem dL_374 : decode code 374 = .ok (.aload_n 2, 1) := by decide +kernel
theorem dL_375 : decode code 375 = .ok (.invokevirtual 56, 3) := by decide +kernel
theorem dL_378 : decode code 378 = .ok (.pop, 1) := by decide +kernel
theorem dL_379 : decode code 379 = .ok (.goto 391, 3) := by decide +kernel
theorem dL_382 : decode code 382 = .ok (.aload_n 1, 1) := by decide +kernel
theorem dL_383 : decode code 383 = .ok (.aload_n 0, 1) := by decide +kernel
theorem dL_384 : decode code 384 = .ok (.iload_n 3, 1) := by decide +kernel
theorem dL_385 : decode code 385 = .ok (.iconst 1, 1) := by decide +kernel
theorem dL_386 : decode code 386 = .ok (.iadd, 1) := by decide +kernel
theorem dL_387 : decode code 387 = .ok (.iaload, 1) := by decide +kernel
theorem dL_388 : decode code 388 = .ok (.invokevirtual 57, 3) := by decide +kernel
theorem dL_391 : decode code 391 = .ok (.pop, 1) := by decide +kernel
theorem dL_392 : decode code 392 = .ok (.aload_n 2, 1) := by decide +kernel
theorem dL_393 : decode code 393 = .ok (.aload_n 0, 1) := by decide +kernel
theorem dL_394 : decode code 394 = .ok (.iload_n 3, 1) := by decide +kernel
theorem dL_395 : decode code 395 = .ok (.iconst 1, 1) := by decide +kernel
theorem dL_396 : decode code 396 = .ok (.iadd, 1) := by decide +kernel
theorem dL_397 : decode code 397 = .ok (.iaload, 1) := by decide +kernel
theorem dL_398 : decode code 398 = .ok (.invokevirtual 60, 3) := by decide +kernel
theorem dL_401 : decode code 401 = .ok (.pop, 1) := by decide +kernel
theorem dL_402 : decode code 402 = .ok (.goto 368, 3) := by decide +kernel
theorem dL_405 : decode code 405 = .ok (.aload_n 1, 1) := by decide +kernel
theorem dL_406 : decode code 406 = .ok (.aload_n 0, 1) := by decide +kernel
theorem dL_407 : decode code 407 = .ok (.iload_n 3, 1) := by decide +kernel
theorem dL_408 : decode code 408 = .ok (.iconst 1, 1) := by decide +kernel
theorem dL_409 : decode code 409 = .ok (.iadd, 1) := by decide +kernel
theorem dL_410 : decode code 410 = .ok (.iaload, 1) := by decide +kernel
theorem dL_411 : decode code 411 = .ok (.aload_n 0, 1) := by decide +kernel
theorem dL_412 : decode code 412 = .ok (.iload_n 3, 1) := by decide +kernel
theorem dL_413 : decode code 413 = .ok (.iconst 2, 1) := by decide +kernel
theorem dL_414 : decode code 414 = .ok (.iadd, 1) := by decide +kernel
theorem dL_415 : decode code 415 = .ok (.iaload, 1) := by decide +kernel
theorem dL_416 : decode code 416 = .ok (.invokevirtual 61, 3) := by decide +kernel
theorem dL_419 : decode code 419 = .ok (.pop, 1) := by decide +kernel
theorem dL_420 : decode code 420 = .ok (.aload_n 2, 1) := by decide +kernel
theorem dL_421 : decode code 421 = .ok (.aload_n 0, 1) := by decide +kernel
theorem dL_422 : decode code 422 = .ok (.iload_n 3, 1) := by decide +kernel
theorem dL_423 : decode code 423 = .ok (.iconst 1, 1) := by decide +kernel
theorem dL_424 : decode code 424 = .ok (.iadd, 1) := by decide +kernel
theorem dL_425 : decode code 425 = .ok (.iaload, 1) := by decide +kernel
theorem dL_426 : decode code 426 = .ok (.aload_n 0, 1) := by decide +kernel
theorem dL_427 : decode code 427 = .ok (.iload_n 3, 1) := by decide +kernel
theorem dL_428 : decode code 428 = .ok (.iconst 2, 1) := by decide +kernel
theorem dL_429 : decode code 429 = .ok (.iadd, 1) := by decide +kernel
theorem dL_430 : decode code 430 = .ok (.iaload, 1) := by decide +kernel
theorem dL_431 : decode code 431 = .ok (.invokevirtual 64, 3) := by decide +kernel
theorem dL_434 : decode code 434 = .ok (.pop, 1) := by decide +kernel
theorem dL_435 : decode code 435 = .ok (.goto 335, 3) := by decide +kernel
theorem dL_438 : decode code 438 = .ok (.aload_n 1, 1) := by decide +kernel
theorem dL_439 : decode code 439 = .ok (.aload_n 0, 1) := by decide +kernel
theorem dL_440 : decode code 440 = .ok (.iload_n 3, 1) := by decide +kernel
theorem dL_441 : decode code 441 = .ok (.iconst 1, 1) := by decide +kernel
theorem dL_442 : decode code 442 = .ok (.iadd, 1) := by decide +kernel
theorem dL_443 : decode code 443 = .ok (.iaload, 1) := by decide +kernel
theorem dL_444 : decode code 444 = .ok (.aload_n 0, 1) := by decide +kernel
theorem dL_445 : decode code 445 = .ok (.iload_n 3, 1) := by decide +kernel
