theorem dX11_init_139 : decode cX11_init 139 = .ok (.bipush 21, 2) := by decide +kernel
theorem dX11_init_141 : decode cX11_init 141 = .ok (.bipush 32, 2) := by decide +kernel
theorem dX11_init_143 : decode cX11_init 143 = .ok (.iastore, 1) := by decide +kernel
theorem dX11_init_144 : decode cX11_init 144 = .ok (.dup, 1) := by decide +kernel
theorem dX11_init_145 : decode cX11_init 145 = .ok (.bipush 22, 2) := by decide +kernel
theorem dX11_init_147 : decode cX11_init 147 = .ok (.bipush 115, 2) := by decide +kernel
theorem dX11_init_149 : decode cX11_init 149 = .ok (.iastore, 1) := by decide +kernel
theorem dX11_init_150 : decode cX11_init 150 = .ok (.dup, 1) := by decide +kernel
theorem dX11_init_151 : decode cX11_init 151 = .ok (.bipush 23, 2) := by decide +kernel
theorem dX11_init_153 : decode cX11_init 153 = .ok (.bipush 101, 2) := by decide +kernel
theorem dX11_init_155 : decode cX11_init 155 = .ok (.iastore, 1) := by decide +kernel
theorem dX11_init_156 : decode cX11_init 156 = .ok (.dup, 1) := by decide +kernel
theorem dX11_init_157 : decode cX11_init 157 = .ok (.bipush 24, 2) := by decide +kernel
theorem dX11_init_159 : decode cX11_init 159 = .ok (.bipush 110, 2) := by decide +kernel
theorem dX11_init_161 : decode cX11_init 161 = .ok (.iastore, 1) := by decide +kernel
theorem dX11_init_162 : decode cX11_init 162 = .ok (.dup, 1) := by decide +kernel
theorem dX11_init_163 : decode cX11_init 163 = .ok (.bipush 25, 2) := by decide +kernel
theorem dX11_init_165 : decode cX11_init 165 = .ok (.bipush 100, 2) := by decide +kernel
theorem dX11_init_167 : decode cX11_init 167 = .ok (.iastore, 1) := by decide +kernel
theorem dX11_init_168 : decode cX11_init 168 = .ok (.dup, 1) := by decide +kernel
theorem dX11_init_169 : decode cX11_init 169 = .ok (.bipush 26, 2) := by decide +kernel
theorem dX11_init_171 : decode cX11_init 171 = .ok (.bipush 32, 2) := by decide +kernel
theorem dX11_init_173 : decode cX11_init 173 = .ok (.iastore, 1) := by decide +kernel
theorem dX11_init_174 : decode cX11_init 174 = .ok (.dup, 1) := by decide +kernel
theorem dX11_init_175 : decode cX11_init 175 = .ok (.bipush 27, 2) := by decide +kernel
theorem dX11_init_177 : decode cX11_init 177 = .ok (.bipush 112, 2) := by decide +kernel
theorem dX11_init_179 : decode cX11_init 179 = .ok (.iastore, 1) := by decide +kernel
theorem dX11_init_180 : decode cX11_init 180 = .ok (.dup, 1) := by decide +kernel
theorem dX11_init_181 : decode cX11_init 181 = .ok (.bipush 28, 2) := by decide +kernel
theorem dX11_init_183 : decode cX11_init 183 = .ok (.bipush 108, 2) := by decide +kernel
theorem dX11_init_185 : decode cX11_init 185 = .ok (.iastore, 1) := by decide +kernel
theorem dX11_init_186 : decode cX11_init 186 = .ok (.dup, 1) := by decide +kernel
theorem dX11_init_187 : decode cX11_init 187 = .ok (.bipush 29, 2) := by decide +kernel
theorem dX11_init_189 : decode cX11_init 189 = .ok (.bipush 97, 2) := by decide +kernel
theorem dX11_init_191 : decode cX11_init 191 = .ok (.iastore, 1) := by decide +kernel
theorem dX11_init_192 : decode cX11_init 192 = .ok (.dup, 1) := by decide +kernel
theorem dX11_init_193 : decode cX11_init 193 = .ok (.bipush 30, 2) := by decide +kernel
theorem dX11_init_195 : decode cX11_init 195 = .ok (.bipush 99, 2) := by decide +kernel
theorem dX11_init_197 : decode cX11_init 197 = .ok (.iastore, 1) := by decide +kernel
theorem dX11_init_198 : decode cX11_init 198 = .ok (.dup, 1) := by decide +kernel
theorem dX11_init_199 : decode cX11_init 199 = .ok (.bipush 31, 2) := by decide +kernel
theorem dX11_init_201 : decode cX11_init 201 = .ok (.bipush 101, 2) := by decide +kernel
theorem dX11_init_203 : decode cX11_init 203 = .ok (.iastore, 1) := by decide +kernel
theorem dX11_init_204 : decode cX11_init 204 = .ok (.dup, 1) := by decide +kernel
theorem dX11_init_205 : decode cX11_init 205 = .ok (.bipush 32, 2) := by decide +kernel
theorem dX11_init_207 : decode cX11_init 207 = .ok (.bipush 32, 2) := by decide +kernel
theorem dX11_init_209 : decode cX11_init 209 = .ok (.iastore, 1) := by decide +kernel
theorem dX11_init_210 : decode cX11_init 210 = .ok (.dup, 1) := by decide +kernel
theorem dX11_init_211 : decode cX11_init 211 = .ok (.bipush 33, 2) := by decide +kernel
theorem dX11_init_213 : decode cX11_init 213 = .ok (.bipush 104, 2) := by decide +kernel
theorem dX11_init_215 : decode cX11_init 215 = .ok (.iastore, 1) := by decide +kernel
theorem dX11_init_216 : decode cX11_init 216 = .ok (.dup, 1) := by decide +kernel
theorem dX11_init_217 : decode cX11_init 217 = .ok (.bipush 34, 2) := by decide +kernel
theorem dX11_init_219 : decode cX11_init 219 = .ok (.bipush 111, 2) := by decide +kernel
theorem dX11_init_221 : decode cX11_init 221 = .ok (.iastore, 1) := by decide +kernel
theorem dX11_init_222 : decode cX11_init 222 = .ok (.dup, 1) := by decide +kernel
theorem dX11_init_223 : decode cX11_init 223 = .ok (.bipush 35, 2) := by decide +kernel
theorem dX11_init_225 : decode cX11_init 225 = .ok (.bipush 109, 2) := by decide +kernel
theorem dX11_init_227 : decode cX11_init 227 = .ok (.iastore, 1) := by decide +kernel
theorem dX11_init_228 : decode cX11_init 228 = .ok (.dup, 1) := by decide +kernel
theorem dX11_init_229 : decode cX11_init 229 = .ok (.bipush 36, 2) := by decide +kernel
theorem dX11_init_231 : decode cX11_init 231 = .ok (.bipush 101, 2) := by decide +kernel
theorem dX11_init_233 : decode cX11_init 233 = .ok (.iastore, 1) := by decide +kernel
theorem dX11_init_234 : decode cX11_init 234 = .ok (.dup, 1) := by decide +kernel
theorem dX11_init_235 : decode cX11_init 235 = .ok (.bipush 37, 2) := by decide +kernel
theorem dX11_init_237 : decode cX11_init 237 = .ok (.bipush 32, 2) := by decide +kernel
theorem dX11_init_239 : decode cX11_init 239 = .ok (.iastore, 1) := by decide +kernel
theorem dX11_init_240 : decode cX11_init 240 = .ok (.dup, 1) := by decide +kernel
theorem dX11_init_241 : decode cX11_init 241 = .ok (.bipush 38, 2) := by decide +kernel
theorem dX11_init_243 : decode cX11_init 243 = .ok (.bipush 102, 2) := by decide +kernel
theorem dX11_init_245 : decode cX11_init 245 = .ok (.iastore, 1) := by decide +kernel
theorem dX11_init_246 : decode cX11_init 246 = .ok (.dup, 1) := by decide +kernel
theorem dX11_init_247 : decode cX11_init 247 = .ok (.bipush 39, 2) := by decide +kernel
theorem dX11_init_249 : decode cX11_init 249 = .ok (.bipush 105, 2) := by decide +kernel
theorem dX11_init_251 : decode cX11_init 251 = .ok (.iastore, 1) := by decide +kernel
theorem dX11_init_252 : decode cX11_init 252 = .ok (.dup, 1) := by decide +kernel
theorem dX11_init_253 : decode cX11_init 253 = .ok (.bipush 40, 2) := by decide +kernel
theorem dX11_init_255 : decode cX11_init 255 = .ok (.bipush 114, 2) := by decide +kernel
theorem dX11_init_257 : decode cX11_init 257 = .ok (.iastore, 1) := by decide +kernel
theorem dX11_init_258 : decode cX11_init 258 = .ok (.dup, 1) := by decide +kernel
theorem dX11_init_259 : decode cX11_init 259 = .ok (.bipush 41, 2) := by decide +kernel
theorem dX11_init_261 : decode cX11_init 261 = .ok (.bipush 115, 2) := by decide +kernel
theorem dX11_init_263 : decode cX11_init 263 = .ok (.iastore, 1) := by decide +kernel
theorem dX11_init_264 : decode cX11_init 264 = .ok (.dup, 1) := by decide +kernel
theorem dX11_init_265 : decode cX11_init 265 = .ok (.bipush 42, 2) := by decide +kernel
theorem dX11_init_267 : decode cX11_init 267 = .ok (.bipush 116, 2) := by decide +kernel
theorem dX11_init_269 : decode cX11_init 269 = .ok (.iastore, 1) := by decide +kernel
theorem dX11_init_270 : decode cX11_init 270 = .ok (.dup, 1) := by decide +kernel
theorem dX11_init_271 : decode cX11_init 271 = .ok (.bipush 43, 2) := by decide +kernel
theorem dX11_init_273 : decode cX11_init 273 = .ok (.bipush 32, 2) := by decide +kernel
theorem dX11_init_275 : decode cX11_init 275 = .ok (.iastore, 1) := by decide +kernel
theorem dX11_init_276 : decode cX11_init 276 = .ok (.dup, 1) := by decide +kernel
theorem dX11_init_277 : decode cX11_init 277 = .ok (.bipush 44, 2) := by decide +kernel
theorem dX11_init_279 : decode cX11_init 279 = .ok (.bipush 115, 2) := by decide +kernel
theorem dX11_init_281 : decode cX11_init 281 = .ok (.iastore, 1) := by decide +kernel
theorem dX11_init_282 : decode cX11_init 282 = .ok (.dup, 1) := by decide +kernel
theorem dX11_init_283 : decode cX11_init 283 = .ok (.bipush 45, 2) := by decide +kernel
theorem dX11_init_285 : decode cX11_init 285 = .ok (.bipush 101, 2) := by decide +kernel
theorem dX11_init_287 : decode cX11_init 287 = .ok (.iastore, 1) := by decide +kernel
theorem dX11_init_288 : decode cX11_init 288 = .ok (.dup, 1) := by decide +kernel
theorem dX11_init_289 : decode cX11_init 289 = .ok (.bipush 46, 2) := by decide +kernel
theorem dX11_init_291 : decode cX11_init 291 = .ok (.bipush 99, 2) := by decide +kernel
theorem dX11_init_293 : decode cX11_init 293 = .ok (.iastore, 1) := by decide +kernel
theorem dX11_init_294 : decode cX11_init 294 = .ok (.dup, 1) := by decide +kernel
theorem dX11_init_295 : decode cX11_init 295 = .ok (.bipush 47, 2) := by decide +kernel
theorem dX11_init_297 : decode cX11_init 297 = .ok (.bipush 111, 2) := by decide +kernel
theorem dX11_init_299 : decode cX11_init 299 = .ok (.iastore, 1) := by decide +kernel
theorem dX11_init_300 : decode cX11_init 300 = .ok (.dup, 1) := by decide +kernel
theorem dX11_init_301 : decode cX11_init 301 = .ok (.bipush 48, 2) := by decide +kernel
theorem dX11_init_303 : decode cX11_init 303 = .ok (.bipush 110, 2) := by decide +kernel
theorem dX11_init_305 : decode cX11_init 305 = .ok (.iastore, 1) := by decide +kernel
theorem dX11_init_306 : decode cX11_init 306 = .ok (.dup, 1) := by decide +kernel
theorem dX11_init_307 : decode cX11_init 307 = .ok (.bipush 49, 2) := by decide +kernel
theorem dX11_init_309 : decode cX11_init 309 = .ok (.bipush 100, 2) := by decide +kernel
theorem dX11_init_311 : decode cX11_init 311 = .ok (.iastore, 1) := by decide +kernel
theorem dX11_init_312 : decode cX11_init 312 = .ok (.dup, 1) := by decide +kernel
theorem dX11_init_313 : decode cX11_init 313 = .ok (.bipush 50, 2) := by decide +kernel
theorem dX11_init_315 : decode cX11_init 315 = .ok (.bipush 32, 2) := by decide +kernel
theorem dX11_init_317 : decode cX11_init 317 = .ok (.iastore, 1) := by decide +kernel
theorem dX11_init_318 : decode cX11_init 318 = .ok (.dup, 1) := by decide +kernel
theorem dX11_init_319 : decode cX11_init 319 = .ok (.bipush 51, 2) := by decide +kernel
theorem dX11_init_321 : decode cX11_init 321 = .ok (.bipush 110, 2) := by decide +kernel
theorem dX11_init_323 : decode cX11_init 323 = .ok (.iastore, 1) := by decide +kernel
theorem dX11_init_324 : decode cX11_init 324 = .ok (.dup, 1) := by decide +kernel
theorem dX11_init_325 : decode cX11_init 325 = .ok (.bipush 52, 2) := by decide +kernel
theorem dX11_init_327 : decode cX11_init 327 = .ok (.bipush 111, 2) := by decide +kernel
theorem dX11_init_329 : decode cX11_init 329 = .ok (.iastore, 1) := by decide +kernel
theorem dX11_init_330 : decode cX11_init 330 = .ok (.dup, 1) := by decide +kernel
theorem dX11_init_331 : decode cX11_init 331 = .ok (.bipush 53, 2) := by decide +kernel
theorem dX11_init_333 : decode cX11_init 333 = .ok (.bipush 105, 2) := by decide +kernel
theorem dX11_init_335 : decode cX11_init 335 = .ok (.iastore, 1) := by decide +kernel
theorem dX11_init_336 : decode cX11_init 336 = .ok (.dup, 1) := by decide +kernel
theorem dX11_init_337 : decode cX11_init 337 = .ok (.bipush 54, 2) := by decide +kernel
theorem dX11_init_339 : decode cX11_init 339 = .ok (.bipush 115, 2) := by decide +kernel
theorem dX11_init_341 : decode cX11_init 341 = .ok (.iastore, 1) := by decide +kernel
theorem dX11_init_342 : decode cX11_init 342 = .ok (.dup, 1) := by decide +kernel
theorem dX11_init_343 : decode cX11_init 343 = .ok (.bipush 55, 2) := by decide +kernel
theorem dX11_init_345 : decode cX11_init 345 = .ok (.bipush 101, 2) := by decide +kernel
theorem dX11_init_347 : decode cX11_init 347 = .ok (.iastore, 1) := by decide +kernel
theorem dX11_init_348 : decode cX11_init 348 = .ok (.dup, 1) := by decide +kernel
theorem dX11_init_349 : decode cX11_init 349 = .ok (.bipush 56, 2) := by decide +kernel
theorem dX11_init_351 : decode cX11_init 351 = .ok (.bipush 32, 2) := by decide +kernel
theorem dX11_init_353 : decode cX11_init 353 = .ok (.iastore, 1) := by decide +kernel
theorem dX11_init_354 : decode cX11_init 354 = .ok (.dup, 1) := by decide +kernel
theorem dX11_init_355 : decode cX11_init 355 = .ok (.bipush 57, 2) := by decide +kernel
theorem dX11_init_357 : decode cX11_init 357 = .ok (.bipush 115, 2) := by decide +kernel
theorem dX11_init_359 : decode cX11_init 359 = .ok (.iastore, 1) := by decide +kernel
theorem dX11_init_360 : decode cX11_init 360 = .ok (.dup, 1) := by decide +kernel
theorem dX11_init_361 : decode cX11_init 361 = .ok (.bipush 58, 2) := by decide +kernel
theorem dX11_init_363 : decode cX11_init 363 = .ok (.bipush 101, 2) := by decide +kernel
theorem dX11_init_365 : decode cX11_init 365 = .ok (.iastore, 1) := by decide +kernel
theorem dX11_init_366 : decode cX11_init 366 = .ok (.dup, 1) := by decide +kernel
theorem dX11_init_367 : decode cX11_init 367 = .ok (.bipush 59, 2) := by decide +kernel
theorem dX11_init_369 : decode cX11_init 369 = .ok (.bipush 101, 2) := by decide +kernel
theorem dX11_init_371 : decode cX11_init 371 = .ok (.iastore, 1) := by decide +kernel
theorem dX11_init_372 : decode cX11_init 372 = .ok (.dup, 1) := by decide +kernel
theorem dX11_init_373 : decode cX11_init 373 = .ok (.bipush 60, 2) := by decide +kernel
theorem dX11_init_375 : decode cX11_init 375 = .ok (.bipush 100, 2) := by decide +kernel
theorem dX11_init_377 : decode cX11_init 377 = .ok (.iastore, 1) := by decide +kernel
theorem dX11_init_378 : decode cX11_init 378 = .ok (.dup, 1) := by decide +kernel
theorem dX11_init_379 : decode cX11_init 379 = .ok (.bipush 61, 2) := by decide +kernel
theorem dX11_init_381 : decode cX11_init 381 = .ok (.bipush 32, 2) := by decide +kernel
theorem dX11_init_383 : decode cX11_init 383 = .ok (.iastore, 1) := by decide +kernel
theorem dX11_init_384 : decode cX11_init 384 = .ok (.dup, 1) := by decide +kernel
theorem dX11_init_385 : decode cX11_init 385 = .ok (.bipush 62, 2) := by decide +kernel
theorem dX11_init_387 : decode cX11_init 387 = .ok (.bipush 114, 2) := by decide +kernel
theorem dX11_init_389 : decode cX11_init 389 = .ok (.iastore, 1) := by decide +kernel
theorem dX11_init_390 : decode cX11_init 390 = .ok (.dup, 1) := by decide +kernel
theorem dX11_init_391 : decode cX11_init 391 = .ok (.bipush 63, 2) := by decide +kernel
theorem dX11_init_393 : decode cX11_init 393 = .ok (.bipush 97, 2) := by decide +kernel
theorem dX11_init_395 : decode cX11_init 395 = .ok (.iastore, 1) := by decide +kernel
theorem dX11_init_396 : decode cX11_init 396 = .ok (.dup, 1) := by decide +kernel
theorem dX11_init_397 : decode cX11_init 397 = .ok (.bipush 64, 2) := by decide +kernel
theorem dX11_init_399 : decode cX11_init 399 = .ok (.bipush 116, 2) := by decide +kernel
theorem dX11_init_401 : decode cX11_init 401 = .ok (.iastore, 1) := by decide +kernel
theorem dX11_init_402 : decode cX11_init 402 = .ok (.dup, 1) := by decide +kernel
theorem dX11_init_403 : decode cX11_init 403 = .ok (.bipush 65, 2) := by decide +kernel
theorem dX11_init_405 : decode cX11_init 405 = .ok (.bipush 105, 2) := by decide +kernel
theorem dX11_init_407 : decode cX11_init 407 = .ok (.iastore, 1) := by decide +kernel
theorem dX11_init_408 : decode cX11_init 408 = .ok (.dup, 1) := by decide +kernel
theorem dX11_init_409 : decode cX11_init 409 = .ok (.bipush 66, 2) := by decide +kernel
theorem dX11_init_411 : decode cX11_init 411 = .ok (.bipush 111, 2) := by decide +kernel
theorem dX11_init_413 : decode cX11_init 413 = .ok (.iastore, 1) := by decide +kernel
theorem dX11_init_414 : decode cX11_init 414 = .ok (.dup, 1) := by decide +kernel
theorem dX11_init_415 : decode cX11_init 415 = .ok (.bipush 67, 2) := by decide +kernel
theorem dX11_init_417 : decode cX11_init 417 = .ok (.bipush 32, 2) := by decide +kernel
theorem dX11_init_419 : decode cX11_init 419 = .ok (.iastore, 1) := by decide +kernel
theorem dX11_init_420 : decode cX11_init 420 = .ok (.putfield 13, 3) := by decide +kernel
theorem dX11_init_423 : decode cX11_init 423 = .ok (.aload_n 0, 1) := by decide +kernel
theorem dX11_init_424 : decode cX11_init 424 = .ok (.iconst (-1), 1) := by decide +kernel
theorem dX11_init_425 : decode cX11_init 425 = .ok (.putfield 16, 3) := by decide +kernel
theorem dX11_init_428 : decode cX11_init 428 = .ok (.aload_n 0, 1) := by decide +kernel
theorem dX11_init_429 : decode cX11_init 429 = .ok (.sipush 140, 3) := by decide +kernel
theorem dX11_init_432 : decode cX11_init 432 = .ok (.newarray .int, 2) := by decide +kernel
theorem dX11_init_434 : decode cX11_init 434 = .ok (.putfield 20, 3) := by decide +kernel
theorem dX11_init_437 : decode cX11_init 437 = .ok (.aload_n 0, 1) := by decide +kernel
theorem dX11_init_438 : decode cX11_init 438 = .ok (.bipush 60, 2) := by decide +kernel
theorem dX11_init_440 : decode cX11_init 440 = .ok (.newarray .int, 2) := by decide +kernel
theorem dX11_init_442 : decode cX11_init 442 = .ok (.putfield 23, 3) := by decide +kernel
theorem dX11_init_445 : decode cX11_init 445 = .ok (.aload_n 0, 1) := by decide +kernel
theorem dX11_init_446 : decode cX11_init 446 = .ok (.bipush 34, 2) := by decide +kernel
theorem dX11_init_448 : decode cX11_init 448 = .ok (.newarray .int, 2) := by decide +kernel
theorem dX11_init_450 : decode cX11_init 450 = .ok (.putfield 26, 3) := by decide +kernel
theorem dX11_init_453 : decode cX11_init 453 = .ok (.aload_n 0, 1) := by decide +kernel
theorem dX11_init_454 : decode cX11_init 454 = .ok (.bipush 12, 2) := by decide +kernel
theorem dX11_init_456 : decode cX11_init 456 = .ok (.newarray .boolean, 2) := by decide +kernel
theorem dX11_init_458 : decode cX11_init 458 = .ok (.putfield 29, 3) := by decide +kernel
theorem dX11_init_461 : decode cX11_init 461 = .ok (.aload_n 0, 1) := by decide +kernel
theorem dX11_init_462 : decode cX11_init 462 = .ok (.bipush 62, 2) := by decide +kernel
theorem dX11_init_464 : decode cX11_init 464 = .ok (.newarray .int, 2) := by decide +kernel
theorem dX11_init_466 : decode cX11_init 466 = .ok (.putfield 33, 3) := by decide +kernel
theorem dX11_init_469 : decode cX11_init 469 = .ok (.aload_n 0, 1) := by decide +kernel
theorem dX11_init_470 : decode cX11_init 470 = .ok (.bipush 16, 2) := by decide +kernel
theorem dX11_init_472 : decode cX11_init 472 = .ok (.newarray .int, 2) := by decide +kernel
theorem dX11_init_474 : decode cX11_init 474 = .ok (.dup, 1) := by decide +kernel
theorem dX11_init_475 : decode cX11_init 475 = .ok (.iconst 0, 1) := by decide +kernel
theorem dX11_init_476 : decode cX11_init 476 = .ok (.bipush 10, 2) := by decide +kernel
theorem dX11_init_478 : decode cX11_init 478 = .ok (.iastore, 1) := by decide +kernel
theorem dX11_init_479 : decode cX11_init 479 = .ok (.dup, 1) := by decide +kernel
theorem dX11_init_480 : decode cX11_init 480 = .ok (.iconst 1, 1) := by decide +kernel
theorem dX11_init_481 : decode cX11_init 481 = .ok (.bipush 9, 2) := by decide +kernel
theorem dX11_init_483 : decode cX11_init 483 = .ok (.iastore, 1) := by decide +kernel
theorem dX11_init_484 : decode cX11_init 484 = .ok (.dup, 1) := by decide +kernel
theorem dX11_init_485 : decode cX11_init 485 = .ok (.iconst 2, 1) := by decide +kernel
theorem dX11_init_486 : decode cX11_init 486 = .ok (.bipush 7, 2) := by decide +kernel
theorem dX11_init_488 : decode cX11_init 488 = .ok (.iastore, 1) := by decide +kernel
theorem dX11_init_489 : decode cX11_init 489 = .ok (.dup, 1) := by decide +kernel
theorem dX11_init_490 : decode cX11_init 490 = .ok (.iconst 3, 1) := by decide +kernel
theorem dX11_init_491 : decode cX11_init 491 = .ok (.iconst 4, 1) := by decide +kernel
theorem dX11_init_492 : decode cX11_init 492 = .ok (.iastore, 1) := by decide +kernel
theorem dX11_init_493 : decode cX11_init 493 = .ok (.dup, 1) := by decide +kernel
theorem dX11_init_494 : decode cX11_init 494 = .ok (.iconst 4, 1) := by decide +kernel
theorem dX11_init_495 : decode cX11_init 495 = .ok (.iconst 0, 1) := by decide +kernel
theorem dX11_init_496 : decode cX11_init 496 = .ok (.iastore, 1) := by decide +kernel
theorem dX11_init_497 : decode cX11_init 497 = .ok (.dup, 1) := by decide +kernel
theorem dX11_init_498 : decode cX11_init 498 = .ok (.iconst 5, 1) := by decide +kernel
theorem dX11_init_499 : decode cX11_init 499 = .ok (.bipush (-4), 2) := by decide +kernel
theorem dX11_init_501 : decode cX11_init 501 = .ok (.iastore, 1) := by decide +kernel
theorem dX11_init_502 : decode cX11_init 502 = .ok (.dup, 1) := by decide +kernel
theorem dX11_init_503 : decode cX11_init 503 = .ok (.bipush 6, 2) := by decide +kernel
theorem dX11_init_505 : decode cX11_init 505 = .ok (.bipush (-7), 2) := by decide +kernel
theorem dX11_init_507 : decode cX11_init 507 = .ok (.iastore, 1) := by decide +kernel
theorem dX11_init_508 : decode cX11_init 508 = .ok (.dup, 1) := by decide +kernel
theorem dX11_init_509 : decode cX11_init 509 = .ok (.bipush 7, 2) := by decide +kernel
theorem dX11_init_511 : decode cX11_init 511 = .ok (.bipush (-9), 2) := by decide +kernel
theorem dX11_init_513 : decode cX11_init 513 = .ok (.iastore, 1) := by decide +kernel
theorem dX11_init_514 : decode cX11_init 514 = .ok (.dup, 1) := by decide +kernel
theorem dX11_init_515 : decode cX11_init 515 = .ok (.bipush 8, 2) := by decide +kernel
theorem dX11_init_517 : decode cX11_init 517 = .ok (.bipush (-10), 2) := by decide +kernel
theorem dX11_init_519 : decode cX11_init 519 = .ok (.iastore, 1) := by decide +kernel
theorem dX11_init_520 : decode cX11_init 520 = .ok (.dup, 1) := by decide +kernel
theorem dX11_init_521 : decode cX11_init 521 = .ok (.bipush 9, 2) := by decide +kernel
theorem dX11_init_523 : decode cX11_init 523 = .ok (.bipush (-9), 2) := by decide +kernel
theorem dX11_init_525 : decode cX11_init 525 = .ok (.iastore, 1) := by decide +kernel
theorem dX11_init_526 : decode cX11_init 526 = .ok (.dup, 1) := by decide +kernel
theorem dX11_init_527 : decode cX11_init 527 = .ok (.bipush 10, 2) := by decide +kernel
theorem dX11_init_529 : decode cX11_init 529 = .ok (.bipush (-7), 2) := by decide +kernel
theorem dX11_init_531 : decode cX11_init 531 = .ok (.iastore, 1) := by decide +kernel
theorem dX11_init_532 : decode cX11_init 532 = .ok (.dup, 1) := by decide +kernel
theorem dX11_init_533 : decode cX11_init 533 = .ok (.bipush 11, 2) := by decide +kernel
theorem dX11_init_535 : decode cX11_init 535 = .ok (.bipush (-4), 2) := by decide +kernel
theorem dX11_init_537 : decode cX11_init 537 = .ok (.iastore, 1) := by decide +kernel
theorem dX11_init_538 : decode cX11_init 538 = .ok (.dup, 1) := by decide +kernel
theorem dX11_init_539 : decode cX11_init 539 = .ok (.bipush 12, 2) := by decide +kernel
theorem dX11_init_541 : decode cX11_init 541 = .ok (.iconst 0, 1) := by decide +kernel
theorem dX11_init_542 : decode cX11_init 542 = .ok (.iastore, 1) := by decide +kernel
theorem dX11_init_543 : decode cX11_init 543 = .ok (.dup, 1) := by decide +kernel
theorem dX11_init_544 : decode cX11_init 544 = .ok (.bipush 13, 2) := by decide +kernel
theorem dX11_init_546 : decode cX11_init 546 = .ok (.iconst 4, 1) := by decide +kernel
theorem dX11_init_547 : decode cX11_init 547 = .ok (.iastore, 1) := by decide +kernel
theorem dX11_init_548 : decode cX11_init 548 = .ok (.dup, 1) := by decide +kernel
theorem dX11_init_549 : decode cX11_init 549 = .ok (.bipush 14, 2) := by decide +kernel
theorem dX11_init_551 : decode cX11_init 551 = .ok (.bipush 7, 2) := by decide +kernel
theorem dX11_init_553 : decode cX11_init 553 = .ok (.iastore, 1) := by decide +kernel
theorem dX11_init_554 : decode cX11_init 554 = .ok (.dup, 1) := by decide +kernel
theorem dX11_init_555 : decode cX11_init 555 = .ok (.bipush 15, 2) := by decide +kernel
theorem dX11_init_557 : decode cX11_init 557 = .ok (.bipush 9, 2) := by decide +kernel
theorem dX11_init_559 : decode cX11_init 559 = .ok (.iastore, 1) := by decide +kernel
theorem dX11_init_560 : decode cX11_init 560 = .ok (.putfield 36, 3) := by decide +kernel
theorem dX11_init_563 : decode cX11_init 563 = .ok (.aload_n 0, 1) := by decide +kernel
theorem dX11_init_564 : decode cX11_init 564 = .ok (.bipush 62, 2) := by decide +kernel
theorem dX11_init_566 : decode cX11_init 566 = .ok (.newarray .int, 2) := by decide +kernel
theorem dX11_init_568 : decode cX11_init 568 = .ok (.putfield 39, 3) := by decide +kernel
theorem dX11_init_571 : decode cX11_init 571 = .ok (.aload_n 0, 1) := by decide +kernel
theorem dX11_init_572 : decode cX11_init 572 = .ok (.bipush 62, 2) := by decide +kernel
theorem dX11_init_574 : decode cX11_init 574 = .ok (.newarray .int, 2) := by decide +kernel
theorem dX11_init_576 : decode cX11_init 576 = .ok (.putfield 42, 3) := by decide +kernel
theorem dX11_init_579 : decode cX11_init 579 = .ok (.aload_n 0, 1) := by decide +kernel
theorem dX11_init_580 : decode cX11_init 580 = .ok (.bipush 62, 2) := by decide +kernel
theorem dX11_init_582 : decode cX11_init 582 = .ok (.newarray .int, 2) := by decide +kernel
theorem dX11_init_584 : decode cX11_init 584 = .ok (.putfield 45, 3) := by decide +kernel
theorem dX11_init_587 : decode cX11_init 587 = .ok (.aload_n 0, 1) := by decide +kernel
theorem dX11_init_588 : decode cX11_init 588 = .ok (.bipush 62, 2) := by decide +kernel
theorem dX11_init_590 : decode cX11_init 590 = .ok (.newarray .int, 2) := by decide +kernel
theorem dX11_init_592 : decode cX11_init 592 = .ok (.putfield 48, 3) := by decide +kernel
theorem dX11_init_595 : decode cX11_init 595 = .ok (.aload_n 0, 1) := by decide +kernel
theorem dX11_init_596 : decode cX11_init 596 = .ok (.sipush 930, 3) := by decide +kernel
theorem dX11_init_599 : decode cX11_init 599 = .ok (.newarray .long, 2) := by decide +kernel
theorem dX11_init_601 : decode cX11_init 601 = .ok (.putfield 51, 3) := by decide +kernel
theorem dX11_init_604 : decode cX11_init 604 = .ok (.aload_n 0, 1) := by decide +kernel
theorem dX11_init_605 : decode cX11_init 605 = .ok (.sipush 3874, 3) := by decide +kernel
theorem dX11_init_608 : decode cX11_init 608 = .ok (.newarray .int, 2) := by decide +kernel
theorem dX11_init_610 : decode cX11_init 610 = .ok (.putfield 55, 3) := by decide +kernel
theorem dX11_init_613 : decode cX11_init 613 = .ok (.aload_n 0, 1) := by decide +kernel
theorem dX11_init_614 : decode cX11_init 614 = .ok (.bipush 64, 2) := by decide +kernel
theorem dX11_init_616 : decode cX11_init 616 = .ok (.newarray .int, 2) := by decide +kernel
theorem dX11_init_618 : decode cX11_init 618 = .ok (.putfield 58, 3) := by decide +kernel
theorem dX11_init_621 : decode cX11_init 621 = .ok (.aload_n 0, 1) := by decide +kernel
theorem dX11_init_622 : decode cX11_init 622 = .ok (.bipush 64, 2) := by decide +kernel
theorem dX11_init_624 : decode cX11_init 624 = .ok (.newarray .int, 2) := by decide +kernel
theorem dX11_init_626 : decode cX11_init 626 = .ok (.putfield 61, 3) := by decide +kernel
theorem dX11_init_629 : decode cX11_init 629 = .ok (.aload_n 0, 1) := by decide +kernel
theorem dX11_init_630 : decode cX11_init 630 = .ok (.bipush 64, 2) := by decide +kernel
theorem dX11_init_632 : decode cX11_init 632 = .ok (.newarray .boolean, 2) := by decide +kernel
theorem dX11_init_634 : decode cX11_init 634 = .ok (.putfield 64, 3) := by decide +kernel
theorem dX11_init_637 : decode cX11_init 637 = .ok (.aload_n 0, 1) := by decide +kernel
theorem dX11_init_638 : decode cX11_init 638 = .ok (.iconst 5, 1) := by decide +kernel
theorem dX11_init_639 : decode cX11_init 639 = .ok (.newarray .int, 2) := by decide +kernel
theorem dX11_init_641 : decode cX11_init 641 = .ok (.putfield 67, 3) := by decide +kernel
theorem dX11_init_644 : decode cX11_init 644 = .ok (.aload_n 0, 1) := by decide +kernel
theorem dX11_init_645 : decode cX11_init 645 = .ok (.invokevirtual 70, 3) := by decide +kernel
theorem dX11_init_648 : decode cX11_init 648 = .ok (.aload_n 0, 1) := by decide +kernel
theorem dX11_init_649 : decode cX11_init 649 = .ok (.invokevirtual 73, 3) := by decide +kernel
theorem dX11_init_652 : decode cX11_init 652 = .ok (.return_, 1) := by decide +kernel
theorem dX11_thrown_0 : decode cX11_thrown 0 = .ok (.aload_n 0, 1) := by decide +kernel
theorem dX11_thrown_1 : decode cX11_thrown 1 = .ok (.getfield 76, 3) := by decide +kernel
theorem dX11_thrown_4 : decode cX11_thrown 4 = .ok (.ireturn, 1) := by decide +kernel
theorem dX11_feed_0 : decode cX11_feed 0 = .ok (.aload_n 0, 1) := by decide +kernel
theorem dX11_feed_1 : decode cX11_feed 1 = .ok (.iconst 0, 1) := by decide +kernel
theorem dX11_feed_2 : decode cX11_feed 2 = .ok (.putfield 76, 3) := by decide +kernel
theorem dX11_feed_5 : decode cX11_feed 5 = .ok (.aload_n 0, 1) := by decide +kernel
theorem dX11_feed_6 : decode cX11_feed 6 = .ok (.getfield 79, 3) := by decide +kernel
theorem dX11_feed_9 : decode cX11_feed 9 = .ok (.bipush 20, 2) := by decide +kernel
theorem dX11_feed_11 : decode cX11_feed 11 = .ok (.iadd, 1) := by decide +kernel
theorem dX11_feed_12 : decode cX11_feed 12 = .ok (.sipush 700, 3) := by decide +kernel
theorem dX11_feed_15 : decode cX11_feed 15 = .ok (.if_icmp .le 5, 3) := by decide +kernel
theorem dX11_feed_18 : decode cX11_feed 18 = .ok (.iconst (-1), 1) := by decide +kernel
theorem dX11_feed_19 : decode cX11_feed 19 = .ok (.ireturn, 1) := by decide +kernel
theorem dX11_feed_20 : decode cX11_feed 20 = .ok (.iconst 0, 1) := by decide +kernel
theorem dX11_feed_21 : decode cX11_feed 21 = .ok (.istore 6, 2) := by decide +kernel
theorem dX11_feed_23 : decode cX11_feed 23 = .ok (.iload 6, 2) := by decide +kernel
theorem dX11_feed_25 : decode cX11_feed 25 = .ok (.bipush 20, 2) := by decide +kernel
theorem dX11_feed_27 : decode cX11_feed 27 = .ok (.if_icmp .ge 86, 3) := by decide +kernel
theorem dX11_feed_30 : decode cX11_feed 30 = .ok (.iload 6, 2) := by decide +kernel
theorem dX11_feed_32 : decode cX11_feed 32 = .ok (.iconst 4, 1) := by decide +kernel
theorem dX11_feed_33 : decode cX11_feed 33 = .ok (.if_icmp .ge 7, 3) := by decide +kernel
theorem dX11_feed_36 : decode cX11_feed 36 = .ok (.iload_n 1, 1) := by decide +kernel
theorem dX11_feed_37 : decode cX11_feed 37 = .ok (.goto 39, 3) := by decide +kernel
theorem dX11_feed_40 : decode cX11_feed 40 = .ok (.iload 6, 2) := by decide +kernel
theorem dX11_feed_42 : decode cX11_feed 42 = .ok (.bipush 8, 2) := by decide +kernel
theorem dX11_feed_44 : decode cX11_feed 44 = .ok (.if_icmp .ge 7, 3) := by decide +kernel
theorem dX11_feed_47 : decode cX11_feed 47 = .ok (.iload_n 2, 1) := by decide +kernel
theorem dX11_feed_48 : decode cX11_feed 48 = .ok (.goto 28, 3) := by decide +kernel
theorem dX11_feed_51 : decode cX11_feed 51 = .ok (.iload 6, 2) := by decide +kernel
theorem dX11_feed_53 : decode cX11_feed 53 = .ok (.bipush 12, 2) := by decide +kernel
theorem dX11_feed_55 : decode cX11_feed 55 = .ok (.if_icmp .ge 7, 3) := by decide +kernel
theorem dX11_feed_58 : decode cX11_feed 58 = .ok (.iload_n 3, 1) := by decide +kernel
theorem dX11_feed_59 : decode cX11_feed 59 = .ok (.goto 17, 3) := by decide +kernel
theorem dX11_feed_62 : decode cX11_feed 62 = .ok (.iload 6, 2) := by decide +kernel
theorem dX11_feed_64 : decode cX11_feed 64 = .ok (.bipush 16, 2) := by decide +kernel
theorem dX11_feed_66 : decode cX11_feed 66 = .ok (.if_icmp .ge 8, 3) := by decide +kernel
theorem dX11_feed_69 : decode cX11_feed 69 = .ok (.iload 4, 2) := by decide +kernel
theorem dX11_feed_71 : decode cX11_feed 71 = .ok (.goto 5, 3) := by decide +kernel
theorem dX11_feed_74 : decode cX11_feed 74 = .ok (.iload 5, 2) := by decide +kernel
theorem dX11_feed_76 : decode cX11_feed 76 = .ok (.istore 7, 2) := by decide +kernel
theorem dX11_feed_78 : decode cX11_feed 78 = .ok (.aload_n 0, 1) := by decide +kernel
theorem dX11_feed_79 : decode cX11_feed 79 = .ok (.getfield 7, 3) := by decide +kernel
theorem dX11_feed_82 : decode cX11_feed 82 = .ok (.aload_n 0, 1) := by decide +kernel
theorem dX11_feed_83 : decode cX11_feed 83 = .ok (.getfield 79, 3) := by decide +kernel
theorem dX11_feed_86 : decode cX11_feed 86 = .ok (.iload 6, 2) := by decide +kernel
theorem dX11_feed_88 : decode cX11_feed 88 = .ok (.iadd, 1) := by decide +kernel
theorem dX11_feed_89 : decode cX11_feed 89 = .ok (.iload 7, 2) := by decide +kernel
theorem dX11_feed_91 : decode cX11_feed 91 = .ok (.bipush 24, 2) := by decide +kernel
theorem dX11_feed_93 : decode cX11_feed 93 = .ok (.bipush 8, 2) := by decide +kernel
theorem dX11_feed_95 : decode cX11_feed 95 = .ok (.iload 6, 2) := by decide +kernel
theorem dX11_feed_97 : decode cX11_feed 97 = .ok (.iconst 4, 1) := by decide +kernel
theorem dX11_feed_98 : decode cX11_feed 98 = .ok (.irem, 1) := by decide +kernel
theorem dX11_feed_99 : decode cX11_feed 99 = .ok (.imul, 1) := by decide +kernel
theorem dX11_feed_100 : decode cX11_feed 100 = .ok (.isub, 1) := by decide +kernel
theorem dX11_feed_101 : decode cX11_feed 101 = .ok (.ishr, 1) := by decide +kernel
theorem dX11_feed_102 : decode cX11_feed 102 = .ok (.sipush 255, 3) := by decide +kernel
theorem dX11_feed_105 : decode cX11_feed 105 = .ok (.iand, 1) := by decide +kernel
theorem dX11_feed_106 : decode cX11_feed 106 = .ok (.iastore, 1) := by decide +kernel
theorem dX11_feed_107 : decode cX11_feed 107 = .ok (.iinc 6 1, 3) := by decide +kernel
theorem dX11_feed_110 : decode cX11_feed 110 = .ok (.goto (-87), 3) := by decide +kernel
theorem dX11_feed_113 : decode cX11_feed 113 = .ok (.aload_n 0, 1) := by decide +kernel
theorem dX11_feed_114 : decode cX11_feed 114 = .ok (.dup, 1) := by decide +kernel
theorem dX11_feed_115 : decode cX11_feed 115 = .ok (.getfield 79, 3) := by decide +kernel
theorem dX11_feed_118 : decode cX11_feed 118 = .ok (.bipush 20, 2) := by decide +kernel
theorem dX11_feed_120 : decode cX11_feed 120 = .ok (.iadd, 1) := by decide +kernel
theorem dX11_feed_121 : decode cX11_feed 121 = .ok (.putfield 79, 3) := by decide +kernel
theorem dX11_feed_124 : decode cX11_feed 124 = .ok (.aload_n 0, 1) := by decide +kernel
theorem dX11_feed_125 : decode cX11_feed 125 = .ok (.getfield 79, 3) := by decide +kernel
theorem dX11_feed_128 : decode cX11_feed 128 = .ok (.ireturn, 1) := by decide +kernel
theorem dX11_isIn_0 : decode cX11_isIn 0 = .ok (.iload_n 0, 1) := by decide +kernel
theorem dX11_isIn_1 : decode cX11_isIn 1 = .ok (.iload_n 1, 1) := by decide +kernel
theorem dX11_isIn_2 : decode cX11_isIn 2 = .ok (.if_icmp .lt 12, 3) := by decide +kernel
theorem dX11_isIn_5 : decode cX11_isIn 5 = .ok (.iload_n 0, 1) := by decide +kernel
theorem dX11_isIn_6 : decode cX11_isIn 6 = .ok (.iload_n 2, 1) := by decide +kernel
theorem dX11_isIn_7 : decode cX11_isIn 7 = .ok (.if_icmp .gt 7, 3) := by decide +kernel
theorem dX11_isIn_10 : decode cX11_isIn 10 = .ok (.iconst 1, 1) := by decide +kernel
theorem dX11_isIn_11 : decode cX11_isIn 11 = .ok (.goto 4, 3) := by decide +kernel
theorem dX11_isIn_14 : decode cX11_isIn 14 = .ok (.iconst 0, 1) := by decide +kernel
theorem dX11_isIn_15 : decode cX11_isIn 15 = .ok (.ireturn, 1) := by decide +kernel
theorem dX11_wrong_0 : decode cX11_wrong 0 = .ok (.aload_n 0, 1) := by decide +kernel
theorem dX11_wrong_1 : decode cX11_wrong 1 = .ok (.iload_n 1, 1) := by decide +kernel
theorem dX11_wrong_2 : decode cX11_wrong 2 = .ok (.putfield 82, 3) := by decide +kernel
theorem dX11_wrong_5 : decode cX11_wrong 5 = .ok (.aload_n 0, 1) := by decide +kernel
theorem dX11_wrong_6 : decode cX11_wrong 6 = .ok (.aload_n 0, 1) := by decide +kernel
theorem dX11_wrong_7 : decode cX11_wrong 7 = .ok (.getfield 85, 3) := by decide +kernel
theorem dX11_wrong_10 : decode cX11_wrong 10 = .ok (.putfield 16, 3) := by decide +kernel
theorem dX11_wrong_13 : decode cX11_wrong 13 = .ok (.iconst 0, 1) := by decide +kernel
theorem dX11_wrong_14 : decode cX11_wrong 14 = .ok (.ireturn, 1) := by decide +kernel
theorem dX11_wordAt_0 : decode cX11_wordAt 0 = .ok (.iconst 0, 1) := by decide +kernel
theorem dX11_wordAt_1 : decode cX11_wordAt 1 = .ok (.istore_n 3, 1) := by decide +kernel
theorem dX11_wordAt_2 : decode cX11_wordAt 2 = .ok (.iconst 0, 1) := by decide +kernel
theorem dX11_wordAt_3 : decode cX11_wordAt 3 = .ok (.istore 4, 2) := by decide +kernel
theorem dX11_wordAt_5 : decode cX11_wordAt 5 = .ok (.iload 4, 2) := by decide +kernel
theorem dX11_wordAt_7 : decode cX11_wordAt 7 = .ok (.aload_n 0, 1) := by decide +kernel
theorem dX11_wordAt_8 : decode cX11_wordAt 8 = .ok (.getfield 13, 3) := by decide +kernel
theorem dX11_wordAt_11 : decode cX11_wordAt 11 = .ok (.arraylength, 1) := by decide +kernel
theorem dX11_wordAt_12 : decode cX11_wordAt 12 = .ok (.if_icmp .ge 114, 3) := by decide +kernel
theorem dX11_wordAt_15 : decode cX11_wordAt 15 = .ok (.iconst 0, 1) := by decide +kernel
theorem dX11_wordAt_16 : decode cX11_wordAt 16 = .ok (.istore 5, 2) := by decide +kernel
theorem dX11_wordAt_18 : decode cX11_wordAt 18 = .ok (.aload_n 0, 1) := by decide +kernel
theorem dX11_wordAt_19 : decode cX11_wordAt 19 = .ok (.getfield 13, 3) := by decide +kernel
theorem dX11_wordAt_22 : decode cX11_wordAt 22 = .ok (.iload 4, 2) := by decide +kernel
theorem dX11_wordAt_24 : decode cX11_wordAt 24 = .ok (.iload 5, 2) := by decide +kernel
theorem dX11_wordAt_26 : decode cX11_wordAt 26 = .ok (.iadd, 1) := by decide +kernel
theorem dX11_wordAt_27 : decode cX11_wordAt 27 = .ok (.iaload, 1) := by decide +kernel
theorem dX11_wordAt_28 : decode cX11_wordAt 28 = .ok (.bipush 32, 2) := by decide +kernel
theorem dX11_wordAt_30 : decode cX11_wordAt 30 = .ok (.if_icmp .eq 9, 3) := by decide +kernel
theorem dX11_wordAt_33 : decode cX11_wordAt 33 = .ok (.iinc 5 1, 3) := by decide +kernel
theorem dX11_wordAt_36 : decode cX11_wordAt 36 = .ok (.goto (-18), 3) := by decide +kernel
theorem dX11_wordAt_39 : decode cX11_wordAt 39 = .ok (.iload 5, 2) := by decide +kernel
theorem dX11_wordAt_41 : decode cX11_wordAt 41 = .ok (.iload_n 2, 1) := by decide +kernel
theorem dX11_wordAt_42 : decode cX11_wordAt 42 = .ok (.iload_n 1, 1) := by decide +kernel
theorem dX11_wordAt_43 : decode cX11_wordAt 43 = .ok (.isub, 1) := by decide +kernel
theorem dX11_wordAt_44 : decode cX11_wordAt 44 = .ok (.if_icmp .ne 7, 3) := by decide +kernel
theorem dX11_wordAt_47 : decode cX11_wordAt 47 = .ok (.iconst 1, 1) := by decide +kernel
theorem dX11_wordAt_48 : decode cX11_wordAt 48 = .ok (.goto 4, 3) := by decide +kernel
theorem dX11_wordAt_51 : decode cX11_wordAt 51 = .ok (.iconst 0, 1) := by decide +kernel
theorem dX11_wordAt_52 : decode cX11_wordAt 52 = .ok (.istore 6, 2) := by decide +kernel
theorem dX11_wordAt_54 : decode cX11_wordAt 54 = .ok (.iconst 0, 1) := by decide +kernel
theorem dX11_wordAt_55 : decode cX11_wordAt 55 = .ok (.istore 7, 2) := by decide +kernel
theorem dX11_wordAt_57 : decode cX11_wordAt 57 = .ok (.iload 7, 2) := by decide +kernel
theorem dX11_wordAt_59 : decode cX11_wordAt 59 = .ok (.iload 5, 2) := by decide +kernel
theorem dX11_wordAt_61 : decode cX11_wordAt 61 = .ok (.if_icmp .ge 43, 3) := by decide +kernel
theorem dX11_wordAt_64 : decode cX11_wordAt 64 = .ok (.iload 6, 2) := by decide +kernel
theorem dX11_wordAt_66 : decode cX11_wordAt 66 = .ok (.ifCond .eq 38, 3) := by decide +kernel
theorem dX11_wordAt_69 : decode cX11_wordAt 69 = .ok (.aload_n 0, 1) := by decide +kernel
theorem dX11_wordAt_70 : decode cX11_wordAt 70 = .ok (.getfield 13, 3) := by decide +kernel
theorem dX11_wordAt_73 : decode cX11_wordAt 73 = .ok (.iload 4, 2) := by decide +kernel
theorem dX11_wordAt_75 : decode cX11_wordAt 75 = .ok (.iload 7, 2) := by decide +kernel
theorem dX11_wordAt_77 : decode cX11_wordAt 77 = .ok (.iadd, 1) := by decide +kernel
theorem dX11_wordAt_78 : decode cX11_wordAt 78 = .ok (.iaload, 1) := by decide +kernel
theorem dX11_wordAt_79 : decode cX11_wordAt 79 = .ok (.aload_n 0, 1) := by decide +kernel
theorem dX11_wordAt_80 : decode cX11_wordAt 80 = .ok (.getfield 7, 3) := by decide +kernel
theorem dX11_wordAt_83 : decode cX11_wordAt 83 = .ok (.iload_n 1, 1) := by decide +kernel
theorem dX11_wordAt_84 : decode cX11_wordAt 84 = .ok (.iload 7, 2) := by decide +kernel
theorem dX11_wordAt_86 : decode cX11_wordAt 86 = .ok (.iadd, 1) := by decide +kernel
theorem dX11_wordAt_87 : decode cX11_wordAt 87 = .ok (.iaload, 1) := by decide +kernel
theorem dX11_wordAt_88 : decode cX11_wordAt 88 = .ok (.if_icmp .ne 7, 3) := by decide +kernel
theorem dX11_wordAt_91 : decode cX11_wordAt 91 = .ok (.iconst 1, 1) := by decide +kernel
theorem dX11_wordAt_92 : decode cX11_wordAt 92 = .ok (.goto 4, 3) := by decide +kernel
theorem dX11_wordAt_95 : decode cX11_wordAt 95 = .ok (.iconst 0, 1) := by decide +kernel
theorem dX11_wordAt_96 : decode cX11_wordAt 96 = .ok (.istore 6, 2) := by decide +kernel
theorem dX11_wordAt_98 : decode cX11_wordAt 98 = .ok (.iinc 7 1, 3) := by decide +kernel
theorem dX11_wordAt_101 : decode cX11_wordAt 101 = .ok (.goto (-44), 3) := by decide +kernel
theorem dX11_wordAt_104 : decode cX11_wordAt 104 = .ok (.iload 6, 2) := by decide +kernel
theorem dX11_wordAt_106 : decode cX11_wordAt 106 = .ok (.ifCond .eq 5, 3) := by decide +kernel
theorem dX11_wordAt_109 : decode cX11_wordAt 109 = .ok (.iload_n 3, 1) := by decide +kernel
theorem dX11_wordAt_110 : decode cX11_wordAt 110 = .ok (.ireturn, 1) := by decide +kernel
theorem dX11_wordAt_111 : decode cX11_wordAt 111 = .ok (.iload 4, 2) := by decide +kernel
theorem dX11_wordAt_113 : decode cX11_wordAt 113 = .ok (.iload 5, 2) := by decide +kernel
theorem dX11_wordAt_115 : decode cX11_wordAt 115 = .ok (.iconst 1, 1) := by decide +kernel
theorem dX11_wordAt_116 : decode cX11_wordAt 116 = .ok (.iadd, 1) := by decide +kernel
theorem dX11_wordAt_117 : decode cX11_wordAt 117 = .ok (.iadd, 1) := by decide +kernel
theorem dX11_wordAt_118 : decode cX11_wordAt 118 = .ok (.istore 4, 2) := by decide +kernel
theorem dX11_wordAt_120 : decode cX11_wordAt 120 = .ok (.iinc 3 1, 3) := by decide +kernel
theorem dX11_wordAt_123 : decode cX11_wordAt 123 = .ok (.goto (-118), 3) := by decide +kernel
theorem dX11_wordAt_126 : decode cX11_wordAt 126 = .ok (.iconst (-1), 1) := by decide +kernel
theorem dX11_wordAt_127 : decode cX11_wordAt 127 = .ok (.ireturn, 1) := by decide +kernel
theorem dX11_isSmall_0 : decode cX11_isSmall 0 = .ok (.iload_n 1, 1) := by decide +kernel
theorem dX11_isSmall_1 : decode cX11_isSmall 1 = .ok (.aload_n 0, 1) := by decide +kernel
theorem dX11_isSmall_2 : decode cX11_isSmall 2 = .ok (.getfield 88, 3) := by decide +kernel
theorem dX11_isSmall_5 : decode cX11_isSmall 5 = .ok (.if_icmp .ge 29, 3) := by decide +kernel
theorem dX11_isSmall_8 : decode cX11_isSmall 8 = .ok (.aload_n 0, 1) := by decide +kernel
theorem dX11_isSmall_9 : decode cX11_isSmall 9 = .ok (.getfield 7, 3) := by decide +kernel
theorem dX11_isSmall_12 : decode cX11_isSmall 12 = .ok (.iload_n 1, 1) := by decide +kernel
theorem dX11_isSmall_13 : decode cX11_isSmall 13 = .ok (.iaload, 1) := by decide +kernel
theorem dX11_isSmall_14 : decode cX11_isSmall 14 = .ok (.bipush 97, 2) := by decide +kernel
theorem dX11_isSmall_16 : decode cX11_isSmall 16 = .ok (.if_icmp .lt 18, 3) := by decide +kernel
theorem dX11_isSmall_19 : decode cX11_isSmall 19 = .ok (.aload_n 0, 1) := by decide +kernel
theorem dX11_isSmall_20 : decode cX11_isSmall 20 = .ok (.getfield 7, 3) := by decide +kernel
theorem dX11_isSmall_23 : decode cX11_isSmall 23 = .ok (.iload_n 1, 1) := by decide +kernel
theorem dX11_isSmall_24 : decode cX11_isSmall 24 = .ok (.iaload, 1) := by decide +kernel
theorem dX11_isSmall_25 : decode cX11_isSmall 25 = .ok (.bipush 122, 2) := by decide +kernel
theorem dX11_isSmall_27 : decode cX11_isSmall 27 = .ok (.if_icmp .gt 7, 3) := by decide +kernel
theorem dX11_isSmall_30 : decode cX11_isSmall 30 = .ok (.iconst 1, 1) := by decide +kernel
theorem dX11_isSmall_31 : decode cX11_isSmall 31 = .ok (.goto 4, 3) := by decide +kernel
theorem dX11_isSmall_34 : decode cX11_isSmall 34 = .ok (.iconst 0, 1) := by decide +kernel
theorem dX11_isSmall_35 : decode cX11_isSmall 35 = .ok (.ireturn, 1) := by decide +kernel
theorem dX11_isDigit_0 : decode cX11_isDigit 0 = .ok (.iload_n 1, 1) := by decide +kernel
theorem dX11_isDigit_1 : decode cX11_isDigit 1 = .ok (.aload_n 0, 1) := by decide +kernel
theorem dX11_isDigit_2 : decode cX11_isDigit 2 = .ok (.getfield 88, 3) := by decide +kernel
theorem dX11_isDigit_5 : decode cX11_isDigit 5 = .ok (.if_icmp .ge 29, 3) := by decide +kernel
theorem dX11_isDigit_8 : decode cX11_isDigit 8 = .ok (.aload_n 0, 1) := by decide +kernel
theorem dX11_isDigit_9 : decode cX11_isDigit 9 = .ok (.getfield 7, 3) := by decide +kernel
theorem dX11_isDigit_12 : decode cX11_isDigit 12 = .ok (.iload_n 1, 1) := by decide +kernel
theorem dX11_isDigit_13 : decode cX11_isDigit 13 = .ok (.iaload, 1) := by decide +kernel
theorem dX11_isDigit_14 : decode cX11_isDigit 14 = .ok (.bipush 48, 2) := by decide +kernel
theorem dX11_isDigit_16 : decode cX11_isDigit 16 = .ok (.if_icmp .lt 18, 3) := by decide +kernel
theorem dX11_isDigit_19 : decode cX11_isDigit 19 = .ok (.aload_n 0, 1) := by decide +kernel
theorem dX11_isDigit_20 : decode cX11_isDigit 20 = .ok (.getfield 7, 3) := by decide +kernel
theorem dX11_isDigit_23 : decode cX11_isDigit 23 = .ok (.iload_n 1, 1) := by decide +kernel
theorem dX11_isDigit_24 : decode cX11_isDigit 24 = .ok (.iaload, 1) := by decide +kernel
theorem dX11_isDigit_25 : decode cX11_isDigit 25 = .ok (.bipush 57, 2) := by decide +kernel
theorem dX11_isDigit_27 : decode cX11_isDigit 27 = .ok (.if_icmp .gt 7, 3) := by decide +kernel
theorem dX11_isDigit_30 : decode cX11_isDigit 30 = .ok (.iconst 1, 1) := by decide +kernel
theorem dX11_isDigit_31 : decode cX11_isDigit 31 = .ok (.goto 4, 3) := by decide +kernel
theorem dX11_isDigit_34 : decode cX11_isDigit 34 = .ok (.iconst 0, 1) := by decide +kernel
theorem dX11_isDigit_35 : decode cX11_isDigit 35 = .ok (.ireturn, 1) := by decide +kernel
theorem dX11_token_0 : decode cX11_token 0 = .ok (.aload_n 0, 1) := by decide +kernel
theorem dX11_token_1 : decode cX11_token 1 = .ok (.getfield 91, 3) := by decide +kernel
theorem dX11_token_4 : decode cX11_token 4 = .ok (.aload_n 0, 1) := by decide +kernel
theorem dX11_token_5 : decode cX11_token 5 = .ok (.getfield 88, 3) := by decide +kernel
theorem dX11_token_8 : decode cX11_token 8 = .ok (.if_icmp .ge 44, 3) := by decide +kernel
theorem dX11_token_11 : decode cX11_token 11 = .ok (.aload_n 0, 1) := by decide +kernel
theorem dX11_token_12 : decode cX11_token 12 = .ok (.getfield 7, 3) := by decide +kernel
theorem dX11_token_15 : decode cX11_token 15 = .ok (.aload_n 0, 1) := by decide +kernel
theorem dX11_token_16 : decode cX11_token 16 = .ok (.getfield 91, 3) := by decide +kernel
theorem dX11_token_19 : decode cX11_token 19 = .ok (.iaload, 1) := by decide +kernel
theorem dX11_token_20 : decode cX11_token 20 = .ok (.bipush 10, 2) := by decide +kernel
theorem dX11_token_22 : decode cX11_token 22 = .ok (.if_icmp .eq 17, 3) := by decide +kernel
theorem dX11_token_25 : decode cX11_token 25 = .ok (.aload_n 0, 1) := by decide +kernel
theorem dX11_token_26 : decode cX11_token 26 = .ok (.getfield 7, 3) := by decide +kernel
theorem dX11_token_29 : decode cX11_token 29 = .ok (.aload_n 0, 1) := by decide +kernel
theorem dX11_token_30 : decode cX11_token 30 = .ok (.getfield 91, 3) := by decide +kernel
theorem dX11_token_33 : decode cX11_token 33 = .ok (.iaload, 1) := by decide +kernel
theorem dX11_token_34 : decode cX11_token 34 = .ok (.bipush 32, 2) := by decide +kernel
theorem dX11_token_36 : decode cX11_token 36 = .ok (.if_icmp .ne 16, 3) := by decide +kernel
theorem dX11_token_39 : decode cX11_token 39 = .ok (.aload_n 0, 1) := by decide +kernel
theorem dX11_token_40 : decode cX11_token 40 = .ok (.dup, 1) := by decide +kernel
theorem dX11_token_41 : decode cX11_token 41 = .ok (.getfield 91, 3) := by decide +kernel
theorem dX11_token_44 : decode cX11_token 44 = .ok (.iconst 1, 1) := by decide +kernel
theorem dX11_token_45 : decode cX11_token 45 = .ok (.iadd, 1) := by decide +kernel
theorem dX11_token_46 : decode cX11_token 46 = .ok (.putfield 91, 3) := by decide +kernel
theorem dX11_token_49 : decode cX11_token 49 = .ok (.goto (-49), 3) := by decide +kernel
theorem dX11_token_52 : decode cX11_token 52 = .ok (.aload_n 0, 1) := by decide +kernel
theorem dX11_token_53 : decode cX11_token 53 = .ok (.aload_n 0, 1) := by decide +kernel
theorem dX11_token_54 : decode cX11_token 54 = .ok (.getfield 91, 3) := by decide +kernel
theorem dX11_token_57 : decode cX11_token 57 = .ok (.putfield 85, 3) := by decide +kernel
theorem dX11_token_60 : decode cX11_token 60 = .ok (.aload_n 0, 1) := by decide +kernel
theorem dX11_token_61 : decode cX11_token 61 = .ok (.getfield 91, 3) := by decide +kernel
theorem dX11_token_64 : decode cX11_token 64 = .ok (.aload_n 0, 1) := by decide +kernel
theorem dX11_token_65 : decode cX11_token 65 = .ok (.getfield 88, 3) := by decide +kernel
theorem dX11_token_68 : decode cX11_token 68 = .ok (.if_icmp .ne 11, 3) := by decide +kernel
theorem dX11_token_71 : decode cX11_token 71 = .ok (.aload_n 0, 1) := by decide +kernel
theorem dX11_token_72 : decode cX11_token 72 = .ok (.iconst 0, 1) := by decide +kernel
theorem dX11_token_73 : decode cX11_token 73 = .ok (.putfield 94, 3) := by decide +kernel
theorem dX11_token_76 : decode cX11_token 76 = .ok (.goto 233, 3) := by decide +kernel
theorem dX11_token_79 : decode cX11_token 79 = .ok (.aload_n 0, 1) := by decide +kernel
theorem dX11_token_80 : decode cX11_token 80 = .ok (.aload_n 0, 1) := by decide +kernel
theorem dX11_token_81 : decode cX11_token 81 = .ok (.getfield 91, 3) := by decide +kernel
theorem dX11_token_84 : decode cX11_token 84 = .ok (.invokevirtual 97, 3) := by decide +kernel
theorem dX11_token_87 : decode cX11_token 87 = .ok (.ifCond .eq 104, 3) := by decide +kernel
theorem dX11_token_90 : decode cX11_token 90 = .ok (.aload_n 0, 1) := by decide +kernel
theorem dX11_token_91 : decode cX11_token 91 = .ok (.aload_n 0, 1) := by decide +kernel
theorem dX11_token_92 : decode cX11_token 92 = .ok (.getfield 91, 3) := by decide +kernel
theorem dX11_token_95 : decode cX11_token 95 = .ok (.invokevirtual 97, 3) := by decide +kernel
theorem dX11_token_98 : decode cX11_token 98 = .ok (.ifCond .eq 16, 3) := by decide +kernel
theorem dX11_token_101 : decode cX11_token 101 = .ok (.aload_n 0, 1) := by decide +kernel
theorem dX11_token_102 : decode cX11_token 102 = .ok (.dup, 1) := by decide +kernel
theorem dX11_token_103 : decode cX11_token 103 = .ok (.getfield 91, 3) := by decide +kernel
theorem dX11_token_106 : decode cX11_token 106 = .ok (.iconst 1, 1) := by decide +kernel
theorem dX11_token_107 : decode cX11_token 107 = .ok (.iadd, 1) := by decide +kernel
theorem dX11_token_108 : decode cX11_token 108 = .ok (.putfield 91, 3) := by decide +kernel
theorem dX11_token_111 : decode cX11_token 111 = .ok (.goto (-21), 3) := by decide +kernel
theorem dX11_token_114 : decode cX11_token 114 = .ok (.aload_n 0, 1) := by decide +kernel
theorem dX11_token_115 : decode cX11_token 115 = .ok (.aload_n 0, 1) := by decide +kernel
theorem dX11_token_116 : decode cX11_token 116 = .ok (.aload_n 0, 1) := by decide +kernel
theorem dX11_token_117 : decode cX11_token 117 = .ok (.getfield 85, 3) := by decide +kernel
theorem dX11_token_120 : decode cX11_token 120 = .ok (.aload_n 0, 1) := by decide +kernel
theorem dX11_token_121 : decode cX11_token 121 = .ok (.getfield 91, 3) := by decide +kernel
theorem dX11_token_124 : decode cX11_token 124 = .ok (.invokevirtual 101, 3) := by decide +kernel
theorem dX11_token_127 : decode cX11_token 127 = .ok (.putfield 105, 3) := by decide +kernel
theorem dX11_token_130 : decode cX11_token 130 = .ok (.aload_n 0, 1) := by decide +kernel
theorem dX11_token_131 : decode cX11_token 131 = .ok (.aload_n 0, 1) := by decide +kernel
theorem dX11_token_132 : decode cX11_token 132 = .ok (.getfield 105, 3) := by decide +kernel
theorem dX11_token_135 : decode cX11_token 135 = .ok (.ifCond .lt 7, 3) := by decide +kernel
theorem dX11_token_138 : decode cX11_token 138 = .ok (.iconst 1, 1) := by decide +kernel
theorem dX11_token_139 : decode cX11_token 139 = .ok (.goto 22, 3) := by decide +kernel
theorem dX11_token_142 : decode cX11_token 142 = .ok (.aload_n 0, 1) := by decide +kernel
theorem dX11_token_143 : decode cX11_token 143 = .ok (.getfield 91, 3) := by decide +kernel
theorem dX11_token_146 : decode cX11_token 146 = .ok (.aload_n 0, 1) := by decide +kernel
theorem dX11_token_147 : decode cX11_token 147 = .ok (.getfield 85, 3) := by decide +kernel
theorem dX11_token_150 : decode cX11_token 150 = .ok (.isub, 1) := by decide +kernel
theorem dX11_token_151 : decode cX11_token 151 = .ok (.bipush 6, 2) := by decide +kernel
theorem dX11_token_153 : decode cX11_token 153 = .ok (.if_icmp .le 7, 3) := by decide +kernel
theorem dX11_token_156 : decode cX11_token 156 = .ok (.iconst 5, 1) := by decide +kernel
theorem dX11_token_157 : decode cX11_token 157 = .ok (.goto 4, 3) := by decide +kernel
theorem dX11_token_160 : decode cX11_token 160 = .ok (.iconst 2, 1) := by decide +kernel
theorem dX11_token_161 : decode cX11_token 161 = .ok (.putfield 94, 3) := by decide +kernel
theorem dX11_token_164 : decode cX11_token 164 = .ok (.aload_n 0, 1) := by decide +kernel
theorem dX11_token_165 : decode cX11_token 165 = .ok (.getfield 94, 3) := by decide +kernel
theorem dX11_token_168 : decode cX11_token 168 = .ok (.iconst 2, 1) := by decide +kernel
theorem dX11_token_169 : decode cX11_token 169 = .ok (.if_icmp .ne 140, 3) := by decide +kernel
theorem dX11_token_172 : decode cX11_token 172 = .ok (.aload_n 0, 1) := by decide +kernel
theorem dX11_token_173 : decode cX11_token 173 = .ok (.aload_n 0, 1) := by decide +kernel
theorem dX11_token_174 : decode cX11_token 174 = .ok (.aload_n 0, 1) := by decide +kernel
theorem dX11_token_175 : decode cX11_token 175 = .ok (.getfield 85, 3) := by decide +kernel
theorem dX11_token_178 : decode cX11_token 178 = .ok (.aload_n 0, 1) := by decide +kernel
theorem dX11_token_179 : decode cX11_token 179 = .ok (.getfield 91, 3) := by decide +kernel
theorem dX11_token_182 : decode cX11_token 182 = .ok (.invokevirtual 108, 3) := by decide +kernel
theorem dX11_token_185 : decode cX11_token 185 = .ok (.putfield 105, 3) := by decide +kernel
theorem dX11_token_188 : decode cX11_token 188 = .ok (.goto 121, 3) := by decide +kernel
theorem dX11_token_191 : decode cX11_token 191 = .ok (.aload_n 0, 1) := by decide +kernel
theorem dX11_token_192 : decode cX11_token 192 = .ok (.aload_n 0, 1) := by decide +kernel
theorem dX11_token_193 : decode cX11_token 193 = .ok (.getfield 91, 3) := by decide +kernel
theorem dX11_token_196 : decode cX11_token 196 = .ok (.invokevirtual 111, 3) := by decide +kernel
theorem dX11_token_199 : decode cX11_token 199 = .ok (.ifCond .eq 77, 3) := by decide +kernel
theorem dX11_token_202 : decode cX11_token 202 = .ok (.aload_n 0, 1) := by decide +kernel
theorem dX11_token_203 : decode cX11_token 203 = .ok (.iconst 3, 1) := by decide +kernel
theorem dX11_token_204 : decode cX11_token 204 = .ok (.putfield 94, 3) := by decide +kernel
theorem dX11_token_207 : decode cX11_token 207 = .ok (.aload_n 0, 1) := by decide +kernel
theorem dX11_token_208 : decode cX11_token 208 = .ok (.iconst 0, 1) := by decide +kernel
theorem dX11_token_209 : decode cX11_token 209 = .ok (.putfield 105, 3) := by decide +kernel
theorem dX11_token_212 : decode cX11_token 212 = .ok (.aload_n 0, 1) := by decide +kernel
theorem dX11_token_213 : decode cX11_token 213 = .ok (.aload_n 0, 1) := by decide +kernel
theorem dX11_token_214 : decode cX11_token 214 = .ok (.getfield 91, 3) := by decide +kernel
theorem dX11_token_217 : decode cX11_token 217 = .ok (.invokevirtual 111, 3) := by decide +kernel
theorem dX11_token_220 : decode cX11_token 220 = .ok (.ifCond .eq 89, 3) := by decide +kernel
theorem dX11_token_223 : decode cX11_token 223 = .ok (.aload_n 0, 1) := by decide +kernel
theorem dX11_token_224 : decode cX11_token 224 = .ok (.aload_n 0, 1) := by decide +kernel
theorem dX11_token_225 : decode cX11_token 225 = .ok (.getfield 105, 3) := by decide +kernel
theorem dX11_token_228 : decode cX11_token 228 = .ok (.ldc 114, 2) := by decide +kernel
theorem dX11_token_230 : decode cX11_token 230 = .ok (.if_icmp .le 10, 3) := by decide +kernel
theorem dX11_token_233 : decode cX11_token 233 = .ok (.aload_n 0, 1) := by decide +kernel
theorem dX11_token_234 : decode cX11_token 234 = .ok (.getfield 105, 3) := by decide +kernel
theorem dX11_token_237 : decode cX11_token 237 = .ok (.goto 23, 3) := by decide +kernel
theorem dX11_token_240 : decode cX11_token 240 = .ok (.bipush 10, 2) := by decide +kernel
theorem dX11_token_242 : decode cX11_token 242 = .ok (.aload_n 0, 1) := by decide +kernel
theorem dX11_token_243 : decode cX11_token 243 = .ok (.getfield 105, 3) := by decide +kernel
theorem dX11_token_246 : decode cX11_token 246 = .ok (.imul, 1) := by decide +kernel
theorem dX11_token_247 : decode cX11_token 247 = .ok (.aload_n 0, 1) := by decide +kernel
theorem dX11_token_248 : decode cX11_token 248 = .ok (.getfield 7, 3) := by decide +kernel
theorem dX11_token_251 : decode cX11_token 251 = .ok (.aload_n 0, 1) := by decide +kernel
theorem dX11_token_252 : decode cX11_token 252 = .ok (.getfield 91, 3) := by decide +kernel
theorem dX11_token_255 : decode cX11_token 255 = .ok (.iaload, 1) := by decide +kernel
theorem dX11_token_256 : decode cX11_token 256 = .ok (.iadd, 1) := by decide +kernel
theorem dX11_token_257 : decode cX11_token 257 = .ok (.bipush 48, 2) := by decide +kernel
theorem dX11_token_259 : decode cX11_token 259 = .ok (.isub, 1) := by decide +kernel
theorem dX11_token_260 : decode cX11_token 260 = .ok (.putfield 105, 3) := by decide +kernel
theorem dX11_token_263 : decode cX11_token 263 = .ok (.aload_n 0, 1) := by decide +kernel
theorem dX11_token_264 : decode cX11_token 264 = .ok (.dup, 1) := by decide +kernel
theorem dX11_token_265 : decode cX11_token 265 = .ok (.getfield 91, 3) := by decide +kernel
theorem dX11_token_268 : decode cX11_token 268 = .ok (.iconst 1, 1) := by decide +kernel
theorem dX11_token_269 : decode cX11_token 269 = .ok (.iadd, 1) := by decide +kernel
theorem dX11_token_270 : decode cX11_token 270 = .ok (.putfield 91, 3) := by decide +kernel
theorem dX11_token_273 : decode cX11_token 273 = .ok (.goto (-61), 3) := by decide +kernel
theorem dX11_token_276 : decode cX11_token 276 = .ok (.aload_n 0, 1) := by decide +kernel
theorem dX11_token_277 : decode cX11_token 277 = .ok (.aload_n 0, 1) := by decide +kernel
theorem dX11_token_278 : decode cX11_token 278 = .ok (.getfield 7, 3) := by decide +kernel
theorem dX11_token_281 : decode cX11_token 281 = .ok (.aload_n 0, 1) := by decide +kernel
theorem dX11_token_282 : decode cX11_token 282 = .ok (.getfield 91, 3) := by decide +kernel
theorem dX11_token_285 : decode cX11_token 285 = .ok (.iaload, 1) := by decide +kernel
theorem dX11_token_286 : decode cX11_token 286 = .ok (.bipush 59, 2) := by decide +kernel
theorem dX11_token_288 : decode cX11_token 288 = .ok (.if_icmp .ne 7, 3) := by decide +kernel
theorem dX11_token_291 : decode cX11_token 291 = .ok (.iconst 4, 1) := by decide +kernel
theorem dX11_token_292 : decode cX11_token 292 = .ok (.goto 4, 3) := by decide +kernel
theorem dX11_token_295 : decode cX11_token 295 = .ok (.iconst 5, 1) := by decide +kernel
theorem dX11_token_296 : decode cX11_token 296 = .ok (.putfield 94, 3) := by decide +kernel
theorem dX11_token_299 : decode cX11_token 299 = .ok (.aload_n 0, 1) := by decide +kernel
theorem dX11_token_300 : decode cX11_token 300 = .ok (.dup, 1) := by decide +kernel
theorem dX11_token_301 : decode cX11_token 301 = .ok (.getfield 91, 3) := by decide +kernel
theorem dX11_token_304 : decode cX11_token 304 = .ok (.iconst 1, 1) := by decide +kernel
theorem dX11_token_305 : decode cX11_token 305 = .ok (.iadd, 1) := by decide +kernel
theorem dX11_token_306 : decode cX11_token 306 = .ok (.putfield 91, 3) := by decide +kernel
theorem dX11_token_309 : decode cX11_token 309 = .ok (.return_, 1) := by decide +kernel
theorem dX11_packed_0 : decode cX11_packed 0 = .ok (.iconst 0, 1) := by decide +kernel
theorem dX11_packed_1 : decode cX11_packed 1 = .ok (.istore_n 3, 1) := by decide +kernel
theorem dX11_packed_2 : decode cX11_packed 2 = .ok (.iload_n 1, 1) := by decide +kernel
theorem dX11_packed_3 : decode cX11_packed 3 = .ok (.istore 4, 2) := by decide +kernel
theorem dX11_packed_5 : decode cX11_packed 5 = .ok (.iload 4, 2) := by decide +kernel
theorem dX11_packed_7 : decode cX11_packed 7 = .ok (.iload_n 1, 1) := by decide +kernel
theorem dX11_packed_8 : decode cX11_packed 8 = .ok (.bipush 6, 2) := by decide +kernel
theorem dX11_packed_10 : decode cX11_packed 10 = .ok (.iadd, 1) := by decide +kernel
theorem dX11_packed_11 : decode cX11_packed 11 = .ok (.if_icmp .ge 34, 3) := by decide +kernel
theorem dX11_packed_14 : decode cX11_packed 14 = .ok (.iload_n 3, 1) := by decide +kernel
theorem dX11_packed_15 : decode cX11_packed 15 = .ok (.iconst 5, 1) := by decide +kernel
theorem dX11_packed_16 : decode cX11_packed 16 = .ok (.ishl, 1) := by decide +kernel
theorem dX11_packed_17 : decode cX11_packed 17 = .ok (.iload 4, 2) := by decide +kernel
theorem dX11_packed_19 : decode cX11_packed 19 = .ok (.iload_n 2, 1) := by decide +kernel
theorem dX11_packed_20 : decode cX11_packed 20 = .ok (.if_icmp .ge 16, 3) := by decide +kernel
theorem dX11_packed_23 : decode cX11_packed 23 = .ok (.aload_n 0, 1) := by decide +kernel
theorem dX11_packed_24 : decode cX11_packed 24 = .ok (.getfield 7, 3) := by decide +kernel
theorem dX11_packed_27 : decode cX11_packed 27 = .ok (.iload 4, 2) := by decide +kernel
theorem dX11_packed_29 : decode cX11_packed 29 = .ok (.iaload, 1) := by decide +kernel
theorem dX11_packed_30 : decode cX11_packed 30 = .ok (.bipush 96, 2) := by decide +kernel
theorem dX11_packed_32 : decode cX11_packed 32 = .ok (.isub, 1) := by decide +kernel
theorem dX11_packed_33 : decode cX11_packed 33 = .ok (.goto 4, 3) := by decide +kernel
theorem dX11_packed_36 : decode cX11_packed 36 = .ok (.iconst 0, 1) := by decide +kernel
theorem dX11_packed_37 : decode cX11_packed 37 = .ok (.ior, 1) := by decide +kernel
theorem dX11_packed_38 : decode cX11_packed 38 = .ok (.istore_n 3, 1) := by decide +kernel
theorem dX11_packed_39 : decode cX11_packed 39 = .ok (.iinc 4 1, 3) := by decide +kernel
theorem dX11_packed_42 : decode cX11_packed 42 = .ok (.goto (-37), 3) := by decide +kernel
theorem dX11_packed_45 : decode cX11_packed 45 = .ok (.iload_n 3, 1) := by decide +kernel
theorem dX11_packed_46 : decode cX11_packed 46 = .ok (.ireturn, 1) := by decide +kernel
theorem dX11_plain_0 : decode cX11_plain 0 = .ok (.aload_n 0, 1) := by decide +kernel
theorem dX11_plain_1 : decode cX11_plain 1 = .ok (.iconst 0, 1) := by decide +kernel
theorem dX11_plain_2 : decode cX11_plain 2 = .ok (.putfield 115, 3) := by decide +kernel
theorem dX11_plain_5 : decode cX11_plain 5 = .ok (.aload_n 0, 1) := by decide +kernel
theorem dX11_plain_6 : decode cX11_plain 6 = .ok (.iconst 0, 1) := by decide +kernel
theorem dX11_plain_7 : decode cX11_plain 7 = .ok (.putfield 118, 3) := by decide +kernel
theorem dX11_plain_10 : decode cX11_plain 10 = .ok (.iconst 0, 1) := by decide +kernel
theorem dX11_plain_11 : decode cX11_plain 11 = .ok (.istore_n 1, 1) := by decide +kernel
theorem dX11_plain_12 : decode cX11_plain 12 = .ok (.iload_n 1, 1) := by decide +kernel
theorem dX11_plain_13 : decode cX11_plain 13 = .ok (.iconst 5, 1) := by decide +kernel
theorem dX11_plain_14 : decode cX11_plain 14 = .ok (.if_icmp .ge 19, 3) := by decide +kernel
theorem dX11_plain_17 : decode cX11_plain 17 = .ok (.aload_n 0, 1) := by decide +kernel
theorem dX11_plain_18 : decode cX11_plain 18 = .ok (.getfield 26, 3) := by decide +kernel
theorem dX11_plain_21 : decode cX11_plain 21 = .ok (.bipush 29, 2) := by decide +kernel
theorem dX11_plain_23 : decode cX11_plain 23 = .ok (.iload_n 1, 1) := by decide +kernel
theorem dX11_plain_24 : decode cX11_plain 24 = .ok (.iadd, 1) := by decide +kernel
theorem dX11_plain_25 : decode cX11_plain 25 = .ok (.iconst 0, 1) := by decide +kernel
theorem dX11_plain_26 : decode cX11_plain 26 = .ok (.iastore, 1) := by decide +kernel
theorem dX11_plain_27 : decode cX11_plain 27 = .ok (.iinc 1 1, 3) := by decide +kernel
theorem dX11_plain_30 : decode cX11_plain 30 = .ok (.goto (-18), 3) := by decide +kernel
theorem dX11_plain_33 : decode cX11_plain 33 = .ok (.aload_n 0, 1) := by decide +kernel
theorem dX11_plain_34 : decode cX11_plain 34 = .ok (.getfield 26, 3) := by decide +kernel
theorem dX11_plain_37 : decode cX11_plain 37 = .ok (.bipush 24, 2) := by decide +kernel
theorem dX11_plain_39 : decode cX11_plain 39 = .ok (.iconst 5, 1) := by decide +kernel
theorem dX11_plain_40 : decode cX11_plain 40 = .ok (.iastore, 1) := by decide +kernel
theorem dX11_plain_41 : decode cX11_plain 41 = .ok (.aload_n 0, 1) := by decide +kernel
theorem dX11_plain_42 : decode cX11_plain 42 = .ok (.getfield 26, 3) := by decide +kernel
theorem dX11_plain_45 : decode cX11_plain 45 = .ok (.bipush 25, 2) := by decide +kernel
theorem dX11_plain_47 : decode cX11_plain 47 = .ok (.bipush 29, 2) := by decide +kernel
theorem dX11_plain_49 : decode cX11_plain 49 = .ok (.iastore, 1) := by decide +kernel
theorem dX11_plain_50 : decode cX11_plain 50 = .ok (.aload_n 0, 1) := by decide +kernel
theorem dX11_plain_51 : decode cX11_plain 51 = .ok (.getfield 26, 3) := by decide +kernel
theorem dX11_plain_54 : decode cX11_plain 54 = .ok (.bipush 26, 2) := by decide +kernel
theorem dX11_plain_56 : decode cX11_plain 56 = .ok (.iconst 0, 1) := by decide +kernel
theorem dX11_plain_57 : decode cX11_plain 57 = .ok (.iastore, 1) := by decide +kernel
theorem dX11_plain_58 : decode cX11_plain 58 = .ok (.aload_n 0, 1) := by decide +kernel
theorem dX11_plain_59 : decode cX11_plain 59 = .ok (.getfield 26, 3) := by decide +kernel
theorem dX11_plain_62 : decode cX11_plain 62 = .ok (.bipush 27, 2) := by decide +kernel
theorem dX11_plain_64 : decode cX11_plain 64 = .ok (.iconst 0, 1) := by decide +kernel
theorem dX11_plain_65 : decode cX11_plain 65 = .ok (.iastore, 1) := by decide +kernel
theorem dX11_plain_66 : decode cX11_plain 66 = .ok (.aload_n 0, 1) := by decide +kernel
theorem dX11_plain_67 : decode cX11_plain 67 = .ok (.getfield 26, 3) := by decide +kernel
theorem dX11_plain_70 : decode cX11_plain 70 = .ok (.bipush 28, 2) := by decide +kernel
theorem dX11_plain_72 : decode cX11_plain 72 = .ok (.bipush 15, 2) := by decide +kernel
theorem dX11_plain_74 : decode cX11_plain 74 = .ok (.iastore, 1) := by decide +kernel
theorem dX11_plain_75 : decode cX11_plain 75 = .ok (.iconst 0, 1) := by decide +kernel
theorem dX11_plain_76 : decode cX11_plain 76 = .ok (.istore_n 1, 1) := by decide +kernel
theorem dX11_plain_77 : decode cX11_plain 77 = .ok (.iload_n 1, 1) := by decide +kernel
theorem dX11_plain_78 : decode cX11_plain 78 = .ok (.bipush 12, 2) := by decide +kernel
theorem dX11_plain_80 : decode cX11_plain 80 = .ok (.if_icmp .ge 16, 3) := by decide +kernel
theorem dX11_plain_83 : decode cX11_plain 83 = .ok (.aload_n 0, 1) := by decide +kernel
theorem dX11_plain_84 : decode cX11_plain 84 = .ok (.getfield 29, 3) := by decide +kernel
theorem dX11_plain_87 : decode cX11_plain 87 = .ok (.iload_n 1, 1) := by decide +kernel
theorem dX11_plain_88 : decode cX11_plain 88 = .ok (.iconst 0, 1) := by decide +kernel
theorem dX11_plain_89 : decode cX11_plain 89 = .ok (.bastore, 1) := by decide +kernel
theorem dX11_plain_90 : decode cX11_plain 90 = .ok (.iinc 1 1, 3) := by decide +kernel
theorem dX11_plain_93 : decode cX11_plain 93 = .ok (.goto (-16), 3) := by decide +kernel
theorem dX11_plain_96 : decode cX11_plain 96 = .ok (.return_, 1) := by decide +kernel
theorem dX11_copies_0 : decode cX11_copies 0 = .ok (.iconst 0, 1) := by decide +kernel
theorem dX11_copies_1 : decode cX11_copies 1 = .ok (.istore_n 2, 1) := by decide +kernel
theorem dX11_copies_2 : decode cX11_copies 2 = .ok (.iload_n 2, 1) := by decide +kernel
theorem dX11_copies_3 : decode cX11_copies 3 = .ok (.iload_n 1, 1) := by decide +kernel
theorem dX11_copies_4 : decode cX11_copies 4 = .ok (.if_icmp .ge 17, 3) := by decide +kernel
theorem dX11_copies_7 : decode cX11_copies 7 = .ok (.aload_n 0, 1) := by decide +kernel
theorem dX11_copies_8 : decode cX11_copies 8 = .ok (.iload_n 2, 1) := by decide +kernel
theorem dX11_copies_9 : decode cX11_copies 9 = .ok (.aload_n 0, 1) := by decide +kernel
theorem dX11_copies_10 : decode cX11_copies 10 = .ok (.iload_n 1, 1) := by decide +kernel
theorem dX11_copies_11 : decode cX11_copies 11 = .ok (.iload_n 2, 1) := by decide +kernel
theorem dX11_copies_12 : decode cX11_copies 12 = .ok (.iadd, 1) := by decide +kernel
theorem dX11_copies_13 : decode cX11_copies 13 = .ok (.iaload, 1) := by decide +kernel
theorem dX11_copies_14 : decode cX11_copies 14 = .ok (.iastore, 1) := by decide +kernel
theorem dX11_copies_15 : decode cX11_copies 15 = .ok (.iinc 2 1, 3) := by decide +kernel
theorem dX11_copies_18 : decode cX11_copies 18 = .ok (.goto (-16), 3) := by decide +kernel
theorem dX11_copies_21 : decode cX11_copies 21 = .ok (.return_, 1) := by decide +kernel
theorem dX11_keepText_0 : decode cX11_keepText 0 = .ok (.aload_n 0, 1) := by decide +kernel
theorem dX11_keepText_1 : decode cX11_keepText 1 = .ok (.aload_n 0, 1) := by decide +kernel
theorem dX11_keepText_2 : decode cX11_keepText 2 = .ok (.getfield 115, 3) := by decide +kernel
theorem dX11_keepText_5 : decode cX11_keepText 5 = .ok (.putfield 121, 3) := by decide +kernel
theorem dX11_keepText_8 : decode cX11_keepText 8 = .ok (.aload_n 0, 1) := by decide +kernel
theorem dX11_keepText_9 : decode cX11_keepText 9 = .ok (.aload_n 0, 1) := by decide +kernel
theorem dX11_keepText_10 : decode cX11_keepText 10 = .ok (.getfield 118, 3) := by decide +kernel
theorem dX11_keepText_13 : decode cX11_keepText 13 = .ok (.putfield 124, 3) := by decide +kernel
theorem dX11_keepText_16 : decode cX11_keepText 16 = .ok (.aload_n 0, 1) := by decide +kernel
theorem dX11_keepText_17 : decode cX11_keepText 17 = .ok (.getfield 20, 3) := by decide +kernel
theorem dX11_keepText_20 : decode cX11_keepText 20 = .ok (.bipush 70, 2) := by decide +kernel
theorem dX11_keepText_22 : decode cX11_keepText 22 = .ok (.invokestatic 127, 3) := by decide +kernel
theorem dX11_keepText_25 : decode cX11_keepText 25 = .ok (.aload_n 0, 1) := by decide +kernel
theorem dX11_keepText_26 : decode cX11_keepText 26 = .ok (.getfield 23, 3) := by decide +kernel
theorem dX11_keepText_29 : decode cX11_keepText 29 = .ok (.bipush 30, 2) := by decide +kernel
theorem dX11_keepText_31 : decode cX11_keepText 31 = .ok (.invokestatic 127, 3) := by decide +kernel
theorem dX11_keepText_34 : decode cX11_keepText 34 = .ok (.aload_n 0, 1) := by decide +kernel
theorem dX11_keepText_35 : decode cX11_keepText 35 = .ok (.getfield 26, 3) := by decide +kernel
theorem dX11_keepText_38 : decode cX11_keepText 38 = .ok (.bipush 17, 2) := by decide +kernel
theorem dX11_keepText_40 : decode cX11_keepText 40 = .ok (.invokestatic 127, 3) := by decide +kernel
theorem dX11_keepText_43 : decode cX11_keepText 43 = .ok (.aload_n 0, 1) := by decide +kernel
theorem dX11_keepText_44 : decode cX11_keepText 44 = .ok (.invokevirtual 131, 3) := by decide +kernel
theorem dX11_keepText_47 : decode cX11_keepText 47 = .ok (.aload_n 0, 1) := by decide +kernel
theorem dX11_keepText_48 : decode cX11_keepText 48 = .ok (.aload_n 0, 1) := by decide +kernel
theorem dX11_keepText_49 : decode cX11_keepText 49 = .ok (.getfield 26, 3) := by decide +kernel
theorem dX11_keepText_52 : decode cX11_keepText 52 = .ok (.bipush 9, 2) := by decide +kernel
theorem dX11_keepText_54 : decode cX11_keepText 54 = .ok (.iaload, 1) := by decide +kernel
theorem dX11_keepText_55 : decode cX11_keepText 55 = .ok (.putfield 134, 3) := by decide +kernel
theorem dX11_keepText_58 : decode cX11_keepText 58 = .ok (.aload_n 0, 1) := by decide +kernel
theorem dX11_keepText_59 : decode cX11_keepText 59 = .ok (.aload_n 0, 1) := by decide +kernel
theorem dX11_keepText_60 : decode cX11_keepText 60 = .ok (.getfield 26, 3) := by decide +kernel
theorem dX11_keepText_63 : decode cX11_keepText 63 = .ok (.bipush 10, 2) := by decide +kernel
theorem dX11_keepText_65 : decode cX11_keepText 65 = .ok (.iaload, 1) := by decide +kernel
theorem dX11_keepText_66 : decode cX11_keepText 66 = .ok (.putfield 137, 3) := by decide +kernel
theorem dX11_keepText_69 : decode cX11_keepText 69 = .ok (.aload_n 0, 1) := by decide +kernel
theorem dX11_keepText_70 : decode cX11_keepText 70 = .ok (.iconst (-1), 1) := by decide +kernel
theorem dX11_keepText_71 : decode cX11_keepText 71 = .ok (.putfield 140, 3) := by decide +kernel
theorem dX11_keepText_74 : decode cX11_keepText 74 = .ok (.aload_n 0, 1) := by decide +kernel
theorem dX11_keepText_75 : decode cX11_keepText 75 = .ok (.iconst 0, 1) := by decide +kernel
theorem dX11_keepText_76 : decode cX11_keepText 76 = .ok (.putfield 143, 3) := by decide +kernel
theorem dX11_keepText_79 : decode cX11_keepText 79 = .ok (.aload_n 0, 1) := by decide +kernel
theorem dX11_keepText_80 : decode cX11_keepText 80 = .ok (.iconst 0, 1) := by decide +kernel
theorem dX11_keepText_81 : decode cX11_keepText 81 = .ok (.putfield 146, 3) := by decide +kernel
theorem dX11_keepText_84 : decode cX11_keepText 84 = .ok (.aload_n 0, 1) := by decide +kernel
theorem dX11_keepText_85 : decode cX11_keepText 85 = .ok (.iconst 0, 1) := by decide +kernel
theorem dX11_keepText_86 : decode cX11_keepText 86 = .ok (.putfield 149, 3) := by decide +kernel
theorem dX11_keepText_89 : decode cX11_keepText 89 = .ok (.iconst 0, 1) := by decide +kernel
theorem dX11_keepText_90 : decode cX11_keepText 90 = .ok (.istore_n 1, 1) := by decide +kernel
theorem dX11_keepText_91 : decode cX11_keepText 91 = .ok (.iload_n 1, 1) := by decide +kernel
theorem dX11_keepText_92 : decode cX11_keepText 92 = .ok (.sipush 298, 3) := by decide +kernel
theorem dX11_keepText_95 : decode cX11_keepText 95 = .ok (.if_icmp .ge 15, 3) := by decide +kernel
theorem dX11_keepText_98 : decode cX11_keepText 98 = .ok (.aload_n 0, 1) := by decide +kernel
theorem dX11_keepText_99 : decode cX11_keepText 99 = .ok (.iload_n 1, 1) := by decide +kernel
theorem dX11_keepText_100 : decode cX11_keepText 100 = .ok (.iconst 0, 1) := by decide +kernel
theorem dX11_keepText_101 : decode cX11_keepText 101 = .ok (.invokevirtual 153, 3) := by decide +kernel
theorem dX11_keepText_104 : decode cX11_keepText 104 = .ok (.iinc 1 1, 3) := by decide +kernel
theorem dX11_keepText_107 : decode cX11_keepText 107 = .ok (.goto (-16), 3) := by decide +kernel
theorem dX11_keepText_110 : decode cX11_keepText 110 = .ok (.iconst 0, 1) := by decide +kernel
theorem dX11_keepText_111 : decode cX11_keepText 111 = .ok (.istore_n 1, 1) := by decide +kernel
theorem dX11_keepText_112 : decode cX11_keepText 112 = .ok (.iload_n 1, 1) := by decide +kernel
theorem dX11_keepText_113 : decode cX11_keepText 113 = .ok (.iconst 5, 1) := by decide +kernel
theorem dX11_keepText_114 : decode cX11_keepText 114 = .ok (.if_icmp .ge 19, 3) := by decide +kernel
theorem dX11_keepText_117 : decode cX11_keepText 117 = .ok (.aload_n 0, 1) := by decide +kernel
theorem dX11_keepText_118 : decode cX11_keepText 118 = .ok (.sipush 293, 3) := by decide +kernel
theorem dX11_keepText_121 : decode cX11_keepText 121 = .ok (.iload_n 1, 1) := by decide +kernel
theorem dX11_keepText_122 : decode cX11_keepText 122 = .ok (.iadd, 1) := by decide +kernel
theorem dX11_keepText_123 : decode cX11_keepText 123 = .ok (.iconst (-1), 1) := by decide +kernel
theorem dX11_keepText_124 : decode cX11_keepText 124 = .ok (.invokevirtual 153, 3) := by decide +kernel
theorem dX11_keepText_127 : decode cX11_keepText 127 = .ok (.iinc 1 1, 3) := by decide +kernel
theorem dX11_keepText_130 : decode cX11_keepText 130 = .ok (.goto (-18), 3) := by decide +kernel
theorem dX11_keepText_133 : decode cX11_keepText 133 = .ok (.return_, 1) := by decide +kernel
theorem dX11_birdOf_0 : decode cX11_birdOf 0 = .ok (.aload_n 0, 1) := by decide +kernel
theorem dX11_birdOf_1 : decode cX11_birdOf 1 = .ok (.getfield 20, 3) := by decide +kernel
theorem dX11_birdOf_4 : decode cX11_birdOf 4 = .ok (.bipush 14, 2) := by decide +kernel
theorem dX11_birdOf_6 : decode cX11_birdOf 6 = .ok (.iload_n 1, 1) := by decide +kernel
theorem dX11_birdOf_7 : decode cX11_birdOf 7 = .ok (.imul, 1) := by decide +kernel
theorem dX11_birdOf_8 : decode cX11_birdOf 8 = .ok (.iload_n 2, 1) := by decide +kernel
theorem dX11_birdOf_9 : decode cX11_birdOf 9 = .ok (.iadd, 1) := by decide +kernel
theorem dX11_birdOf_10 : decode cX11_birdOf 10 = .ok (.iaload, 1) := by decide +kernel
theorem dX11_birdOf_11 : decode cX11_birdOf 11 = .ok (.ireturn, 1) := by decide +kernel
theorem dX11_readOf_0 : decode cX11_readOf 0 = .ok (.aload_n 0, 1) := by decide +kernel
theorem dX11_readOf_1 : decode cX11_readOf 1 = .ok (.getfield 20, 3) := by decide +kernel
theorem dX11_readOf_4 : decode cX11_readOf 4 = .ok (.bipush 70, 2) := by decide +kernel
theorem dX11_readOf_6 : decode cX11_readOf 6 = .ok (.bipush 14, 2) := by decide +kernel
theorem dX11_readOf_8 : decode cX11_readOf 8 = .ok (.iload_n 1, 1) := by decide +kernel
theorem dX11_readOf_9 : decode cX11_readOf 9 = .ok (.imul, 1) := by decide +kernel
theorem dX11_readOf_10 : decode cX11_readOf 10 = .ok (.iadd, 1) := by decide +kernel
theorem dX11_readOf_11 : decode cX11_readOf 11 = .ok (.iload_n 2, 1) := by decide +kernel
theorem dX11_readOf_12 : decode cX11_readOf 12 = .ok (.iadd, 1) := by decide +kernel
theorem dX11_readOf_13 : decode cX11_readOf 13 = .ok (.iaload, 1) := by decide +kernel
theorem dX11_readOf_14 : decode cX11_readOf 14 = .ok (.ireturn, 1) := by decide +kernel
theorem dX11_read_0 : decode cX11_read 0 = .ok (.aload_n 0, 1) := by decide +kernel
theorem dX11_read_1 : decode cX11_read 1 = .ok (.getfield 20, 3) := by decide +kernel
theorem dX11_read_4 : decode cX11_read 4 = .ok (.bipush 70, 2) := by decide +kernel
theorem dX11_read_6 : decode cX11_read 6 = .ok (.bipush 14, 2) := by decide +kernel
theorem dX11_read_8 : decode cX11_read 8 = .ok (.iload_n 1, 1) := by decide +kernel
theorem dX11_read_9 : decode cX11_read 9 = .ok (.imul, 1) := by decide +kernel
theorem dX11_read_10 : decode cX11_read 10 = .ok (.iadd, 1) := by decide +kernel
theorem dX11_read_11 : decode cX11_read 11 = .ok (.iload_n 2, 1) := by decide +kernel
theorem dX11_read_12 : decode cX11_read 12 = .ok (.iadd, 1) := by decide +kernel
theorem dX11_read_13 : decode cX11_read 13 = .ok (.iload_n 3, 1) := by decide +kernel
theorem dX11_read_14 : decode cX11_read 14 = .ok (.iastore, 1) := by decide +kernel
theorem dX11_read_15 : decode cX11_read 15 = .ok (.return_, 1) := by decide +kernel
theorem dX11_nameAt_0 : decode cX11_nameAt 0 = .ok (.iload_n 2, 1) := by decide +kernel
theorem dX11_nameAt_1 : decode cX11_nameAt 1 = .ok (.ifCond .eq 10, 3) := by decide +kernel
theorem dX11_nameAt_4 : decode cX11_nameAt 4 = .ok (.aload_n 0, 1) := by decide +kernel
theorem dX11_nameAt_5 : decode cX11_nameAt 5 = .ok (.getfield 115, 3) := by decide +kernel
theorem dX11_nameAt_8 : decode cX11_nameAt 8 = .ok (.goto 7, 3) := by decide +kernel
theorem dX11_nameAt_11 : decode cX11_nameAt 11 = .ok (.aload_n 0, 1) := by decide +kernel
theorem dX11_nameAt_12 : decode cX11_nameAt 12 = .ok (.getfield 121, 3) := by decide +kernel
theorem dX11_nameAt_15 : decode cX11_nameAt 15 = .ok (.istore_n 3, 1) := by decide +kernel
theorem dX11_nameAt_16 : decode cX11_nameAt 16 = .ok (.iconst 0, 1) := by decide +kernel
theorem dX11_nameAt_17 : decode cX11_nameAt 17 = .ok (.istore 4, 2) := by decide +kernel
theorem dX11_nameAt_19 : decode cX11_nameAt 19 = .ok (.iload 4, 2) := by decide +kernel
theorem dX11_nameAt_21 : decode cX11_nameAt 21 = .ok (.iload_n 3, 1) := by decide +kernel
theorem dX11_nameAt_22 : decode cX11_nameAt 22 = .ok (.if_icmp .ge 37, 3) := by decide +kernel
theorem dX11_nameAt_25 : decode cX11_nameAt 25 = .ok (.iload_n 2, 1) := by decide +kernel
theorem dX11_nameAt_26 : decode cX11_nameAt 26 = .ok (.ifCond .eq 13, 3) := by decide +kernel
theorem dX11_nameAt_29 : decode cX11_nameAt 29 = .ok (.aload_n 0, 1) := by decide +kernel
theorem dX11_nameAt_30 : decode cX11_nameAt 30 = .ok (.iload 4, 2) := by decide +kernel
theorem dX11_nameAt_32 : decode cX11_nameAt 32 = .ok (.iconst 0, 1) := by decide +kernel
theorem dX11_nameAt_33 : decode cX11_nameAt 33 = .ok (.invokevirtual 157, 3) := by decide +kernel
theorem dX11_nameAt_36 : decode cX11_nameAt 36 = .ok (.goto 10, 3) := by decide +kernel
theorem dX11_nameAt_39 : decode cX11_nameAt 39 = .ok (.aload_n 0, 1) := by decide +kernel
theorem dX11_nameAt_40 : decode cX11_nameAt 40 = .ok (.iload 4, 2) := by decide +kernel
theorem dX11_nameAt_42 : decode cX11_nameAt 42 = .ok (.iconst 0, 1) := by decide +kernel
theorem dX11_nameAt_43 : decode cX11_nameAt 43 = .ok (.invokevirtual 160, 3) := by decide +kernel
theorem dX11_nameAt_46 : decode cX11_nameAt 46 = .ok (.iload_n 1, 1) := by decide +kernel
theorem dX11_nameAt_47 : decode cX11_nameAt 47 = .ok (.if_icmp .ne 6, 3) := by decide +kernel
theorem dX11_nameAt_50 : decode cX11_nameAt 50 = .ok (.iload 4, 2) := by decide +kernel
theorem dX11_nameAt_52 : decode cX11_nameAt 52 = .ok (.ireturn, 1) := by decide +kernel
theorem dX11_nameAt_53 : decode cX11_nameAt 53 = .ok (.iinc 4 1, 3) := by decide +kernel
theorem dX11_nameAt_56 : decode cX11_nameAt 56 = .ok (.goto (-37), 3) := by decide +kernel
theorem dX11_nameAt_59 : decode cX11_nameAt 59 = .ok (.iconst (-1), 1) := by decide +kernel
theorem dX11_nameAt_60 : decode cX11_nameAt 60 = .ok (.ireturn, 1) := by decide +kernel
theorem dX11_number_0 : decode cX11_number 0 = .ok (.aload_n 0, 1) := by decide +kernel
theorem dX11_number_1 : decode cX11_number 1 = .ok (.getfield 94, 3) := by decide +kernel
theorem dX11_number_4 : decode cX11_number 4 = .ok (.iconst 3, 1) := by decide +kernel
theorem dX11_number_5 : decode cX11_number 5 = .ok (.if_icmp .eq 9, 3) := by decide +kernel
theorem dX11_number_8 : decode cX11_number 8 = .ok (.aload_n 0, 1) := by decide +kernel
theorem dX11_number_9 : decode cX11_number 9 = .ok (.iconst 1, 1) := by decide +kernel
theorem dX11_number_10 : decode cX11_number 10 = .ok (.invokevirtual 163, 3) := by decide +kernel
theorem dX11_number_13 : decode cX11_number 13 = .ok (.ireturn, 1) := by decide +kernel
theorem dX11_number_14 : decode cX11_number 14 = .ok (.aload_n 0, 1) := by decide +kernel
theorem dX11_number_15 : decode cX11_number 15 = .ok (.getfield 105, 3) := by decide +kernel
theorem dX11_number_18 : decode cX11_number 18 = .ok (.iload_n 1, 1) := by decide +kernel
theorem dX11_number_19 : decode cX11_number 19 = .ok (.iload_n 2, 1) := by decide +kernel
theorem dX11_number_20 : decode cX11_number 20 = .ok (.invokestatic 166, 3) := by decide +kernel
theorem dX11_number_23 : decode cX11_number 23 = .ok (.ifCond .ne 9, 3) := by decide +kernel
theorem dX11_number_26 : decode cX11_number 26 = .ok (.aload_n 0, 1) := by decide +kernel
theorem dX11_number_27 : decode cX11_number 27 = .ok (.iconst 2, 1) := by decide +kernel
theorem dX11_number_28 : decode cX11_number 28 = .ok (.invokevirtual 163, 3) := by decide +kernel
theorem dX11_number_31 : decode cX11_number 31 = .ok (.ireturn, 1) := by decide +kernel
theorem dX11_number_32 : decode cX11_number 32 = .ok (.aload_n 0, 1) := by decide +kernel
theorem dX11_number_33 : decode cX11_number 33 = .ok (.aload_n 0, 1) := by decide +kernel
theorem dX11_number_34 : decode cX11_number 34 = .ok (.getfield 105, 3) := by decide +kernel
theorem dX11_number_37 : decode cX11_number 37 = .ok (.putfield 170, 3) := by decide +kernel
theorem dX11_number_40 : decode cX11_number 40 = .ok (.aload_n 0, 1) := by decide +kernel
theorem dX11_number_41 : decode cX11_number 41 = .ok (.invokevirtual 173, 3) := by decide +kernel
theorem dX11_number_44 : decode cX11_number 44 = .ok (.iconst 1, 1) := by decide +kernel
theorem dX11_number_45 : decode cX11_number 45 = .ok (.ireturn, 1) := by decide +kernel
theorem dX11_birdRead_0 : decode cX11_birdRead 0 = .ok (.aload_n 0, 1) := by decide +kernel
theorem dX11_birdRead_1 : decode cX11_birdRead 1 = .ok (.invokevirtual 173, 3) := by decide +kernel
theorem dX11_birdRead_4 : decode cX11_birdRead 4 = .ok (.aload_n 0, 1) := by decide +kernel
theorem dX11_birdRead_5 : decode cX11_birdRead 5 = .ok (.getfield 94, 3) := by decide +kernel
theorem dX11_birdRead_8 : decode cX11_birdRead 8 = .ok (.iconst 2, 1) := by decide +kernel
theorem dX11_birdRead_9 : decode cX11_birdRead 9 = .ok (.if_icmp .eq 9, 3) := by decide +kernel
theorem dX11_birdRead_12 : decode cX11_birdRead 12 = .ok (.aload_n 0, 1) := by decide +kernel
theorem dX11_birdRead_13 : decode cX11_birdRead 13 = .ok (.iconst 1, 1) := by decide +kernel
theorem dX11_birdRead_14 : decode cX11_birdRead 14 = .ok (.invokevirtual 163, 3) := by decide +kernel
theorem dX11_birdRead_17 : decode cX11_birdRead 17 = .ok (.ireturn, 1) := by decide +kernel
theorem dX11_birdRead_18 : decode cX11_birdRead 18 = .ok (.aload_n 0, 1) := by decide +kernel
theorem dX11_birdRead_19 : decode cX11_birdRead 19 = .ok (.aload_n 0, 1) := by decide +kernel
theorem dX11_birdRead_20 : decode cX11_birdRead 20 = .ok (.aload_n 0, 1) := by decide +kernel
theorem dX11_birdRead_21 : decode cX11_birdRead 21 = .ok (.getfield 105, 3) := by decide +kernel
theorem dX11_birdRead_24 : decode cX11_birdRead 24 = .ok (.iconst 1, 1) := by decide +kernel
theorem dX11_birdRead_25 : decode cX11_birdRead 25 = .ok (.invokevirtual 176, 3) := by decide +kernel
theorem dX11_birdRead_28 : decode cX11_birdRead 28 = .ok (.putfield 170, 3) := by decide +kernel
theorem dX11_birdRead_31 : decode cX11_birdRead 31 = .ok (.aload_n 0, 1) := by decide +kernel
theorem dX11_birdRead_32 : decode cX11_birdRead 32 = .ok (.getfield 170, 3) := by decide +kernel
theorem dX11_birdRead_35 : decode cX11_birdRead 35 = .ok (.ifCond .ge 9, 3) := by decide +kernel
theorem dX11_birdRead_38 : decode cX11_birdRead 38 = .ok (.aload_n 0, 1) := by decide +kernel
theorem dX11_birdRead_39 : decode cX11_birdRead 39 = .ok (.iconst 4, 1) := by decide +kernel
theorem dX11_birdRead_40 : decode cX11_birdRead 40 = .ok (.invokevirtual 163, 3) := by decide +kernel
theorem dX11_birdRead_43 : decode cX11_birdRead 43 = .ok (.ireturn, 1) := by decide +kernel
theorem dX11_birdRead_44 : decode cX11_birdRead 44 = .ok (.iload_n 1, 1) := by decide +kernel
theorem dX11_birdRead_45 : decode cX11_birdRead 45 = .ok (.ifCond .lt 21, 3) := by decide +kernel
theorem dX11_birdRead_48 : decode cX11_birdRead 48 = .ok (.aload_n 0, 1) := by decide +kernel
theorem dX11_birdRead_49 : decode cX11_birdRead 49 = .ok (.aload_n 0, 1) := by decide +kernel
theorem dX11_birdRead_50 : decode cX11_birdRead 50 = .ok (.getfield 170, 3) := by decide +kernel
theorem dX11_birdRead_53 : decode cX11_birdRead 53 = .ok (.iload_n 1, 1) := by decide +kernel
theorem dX11_birdRead_54 : decode cX11_birdRead 54 = .ok (.invokevirtual 157, 3) := by decide +kernel
theorem dX11_birdRead_57 : decode cX11_birdRead 57 = .ok (.ifCond .le 9, 3) := by decide +kernel
theorem dX11_birdRead_60 : decode cX11_birdRead 60 = .ok (.aload_n 0, 1) := by decide +kernel
theorem dX11_birdRead_61 : decode cX11_birdRead 61 = .ok (.iconst 3, 1) := by decide +kernel
theorem dX11_birdRead_62 : decode cX11_birdRead 62 = .ok (.invokevirtual 163, 3) := by decide +kernel
theorem dX11_birdRead_65 : decode cX11_birdRead 65 = .ok (.ireturn, 1) := by decide +kernel
theorem dX11_birdRead_66 : decode cX11_birdRead 66 = .ok (.aload_n 0, 1) := by decide +kernel
theorem dX11_birdRead_67 : decode cX11_birdRead 67 = .ok (.invokevirtual 173, 3) := by decide +kernel
theorem dX11_birdRead_70 : decode cX11_birdRead 70 = .ok (.iconst 1, 1) := by decide +kernel
theorem dX11_birdRead_71 : decode cX11_birdRead 71 = .ok (.ireturn, 1) := by decide +kernel
theorem dX11_birdLine_0 : decode cX11_birdLine 0 = .ok (.aload_n 0, 1) := by decide +kernel
theorem dX11_birdLine_1 : decode cX11_birdLine 1 = .ok (.getfield 115, 3) := by decide +kernel
theorem dX11_birdLine_4 : decode cX11_birdLine 4 = .ok (.iconst 5, 1) := by decide +kernel
theorem dX11_birdLine_5 : decode cX11_birdLine 5 = .ok (.if_icmp .ne 9, 3) := by decide +kernel
theorem dX11_birdLine_8 : decode cX11_birdLine 8 = .ok (.aload_n 0, 1) := by decide +kernel
theorem dX11_birdLine_9 : decode cX11_birdLine 9 = .ok (.iconst 2, 1) := by decide +kernel
theorem dX11_birdLine_10 : decode cX11_birdLine 10 = .ok (.invokevirtual 163, 3) := by decide +kernel
theorem dX11_birdLine_13 : decode cX11_birdLine 13 = .ok (.ireturn, 1) := by decide +kernel
theorem dX11_birdLine_14 : decode cX11_birdLine 14 = .ok (.aload_n 0, 1) := by decide +kernel
theorem dX11_birdLine_15 : decode cX11_birdLine 15 = .ok (.invokevirtual 173, 3) := by decide +kernel
theorem dX11_birdLine_18 : decode cX11_birdLine 18 = .ok (.aload_n 0, 1) := by decide +kernel
theorem dX11_birdLine_19 : decode cX11_birdLine 19 = .ok (.getfield 94, 3) := by decide +kernel
theorem dX11_birdLine_22 : decode cX11_birdLine 22 = .ok (.iconst 2, 1) := by decide +kernel
theorem dX11_birdLine_23 : decode cX11_birdLine 23 = .ok (.if_icmp .eq 9, 3) := by decide +kernel
theorem dX11_birdLine_26 : decode cX11_birdLine 26 = .ok (.aload_n 0, 1) := by decide +kernel
theorem dX11_birdLine_27 : decode cX11_birdLine 27 = .ok (.iconst 1, 1) := by decide +kernel
theorem dX11_birdLine_28 : decode cX11_birdLine 28 = .ok (.invokevirtual 163, 3) := by decide +kernel
theorem dX11_birdLine_31 : decode cX11_birdLine 31 = .ok (.ireturn, 1) := by decide +kernel
theorem dX11_birdLine_32 : decode cX11_birdLine 32 = .ok (.aload_n 0, 1) := by decide +kernel
theorem dX11_birdLine_33 : decode cX11_birdLine 33 = .ok (.aload_n 0, 1) := by decide +kernel
theorem dX11_birdLine_34 : decode cX11_birdLine 34 = .ok (.getfield 105, 3) := by decide +kernel
theorem dX11_birdLine_37 : decode cX11_birdLine 37 = .ok (.iconst 1, 1) := by decide +kernel
theorem dX11_birdLine_38 : decode cX11_birdLine 38 = .ok (.invokevirtual 176, 3) := by decide +kernel
theorem dX11_birdLine_41 : decode cX11_birdLine 41 = .ok (.ifCond .lt 9, 3) := by decide +kernel
theorem dX11_birdLine_44 : decode cX11_birdLine 44 = .ok (.aload_n 0, 1) := by decide +kernel
theorem dX11_birdLine_45 : decode cX11_birdLine 45 = .ok (.iconst 3, 1) := by decide +kernel
theorem dX11_birdLine_46 : decode cX11_birdLine 46 = .ok (.invokevirtual 163, 3) := by decide +kernel
theorem dX11_birdLine_49 : decode cX11_birdLine 49 = .ok (.ireturn, 1) := by decide +kernel
theorem dX11_birdLine_50 : decode cX11_birdLine 50 = .ok (.iconst 0, 1) := by decide +kernel
theorem dX11_birdLine_51 : decode cX11_birdLine 51 = .ok (.istore_n 1, 1) := by decide +kernel
theorem dX11_birdLine_52 : decode cX11_birdLine 52 = .ok (.iload_n 1, 1) := by decide +kernel
theorem dX11_birdLine_53 : decode cX11_birdLine 53 = .ok (.bipush 14, 2) := by decide +kernel
theorem dX11_birdLine_55 : decode cX11_birdLine 55 = .ok (.if_icmp .ge 19, 3) := by decide +kernel
theorem dX11_birdLine_58 : decode cX11_birdLine 58 = .ok (.aload_n 0, 1) := by decide +kernel
theorem dX11_birdLine_59 : decode cX11_birdLine 59 = .ok (.aload_n 0, 1) := by decide +kernel
theorem dX11_birdLine_60 : decode cX11_birdLine 60 = .ok (.getfield 115, 3) := by decide +kernel
theorem dX11_birdLine_63 : decode cX11_birdLine 63 = .ok (.iload_n 1, 1) := by decide +kernel
theorem dX11_birdLine_64 : decode cX11_birdLine 64 = .ok (.iconst 0, 1) := by decide +kernel
theorem dX11_birdLine_65 : decode cX11_birdLine 65 = .ok (.invokevirtual 180, 3) := by decide +kernel
theorem dX11_birdLine_68 : decode cX11_birdLine 68 = .ok (.iinc 1 1, 3) := by decide +kernel
theorem dX11_birdLine_71 : decode cX11_birdLine 71 = .ok (.goto (-19), 3) := by decide +kernel
theorem dX11_birdLine_74 : decode cX11_birdLine 74 = .ok (.aload_n 0, 1) := by decide +kernel
theorem dX11_birdLine_75 : decode cX11_birdLine 75 = .ok (.aload_n 0, 1) := by decide +kernel
theorem dX11_birdLine_76 : decode cX11_birdLine 76 = .ok (.getfield 115, 3) := by decide +kernel
theorem dX11_birdLine_79 : decode cX11_birdLine 79 = .ok (.iconst 0, 1) := by decide +kernel
theorem dX11_birdLine_80 : decode cX11_birdLine 80 = .ok (.aload_n 0, 1) := by decide +kernel
theorem dX11_birdLine_81 : decode cX11_birdLine 81 = .ok (.getfield 105, 3) := by decide +kernel
theorem dX11_birdLine_84 : decode cX11_birdLine 84 = .ok (.invokevirtual 180, 3) := by decide +kernel
theorem dX11_birdLine_87 : decode cX11_birdLine 87 = .ok (.aload_n 0, 1) := by decide +kernel
theorem dX11_birdLine_88 : decode cX11_birdLine 88 = .ok (.invokevirtual 173, 3) := by decide +kernel
theorem dX11_birdLine_91 : decode cX11_birdLine 91 = .ok (.aload_n 0, 1) := by decide +kernel
theorem dX11_birdLine_92 : decode cX11_birdLine 92 = .ok (.iconst 0, 1) := by decide +kernel
theorem dX11_birdLine_93 : decode cX11_birdLine 93 = .ok (.bipush 30, 2) := by decide +kernel
theorem dX11_birdLine_95 : decode cX11_birdLine 95 = .ok (.invokevirtual 184, 3) := by decide +kernel
theorem dX11_birdLine_98 : decode cX11_birdLine 98 = .ok (.ifCond .ne 5, 3) := by decide +kernel
theorem dX11_birdLine_101 : decode cX11_birdLine 101 = .ok (.iconst 0, 1) := by decide +kernel
theorem dX11_birdLine_102 : decode cX11_birdLine 102 = .ok (.ireturn, 1) := by decide +kernel
theorem dX11_birdLine_103 : decode cX11_birdLine 103 = .ok (.aload_n 0, 1) := by decide +kernel
theorem dX11_birdLine_104 : decode cX11_birdLine 104 = .ok (.aload_n 0, 1) := by decide +kernel
theorem dX11_birdLine_105 : decode cX11_birdLine 105 = .ok (.getfield 115, 3) := by decide +kernel
theorem dX11_birdLine_108 : decode cX11_birdLine 108 = .ok (.iconst 1, 1) := by decide +kernel
theorem dX11_birdLine_109 : decode cX11_birdLine 109 = .ok (.aload_n 0, 1) := by decide +kernel
theorem dX11_birdLine_110 : decode cX11_birdLine 110 = .ok (.getfield 170, 3) := by decide +kernel
theorem dX11_birdLine_113 : decode cX11_birdLine 113 = .ok (.invokevirtual 180, 3) := by decide +kernel
theorem dX11_birdLine_116 : decode cX11_birdLine 116 = .ok (.aload_n 0, 1) := by decide +kernel
theorem dX11_birdLine_117 : decode cX11_birdLine 117 = .ok (.dup, 1) := by decide +kernel
theorem dX11_birdLine_118 : decode cX11_birdLine 118 = .ok (.getfield 115, 3) := by decide +kernel
theorem dX11_birdLine_121 : decode cX11_birdLine 121 = .ok (.iconst 1, 1) := by decide +kernel
theorem dX11_birdLine_122 : decode cX11_birdLine 122 = .ok (.iadd, 1) := by decide +kernel
theorem dX11_birdLine_123 : decode cX11_birdLine 123 = .ok (.putfield 115, 3) := by decide +kernel
theorem dX11_birdLine_126 : decode cX11_birdLine 126 = .ok (.iconst 1, 1) := by decide +kernel
theorem dX11_birdLine_127 : decode cX11_birdLine 127 = .ok (.ireturn, 1) := by decide +kernel
theorem dX11_heardLine_0 : decode cX11_heardLine 0 = .ok (.aload_n 0, 1) := by decide +kernel
theorem dX11_heardLine_1 : decode cX11_heardLine 1 = .ok (.iconst 2, 1) := by decide +kernel
theorem dX11_heardLine_2 : decode cX11_heardLine 2 = .ok (.invokevirtual 188, 3) := by decide +kernel
theorem dX11_heardLine_5 : decode cX11_heardLine 5 = .ok (.ifCond .ne 5, 3) := by decide +kernel
theorem dX11_heardLine_8 : decode cX11_heardLine 8 = .ok (.iconst 0, 1) := by decide +kernel
theorem dX11_heardLine_9 : decode cX11_heardLine 9 = .ok (.ireturn, 1) := by decide +kernel
theorem dX11_heardLine_10 : decode cX11_heardLine 10 = .ok (.aload_n 0, 1) := by decide +kernel
theorem dX11_heardLine_11 : decode cX11_heardLine 11 = .ok (.getfield 170, 3) := by decide +kernel
theorem dX11_heardLine_14 : decode cX11_heardLine 14 = .ok (.istore_n 1, 1) := by decide +kernel
theorem dX11_heardLine_15 : decode cX11_heardLine 15 = .ok (.aload_n 0, 1) := by decide +kernel
theorem dX11_heardLine_16 : decode cX11_heardLine 16 = .ok (.iload_n 1, 1) := by decide +kernel
theorem dX11_heardLine_17 : decode cX11_heardLine 17 = .ok (.iconst 2, 1) := by decide +kernel
theorem dX11_heardLine_18 : decode cX11_heardLine 18 = .ok (.iconst 1, 1) := by decide +kernel
theorem dX11_heardLine_19 : decode cX11_heardLine 19 = .ok (.invokevirtual 180, 3) := by decide +kernel
theorem dX11_heardLine_22 : decode cX11_heardLine 22 = .ok (.iconst 3, 1) := by decide +kernel
theorem dX11_heardLine_23 : decode cX11_heardLine 23 = .ok (.istore_n 2, 1) := by decide +kernel
theorem dX11_heardLine_24 : decode cX11_heardLine 24 = .ok (.iload_n 2, 1) := by decide +kernel
theorem dX11_heardLine_25 : decode cX11_heardLine 25 = .ok (.bipush 6, 2) := by decide +kernel
theorem dX11_heardLine_27 : decode cX11_heardLine 27 = .ok (.if_icmp .gt 71, 3) := by decide +kernel
theorem dX11_heardLine_30 : decode cX11_heardLine 30 = .ok (.aload_n 0, 1) := by decide +kernel
theorem dX11_heardLine_31 : decode cX11_heardLine 31 = .ok (.iload_n 2, 1) := by decide +kernel
theorem dX11_heardLine_32 : decode cX11_heardLine 32 = .ok (.bipush 6, 2) := by decide +kernel
theorem dX11_heardLine_34 : decode cX11_heardLine 34 = .ok (.if_icmp .ne 7, 3) := by decide +kernel
theorem dX11_heardLine_37 : decode cX11_heardLine 37 = .ok (.iconst 1, 1) := by decide +kernel
theorem dX11_heardLine_38 : decode cX11_heardLine 38 = .ok (.goto 4, 3) := by decide +kernel
theorem dX11_heardLine_41 : decode cX11_heardLine 41 = .ok (.iconst 0, 1) := by decide +kernel
theorem dX11_heardLine_42 : decode cX11_heardLine 42 = .ok (.iload_n 2, 1) := by decide +kernel
theorem dX11_heardLine_43 : decode cX11_heardLine 43 = .ok (.iconst 3, 1) := by decide +kernel
theorem dX11_heardLine_44 : decode cX11_heardLine 44 = .ok (.if_icmp .ne 8, 3) := by decide +kernel
theorem dX11_heardLine_47 : decode cX11_heardLine 47 = .ok (.bipush 61, 2) := by decide +kernel
theorem dX11_heardLine_49 : decode cX11_heardLine 49 = .ok (.goto 25, 3) := by decide +kernel
theorem dX11_heardLine_52 : decode cX11_heardLine 52 = .ok (.iload_n 2, 1) := by decide +kernel
theorem dX11_heardLine_53 : decode cX11_heardLine 53 = .ok (.iconst 4, 1) := by decide +kernel
theorem dX11_heardLine_54 : decode cX11_heardLine 54 = .ok (.if_icmp .ne 8, 3) := by decide +kernel
theorem dX11_heardLine_57 : decode cX11_heardLine 57 = .ok (.bipush 14, 2) := by decide +kernel
theorem dX11_heardLine_59 : decode cX11_heardLine 59 = .ok (.goto 15, 3) := by decide +kernel
theorem dX11_heardLine_62 : decode cX11_heardLine 62 = .ok (.iload_n 2, 1) := by decide +kernel
theorem dX11_heardLine_63 : decode cX11_heardLine 63 = .ok (.iconst 5, 1) := by decide +kernel
theorem dX11_heardLine_64 : decode cX11_heardLine 64 = .ok (.if_icmp .ne 8, 3) := by decide +kernel
theorem dX11_heardLine_67 : decode cX11_heardLine 67 = .ok (.bipush 15, 2) := by decide +kernel
theorem dX11_heardLine_69 : decode cX11_heardLine 69 = .ok (.goto 5, 3) := by decide +kernel
theorem dX11_heardLine_72 : decode cX11_heardLine 72 = .ok (.bipush 9, 2) := by decide +kernel
theorem dX11_heardLine_74 : decode cX11_heardLine 74 = .ok (.invokevirtual 184, 3) := by decide +kernel
theorem dX11_heardLine_77 : decode cX11_heardLine 77 = .ok (.ifCond .ne 5, 3) := by decide +kernel
theorem dX11_heardLine_80 : decode cX11_heardLine 80 = .ok (.iconst 0, 1) := by decide +kernel
theorem dX11_heardLine_81 : decode cX11_heardLine 81 = .ok (.ireturn, 1) := by decide +kernel
theorem dX11_heardLine_82 : decode cX11_heardLine 82 = .ok (.aload_n 0, 1) := by decide +kernel
theorem dX11_heardLine_83 : decode cX11_heardLine 83 = .ok (.iload_n 1, 1) := by decide +kernel
theorem dX11_heardLine_84 : decode cX11_heardLine 84 = .ok (.iload_n 2, 1) := by decide +kernel
theorem dX11_heardLine_85 : decode cX11_heardLine 85 = .ok (.aload_n 0, 1) := by decide +kernel
theorem dX11_heardLine_86 : decode cX11_heardLine 86 = .ok (.getfield 170, 3) := by decide +kernel
theorem dX11_heardLine_89 : decode cX11_heardLine 89 = .ok (.invokevirtual 180, 3) := by decide +kernel
theorem dX11_heardLine_92 : decode cX11_heardLine 92 = .ok (.iinc 2 1, 3) := by decide +kernel
theorem dX11_heardLine_95 : decode cX11_heardLine 95 = .ok (.goto (-71), 3) := by decide +kernel
theorem dX11_heardLine_98 : decode cX11_heardLine 98 = .ok (.iconst 1, 1) := by decide +kernel
theorem dX11_heardLine_99 : decode cX11_heardLine 99 = .ok (.ireturn, 1) := by decide +kernel
theorem dX11_oneLine_0 : decode cX11_oneLine 0 = .ok (.aload_n 0, 1) := by decide +kernel
theorem dX11_oneLine_1 : decode cX11_oneLine 1 = .ok (.iload_n 1, 1) := by decide +kernel
theorem dX11_oneLine_2 : decode cX11_oneLine 2 = .ok (.invokevirtual 188, 3) := by decide +kernel
theorem dX11_oneLine_5 : decode cX11_oneLine 5 = .ok (.ifCond .ne 5, 3) := by decide +kernel
theorem dX11_oneLine_8 : decode cX11_oneLine 8 = .ok (.iconst 0, 1) := by decide +kernel
theorem dX11_oneLine_9 : decode cX11_oneLine 9 = .ok (.ireturn, 1) := by decide +kernel
theorem dX11_oneLine_10 : decode cX11_oneLine 10 = .ok (.aload_n 0, 1) := by decide +kernel
theorem dX11_oneLine_11 : decode cX11_oneLine 11 = .ok (.getfield 170, 3) := by decide +kernel
theorem dX11_oneLine_14 : decode cX11_oneLine 14 = .ok (.istore_n 3, 1) := by decide +kernel
theorem dX11_oneLine_15 : decode cX11_oneLine 15 = .ok (.aload_n 0, 1) := by decide +kernel
theorem dX11_oneLine_16 : decode cX11_oneLine 16 = .ok (.iconst 1, 1) := by decide +kernel
theorem dX11_oneLine_17 : decode cX11_oneLine 17 = .ok (.iload_n 2, 1) := by decide +kernel
theorem dX11_oneLine_18 : decode cX11_oneLine 18 = .ok (.invokevirtual 184, 3) := by decide +kernel
theorem dX11_oneLine_21 : decode cX11_oneLine 21 = .ok (.ifCond .ne 5, 3) := by decide +kernel
theorem dX11_oneLine_24 : decode cX11_oneLine 24 = .ok (.iconst 0, 1) := by decide +kernel
theorem dX11_oneLine_25 : decode cX11_oneLine 25 = .ok (.ireturn, 1) := by decide +kernel
theorem dX11_oneLine_26 : decode cX11_oneLine 26 = .ok (.aload_n 0, 1) := by decide +kernel
theorem dX11_oneLine_27 : decode cX11_oneLine 27 = .ok (.iload_n 3, 1) := by decide +kernel
theorem dX11_oneLine_28 : decode cX11_oneLine 28 = .ok (.iload_n 1, 1) := by decide +kernel
theorem dX11_oneLine_29 : decode cX11_oneLine 29 = .ok (.aload_n 0, 1) := by decide +kernel
theorem dX11_oneLine_30 : decode cX11_oneLine 30 = .ok (.getfield 170, 3) := by decide +kernel
theorem dX11_oneLine_33 : decode cX11_oneLine 33 = .ok (.invokevirtual 180, 3) := by decide +kernel
theorem dX11_oneLine_36 : decode cX11_oneLine 36 = .ok (.iconst 1, 1) := by decide +kernel
theorem dX11_oneLine_37 : decode cX11_oneLine 37 = .ok (.ireturn, 1) := by decide +kernel
theorem dX11_sendLine_0 : decode cX11_sendLine 0 = .ok (.aload_n 0, 1) := by decide +kernel
theorem dX11_sendLine_1 : decode cX11_sendLine 1 = .ok (.getfield 118, 3) := by decide +kernel
theorem dX11_sendLine_4 : decode cX11_sendLine 4 = .ok (.bipush 10, 2) := by decide +kernel
theorem dX11_sendLine_6 : decode cX11_sendLine 6 = .ok (.if_icmp .ne 9, 3) := by decide +kernel
theorem dX11_sendLine_9 : decode cX11_sendLine 9 = .ok (.aload_n 0, 1) := by decide +kernel
theorem dX11_sendLine_10 : decode cX11_sendLine 10 = .ok (.iconst 2, 1) := by decide +kernel
theorem dX11_sendLine_11 : decode cX11_sendLine 11 = .ok (.invokevirtual 163, 3) := by decide +kernel
theorem dX11_sendLine_14 : decode cX11_sendLine 14 = .ok (.ireturn, 1) := by decide +kernel
theorem dX11_sendLine_15 : decode cX11_sendLine 15 = .ok (.aload_n 0, 1) := by decide +kernel
theorem dX11_sendLine_16 : decode cX11_sendLine 16 = .ok (.iconst (-1), 1) := by decide +kernel
theorem dX11_sendLine_17 : decode cX11_sendLine 17 = .ok (.invokevirtual 188, 3) := by decide +kernel
theorem dX11_sendLine_20 : decode cX11_sendLine 20 = .ok (.ifCond .ne 5, 3) := by decide +kernel
theorem dX11_sendLine_23 : decode cX11_sendLine 23 = .ok (.iconst 0, 1) := by decide +kernel
theorem dX11_sendLine_24 : decode cX11_sendLine 24 = .ok (.ireturn, 1) := by decide +kernel
theorem dX11_sendLine_25 : decode cX11_sendLine 25 = .ok (.bipush 30, 2) := by decide +kernel
theorem dX11_sendLine_27 : decode cX11_sendLine 27 = .ok (.iconst 3, 1) := by decide +kernel
theorem dX11_sendLine_28 : decode cX11_sendLine 28 = .ok (.aload_n 0, 1) := by decide +kernel
theorem dX11_sendLine_29 : decode cX11_sendLine 29 = .ok (.getfield 118, 3) := by decide +kernel
theorem dX11_sendLine_32 : decode cX11_sendLine 32 = .ok (.imul, 1) := by decide +kernel
theorem dX11_sendLine_33 : decode cX11_sendLine 33 = .ok (.iadd, 1) := by decide +kernel
theorem dX11_sendLine_34 : decode cX11_sendLine 34 = .ok (.istore_n 1, 1) := by decide +kernel
theorem dX11_sendLine_35 : decode cX11_sendLine 35 = .ok (.aload_n 0, 1) := by decide +kernel
theorem dX11_sendLine_36 : decode cX11_sendLine 36 = .ok (.getfield 23, 3) := by decide +kernel
theorem dX11_sendLine_39 : decode cX11_sendLine 39 = .ok (.iload_n 1, 1) := by decide +kernel
theorem dX11_sendLine_40 : decode cX11_sendLine 40 = .ok (.aload_n 0, 1) := by decide +kernel
theorem dX11_sendLine_41 : decode cX11_sendLine 41 = .ok (.getfield 170, 3) := by decide +kernel
theorem dX11_sendLine_44 : decode cX11_sendLine 44 = .ok (.iastore, 1) := by decide +kernel
theorem dX11_sendLine_45 : decode cX11_sendLine 45 = .ok (.aload_n 0, 1) := by decide +kernel
theorem dX11_sendLine_46 : decode cX11_sendLine 46 = .ok (.iconst 0, 1) := by decide +kernel
theorem dX11_sendLine_47 : decode cX11_sendLine 47 = .ok (.iconst 3, 1) := by decide +kernel
theorem dX11_sendLine_48 : decode cX11_sendLine 48 = .ok (.invokevirtual 184, 3) := by decide +kernel
theorem dX11_sendLine_51 : decode cX11_sendLine 51 = .ok (.ifCond .ne 5, 3) := by decide +kernel
theorem dX11_sendLine_54 : decode cX11_sendLine 54 = .ok (.iconst 0, 1) := by decide +kernel
theorem dX11_sendLine_55 : decode cX11_sendLine 55 = .ok (.ireturn, 1) := by decide +kernel
theorem dX11_sendLine_56 : decode cX11_sendLine 56 = .ok (.aload_n 0, 1) := by decide +kernel
theorem dX11_sendLine_57 : decode cX11_sendLine 57 = .ok (.getfield 23, 3) := by decide +kernel
theorem dX11_sendLine_60 : decode cX11_sendLine 60 = .ok (.iload_n 1, 1) := by decide +kernel
theorem dX11_sendLine_61 : decode cX11_sendLine 61 = .ok (.iconst 1, 1) := by decide +kernel
theorem dX11_sendLine_62 : decode cX11_sendLine 62 = .ok (.iadd, 1) := by decide +kernel
theorem dX11_sendLine_63 : decode cX11_sendLine 63 = .ok (.aload_n 0, 1) := by decide +kernel
theorem dX11_sendLine_64 : decode cX11_sendLine 64 = .ok (.getfield 170, 3) := by decide +kernel
theorem dX11_sendLine_67 : decode cX11_sendLine 67 = .ok (.iastore, 1) := by decide +kernel
theorem dX11_sendLine_68 : decode cX11_sendLine 68 = .ok (.aload_n 0, 1) := by decide +kernel
theorem dX11_sendLine_69 : decode cX11_sendLine 69 = .ok (.iconst 0, 1) := by decide +kernel
theorem dX11_sendLine_70 : decode cX11_sendLine 70 = .ok (.bipush 63, 2) := by decide +kernel
theorem dX11_sendLine_72 : decode cX11_sendLine 72 = .ok (.invokevirtual 184, 3) := by decide +kernel
theorem dX11_sendLine_75 : decode cX11_sendLine 75 = .ok (.ifCond .ne 5, 3) := by decide +kernel
theorem dX11_sendLine_78 : decode cX11_sendLine 78 = .ok (.iconst 0, 1) := by decide +kernel
theorem dX11_sendLine_79 : decode cX11_sendLine 79 = .ok (.ireturn, 1) := by decide +kernel
theorem dX11_sendLine_80 : decode cX11_sendLine 80 = .ok (.aload_n 0, 1) := by decide +kernel
theorem dX11_sendLine_81 : decode cX11_sendLine 81 = .ok (.getfield 23, 3) := by decide +kernel
theorem dX11_sendLine_84 : decode cX11_sendLine 84 = .ok (.iload_n 1, 1) := by decide +kernel
theorem dX11_sendLine_85 : decode cX11_sendLine 85 = .ok (.iconst 2, 1) := by decide +kernel
theorem dX11_sendLine_86 : decode cX11_sendLine 86 = .ok (.iadd, 1) := by decide +kernel
theorem dX11_sendLine_87 : decode cX11_sendLine 87 = .ok (.aload_n 0, 1) := by decide +kernel
theorem dX11_sendLine_88 : decode cX11_sendLine 88 = .ok (.getfield 170, 3) := by decide +kernel
theorem dX11_sendLine_91 : decode cX11_sendLine 91 = .ok (.iastore, 1) := by decide +kernel
theorem dX11_sendLine_92 : decode cX11_sendLine 92 = .ok (.aload_n 0, 1) := by decide +kernel
theorem dX11_sendLine_93 : decode cX11_sendLine 93 = .ok (.dup, 1) := by decide +kernel
theorem dX11_sendLine_94 : decode cX11_sendLine 94 = .ok (.getfield 118, 3) := by decide +kernel
theorem dX11_sendLine_97 : decode cX11_sendLine 97 = .ok (.iconst 1, 1) := by decide +kernel
theorem dX11_sendLine_98 : decode cX11_sendLine 98 = .ok (.iadd, 1) := by decide +kernel
theorem dX11_sendLine_99 : decode cX11_sendLine 99 = .ok (.putfield 118, 3) := by decide +kernel
theorem dX11_sendLine_102 : decode cX11_sendLine 102 = .ok (.aload_n 0, 1) := by decide +kernel
theorem dX11_sendLine_103 : decode cX11_sendLine 103 = .ok (.aload_n 0, 1) := by decide +kernel
theorem dX11_sendLine_104 : decode cX11_sendLine 104 = .ok (.getfield 23, 3) := by decide +kernel
theorem dX11_sendLine_107 : decode cX11_sendLine 107 = .ok (.iload_n 1, 1) := by decide +kernel
theorem dX11_sendLine_108 : decode cX11_sendLine 108 = .ok (.iaload, 1) := by decide +kernel
theorem dX11_sendLine_109 : decode cX11_sendLine 109 = .ok (.bipush 9, 2) := by decide +kernel
theorem dX11_sendLine_111 : decode cX11_sendLine 111 = .ok (.aload_n 0, 1) := by decide +kernel
theorem dX11_sendLine_112 : decode cX11_sendLine 112 = .ok (.aload_n 0, 1) := by decide +kernel
theorem dX11_sendLine_113 : decode cX11_sendLine 113 = .ok (.getfield 23, 3) := by decide +kernel
theorem dX11_sendLine_116 : decode cX11_sendLine 116 = .ok (.iload_n 1, 1) := by decide +kernel
theorem dX11_sendLine_117 : decode cX11_sendLine 117 = .ok (.iaload, 1) := by decide +kernel
theorem dX11_sendLine_118 : decode cX11_sendLine 118 = .ok (.bipush 9, 2) := by decide +kernel
theorem dX11_sendLine_120 : decode cX11_sendLine 120 = .ok (.invokevirtual 157, 3) := by decide +kernel
theorem dX11_sendLine_123 : decode cX11_sendLine 123 = .ok (.iconst 1, 1) := by decide +kernel
theorem dX11_sendLine_124 : decode cX11_sendLine 124 = .ok (.iadd, 1) := by decide +kernel
theorem dX11_sendLine_125 : decode cX11_sendLine 125 = .ok (.invokevirtual 180, 3) := by decide +kernel
theorem dX11_sendLine_128 : decode cX11_sendLine 128 = .ok (.iconst 1, 1) := by decide +kernel
theorem dX11_sendLine_129 : decode cX11_sendLine 129 = .ok (.ireturn, 1) := by decide +kernel
theorem dX11_placeLine_0 : decode cX11_placeLine 0 = .ok (.aload_n 0, 1) := by decide +kernel
theorem dX11_placeLine_1 : decode cX11_placeLine 1 = .ok (.bipush 10, 2) := by decide +kernel
theorem dX11_placeLine_3 : decode cX11_placeLine 3 = .ok (.invokevirtual 188, 3) := by decide +kernel
theorem dX11_placeLine_6 : decode cX11_placeLine 6 = .ok (.ifCond .ne 5, 3) := by decide +kernel
theorem dX11_placeLine_9 : decode cX11_placeLine 9 = .ok (.iconst 0, 1) := by decide +kernel
theorem dX11_placeLine_10 : decode cX11_placeLine 10 = .ok (.ireturn, 1) := by decide +kernel
theorem dX11_placeLine_11 : decode cX11_placeLine 11 = .ok (.aload_n 0, 1) := by decide +kernel
theorem dX11_placeLine_12 : decode cX11_placeLine 12 = .ok (.getfield 170, 3) := by decide +kernel
theorem dX11_placeLine_15 : decode cX11_placeLine 15 = .ok (.istore_n 1, 1) := by decide +kernel
theorem dX11_placeLine_16 : decode cX11_placeLine 16 = .ok (.aload_n 0, 1) := by decide +kernel
theorem dX11_placeLine_17 : decode cX11_placeLine 17 = .ok (.iload_n 1, 1) := by decide +kernel
theorem dX11_placeLine_18 : decode cX11_placeLine 18 = .ok (.bipush 10, 2) := by decide +kernel
theorem dX11_placeLine_20 : decode cX11_placeLine 20 = .ok (.iconst 1, 1) := by decide +kernel
theorem dX11_placeLine_21 : decode cX11_placeLine 21 = .ok (.invokevirtual 180, 3) := by decide +kernel
theorem dX11_placeLine_24 : decode cX11_placeLine 24 = .ok (.iconst 0, 1) := by decide +kernel
theorem dX11_placeLine_25 : decode cX11_placeLine 25 = .ok (.istore_n 2, 1) := by decide +kernel
theorem dX11_placeLine_26 : decode cX11_placeLine 26 = .ok (.iload_n 2, 1) := by decide +kernel
theorem dX11_placeLine_27 : decode cX11_placeLine 27 = .ok (.iconst 3, 1) := by decide +kernel
theorem dX11_placeLine_28 : decode cX11_placeLine 28 = .ok (.if_icmp .ge 34, 3) := by decide +kernel
theorem dX11_placeLine_31 : decode cX11_placeLine 31 = .ok (.aload_n 0, 1) := by decide +kernel
theorem dX11_placeLine_32 : decode cX11_placeLine 32 = .ok (.iconst 0, 1) := by decide +kernel
theorem dX11_placeLine_33 : decode cX11_placeLine 33 = .ok (.bipush 15, 2) := by decide +kernel
theorem dX11_placeLine_35 : decode cX11_placeLine 35 = .ok (.invokevirtual 184, 3) := by decide +kernel
theorem dX11_placeLine_38 : decode cX11_placeLine 38 = .ok (.ifCond .ne 5, 3) := by decide +kernel
theorem dX11_placeLine_41 : decode cX11_placeLine 41 = .ok (.iconst 0, 1) := by decide +kernel
theorem dX11_placeLine_42 : decode cX11_placeLine 42 = .ok (.ireturn, 1) := by decide +kernel
theorem dX11_placeLine_43 : decode cX11_placeLine 43 = .ok (.aload_n 0, 1) := by decide +kernel
theorem dX11_placeLine_44 : decode cX11_placeLine 44 = .ok (.iload_n 1, 1) := by decide +kernel
theorem dX11_placeLine_45 : decode cX11_placeLine 45 = .ok (.bipush 11, 2) := by decide +kernel
theorem dX11_placeLine_47 : decode cX11_placeLine 47 = .ok (.iload_n 2, 1) := by decide +kernel
theorem dX11_placeLine_48 : decode cX11_placeLine 48 = .ok (.iadd, 1) := by decide +kernel
theorem dX11_placeLine_49 : decode cX11_placeLine 49 = .ok (.aload_n 0, 1) := by decide +kernel
theorem dX11_placeLine_50 : decode cX11_placeLine 50 = .ok (.getfield 170, 3) := by decide +kernel
theorem dX11_placeLine_53 : decode cX11_placeLine 53 = .ok (.invokevirtual 180, 3) := by decide +kernel
theorem dX11_placeLine_56 : decode cX11_placeLine 56 = .ok (.iinc 2 1, 3) := by decide +kernel
theorem dX11_placeLine_59 : decode cX11_placeLine 59 = .ok (.goto (-33), 3) := by decide +kernel
theorem dX11_placeLine_62 : decode cX11_placeLine 62 = .ok (.iconst 1, 1) := by decide +kernel
theorem dX11_placeLine_63 : decode cX11_placeLine 63 = .ok (.ireturn, 1) := by decide +kernel
theorem dX11_homeLine_0 : decode cX11_homeLine 0 = .ok (.aload_n 0, 1) := by decide +kernel
theorem dX11_homeLine_1 : decode cX11_homeLine 1 = .ok (.getfield 29, 3) := by decide +kernel
theorem dX11_homeLine_4 : decode cX11_homeLine 4 = .ok (.bipush 6, 2) := by decide +kernel
theorem dX11_homeLine_6 : decode cX11_homeLine 6 = .ok (.baload, 1) := by decide +kernel
theorem dX11_homeLine_7 : decode cX11_homeLine 7 = .ok (.ifCond .eq 9, 3) := by decide +kernel
theorem dX11_homeLine_10 : decode cX11_homeLine 10 = .ok (.aload_n 0, 1) := by decide +kernel
theorem dX11_homeLine_11 : decode cX11_homeLine 11 = .ok (.iconst 3, 1) := by decide +kernel
theorem dX11_homeLine_12 : decode cX11_homeLine 12 = .ok (.invokevirtual 163, 3) := by decide +kernel
theorem dX11_homeLine_15 : decode cX11_homeLine 15 = .ok (.ireturn, 1) := by decide +kernel
theorem dX11_homeLine_16 : decode cX11_homeLine 16 = .ok (.aload_n 0, 1) := by decide +kernel
theorem dX11_homeLine_17 : decode cX11_homeLine 17 = .ok (.getfield 29, 3) := by decide +kernel
theorem dX11_homeLine_20 : decode cX11_homeLine 20 = .ok (.bipush 6, 2) := by decide +kernel
theorem dX11_homeLine_22 : decode cX11_homeLine 22 = .ok (.iconst 1, 1) := by decide +kernel
theorem dX11_homeLine_23 : decode cX11_homeLine 23 = .ok (.bastore, 1) := by decide +kernel
theorem dX11_homeLine_24 : decode cX11_homeLine 24 = .ok (.aload_n 0, 1) := by decide +kernel
theorem dX11_homeLine_25 : decode cX11_homeLine 25 = .ok (.invokevirtual 173, 3) := by decide +kernel
theorem dX11_homeLine_28 : decode cX11_homeLine 28 = .ok (.iconst 0, 1) := by decide +kernel
theorem dX11_homeLine_29 : decode cX11_homeLine 29 = .ok (.istore_n 1, 1) := by decide +kernel
theorem dX11_homeLine_30 : decode cX11_homeLine 30 = .ok (.iload_n 1, 1) := by decide +kernel
theorem dX11_homeLine_31 : decode cX11_homeLine 31 = .ok (.iconst 4, 1) := by decide +kernel
theorem dX11_homeLine_32 : decode cX11_homeLine 32 = .ok (.if_icmp .ge 44, 3) := by decide +kernel
theorem dX11_homeLine_35 : decode cX11_homeLine 35 = .ok (.aload_n 0, 1) := by decide +kernel
theorem dX11_homeLine_36 : decode cX11_homeLine 36 = .ok (.iconst 0, 1) := by decide +kernel
theorem dX11_homeLine_37 : decode cX11_homeLine 37 = .ok (.iload_n 1, 1) := by decide +kernel
theorem dX11_homeLine_38 : decode cX11_homeLine 38 = .ok (.iconst 3, 1) := by decide +kernel
theorem dX11_homeLine_39 : decode cX11_homeLine 39 = .ok (.if_icmp .ne 8, 3) := by decide +kernel
theorem dX11_homeLine_42 : decode cX11_homeLine 42 = .ok (.bipush 20, 2) := by decide +kernel
theorem dX11_homeLine_44 : decode cX11_homeLine 44 = .ok (.goto 5, 3) := by decide +kernel
theorem dX11_homeLine_47 : decode cX11_homeLine 47 = .ok (.bipush 15, 2) := by decide +kernel
theorem dX11_homeLine_49 : decode cX11_homeLine 49 = .ok (.invokevirtual 184, 3) := by decide +kernel
theorem dX11_homeLine_52 : decode cX11_homeLine 52 = .ok (.ifCond .ne 5, 3) := by decide +kernel
theorem dX11_homeLine_55 : decode cX11_homeLine 55 = .ok (.iconst 0, 1) := by decide +kernel
theorem dX11_homeLine_56 : decode cX11_homeLine 56 = .ok (.ireturn, 1) := by decide +kernel
theorem dX11_homeLine_57 : decode cX11_homeLine 57 = .ok (.aload_n 0, 1) := by decide +kernel
theorem dX11_homeLine_58 : decode cX11_homeLine 58 = .ok (.getfield 26, 3) := by decide +kernel
theorem dX11_homeLine_61 : decode cX11_homeLine 61 = .ok (.bipush 30, 2) := by decide +kernel
theorem dX11_homeLine_63 : decode cX11_homeLine 63 = .ok (.iload_n 1, 1) := by decide +kernel
theorem dX11_homeLine_64 : decode cX11_homeLine 64 = .ok (.iadd, 1) := by decide +kernel
theorem dX11_homeLine_65 : decode cX11_homeLine 65 = .ok (.aload_n 0, 1) := by decide +kernel
theorem dX11_homeLine_66 : decode cX11_homeLine 66 = .ok (.getfield 170, 3) := by decide +kernel
theorem dX11_homeLine_69 : decode cX11_homeLine 69 = .ok (.iastore, 1) := by decide +kernel
theorem dX11_homeLine_70 : decode cX11_homeLine 70 = .ok (.iinc 1 1, 3) := by decide +kernel
theorem dX11_homeLine_73 : decode cX11_homeLine 73 = .ok (.goto (-43), 3) := by decide +kernel
theorem dX11_homeLine_76 : decode cX11_homeLine 76 = .ok (.aload_n 0, 1) := by decide +kernel
theorem dX11_homeLine_77 : decode cX11_homeLine 77 = .ok (.getfield 26, 3) := by decide +kernel
theorem dX11_homeLine_80 : decode cX11_homeLine 80 = .ok (.bipush 29, 2) := by decide +kernel
theorem dX11_homeLine_82 : decode cX11_homeLine 82 = .ok (.iconst 1, 1) := by decide +kernel
theorem dX11_homeLine_83 : decode cX11_homeLine 83 = .ok (.iastore, 1) := by decide +kernel
theorem dX11_homeLine_84 : decode cX11_homeLine 84 = .ok (.iconst 1, 1) := by decide +kernel
theorem dX11_homeLine_85 : decode cX11_homeLine 85 = .ok (.ireturn, 1) := by decide +kernel
theorem dX11_wordLine_0 : decode cX11_wordLine 0 = .ok (.aload_n 0, 1) := by decide +kernel
theorem dX11_wordLine_1 : decode cX11_wordLine 1 = .ok (.getfield 105, 3) := by decide +kernel
theorem dX11_wordLine_4 : decode cX11_wordLine 4 = .ok (.istore_n 1, 1) := by decide +kernel
theorem dX11_wordLine_5 : decode cX11_wordLine 5 = .ok (.aload_n 0, 1) := by decide +kernel
theorem dX11_wordLine_6 : decode cX11_wordLine 6 = .ok (.getfield 29, 3) := by decide +kernel
theorem dX11_wordLine_9 : decode cX11_wordLine 9 = .ok (.iload_n 1, 1) := by decide +kernel
theorem dX11_wordLine_10 : decode cX11_wordLine 10 = .ok (.baload, 1) := by decide +kernel
theorem dX11_wordLine_11 : decode cX11_wordLine 11 = .ok (.ifCond .eq 9, 3) := by decide +kernel
theorem dX11_wordLine_14 : decode cX11_wordLine 14 = .ok (.aload_n 0, 1) := by decide +kernel
theorem dX11_wordLine_15 : decode cX11_wordLine 15 = .ok (.iconst 3, 1) := by decide +kernel
theorem dX11_wordLine_16 : decode cX11_wordLine 16 = .ok (.invokevirtual 163, 3) := by decide +kernel
theorem dX11_wordLine_19 : decode cX11_wordLine 19 = .ok (.ireturn, 1) := by decide +kernel
theorem dX11_wordLine_20 : decode cX11_wordLine 20 = .ok (.aload_n 0, 1) := by decide +kernel
theorem dX11_wordLine_21 : decode cX11_wordLine 21 = .ok (.getfield 29, 3) := by decide +kernel
theorem dX11_wordLine_24 : decode cX11_wordLine 24 = .ok (.iload_n 1, 1) := by decide +kernel
theorem dX11_wordLine_25 : decode cX11_wordLine 25 = .ok (.iconst 1, 1) := by decide +kernel
theorem dX11_wordLine_26 : decode cX11_wordLine 26 = .ok (.bastore, 1) := by decide +kernel
theorem dX11_wordLine_27 : decode cX11_wordLine 27 = .ok (.aload_n 0, 1) := by decide +kernel
theorem dX11_wordLine_28 : decode cX11_wordLine 28 = .ok (.invokevirtual 173, 3) := by decide +kernel
theorem dX11_wordLine_31 : decode cX11_wordLine 31 = .ok (.iload_n 1, 1) := by decide +kernel
theorem dX11_wordLine_32 : decode cX11_wordLine 32 = .ok (.bipush 7, 2) := by decide +kernel
theorem dX11_wordLine_34 : decode cX11_wordLine 34 = .ok (.if_icmp .eq 9, 3) := by decide +kernel
theorem dX11_wordLine_37 : decode cX11_wordLine 37 = .ok (.iload_n 1, 1) := by decide +kernel
theorem dX11_wordLine_38 : decode cX11_wordLine 38 = .ok (.bipush 8, 2) := by decide +kernel
theorem dX11_wordLine_40 : decode cX11_wordLine 40 = .ok (.if_icmp .ne 13, 3) := by decide +kernel
theorem dX11_wordLine_43 : decode cX11_wordLine 43 = .ok (.aload_n 0, 1) := by decide +kernel
theorem dX11_wordLine_44 : decode cX11_wordLine 44 = .ok (.iconst 1, 1) := by decide +kernel
theorem dX11_wordLine_45 : decode cX11_wordLine 45 = .ok (.bipush 31, 2) := by decide +kernel
theorem dX11_wordLine_47 : decode cX11_wordLine 47 = .ok (.invokevirtual 184, 3) := by decide +kernel
theorem dX11_wordLine_50 : decode cX11_wordLine 50 = .ok (.goto 43, 3) := by decide +kernel
theorem dX11_wordLine_53 : decode cX11_wordLine 53 = .ok (.iload_n 1, 1) := by decide +kernel
theorem dX11_wordLine_54 : decode cX11_wordLine 54 = .ok (.bipush 9, 2) := by decide +kernel
theorem dX11_wordLine_56 : decode cX11_wordLine 56 = .ok (.if_icmp .ne 13, 3) := by decide +kernel
theorem dX11_wordLine_59 : decode cX11_wordLine 59 = .ok (.aload_n 0, 1) := by decide +kernel
theorem dX11_wordLine_60 : decode cX11_wordLine 60 = .ok (.iconst 0, 1) := by decide +kernel
theorem dX11_wordLine_61 : decode cX11_wordLine 61 = .ok (.bipush 99, 2) := by decide +kernel
theorem dX11_wordLine_63 : decode cX11_wordLine 63 = .ok (.invokevirtual 184, 3) := by decide +kernel
theorem dX11_wordLine_66 : decode cX11_wordLine 66 = .ok (.goto 27, 3) := by decide +kernel
theorem dX11_wordLine_69 : decode cX11_wordLine 69 = .ok (.iload_n 1, 1) := by decide +kernel
theorem dX11_wordLine_70 : decode cX11_wordLine 70 = .ok (.bipush 10, 2) := by decide +kernel
theorem dX11_wordLine_72 : decode cX11_wordLine 72 = .ok (.if_icmp .ne 13, 3) := by decide +kernel
theorem dX11_wordLine_75 : decode cX11_wordLine 75 = .ok (.aload_n 0, 1) := by decide +kernel
theorem dX11_wordLine_76 : decode cX11_wordLine 76 = .ok (.iconst 0, 1) := by decide +kernel
theorem dX11_wordLine_77 : decode cX11_wordLine 77 = .ok (.ldc 114, 2) := by decide +kernel
theorem dX11_wordLine_79 : decode cX11_wordLine 79 = .ok (.invokevirtual 184, 3) := by decide +kernel
theorem dX11_wordLine_82 : decode cX11_wordLine 82 = .ok (.goto 11, 3) := by decide +kernel
theorem dX11_wordLine_85 : decode cX11_wordLine 85 = .ok (.aload_n 0, 1) := by decide +kernel
theorem dX11_wordLine_86 : decode cX11_wordLine 86 = .ok (.bipush 10, 2) := by decide +kernel
theorem dX11_wordLine_88 : decode cX11_wordLine 88 = .ok (.bipush 99, 2) := by decide +kernel
theorem dX11_wordLine_90 : decode cX11_wordLine 90 = .ok (.invokevirtual 184, 3) := by decide +kernel
theorem dX11_wordLine_93 : decode cX11_wordLine 93 = .ok (.istore_n 2, 1) := by decide +kernel
theorem dX11_wordLine_94 : decode cX11_wordLine 94 = .ok (.iload_n 2, 1) := by decide +kernel
theorem dX11_wordLine_95 : decode cX11_wordLine 95 = .ok (.ifCond .ne 5, 3) := by decide +kernel
theorem dX11_wordLine_98 : decode cX11_wordLine 98 = .ok (.iconst 0, 1) := by decide +kernel
theorem dX11_wordLine_99 : decode cX11_wordLine 99 = .ok (.ireturn, 1) := by decide +kernel
theorem dX11_wordLine_100 : decode cX11_wordLine 100 = .ok (.aload_n 0, 1) := by decide +kernel
theorem dX11_wordLine_101 : decode cX11_wordLine 101 = .ok (.getfield 26, 3) := by decide +kernel
theorem dX11_wordLine_104 : decode cX11_wordLine 104 = .ok (.bipush 17, 2) := by decide +kernel
theorem dX11_wordLine_106 : decode cX11_wordLine 106 = .ok (.iload_n 1, 1) := by decide +kernel
theorem dX11_wordLine_107 : decode cX11_wordLine 107 = .ok (.iadd, 1) := by decide +kernel
theorem dX11_wordLine_108 : decode cX11_wordLine 108 = .ok (.aload_n 0, 1) := by decide +kernel
theorem dX11_wordLine_109 : decode cX11_wordLine 109 = .ok (.getfield 170, 3) := by decide +kernel
theorem dX11_wordLine_112 : decode cX11_wordLine 112 = .ok (.iastore, 1) := by decide +kernel
theorem dX11_wordLine_113 : decode cX11_wordLine 113 = .ok (.iconst 1, 1) := by decide +kernel
theorem dX11_wordLine_114 : decode cX11_wordLine 114 = .ok (.ireturn, 1) := by decide +kernel
theorem dX11_lineRead_0 : decode cX11_lineRead 0 = .ok (.aload_n 0, 1) := by decide +kernel
theorem dX11_lineRead_1 : decode cX11_lineRead 1 = .ok (.getfield 94, 3) := by decide +kernel
theorem dX11_lineRead_4 : decode cX11_lineRead 4 = .ok (.iconst 1, 1) := by decide +kernel
theorem dX11_lineRead_5 : decode cX11_lineRead 5 = .ok (.if_icmp .eq 9, 3) := by decide +kernel
theorem dX11_lineRead_8 : decode cX11_lineRead 8 = .ok (.aload_n 0, 1) := by decide +kernel
theorem dX11_lineRead_9 : decode cX11_lineRead 9 = .ok (.iconst 1, 1) := by decide +kernel
theorem dX11_lineRead_10 : decode cX11_lineRead 10 = .ok (.invokevirtual 163, 3) := by decide +kernel
theorem dX11_lineRead_13 : decode cX11_lineRead 13 = .ok (.ireturn, 1) := by decide +kernel
theorem dX11_lineRead_14 : decode cX11_lineRead 14 = .ok (.aload_n 0, 1) := by decide +kernel
theorem dX11_lineRead_15 : decode cX11_lineRead 15 = .ok (.getfield 105, 3) := by decide +kernel
theorem dX11_lineRead_18 : decode cX11_lineRead 18 = .ok (.tableswitch 107 0 6 #[42, 50, 58, 70, 83, 91, 99], 42) := by decide +kernel
theorem dX11_lineRead_60 : decode cX11_lineRead 60 = .ok (.aload_n 0, 1) := by decide +kernel
theorem dX11_lineRead_61 : decode cX11_lineRead 61 = .ok (.invokevirtual 191, 3) := by decide +kernel
theorem dX11_lineRead_64 : decode cX11_lineRead 64 = .ok (.istore_n 1, 1) := by decide +kernel
theorem dX11_lineRead_65 : decode cX11_lineRead 65 = .ok (.goto 65, 3) := by decide +kernel
theorem dX11_lineRead_68 : decode cX11_lineRead 68 = .ok (.aload_n 0, 1) := by decide +kernel
theorem dX11_lineRead_69 : decode cX11_lineRead 69 = .ok (.invokevirtual 195, 3) := by decide +kernel
theorem dX11_lineRead_72 : decode cX11_lineRead 72 = .ok (.istore_n 1, 1) := by decide +kernel
theorem dX11_lineRead_73 : decode cX11_lineRead 73 = .ok (.goto 57, 3) := by decide +kernel
theorem dX11_lineRead_76 : decode cX11_lineRead 76 = .ok (.aload_n 0, 1) := by decide +kernel
theorem dX11_lineRead_77 : decode cX11_lineRead 77 = .ok (.bipush 7, 2) := by decide +kernel
theorem dX11_lineRead_79 : decode cX11_lineRead 79 = .ok (.bipush 20, 2) := by decide +kernel
theorem dX11_lineRead_81 : decode cX11_lineRead 81 = .ok (.invokevirtual 198, 3) := by decide +kernel
theorem dX11_lineRead_84 : decode cX11_lineRead 84 = .ok (.istore_n 1, 1) := by decide +kernel
theorem dX11_lineRead_85 : decode cX11_lineRead 85 = .ok (.goto 45, 3) := by decide +kernel
theorem dX11_lineRead_88 : decode cX11_lineRead 88 = .ok (.aload_n 0, 1) := by decide +kernel
theorem dX11_lineRead_89 : decode cX11_lineRead 89 = .ok (.bipush 8, 2) := by decide +kernel
theorem dX11_lineRead_91 : decode cX11_lineRead 91 = .ok (.sipush 199, 3) := by decide +kernel
theorem dX11_lineRead_94 : decode cX11_lineRead 94 = .ok (.invokevirtual 198, 3) := by decide +kernel
theorem dX11_lineRead_97 : decode cX11_lineRead 97 = .ok (.istore_n 1, 1) := by decide +kernel
theorem dX11_lineRead_98 : decode cX11_lineRead 98 = .ok (.goto 32, 3) := by decide +kernel
theorem dX11_lineRead_101 : decode cX11_lineRead 101 = .ok (.aload_n 0, 1) := by decide +kernel
theorem dX11_lineRead_102 : decode cX11_lineRead 102 = .ok (.invokevirtual 201, 3) := by decide +kernel
theorem dX11_lineRead_105 : decode cX11_lineRead 105 = .ok (.istore_n 1, 1) := by decide +kernel
theorem dX11_lineRead_106 : decode cX11_lineRead 106 = .ok (.goto 24, 3) := by decide +kernel
theorem dX11_lineRead_109 : decode cX11_lineRead 109 = .ok (.aload_n 0, 1) := by decide +kernel
theorem dX11_lineRead_110 : decode cX11_lineRead 110 = .ok (.invokevirtual 204, 3) := by decide +kernel
theorem dX11_lineRead_113 : decode cX11_lineRead 113 = .ok (.istore_n 1, 1) := by decide +kernel
theorem dX11_lineRead_114 : decode cX11_lineRead 114 = .ok (.goto 16, 3) := by decide +kernel
theorem dX11_lineRead_117 : decode cX11_lineRead 117 = .ok (.aload_n 0, 1) := by decide +kernel
theorem dX11_lineRead_118 : decode cX11_lineRead 118 = .ok (.invokevirtual 207, 3) := by decide +kernel
theorem dX11_lineRead_121 : decode cX11_lineRead 121 = .ok (.istore_n 1, 1) := by decide +kernel
theorem dX11_lineRead_122 : decode cX11_lineRead 122 = .ok (.goto 8, 3) := by decide +kernel
theorem dX11_lineRead_125 : decode cX11_lineRead 125 = .ok (.aload_n 0, 1) := by decide +kernel
theorem dX11_lineRead_126 : decode cX11_lineRead 126 = .ok (.invokevirtual 210, 3) := by decide +kernel
theorem dX11_lineRead_129 : decode cX11_lineRead 129 = .ok (.istore_n 1, 1) := by decide +kernel
theorem dX11_lineRead_130 : decode cX11_lineRead 130 = .ok (.iload_n 1, 1) := by decide +kernel
theorem dX11_lineRead_131 : decode cX11_lineRead 131 = .ok (.ifCond .ne 5, 3) := by decide +kernel
theorem dX11_lineRead_134 : decode cX11_lineRead 134 = .ok (.iconst 0, 1) := by decide +kernel
theorem dX11_lineRead_135 : decode cX11_lineRead 135 = .ok (.ireturn, 1) := by decide +kernel
theorem dX11_lineRead_136 : decode cX11_lineRead 136 = .ok (.aload_n 0, 1) := by decide +kernel
theorem dX11_lineRead_137 : decode cX11_lineRead 137 = .ok (.getfield 94, 3) := by decide +kernel
theorem dX11_lineRead_140 : decode cX11_lineRead 140 = .ok (.iconst 4, 1) := by decide +kernel
theorem dX11_lineRead_141 : decode cX11_lineRead 141 = .ok (.if_icmp .eq 9, 3) := by decide +kernel
theorem dX11_lineRead_144 : decode cX11_lineRead 144 = .ok (.aload_n 0, 1) := by decide +kernel
theorem dX11_lineRead_145 : decode cX11_lineRead 145 = .ok (.iconst 1, 1) := by decide +kernel
theorem dX11_lineRead_146 : decode cX11_lineRead 146 = .ok (.invokevirtual 163, 3) := by decide +kernel
theorem dX11_lineRead_149 : decode cX11_lineRead 149 = .ok (.ireturn, 1) := by decide +kernel
theorem dX11_lineRead_150 : decode cX11_lineRead 150 = .ok (.aload_n 0, 1) := by decide +kernel
theorem dX11_lineRead_151 : decode cX11_lineRead 151 = .ok (.invokevirtual 173, 3) := by decide +kernel
theorem dX11_lineRead_154 : decode cX11_lineRead 154 = .ok (.iconst 1, 1) := by decide +kernel
theorem dX11_lineRead_155 : decode cX11_lineRead 155 = .ok (.ireturn, 1) := by decide +kernel
theorem dX11_text_0 : decode cX11_text 0 = .ok (.aload_n 0, 1) := by decide +kernel
theorem dX11_text_1 : decode cX11_text 1 = .ok (.iconst 0, 1) := by decide +kernel
theorem dX11_text_2 : decode cX11_text 2 = .ok (.putfield 76, 3) := by decide +kernel
theorem dX11_text_5 : decode cX11_text 5 = .ok (.iload_n 1, 1) := by decide +kernel
theorem dX11_text_6 : decode cX11_text 6 = .ok (.ifCond .lt 11, 3) := by decide +kernel
theorem dX11_text_9 : decode cX11_text 9 = .ok (.iload_n 1, 1) := by decide +kernel
theorem dX11_text_10 : decode cX11_text 10 = .ok (.aload_n 0, 1) := by decide +kernel
theorem dX11_text_11 : decode cX11_text 11 = .ok (.getfield 79, 3) := by decide +kernel
theorem dX11_text_14 : decode cX11_text 14 = .ok (.if_icmp .le 6, 3) := by decide +kernel
theorem dX11_text_17 : decode cX11_text 17 = .ok (.bipush (-2), 2) := by decide +kernel
theorem dX11_text_19 : decode cX11_text 19 = .ok (.ireturn, 1) := by decide +kernel
theorem dX11_text_20 : decode cX11_text 20 = .ok (.aload_n 0, 1) := by decide +kernel
theorem dX11_text_21 : decode cX11_text 21 = .ok (.iload_n 1, 1) := by decide +kernel
theorem dX11_text_22 : decode cX11_text 22 = .ok (.putfield 88, 3) := by decide +kernel
theorem dX11_text_25 : decode cX11_text 25 = .ok (.aload_n 0, 1) := by decide +kernel
theorem dX11_text_26 : decode cX11_text 26 = .ok (.iconst 0, 1) := by decide +kernel
theorem dX11_text_27 : decode cX11_text 27 = .ok (.putfield 79, 3) := by decide +kernel
theorem dX11_text_30 : decode cX11_text 30 = .ok (.aload_n 0, 1) := by decide +kernel
theorem dX11_text_31 : decode cX11_text 31 = .ok (.iconst 0, 1) := by decide +kernel
theorem dX11_text_32 : decode cX11_text 32 = .ok (.putfield 82, 3) := by decide +kernel
theorem dX11_text_35 : decode cX11_text 35 = .ok (.aload_n 0, 1) := by decide +kernel
theorem dX11_text_36 : decode cX11_text 36 = .ok (.iconst (-1), 1) := by decide +kernel
theorem dX11_text_37 : decode cX11_text 37 = .ok (.putfield 16, 3) := by decide +kernel
theorem dX11_text_40 : decode cX11_text 40 = .ok (.aload_n 0, 1) := by decide +kernel
theorem dX11_text_41 : decode cX11_text 41 = .ok (.iconst 0, 1) := by decide +kernel
theorem dX11_text_42 : decode cX11_text 42 = .ok (.putfield 91, 3) := by decide +kernel
theorem dX11_text_45 : decode cX11_text 45 = .ok (.aload_n 0, 1) := by decide +kernel
theorem dX11_text_46 : decode cX11_text 46 = .ok (.invokevirtual 70, 3) := by decide +kernel
theorem dX11_text_49 : decode cX11_text 49 = .ok (.aload_n 0, 1) := by decide +kernel
theorem dX11_text_50 : decode cX11_text 50 = .ok (.invokevirtual 173, 3) := by decide +kernel
theorem dX11_text_53 : decode cX11_text 53 = .ok (.iconst 0, 1) := by decide +kernel
theorem dX11_text_54 : decode cX11_text 54 = .ok (.istore_n 2, 1) := by decide +kernel
theorem dX11_text_55 : decode cX11_text 55 = .ok (.aload_n 0, 1) := by decide +kernel
theorem dX11_text_56 : decode cX11_text 56 = .ok (.getfield 94, 3) := by decide +kernel
theorem dX11_text_59 : decode cX11_text 59 = .ok (.ifCond .eq 18, 3) := by decide +kernel
theorem dX11_text_62 : decode cX11_text 62 = .ok (.aload_n 0, 1) := by decide +kernel
theorem dX11_text_63 : decode cX11_text 63 = .ok (.invokevirtual 213, 3) := by decide +kernel
theorem dX11_text_66 : decode cX11_text 66 = .ok (.ifCond .ne 5, 3) := by decide +kernel
theorem dX11_text_69 : decode cX11_text 69 = .ok (.iconst (-1), 1) := by decide +kernel
theorem dX11_text_70 : decode cX11_text 70 = .ok (.ireturn, 1) := by decide +kernel
theorem dX11_text_71 : decode cX11_text 71 = .ok (.iinc 2 1, 3) := by decide +kernel
theorem dX11_text_74 : decode cX11_text 74 = .ok (.goto (-19), 3) := by decide +kernel
theorem dX11_text_77 : decode cX11_text 77 = .ok (.aload_n 0, 1) := by decide +kernel
theorem dX11_text_78 : decode cX11_text 78 = .ok (.invokevirtual 73, 3) := by decide +kernel
theorem dX11_text_81 : decode cX11_text 81 = .ok (.iload_n 2, 1) := by decide +kernel
theorem dX11_text_82 : decode cX11_text 82 = .ok (.ireturn, 1) := by decide +kernel
theorem dX11_fault_0 : decode cX11_fault 0 = .ok (.aload_n 0, 1) := by decide +kernel
theorem dX11_fault_1 : decode cX11_fault 1 = .ok (.iconst 0, 1) := by decide +kernel
theorem dX11_fault_2 : decode cX11_fault 2 = .ok (.putfield 76, 3) := by decide +kernel
theorem dX11_fault_5 : decode cX11_fault 5 = .ok (.iload_n 1, 1) := by decide +kernel
theorem dX11_fault_6 : decode cX11_fault 6 = .ok (.ifCond .ne 10, 3) := by decide +kernel
theorem dX11_fault_9 : decode cX11_fault 9 = .ok (.aload_n 0, 1) := by decide +kernel
theorem dX11_fault_10 : decode cX11_fault 10 = .ok (.getfield 82, 3) := by decide +kernel
theorem dX11_fault_13 : decode cX11_fault 13 = .ok (.goto 16, 3) := by decide +kernel
theorem dX11_fault_16 : decode cX11_fault 16 = .ok (.iload_n 1, 1) := by decide +kernel
theorem dX11_fault_17 : decode cX11_fault 17 = .ok (.iconst 1, 1) := by decide +kernel
theorem dX11_fault_18 : decode cX11_fault 18 = .ok (.if_icmp .ne 10, 3) := by decide +kernel
theorem dX11_fault_21 : decode cX11_fault 21 = .ok (.aload_n 0, 1) := by decide +kernel
theorem dX11_fault_22 : decode cX11_fault 22 = .ok (.getfield 16, 3) := by decide +kernel
theorem dX11_fault_25 : decode cX11_fault 25 = .ok (.goto 4, 3) := by decide +kernel
theorem dX11_fault_28 : decode cX11_fault 28 = .ok (.iconst (-1), 1) := by decide +kernel
theorem dX11_fault_29 : decode cX11_fault 29 = .ok (.ireturn, 1) := by decide +kernel
theorem dX11_named_0 : decode cX11_named 0 = .ok (.aload_n 0, 1) := by decide +kernel
theorem dX11_named_1 : decode cX11_named 1 = .ok (.iconst 0, 1) := by decide +kernel
theorem dX11_named_2 : decode cX11_named 2 = .ok (.putfield 76, 3) := by decide +kernel
theorem dX11_named_5 : decode cX11_named 5 = .ok (.aload_n 0, 1) := by decide +kernel
theorem dX11_named_6 : decode cX11_named 6 = .ok (.iload_n 1, 1) := by decide +kernel
theorem dX11_named_7 : decode cX11_named 7 = .ok (.iconst 0, 1) := by decide +kernel
theorem dX11_named_8 : decode cX11_named 8 = .ok (.invokevirtual 176, 3) := by decide +kernel
theorem dX11_named_11 : decode cX11_named 11 = .ok (.ireturn, 1) := by decide +kernel
theorem dX11_isBird_0 : decode cX11_isBird 0 = .ok (.iload_n 1, 1) := by decide +kernel
theorem dX11_isBird_1 : decode cX11_isBird 1 = .ok (.ifCond .lt 15, 3) := by decide +kernel
theorem dX11_isBird_4 : decode cX11_isBird 4 = .ok (.iload_n 1, 1) := by decide +kernel
theorem dX11_isBird_5 : decode cX11_isBird 5 = .ok (.aload_n 0, 1) := by decide +kernel
theorem dX11_isBird_6 : decode cX11_isBird 6 = .ok (.getfield 121, 3) := by decide +kernel
theorem dX11_isBird_9 : decode cX11_isBird 9 = .ok (.if_icmp .ge 7, 3) := by decide +kernel
theorem dX11_isBird_12 : decode cX11_isBird 12 = .ok (.iconst 1, 1) := by decide +kernel
theorem dX11_isBird_13 : decode cX11_isBird 13 = .ok (.goto 4, 3) := by decide +kernel
theorem dX11_isBird_16 : decode cX11_isBird 16 = .ok (.iconst 0, 1) := by decide +kernel
theorem dX11_isBird_17 : decode cX11_isBird 17 = .ok (.ireturn, 1) := by decide +kernel
theorem dX11_fails_0 : decode cX11_fails 0 = .ok (.aload_n 0, 1) := by decide +kernel
theorem dX11_fails_1 : decode cX11_fails 1 = .ok (.iload_n 1, 1) := by decide +kernel
theorem dX11_fails_2 : decode cX11_fails 2 = .ok (.putfield 76, 3) := by decide +kernel
theorem dX11_fails_5 : decode cX11_fails 5 = .ok (.iconst 0, 1) := by decide +kernel
theorem dX11_fails_6 : decode cX11_fails 6 = .ok (.ireturn, 1) := by decide +kernel
theorem dX11_bird_0 : decode cX11_bird 0 = .ok (.aload_n 0, 1) := by decide +kernel
theorem dX11_bird_1 : decode cX11_bird 1 = .ok (.iconst 0, 1) := by decide +kernel
theorem dX11_bird_2 : decode cX11_bird 2 = .ok (.putfield 76, 3) := by decide +kernel
theorem dX11_bird_5 : decode cX11_bird 5 = .ok (.aload_n 0, 1) := by decide +kernel
theorem dX11_bird_6 : decode cX11_bird 6 = .ok (.iload_n 1, 1) := by decide +kernel
theorem dX11_bird_7 : decode cX11_bird 7 = .ok (.invokevirtual 216, 3) := by decide +kernel
theorem dX11_bird_10 : decode cX11_bird 10 = .ok (.ifCond .ne 9, 3) := by decide +kernel
theorem dX11_bird_13 : decode cX11_bird 13 = .ok (.aload_n 0, 1) := by decide +kernel
theorem dX11_bird_14 : decode cX11_bird 14 = .ok (.iconst 1, 1) := by decide +kernel
theorem dX11_bird_15 : decode cX11_bird 15 = .ok (.invokevirtual 219, 3) := by decide +kernel
theorem dX11_bird_18 : decode cX11_bird 18 = .ok (.ireturn, 1) := by decide +kernel
theorem dX11_bird_19 : decode cX11_bird 19 = .ok (.iload_n 2, 1) := by decide +kernel
theorem dX11_bird_20 : decode cX11_bird 20 = .ok (.iconst 0, 1) := by decide +kernel
theorem dX11_bird_21 : decode cX11_bird 21 = .ok (.bipush 10, 2) := by decide +kernel
theorem dX11_bird_23 : decode cX11_bird 23 = .ok (.invokestatic 166, 3) := by decide +kernel
theorem dX11_bird_26 : decode cX11_bird 26 = .ok (.ifCond .ne 9, 3) := by decide +kernel
theorem dX11_bird_29 : decode cX11_bird 29 = .ok (.aload_n 0, 1) := by decide +kernel
theorem dX11_bird_30 : decode cX11_bird 30 = .ok (.iconst 2, 1) := by decide +kernel
theorem dX11_bird_31 : decode cX11_bird 31 = .ok (.invokevirtual 219, 3) := by decide +kernel
theorem dX11_bird_34 : decode cX11_bird 34 = .ok (.ireturn, 1) := by decide +kernel
theorem dX11_bird_35 : decode cX11_bird 35 = .ok (.iload_n 2, 1) := by decide +kernel
theorem dX11_bird_36 : decode cX11_bird 36 = .ok (.ifCond .ne 10, 3) := by decide +kernel
theorem dX11_bird_39 : decode cX11_bird 39 = .ok (.aload_n 0, 1) := by decide +kernel
theorem dX11_bird_40 : decode cX11_bird 40 = .ok (.iload_n 1, 1) := by decide +kernel
theorem dX11_bird_41 : decode cX11_bird 41 = .ok (.iconst 1, 1) := by decide +kernel
theorem dX11_bird_42 : decode cX11_bird 42 = .ok (.invokevirtual 160, 3) := by decide +kernel
theorem dX11_bird_45 : decode cX11_bird 45 = .ok (.ireturn, 1) := by decide +kernel
theorem dX11_bird_46 : decode cX11_bird 46 = .ok (.iload_n 2, 1) := by decide +kernel
theorem dX11_bird_47 : decode cX11_bird 47 = .ok (.iconst 5, 1) := by decide +kernel
theorem dX11_bird_48 : decode cX11_bird 48 = .ok (.if_icmp .ge 29, 3) := by decide +kernel
theorem dX11_bird_51 : decode cX11_bird 51 = .ok (.aload_n 0, 1) := by decide +kernel
theorem dX11_bird_52 : decode cX11_bird 52 = .ok (.iload_n 1, 1) := by decide +kernel
theorem dX11_bird_53 : decode cX11_bird 53 = .ok (.iconst 2, 1) := by decide +kernel
theorem dX11_bird_54 : decode cX11_bird 54 = .ok (.invokevirtual 160, 3) := by decide +kernel
theorem dX11_bird_57 : decode cX11_bird 57 = .ok (.iconst 1, 1) := by decide +kernel
theorem dX11_bird_58 : decode cX11_bird 58 = .ok (.if_icmp .ne 16, 3) := by decide +kernel
theorem dX11_bird_61 : decode cX11_bird 61 = .ok (.aload_n 0, 1) := by decide +kernel
theorem dX11_bird_62 : decode cX11_bird 62 = .ok (.iload_n 1, 1) := by decide +kernel
theorem dX11_bird_63 : decode cX11_bird 63 = .ok (.iconst 3, 1) := by decide +kernel
theorem dX11_bird_64 : decode cX11_bird 64 = .ok (.iload_n 2, 1) := by decide +kernel
theorem dX11_bird_65 : decode cX11_bird 65 = .ok (.iadd, 1) := by decide +kernel
theorem dX11_bird_66 : decode cX11_bird 66 = .ok (.iconst 1, 1) := by decide +kernel
theorem dX11_bird_67 : decode cX11_bird 67 = .ok (.isub, 1) := by decide +kernel
theorem dX11_bird_68 : decode cX11_bird 68 = .ok (.invokevirtual 160, 3) := by decide +kernel
theorem dX11_bird_71 : decode cX11_bird 71 = .ok (.goto 5, 3) := by decide +kernel
theorem dX11_bird_74 : decode cX11_bird 74 = .ok (.bipush (-2), 2) := by decide +kernel
theorem dX11_bird_76 : decode cX11_bird 76 = .ok (.ireturn, 1) := by decide +kernel
theorem dX11_bird_77 : decode cX11_bird 77 = .ok (.iload_n 2, 1) := by decide +kernel
theorem dX11_bird_78 : decode cX11_bird 78 = .ok (.bipush 7, 2) := by decide +kernel
theorem dX11_bird_80 : decode cX11_bird 80 = .ok (.if_icmp .ge 34, 3) := by decide +kernel
theorem dX11_bird_83 : decode cX11_bird 83 = .ok (.aload_n 0, 1) := by decide +kernel
theorem dX11_bird_84 : decode cX11_bird 84 = .ok (.iload_n 1, 1) := by decide +kernel
theorem dX11_bird_85 : decode cX11_bird 85 = .ok (.bipush 7, 2) := by decide +kernel
theorem dX11_bird_87 : decode cX11_bird 87 = .ok (.iload_n 2, 1) := by decide +kernel
theorem dX11_bird_88 : decode cX11_bird 88 = .ok (.iadd, 1) := by decide +kernel
theorem dX11_bird_89 : decode cX11_bird 89 = .ok (.iconst 5, 1) := by decide +kernel
theorem dX11_bird_90 : decode cX11_bird 90 = .ok (.isub, 1) := by decide +kernel
theorem dX11_bird_91 : decode cX11_bird 91 = .ok (.invokevirtual 160, 3) := by decide +kernel
theorem dX11_bird_94 : decode cX11_bird 94 = .ok (.ifCond .le 17, 3) := by decide +kernel
theorem dX11_bird_97 : decode cX11_bird 97 = .ok (.aload_n 0, 1) := by decide +kernel
theorem dX11_bird_98 : decode cX11_bird 98 = .ok (.iload_n 1, 1) := by decide +kernel
theorem dX11_bird_99 : decode cX11_bird 99 = .ok (.bipush 7, 2) := by decide +kernel
theorem dX11_bird_101 : decode cX11_bird 101 = .ok (.iload_n 2, 1) := by decide +kernel
theorem dX11_bird_102 : decode cX11_bird 102 = .ok (.iadd, 1) := by decide +kernel
theorem dX11_bird_103 : decode cX11_bird 103 = .ok (.iconst 5, 1) := by decide +kernel
theorem dX11_bird_104 : decode cX11_bird 104 = .ok (.isub, 1) := by decide +kernel
theorem dX11_bird_105 : decode cX11_bird 105 = .ok (.invokevirtual 160, 3) := by decide +kernel
theorem dX11_bird_108 : decode cX11_bird 108 = .ok (.goto 5, 3) := by decide +kernel
theorem dX11_bird_111 : decode cX11_bird 111 = .ok (.bipush (-2), 2) := by decide +kernel
theorem dX11_bird_113 : decode cX11_bird 113 = .ok (.ireturn, 1) := by decide +kernel
theorem dX11_bird_114 : decode cX11_bird 114 = .ok (.iload_n 2, 1) := by decide +kernel
theorem dX11_bird_115 : decode cX11_bird 115 = .ok (.bipush 7, 2) := by decide +kernel
theorem dX11_bird_117 : decode cX11_bird 117 = .ok (.if_icmp .ne 11, 3) := by decide +kernel
theorem dX11_bird_120 : decode cX11_bird 120 = .ok (.aload_n 0, 1) := by decide +kernel
theorem dX11_bird_121 : decode cX11_bird 121 = .ok (.iload_n 1, 1) := by decide +kernel
theorem dX11_bird_122 : decode cX11_bird 122 = .ok (.bipush 9, 2) := by decide +kernel
theorem dX11_bird_124 : decode cX11_bird 124 = .ok (.invokevirtual 160, 3) := by decide +kernel
theorem dX11_bird_127 : decode cX11_bird 127 = .ok (.ireturn, 1) := by decide +kernel
theorem dX11_bird_128 : decode cX11_bird 128 = .ok (.aload_n 0, 1) := by decide +kernel
theorem dX11_bird_129 : decode cX11_bird 129 = .ok (.iload_n 1, 1) := by decide +kernel
theorem dX11_bird_130 : decode cX11_bird 130 = .ok (.bipush 10, 2) := by decide +kernel
theorem dX11_bird_132 : decode cX11_bird 132 = .ok (.invokevirtual 160, 3) := by decide +kernel
theorem dX11_bird_135 : decode cX11_bird 135 = .ok (.iconst 1, 1) := by decide +kernel
theorem dX11_bird_136 : decode cX11_bird 136 = .ok (.if_icmp .ne 18, 3) := by decide +kernel
theorem dX11_bird_139 : decode cX11_bird 139 = .ok (.aload_n 0, 1) := by decide +kernel
theorem dX11_bird_140 : decode cX11_bird 140 = .ok (.iload_n 1, 1) := by decide +kernel
theorem dX11_bird_141 : decode cX11_bird 141 = .ok (.bipush 11, 2) := by decide +kernel
theorem dX11_bird_143 : decode cX11_bird 143 = .ok (.iload_n 2, 1) := by decide +kernel
theorem dX11_bird_144 : decode cX11_bird 144 = .ok (.iadd, 1) := by decide +kernel
theorem dX11_bird_145 : decode cX11_bird 145 = .ok (.bipush 8, 2) := by decide +kernel
theorem dX11_bird_147 : decode cX11_bird 147 = .ok (.isub, 1) := by decide +kernel
theorem dX11_bird_148 : decode cX11_bird 148 = .ok (.invokevirtual 160, 3) := by decide +kernel
theorem dX11_bird_151 : decode cX11_bird 151 = .ok (.goto 5, 3) := by decide +kernel
theorem dX11_bird_154 : decode cX11_bird 154 = .ok (.bipush (-2), 2) := by decide +kernel
theorem dX11_bird_156 : decode cX11_bird 156 = .ok (.ireturn, 1) := by decide +kernel
theorem dX11_isOdd_0 : decode cX11_isOdd 0 = .ok (.iconst 0, 1) := by decide +kernel
theorem dX11_isOdd_1 : decode cX11_isOdd 1 = .ok (.istore_n 1, 1) := by decide +kernel
theorem dX11_isOdd_2 : decode cX11_isOdd 2 = .ok (.iconst 0, 1) := by decide +kernel
theorem dX11_isOdd_3 : decode cX11_isOdd 3 = .ok (.istore_n 2, 1) := by decide +kernel
theorem dX11_isOdd_4 : decode cX11_isOdd 4 = .ok (.iload_n 2, 1) := by decide +kernel
theorem dX11_isOdd_5 : decode cX11_isOdd 5 = .ok (.bipush 8, 2) := by decide +kernel
theorem dX11_isOdd_7 : decode cX11_isOdd 7 = .ok (.if_icmp .ge 17, 3) := by decide +kernel
theorem dX11_isOdd_10 : decode cX11_isOdd 10 = .ok (.iload_n 1, 1) := by decide +kernel
theorem dX11_isOdd_11 : decode cX11_isOdd 11 = .ok (.iload_n 0, 1) := by decide +kernel
theorem dX11_isOdd_12 : decode cX11_isOdd 12 = .ok (.iload_n 2, 1) := by decide +kernel
theorem dX11_isOdd_13 : decode cX11_isOdd 13 = .ok (.ishr, 1) := by decide +kernel
theorem dX11_isOdd_14 : decode cX11_isOdd 14 = .ok (.iconst 1, 1) := by decide +kernel
theorem dX11_isOdd_15 : decode cX11_isOdd 15 = .ok (.iand, 1) := by decide +kernel
theorem dX11_isOdd_16 : decode cX11_isOdd 16 = .ok (.ixor, 1) := by decide +kernel
theorem dX11_isOdd_17 : decode cX11_isOdd 17 = .ok (.istore_n 1, 1) := by decide +kernel
theorem dX11_isOdd_18 : decode cX11_isOdd 18 = .ok (.iinc 2 1, 3) := by decide +kernel
theorem dX11_isOdd_21 : decode cX11_isOdd 21 = .ok (.goto (-17), 3) := by decide +kernel
theorem dX11_isOdd_24 : decode cX11_isOdd 24 = .ok (.iload_n 1, 1) := by decide +kernel
theorem dX11_isOdd_25 : decode cX11_isOdd 25 = .ok (.ireturn, 1) := by decide +kernel
theorem dX11_stepped_0 : decode cX11_stepped 0 = .ok (.iload_n 0, 1) := by decide +kernel
theorem dX11_stepped_1 : decode cX11_stepped 1 = .ok (.iconst 1, 1) := by decide +kernel
theorem dX11_stepped_2 : decode cX11_stepped 2 = .ok (.ishr, 1) := by decide +kernel
theorem dX11_stepped_3 : decode cX11_stepped 3 = .ok (.iload_n 0, 1) := by decide +kernel
theorem dX11_stepped_4 : decode cX11_stepped 4 = .ok (.iload_n 1, 1) := by decide +kernel
theorem dX11_stepped_5 : decode cX11_stepped 5 = .ok (.iand, 1) := by decide +kernel
theorem dX11_stepped_6 : decode cX11_stepped 6 = .ok (.invokestatic 223, 3) := by decide +kernel
theorem dX11_stepped_9 : decode cX11_stepped 9 = .ok (.iconst 4, 1) := by decide +kernel
theorem dX11_stepped_10 : decode cX11_stepped 10 = .ok (.ishl, 1) := by decide +kernel
theorem dX11_stepped_11 : decode cX11_stepped 11 = .ok (.ior, 1) := by decide +kernel
theorem dX11_stepped_12 : decode cX11_stepped 12 = .ok (.ireturn, 1) := by decide +kernel
theorem dX11_layCodes_0 : decode cX11_layCodes 0 = .ok (.iconst 0, 1) := by decide +kernel
theorem dX11_layCodes_1 : decode cX11_layCodes 1 = .ok (.istore_n 1, 1) := by decide +kernel
theorem dX11_layCodes_2 : decode cX11_layCodes 2 = .ok (.iload_n 1, 1) := by decide +kernel
theorem dX11_layCodes_3 : decode cX11_layCodes 3 = .ok (.iconst 2, 1) := by decide +kernel
theorem dX11_layCodes_4 : decode cX11_layCodes 4 = .ok (.if_icmp .ge 54, 3) := by decide +kernel
theorem dX11_layCodes_7 : decode cX11_layCodes 7 = .ok (.bipush 31, 2) := by decide +kernel
theorem dX11_layCodes_9 : decode cX11_layCodes 9 = .ok (.istore_n 2, 1) := by decide +kernel
theorem dX11_layCodes_10 : decode cX11_layCodes 10 = .ok (.iconst 0, 1) := by decide +kernel
theorem dX11_layCodes_11 : decode cX11_layCodes 11 = .ok (.istore_n 3, 1) := by decide +kernel
theorem dX11_layCodes_12 : decode cX11_layCodes 12 = .ok (.iload_n 3, 1) := by decide +kernel
theorem dX11_layCodes_13 : decode cX11_layCodes 13 = .ok (.bipush 31, 2) := by decide +kernel
theorem dX11_layCodes_15 : decode cX11_layCodes 15 = .ok (.if_icmp .ge 37, 3) := by decide +kernel
theorem dX11_layCodes_18 : decode cX11_layCodes 18 = .ok (.aload_n 0, 1) := by decide +kernel
theorem dX11_layCodes_19 : decode cX11_layCodes 19 = .ok (.getfield 33, 3) := by decide +kernel
theorem dX11_layCodes_22 : decode cX11_layCodes 22 = .ok (.bipush 31, 2) := by decide +kernel
theorem dX11_layCodes_24 : decode cX11_layCodes 24 = .ok (.iload_n 1, 1) := by decide +kernel
theorem dX11_layCodes_25 : decode cX11_layCodes 25 = .ok (.imul, 1) := by decide +kernel
theorem dX11_layCodes_26 : decode cX11_layCodes 26 = .ok (.iload_n 3, 1) := by decide +kernel
theorem dX11_layCodes_27 : decode cX11_layCodes 27 = .ok (.iadd, 1) := by decide +kernel
theorem dX11_layCodes_28 : decode cX11_layCodes 28 = .ok (.iload_n 2, 1) := by decide +kernel
theorem dX11_layCodes_29 : decode cX11_layCodes 29 = .ok (.iconst 1, 1) := by decide +kernel
theorem dX11_layCodes_30 : decode cX11_layCodes 30 = .ok (.iand, 1) := by decide +kernel
theorem dX11_layCodes_31 : decode cX11_layCodes 31 = .ok (.iastore, 1) := by decide +kernel
theorem dX11_layCodes_32 : decode cX11_layCodes 32 = .ok (.iload_n 2, 1) := by decide +kernel
theorem dX11_layCodes_33 : decode cX11_layCodes 33 = .ok (.aload_n 0, 1) := by decide +kernel
theorem dX11_layCodes_34 : decode cX11_layCodes 34 = .ok (.getfield 26, 3) := by decide +kernel
theorem dX11_layCodes_37 : decode cX11_layCodes 37 = .ok (.bipush 7, 2) := by decide +kernel
theorem dX11_layCodes_39 : decode cX11_layCodes 39 = .ok (.iload_n 1, 1) := by decide +kernel
theorem dX11_layCodes_40 : decode cX11_layCodes 40 = .ok (.iadd, 1) := by decide +kernel
theorem dX11_layCodes_41 : decode cX11_layCodes 41 = .ok (.iaload, 1) := by decide +kernel
theorem dX11_layCodes_42 : decode cX11_layCodes 42 = .ok (.invokestatic 226, 3) := by decide +kernel
theorem dX11_layCodes_45 : decode cX11_layCodes 45 = .ok (.istore_n 2, 1) := by decide +kernel
theorem dX11_layCodes_46 : decode cX11_layCodes 46 = .ok (.iinc 3 1, 3) := by decide +kernel
theorem dX11_layCodes_49 : decode cX11_layCodes 49 = .ok (.goto (-37), 3) := by decide +kernel
theorem dX11_layCodes_52 : decode cX11_layCodes 52 = .ok (.iinc 1 1, 3) := by decide +kernel
theorem dX11_layCodes_55 : decode cX11_layCodes 55 = .ok (.goto (-53), 3) := by decide +kernel
theorem dX11_layCodes_58 : decode cX11_layCodes 58 = .ok (.return_, 1) := by decide +kernel
theorem dX11_chipBy_0 : decode cX11_chipBy 0 = .ok (.aload_n 0, 1) := by decide +kernel
theorem dX11_chipBy_1 : decode cX11_chipBy 1 = .ok (.getfield 33, 3) := by decide +kernel
theorem dX11_chipBy_4 : decode cX11_chipBy 4 = .ok (.iload_n 2, 1) := by decide +kernel
theorem dX11_chipBy_5 : decode cX11_chipBy 5 = .ok (.iaload, 1) := by decide +kernel
theorem dX11_chipBy_6 : decode cX11_chipBy 6 = .ok (.aload_n 0, 1) := by decide +kernel
theorem dX11_chipBy_7 : decode cX11_chipBy 7 = .ok (.getfield 33, 3) := by decide +kernel
theorem dX11_chipBy_10 : decode cX11_chipBy 10 = .ok (.bipush 31, 2) := by decide +kernel
theorem dX11_chipBy_12 : decode cX11_chipBy 12 = .ok (.iload_n 2, 1) := by decide +kernel
theorem dX11_chipBy_13 : decode cX11_chipBy 13 = .ok (.iload_n 1, 1) := by decide +kernel
theorem dX11_chipBy_14 : decode cX11_chipBy 14 = .ok (.iadd, 1) := by decide +kernel
theorem dX11_chipBy_15 : decode cX11_chipBy 15 = .ok (.bipush 31, 2) := by decide +kernel
theorem dX11_chipBy_17 : decode cX11_chipBy 17 = .ok (.irem, 1) := by decide +kernel
theorem dX11_chipBy_18 : decode cX11_chipBy 18 = .ok (.iadd, 1) := by decide +kernel
theorem dX11_chipBy_19 : decode cX11_chipBy 19 = .ok (.iaload, 1) := by decide +kernel
theorem dX11_chipBy_20 : decode cX11_chipBy 20 = .ok (.if_icmp .ne 7, 3) := by decide +kernel
theorem dX11_chipBy_23 : decode cX11_chipBy 23 = .ok (.iconst 1, 1) := by decide +kernel
theorem dX11_chipBy_24 : decode cX11_chipBy 24 = .ok (.goto 4, 3) := by decide +kernel
theorem dX11_chipBy_27 : decode cX11_chipBy 27 = .ok (.iconst (-1), 1) := by decide +kernel
theorem dX11_chipBy_28 : decode cX11_chipBy 28 = .ok (.ireturn, 1) := by decide +kernel
theorem dX11_chip_0 : decode cX11_chip 0 = .ok (.aload_n 0, 1) := by decide +kernel
theorem dX11_chip_1 : decode cX11_chip 1 = .ok (.iconst 0, 1) := by decide +kernel
theorem dX11_chip_2 : decode cX11_chip 2 = .ok (.putfield 76, 3) := by decide +kernel
theorem dX11_chip_5 : decode cX11_chip 5 = .ok (.aload_n 0, 1) := by decide +kernel
theorem dX11_chip_6 : decode cX11_chip 6 = .ok (.iload_n 1, 1) := by decide +kernel
theorem dX11_chip_7 : decode cX11_chip 7 = .ok (.invokevirtual 216, 3) := by decide +kernel
theorem dX11_chip_10 : decode cX11_chip 10 = .ok (.ifCond .eq 27, 3) := by decide +kernel
theorem dX11_chip_13 : decode cX11_chip 13 = .ok (.iload_n 2, 1) := by decide +kernel
theorem dX11_chip_14 : decode cX11_chip 14 = .ok (.iconst 0, 1) := by decide +kernel
theorem dX11_chip_15 : decode cX11_chip 15 = .ok (.bipush 30, 2) := by decide +kernel
theorem dX11_chip_17 : decode cX11_chip 17 = .ok (.invokestatic 166, 3) := by decide +kernel
theorem dX11_chip_20 : decode cX11_chip 20 = .ok (.ifCond .eq 17, 3) := by decide +kernel
theorem dX11_chip_23 : decode cX11_chip 23 = .ok (.aload_n 0, 1) := by decide +kernel
theorem dX11_chip_24 : decode cX11_chip 24 = .ok (.aload_n 0, 1) := by decide +kernel
theorem dX11_chip_25 : decode cX11_chip 25 = .ok (.iload_n 1, 1) := by decide +kernel
theorem dX11_chip_26 : decode cX11_chip 26 = .ok (.iconst 1, 1) := by decide +kernel
theorem dX11_chip_27 : decode cX11_chip 27 = .ok (.invokevirtual 160, 3) := by decide +kernel
theorem dX11_chip_30 : decode cX11_chip 30 = .ok (.iload_n 2, 1) := by decide +kernel
theorem dX11_chip_31 : decode cX11_chip 31 = .ok (.invokevirtual 229, 3) := by decide +kernel
theorem dX11_chip_34 : decode cX11_chip 34 = .ok (.goto 4, 3) := by decide +kernel
theorem dX11_chip_37 : decode cX11_chip 37 = .ok (.iconst 0, 1) := by decide +kernel
theorem dX11_chip_38 : decode cX11_chip 38 = .ok (.ireturn, 1) := by decide +kernel
theorem dX11_period_0 : decode cX11_period 0 = .ok (.aload_n 0, 1) := by decide +kernel
theorem dX11_period_1 : decode cX11_period 1 = .ok (.iconst 0, 1) := by decide +kernel
theorem dX11_period_2 : decode cX11_period 2 = .ok (.putfield 76, 3) := by decide +kernel
theorem dX11_period_5 : decode cX11_period 5 = .ok (.iload_n 1, 1) := by decide +kernel
theorem dX11_period_6 : decode cX11_period 6 = .ok (.iconst 1, 1) := by decide +kernel
theorem dX11_period_7 : decode cX11_period 7 = .ok (.bipush 31, 2) := by decide +kernel
theorem dX11_period_9 : decode cX11_period 9 = .ok (.invokestatic 166, 3) := by decide +kernel
theorem dX11_period_12 : decode cX11_period 12 = .ok (.ifCond .ne 5, 3) := by decide +kernel
theorem dX11_period_15 : decode cX11_period 15 = .ok (.iconst (-1), 1) := by decide +kernel
theorem dX11_period_16 : decode cX11_period 16 = .ok (.ireturn, 1) := by decide +kernel
theorem dX11_period_17 : decode cX11_period 17 = .ok (.bipush 31, 2) := by decide +kernel
theorem dX11_period_19 : decode cX11_period 19 = .ok (.iload_n 1, 1) := by decide +kernel
theorem dX11_period_20 : decode cX11_period 20 = .ok (.invokestatic 226, 3) := by decide +kernel
theorem dX11_period_23 : decode cX11_period 23 = .ok (.istore_n 2, 1) := by decide +kernel
theorem dX11_period_24 : decode cX11_period 24 = .ok (.iconst 1, 1) := by decide +kernel
theorem dX11_period_25 : decode cX11_period 25 = .ok (.istore_n 3, 1) := by decide +kernel
theorem dX11_period_26 : decode cX11_period 26 = .ok (.iload_n 2, 1) := by decide +kernel
theorem dX11_period_27 : decode cX11_period 27 = .ok (.bipush 31, 2) := by decide +kernel
theorem dX11_period_29 : decode cX11_period 29 = .ok (.if_icmp .eq 21, 3) := by decide +kernel
theorem dX11_period_32 : decode cX11_period 32 = .ok (.iload_n 3, 1) := by decide +kernel
theorem dX11_period_33 : decode cX11_period 33 = .ok (.bipush 33, 2) := by decide +kernel
theorem dX11_period_35 : decode cX11_period 35 = .ok (.if_icmp .ge 15, 3) := by decide +kernel
theorem dX11_period_38 : decode cX11_period 38 = .ok (.iload_n 2, 1) := by decide +kernel
theorem dX11_period_39 : decode cX11_period 39 = .ok (.iload_n 1, 1) := by decide +kernel
theorem dX11_period_40 : decode cX11_period 40 = .ok (.invokestatic 226, 3) := by decide +kernel
theorem dX11_period_43 : decode cX11_period 43 = .ok (.istore_n 2, 1) := by decide +kernel
theorem dX11_period_44 : decode cX11_period 44 = .ok (.iinc 3 1, 3) := by decide +kernel
theorem dX11_period_47 : decode cX11_period 47 = .ok (.goto (-21), 3) := by decide +kernel
theorem dX11_period_50 : decode cX11_period 50 = .ok (.iload_n 2, 1) := by decide +kernel
theorem dX11_period_51 : decode cX11_period 51 = .ok (.bipush 31, 2) := by decide +kernel
theorem dX11_period_53 : decode cX11_period 53 = .ok (.if_icmp .ne 7, 3) := by decide +kernel
theorem dX11_period_56 : decode cX11_period 56 = .ok (.iload_n 3, 1) := by decide +kernel
theorem dX11_period_57 : decode cX11_period 57 = .ok (.goto 5, 3) := by decide +kernel
theorem dX11_period_60 : decode cX11_period 60 = .ok (.bipush (-2), 2) := by decide +kernel
theorem dX11_period_62 : decode cX11_period 62 = .ok (.ireturn, 1) := by decide +kernel
theorem dX11_crossed_0 : decode cX11_crossed 0 = .ok (.iconst 0, 1) := by decide +kernel
theorem dX11_crossed_1 : decode cX11_crossed 1 = .ok (.istore 4, 2) := by decide +kernel
theorem dX11_crossed_3 : decode cX11_crossed 3 = .ok (.iconst 0, 1) := by decide +kernel
theorem dX11_crossed_4 : decode cX11_crossed 4 = .ok (.istore 5, 2) := by decide +kernel
theorem dX11_crossed_6 : decode cX11_crossed 6 = .ok (.iload 5, 2) := by decide +kernel
theorem dX11_crossed_8 : decode cX11_crossed 8 = .ok (.bipush 31, 2) := by decide +kernel
theorem dX11_crossed_10 : decode cX11_crossed 10 = .ok (.if_icmp .ge 34, 3) := by decide +kernel
theorem dX11_crossed_13 : decode cX11_crossed 13 = .ok (.iload 4, 2) := by decide +kernel
theorem dX11_crossed_15 : decode cX11_crossed 15 = .ok (.aload_n 0, 1) := by decide +kernel
theorem dX11_crossed_16 : decode cX11_crossed 16 = .ok (.iload_n 1, 1) := by decide +kernel
theorem dX11_crossed_17 : decode cX11_crossed 17 = .ok (.iload 5, 2) := by decide +kernel
theorem dX11_crossed_19 : decode cX11_crossed 19 = .ok (.invokevirtual 229, 3) := by decide +kernel
theorem dX11_crossed_22 : decode cX11_crossed 22 = .ok (.aload_n 0, 1) := by decide +kernel
theorem dX11_crossed_23 : decode cX11_crossed 23 = .ok (.iload_n 2, 1) := by decide +kernel
theorem dX11_crossed_24 : decode cX11_crossed 24 = .ok (.iload 5, 2) := by decide +kernel
theorem dX11_crossed_26 : decode cX11_crossed 26 = .ok (.iload_n 3, 1) := by decide +kernel
theorem dX11_crossed_27 : decode cX11_crossed 27 = .ok (.iadd, 1) := by decide +kernel
theorem dX11_crossed_28 : decode cX11_crossed 28 = .ok (.bipush 31, 2) := by decide +kernel
theorem dX11_crossed_30 : decode cX11_crossed 30 = .ok (.irem, 1) := by decide +kernel
theorem dX11_crossed_31 : decode cX11_crossed 31 = .ok (.invokevirtual 229, 3) := by decide +kernel
theorem dX11_crossed_34 : decode cX11_crossed 34 = .ok (.imul, 1) := by decide +kernel
theorem dX11_crossed_35 : decode cX11_crossed 35 = .ok (.iadd, 1) := by decide +kernel
theorem dX11_crossed_36 : decode cX11_crossed 36 = .ok (.istore 4, 2) := by decide +kernel
theorem dX11_crossed_38 : decode cX11_crossed 38 = .ok (.iinc 5 1, 3) := by decide +kernel
theorem dX11_crossed_41 : decode cX11_crossed 41 = .ok (.goto (-35), 3) := by decide +kernel
theorem dX11_crossed_44 : decode cX11_crossed 44 = .ok (.iload 4, 2) := by decide +kernel
theorem dX11_crossed_46 : decode cX11_crossed 46 = .ok (.ireturn, 1) := by decide +kernel
theorem dX11_cross_0 : decode cX11_cross 0 = .ok (.aload_n 0, 1) := by decide +kernel
theorem dX11_cross_1 : decode cX11_cross 1 = .ok (.iconst 0, 1) := by decide +kernel
theorem dX11_cross_2 : decode cX11_cross 2 = .ok (.putfield 76, 3) := by decide +kernel
theorem dX11_cross_5 : decode cX11_cross 5 = .ok (.aload_n 0, 1) := by decide +kernel
theorem dX11_cross_6 : decode cX11_cross 6 = .ok (.iload_n 1, 1) := by decide +kernel
theorem dX11_cross_7 : decode cX11_cross 7 = .ok (.invokevirtual 216, 3) := by decide +kernel
theorem dX11_cross_10 : decode cX11_cross 10 = .ok (.ifCond .eq 41, 3) := by decide +kernel
theorem dX11_cross_13 : decode cX11_cross 13 = .ok (.aload_n 0, 1) := by decide +kernel
theorem dX11_cross_14 : decode cX11_cross 14 = .ok (.iload_n 2, 1) := by decide +kernel
theorem dX11_cross_15 : decode cX11_cross 15 = .ok (.invokevirtual 216, 3) := by decide +kernel
theorem dX11_cross_18 : decode cX11_cross 18 = .ok (.ifCond .eq 33, 3) := by decide +kernel
theorem dX11_cross_21 : decode cX11_cross 21 = .ok (.iload_n 3, 1) := by decide +kernel
theorem dX11_cross_22 : decode cX11_cross 22 = .ok (.iconst 0, 1) := by decide +kernel
theorem dX11_cross_23 : decode cX11_cross 23 = .ok (.bipush 30, 2) := by decide +kernel
theorem dX11_cross_25 : decode cX11_cross 25 = .ok (.invokestatic 166, 3) := by decide +kernel
theorem dX11_cross_28 : decode cX11_cross 28 = .ok (.ifCond .eq 23, 3) := by decide +kernel
theorem dX11_cross_31 : decode cX11_cross 31 = .ok (.aload_n 0, 1) := by decide +kernel
theorem dX11_cross_32 : decode cX11_cross 32 = .ok (.aload_n 0, 1) := by decide +kernel
theorem dX11_cross_33 : decode cX11_cross 33 = .ok (.iload_n 1, 1) := by decide +kernel
theorem dX11_cross_34 : decode cX11_cross 34 = .ok (.iconst 1, 1) := by decide +kernel
theorem dX11_cross_35 : decode cX11_cross 35 = .ok (.invokevirtual 160, 3) := by decide +kernel
theorem dX11_cross_38 : decode cX11_cross 38 = .ok (.aload_n 0, 1) := by decide +kernel
theorem dX11_cross_39 : decode cX11_cross 39 = .ok (.iload_n 2, 1) := by decide +kernel
theorem dX11_cross_40 : decode cX11_cross 40 = .ok (.iconst 1, 1) := by decide +kernel
theorem dX11_cross_41 : decode cX11_cross 41 = .ok (.invokevirtual 160, 3) := by decide +kernel
theorem dX11_cross_44 : decode cX11_cross 44 = .ok (.iload_n 3, 1) := by decide +kernel
theorem dX11_cross_45 : decode cX11_cross 45 = .ok (.invokevirtual 232, 3) := by decide +kernel
theorem dX11_cross_48 : decode cX11_cross 48 = .ok (.goto 5, 3) := by decide +kernel
theorem dX11_cross_51 : decode cX11_cross 51 = .ok (.bipush (-99), 2) := by decide +kernel
theorem dX11_cross_53 : decode cX11_cross 53 = .ok (.ireturn, 1) := by decide +kernel
theorem dX11_worstOf_0 : decode cX11_worstOf 0 = .ok (.iconst 0, 1) := by decide +kernel
theorem dX11_worstOf_1 : decode cX11_worstOf 1 = .ok (.istore 4, 2) := by decide +kernel
theorem dX11_worstOf_3 : decode cX11_worstOf 3 = .ok (.iload_n 3, 1) := by decide +kernel
theorem dX11_worstOf_4 : decode cX11_worstOf 4 = .ok (.istore 5, 2) := by decide +kernel
theorem dX11_worstOf_6 : decode cX11_worstOf 6 = .ok (.iload 5, 2) := by decide +kernel
theorem dX11_worstOf_8 : decode cX11_worstOf 8 = .ok (.bipush 31, 2) := by decide +kernel
theorem dX11_worstOf_10 : decode cX11_worstOf 10 = .ok (.if_icmp .ge 50, 3) := by decide +kernel
theorem dX11_worstOf_13 : decode cX11_worstOf 13 = .ok (.aload_n 0, 1) := by decide +kernel
theorem dX11_worstOf_14 : decode cX11_worstOf 14 = .ok (.iload_n 1, 1) := by decide +kernel
theorem dX11_worstOf_15 : decode cX11_worstOf 15 = .ok (.iload_n 2, 1) := by decide +kernel
theorem dX11_worstOf_16 : decode cX11_worstOf 16 = .ok (.iload 5, 2) := by decide +kernel
theorem dX11_worstOf_18 : decode cX11_worstOf 18 = .ok (.invokevirtual 232, 3) := by decide +kernel
theorem dX11_worstOf_21 : decode cX11_worstOf 21 = .ok (.istore 6, 2) := by decide +kernel
theorem dX11_worstOf_23 : decode cX11_worstOf 23 = .ok (.iload 6, 2) := by decide +kernel
theorem dX11_worstOf_25 : decode cX11_worstOf 25 = .ok (.ifCond .ge 9, 3) := by decide +kernel
theorem dX11_worstOf_28 : decode cX11_worstOf 28 = .ok (.iload 6, 2) := by decide +kernel
theorem dX11_worstOf_30 : decode cX11_worstOf 30 = .ok (.ineg, 1) := by decide +kernel
theorem dX11_worstOf_31 : decode cX11_worstOf 31 = .ok (.goto 5, 3) := by decide +kernel
theorem dX11_worstOf_34 : decode cX11_worstOf 34 = .ok (.iload 6, 2) := by decide +kernel
theorem dX11_worstOf_36 : decode cX11_worstOf 36 = .ok (.istore 6, 2) := by decide +kernel
theorem dX11_worstOf_38 : decode cX11_worstOf 38 = .ok (.iload 6, 2) := by decide +kernel
theorem dX11_worstOf_40 : decode cX11_worstOf 40 = .ok (.iload 4, 2) := by decide +kernel
theorem dX11_worstOf_42 : decode cX11_worstOf 42 = .ok (.if_icmp .le 8, 3) := by decide +kernel
theorem dX11_worstOf_45 : decode cX11_worstOf 45 = .ok (.iload 6, 2) := by decide +kernel
theorem dX11_worstOf_47 : decode cX11_worstOf 47 = .ok (.goto 5, 3) := by decide +kernel
theorem dX11_worstOf_50 : decode cX11_worstOf 50 = .ok (.iload 4, 2) := by decide +kernel
theorem dX11_worstOf_52 : decode cX11_worstOf 52 = .ok (.istore 4, 2) := by decide +kernel
theorem dX11_worstOf_54 : decode cX11_worstOf 54 = .ok (.iinc 5 1, 3) := by decide +kernel
theorem dX11_worstOf_57 : decode cX11_worstOf 57 = .ok (.goto (-51), 3) := by decide +kernel
theorem dX11_worstOf_60 : decode cX11_worstOf 60 = .ok (.iload 4, 2) := by decide +kernel
theorem dX11_worstOf_62 : decode cX11_worstOf 62 = .ok (.ireturn, 1) := by decide +kernel
theorem dX11_worst_0 : decode cX11_worst 0 = .ok (.aload_n 0, 1) := by decide +kernel
theorem dX11_worst_1 : decode cX11_worst 1 = .ok (.iconst 0, 1) := by decide +kernel
theorem dX11_worst_2 : decode cX11_worst 2 = .ok (.putfield 76, 3) := by decide +kernel
theorem dX11_worst_5 : decode cX11_worst 5 = .ok (.aload_n 0, 1) := by decide +kernel
theorem dX11_worst_6 : decode cX11_worst 6 = .ok (.iload_n 1, 1) := by decide +kernel
theorem dX11_worst_7 : decode cX11_worst 7 = .ok (.invokevirtual 216, 3) := by decide +kernel
theorem dX11_worst_10 : decode cX11_worst 10 = .ok (.ifCond .eq 40, 3) := by decide +kernel
theorem dX11_worst_13 : decode cX11_worst 13 = .ok (.aload_n 0, 1) := by decide +kernel
theorem dX11_worst_14 : decode cX11_worst 14 = .ok (.iload_n 2, 1) := by decide +kernel
theorem dX11_worst_15 : decode cX11_worst 15 = .ok (.invokevirtual 216, 3) := by decide +kernel
theorem dX11_worst_18 : decode cX11_worst 18 = .ok (.ifCond .eq 32, 3) := by decide +kernel
theorem dX11_worst_21 : decode cX11_worst 21 = .ok (.aload_n 0, 1) := by decide +kernel
theorem dX11_worst_22 : decode cX11_worst 22 = .ok (.aload_n 0, 1) := by decide +kernel
theorem dX11_worst_23 : decode cX11_worst 23 = .ok (.iload_n 1, 1) := by decide +kernel
theorem dX11_worst_24 : decode cX11_worst 24 = .ok (.iconst 1, 1) := by decide +kernel
theorem dX11_worst_25 : decode cX11_worst 25 = .ok (.invokevirtual 160, 3) := by decide +kernel
theorem dX11_worst_28 : decode cX11_worst 28 = .ok (.aload_n 0, 1) := by decide +kernel
theorem dX11_worst_29 : decode cX11_worst 29 = .ok (.iload_n 2, 1) := by decide +kernel
theorem dX11_worst_30 : decode cX11_worst 30 = .ok (.iconst 1, 1) := by decide +kernel
theorem dX11_worst_31 : decode cX11_worst 31 = .ok (.invokevirtual 160, 3) := by decide +kernel
theorem dX11_worst_34 : decode cX11_worst 34 = .ok (.iload_n 1, 1) := by decide +kernel
theorem dX11_worst_35 : decode cX11_worst 35 = .ok (.iload_n 2, 1) := by decide +kernel
theorem dX11_worst_36 : decode cX11_worst 36 = .ok (.if_icmp .ne 7, 3) := by decide +kernel
theorem dX11_worst_39 : decode cX11_worst 39 = .ok (.iconst 1, 1) := by decide +kernel
theorem dX11_worst_40 : decode cX11_worst 40 = .ok (.goto 4, 3) := by decide +kernel
theorem dX11_worst_43 : decode cX11_worst 43 = .ok (.iconst 0, 1) := by decide +kernel
theorem dX11_worst_44 : decode cX11_worst 44 = .ok (.invokevirtual 236, 3) := by decide +kernel
theorem dX11_worst_47 : decode cX11_worst 47 = .ok (.goto 5, 3) := by decide +kernel
theorem dX11_worst_50 : decode cX11_worst 50 = .ok (.bipush (-2), 2) := by decide +kernel
theorem dX11_worst_52 : decode cX11_worst 52 = .ok (.ireturn, 1) := by decide +kernel
theorem dX11_quiet_0 : decode cX11_quiet 0 = .ok (.aload_n 0, 1) := by decide +kernel
theorem dX11_quiet_1 : decode cX11_quiet 1 = .ok (.iconst 0, 1) := by decide +kernel
theorem dX11_quiet_2 : decode cX11_quiet 2 = .ok (.putfield 76, 3) := by decide +kernel
theorem dX11_quiet_5 : decode cX11_quiet 5 = .ok (.iconst 0, 1) := by decide +kernel
theorem dX11_quiet_6 : decode cX11_quiet 6 = .ok (.istore_n 1, 1) := by decide +kernel
theorem dX11_quiet_7 : decode cX11_quiet 7 = .ok (.bipush 99, 2) := by decide +kernel
theorem dX11_quiet_9 : decode cX11_quiet 9 = .ok (.istore_n 2, 1) := by decide +kernel
theorem dX11_quiet_10 : decode cX11_quiet 10 = .ok (.iconst 0, 1) := by decide +kernel
theorem dX11_quiet_11 : decode cX11_quiet 11 = .ok (.istore_n 3, 1) := by decide +kernel
theorem dX11_quiet_12 : decode cX11_quiet 12 = .ok (.iload_n 3, 1) := by decide +kernel
theorem dX11_quiet_13 : decode cX11_quiet 13 = .ok (.bipush 31, 2) := by decide +kernel
theorem dX11_quiet_15 : decode cX11_quiet 15 = .ok (.if_icmp .ge 86, 3) := by decide +kernel
theorem dX11_quiet_18 : decode cX11_quiet 18 = .ok (.iconst 0, 1) := by decide +kernel
theorem dX11_quiet_19 : decode cX11_quiet 19 = .ok (.istore 4, 2) := by decide +kernel
theorem dX11_quiet_21 : decode cX11_quiet 21 = .ok (.iconst 0, 1) := by decide +kernel
theorem dX11_quiet_22 : decode cX11_quiet 22 = .ok (.istore 5, 2) := by decide +kernel
theorem dX11_quiet_24 : decode cX11_quiet 24 = .ok (.iload 5, 2) := by decide +kernel
theorem dX11_quiet_26 : decode cX11_quiet 26 = .ok (.aload_n 0, 1) := by decide +kernel
theorem dX11_quiet_27 : decode cX11_quiet 27 = .ok (.getfield 121, 3) := by decide +kernel
theorem dX11_quiet_30 : decode cX11_quiet 30 = .ok (.if_icmp .ge 40, 3) := by decide +kernel
theorem dX11_quiet_33 : decode cX11_quiet 33 = .ok (.aload_n 0, 1) := by decide +kernel
theorem dX11_quiet_34 : decode cX11_quiet 34 = .ok (.iload_n 3, 1) := by decide +kernel
theorem dX11_quiet_35 : decode cX11_quiet 35 = .ok (.aload_n 0, 1) := by decide +kernel
theorem dX11_quiet_36 : decode cX11_quiet 36 = .ok (.iload 5, 2) := by decide +kernel
theorem dX11_quiet_38 : decode cX11_quiet 38 = .ok (.iconst 1, 1) := by decide +kernel
theorem dX11_quiet_39 : decode cX11_quiet 39 = .ok (.invokevirtual 160, 3) := by decide +kernel
theorem dX11_quiet_42 : decode cX11_quiet 42 = .ok (.iconst 0, 1) := by decide +kernel
theorem dX11_quiet_43 : decode cX11_quiet 43 = .ok (.invokevirtual 236, 3) := by decide +kernel
theorem dX11_quiet_46 : decode cX11_quiet 46 = .ok (.istore 6, 2) := by decide +kernel
theorem dX11_quiet_48 : decode cX11_quiet 48 = .ok (.iload 6, 2) := by decide +kernel
theorem dX11_quiet_50 : decode cX11_quiet 50 = .ok (.iload 4, 2) := by decide +kernel
theorem dX11_quiet_52 : decode cX11_quiet 52 = .ok (.if_icmp .le 8, 3) := by decide +kernel
theorem dX11_quiet_55 : decode cX11_quiet 55 = .ok (.iload 6, 2) := by decide +kernel
theorem dX11_quiet_57 : decode cX11_quiet 57 = .ok (.goto 5, 3) := by decide +kernel
theorem dX11_quiet_60 : decode cX11_quiet 60 = .ok (.iload 4, 2) := by decide +kernel
theorem dX11_quiet_62 : decode cX11_quiet 62 = .ok (.istore 4, 2) := by decide +kernel
theorem dX11_quiet_64 : decode cX11_quiet 64 = .ok (.iinc 5 1, 3) := by decide +kernel
theorem dX11_quiet_67 : decode cX11_quiet 67 = .ok (.goto (-43), 3) := by decide +kernel
theorem dX11_quiet_70 : decode cX11_quiet 70 = .ok (.iload 4, 2) := by decide +kernel
theorem dX11_quiet_72 : decode cX11_quiet 72 = .ok (.iload_n 2, 1) := by decide +kernel
theorem dX11_quiet_73 : decode cX11_quiet 73 = .ok (.if_icmp .ge 7, 3) := by decide +kernel
theorem dX11_quiet_76 : decode cX11_quiet 76 = .ok (.iload_n 3, 1) := by decide +kernel
theorem dX11_quiet_77 : decode cX11_quiet 77 = .ok (.goto 4, 3) := by decide +kernel
theorem dX11_quiet_80 : decode cX11_quiet 80 = .ok (.iload_n 1, 1) := by decide +kernel
theorem dX11_quiet_81 : decode cX11_quiet 81 = .ok (.istore_n 1, 1) := by decide +kernel
theorem dX11_quiet_82 : decode cX11_quiet 82 = .ok (.iload 4, 2) := by decide +kernel
theorem dX11_quiet_84 : decode cX11_quiet 84 = .ok (.iload_n 2, 1) := by decide +kernel
theorem dX11_quiet_85 : decode cX11_quiet 85 = .ok (.if_icmp .ge 8, 3) := by decide +kernel
theorem dX11_quiet_88 : decode cX11_quiet 88 = .ok (.iload 4, 2) := by decide +kernel
theorem dX11_quiet_90 : decode cX11_quiet 90 = .ok (.goto 4, 3) := by decide +kernel
theorem dX11_quiet_93 : decode cX11_quiet 93 = .ok (.iload_n 2, 1) := by decide +kernel
theorem dX11_quiet_94 : decode cX11_quiet 94 = .ok (.istore_n 2, 1) := by decide +kernel
theorem dX11_quiet_95 : decode cX11_quiet 95 = .ok (.iinc 3 1, 3) := by decide +kernel
theorem dX11_quiet_98 : decode cX11_quiet 98 = .ok (.goto (-86), 3) := by decide +kernel
theorem dX11_quiet_101 : decode cX11_quiet 101 = .ok (.iload_n 1, 1) := by decide +kernel
theorem dX11_quiet_102 : decode cX11_quiet 102 = .ok (.ireturn, 1) := by decide +kernel
theorem dX11_parityOf_0 : decode cX11_parityOf 0 = .ok (.iconst 0, 1) := by decide +kernel
theorem dX11_parityOf_1 : decode cX11_parityOf 1 = .ok (.istore_n 1, 1) := by decide +kernel
theorem dX11_parityOf_2 : decode cX11_parityOf 2 = .ok (.iconst 0, 1) := by decide +kernel
theorem dX11_parityOf_3 : decode cX11_parityOf 3 = .ok (.istore_n 2, 1) := by decide +kernel
theorem dX11_parityOf_4 : decode cX11_parityOf 4 = .ok (.iload_n 2, 1) := by decide +kernel
theorem dX11_parityOf_5 : decode cX11_parityOf 5 = .ok (.iconst 4, 1) := by decide +kernel
theorem dX11_parityOf_6 : decode cX11_parityOf 6 = .ok (.if_icmp .ge 61, 3) := by decide +kernel
theorem dX11_parityOf_9 : decode cX11_parityOf 9 = .ok (.iconst 0, 1) := by decide +kernel
theorem dX11_parityOf_10 : decode cX11_parityOf 10 = .ok (.istore_n 3, 1) := by decide +kernel
theorem dX11_parityOf_11 : decode cX11_parityOf 11 = .ok (.iconst 1, 1) := by decide +kernel
theorem dX11_parityOf_12 : decode cX11_parityOf 12 = .ok (.istore 4, 2) := by decide +kernel
theorem dX11_parityOf_14 : decode cX11_parityOf 14 = .ok (.iload 4, 2) := by decide +kernel
theorem dX11_parityOf_16 : decode cX11_parityOf 16 = .ok (.bipush 8, 2) := by decide +kernel
theorem dX11_parityOf_18 : decode cX11_parityOf 18 = .ok (.if_icmp .gt 35, 3) := by decide +kernel
theorem dX11_parityOf_21 : decode cX11_parityOf 21 = .ok (.iload_n 3, 1) := by decide +kernel
theorem dX11_parityOf_22 : decode cX11_parityOf 22 = .ok (.iload 4, 2) := by decide +kernel
theorem dX11_parityOf_24 : decode cX11_parityOf 24 = .ok (.iload_n 2, 1) := by decide +kernel
theorem dX11_parityOf_25 : decode cX11_parityOf 25 = .ok (.ishr, 1) := by decide +kernel
theorem dX11_parityOf_26 : decode cX11_parityOf 26 = .ok (.iconst 1, 1) := by decide +kernel
theorem dX11_parityOf_27 : decode cX11_parityOf 27 = .ok (.iand, 1) := by decide +kernel
theorem dX11_parityOf_28 : decode cX11_parityOf 28 = .ok (.iconst 1, 1) := by decide +kernel
theorem dX11_parityOf_29 : decode cX11_parityOf 29 = .ok (.if_icmp .ne 15, 3) := by decide +kernel
theorem dX11_parityOf_32 : decode cX11_parityOf 32 = .ok (.iload_n 0, 1) := by decide +kernel
theorem dX11_parityOf_33 : decode cX11_parityOf 33 = .ok (.bipush 8, 2) := by decide +kernel
theorem dX11_parityOf_35 : decode cX11_parityOf 35 = .ok (.iload 4, 2) := by decide +kernel
theorem dX11_parityOf_37 : decode cX11_parityOf 37 = .ok (.isub, 1) := by decide +kernel
theorem dX11_parityOf_38 : decode cX11_parityOf 38 = .ok (.ishr, 1) := by decide +kernel
theorem dX11_parityOf_39 : decode cX11_parityOf 39 = .ok (.iconst 1, 1) := by decide +kernel
theorem dX11_parityOf_40 : decode cX11_parityOf 40 = .ok (.iand, 1) := by decide +kernel
theorem dX11_parityOf_41 : decode cX11_parityOf 41 = .ok (.goto 4, 3) := by decide +kernel
theorem dX11_parityOf_44 : decode cX11_parityOf 44 = .ok (.iconst 0, 1) := by decide +kernel
theorem dX11_parityOf_45 : decode cX11_parityOf 45 = .ok (.ixor, 1) := by decide +kernel
theorem dX11_parityOf_46 : decode cX11_parityOf 46 = .ok (.istore_n 3, 1) := by decide +kernel
theorem dX11_parityOf_47 : decode cX11_parityOf 47 = .ok (.iinc 4 1, 3) := by decide +kernel
theorem dX11_parityOf_50 : decode cX11_parityOf 50 = .ok (.goto (-36), 3) := by decide +kernel
theorem dX11_parityOf_53 : decode cX11_parityOf 53 = .ok (.iload_n 1, 1) := by decide +kernel
theorem dX11_parityOf_54 : decode cX11_parityOf 54 = .ok (.iload_n 3, 1) := by decide +kernel
theorem dX11_parityOf_55 : decode cX11_parityOf 55 = .ok (.iconst 3, 1) := by decide +kernel
theorem dX11_parityOf_56 : decode cX11_parityOf 56 = .ok (.iload_n 2, 1) := by decide +kernel
theorem dX11_parityOf_57 : decode cX11_parityOf 57 = .ok (.isub, 1) := by decide +kernel
theorem dX11_parityOf_58 : decode cX11_parityOf 58 = .ok (.ishl, 1) := by decide +kernel
theorem dX11_parityOf_59 : decode cX11_parityOf 59 = .ok (.ior, 1) := by decide +kernel
theorem dX11_parityOf_60 : decode cX11_parityOf 60 = .ok (.istore_n 1, 1) := by decide +kernel
theorem dX11_parityOf_61 : decode cX11_parityOf 61 = .ok (.iinc 2 1, 3) := by decide +kernel
theorem dX11_parityOf_64 : decode cX11_parityOf 64 = .ok (.goto (-60), 3) := by decide +kernel
theorem dX11_parityOf_67 : decode cX11_parityOf 67 = .ok (.iload_n 1, 1) := by decide +kernel
theorem dX11_parityOf_68 : decode cX11_parityOf 68 = .ok (.ireturn, 1) := by decide +kernel
theorem dX11_frameOf_0 : decode cX11_frameOf 0 = .ok (.iload_n 0, 1) := by decide +kernel
theorem dX11_frameOf_1 : decode cX11_frameOf 1 = .ok (.bipush 6, 2) := by decide +kernel
theorem dX11_frameOf_3 : decode cX11_frameOf 3 = .ok (.ishl, 1) := by decide +kernel
theorem dX11_frameOf_4 : decode cX11_frameOf 4 = .ok (.iload_n 1, 1) := by decide +kernel
theorem dX11_frameOf_5 : decode cX11_frameOf 5 = .ok (.ior, 1) := by decide +kernel
theorem dX11_frameOf_6 : decode cX11_frameOf 6 = .ok (.istore_n 2, 1) := by decide +kernel
theorem dX11_frameOf_7 : decode cX11_frameOf 7 = .ok (.ldc 239, 2) := by decide +kernel
theorem dX11_frameOf_9 : decode cX11_frameOf 9 = .ok (.iload_n 2, 1) := by decide +kernel
theorem dX11_frameOf_10 : decode cX11_frameOf 10 = .ok (.iconst 4, 1) := by decide +kernel
theorem dX11_frameOf_11 : decode cX11_frameOf 11 = .ok (.ishl, 1) := by decide +kernel
theorem dX11_frameOf_12 : decode cX11_frameOf 12 = .ok (.ior, 1) := by decide +kernel
theorem dX11_frameOf_13 : decode cX11_frameOf 13 = .ok (.iload_n 2, 1) := by decide +kernel
theorem dX11_frameOf_14 : decode cX11_frameOf 14 = .ok (.invokestatic 240, 3) := by decide +kernel
theorem dX11_frameOf_17 : decode cX11_frameOf 17 = .ok (.ior, 1) := by decide +kernel
theorem dX11_frameOf_18 : decode cX11_frameOf 18 = .ok (.ireturn, 1) := by decide +kernel
theorem dX11_sentBit_0 : decode cX11_sentBit 0 = .ok (.aload_n 0, 1) := by decide +kernel
theorem dX11_sentBit_1 : decode cX11_sentBit 1 = .ok (.iload_n 1, 1) := by decide +kernel
theorem dX11_sentBit_2 : decode cX11_sentBit 2 = .ok (.bipush 9, 2) := by decide +kernel
theorem dX11_sentBit_4 : decode cX11_sentBit 4 = .ok (.invokevirtual 160, 3) := by decide +kernel
theorem dX11_sentBit_7 : decode cX11_sentBit 7 = .ok (.istore_n 3, 1) := by decide +kernel
theorem dX11_sentBit_8 : decode cX11_sentBit 8 = .ok (.iload_n 2, 1) := by decide +kernel
theorem dX11_sentBit_9 : decode cX11_sentBit 9 = .ok (.ifCond .lt 7, 3) := by decide +kernel
theorem dX11_sentBit_12 : decode cX11_sentBit 12 = .ok (.iload_n 3, 1) := by decide +kernel
theorem dX11_sentBit_13 : decode cX11_sentBit 13 = .ok (.ifCond .ne 5, 3) := by decide +kernel
theorem dX11_sentBit_16 : decode cX11_sentBit 16 = .ok (.iconst 0, 1) := by decide +kernel
theorem dX11_sentBit_17 : decode cX11_sentBit 17 = .ok (.ireturn, 1) := by decide +kernel
theorem dX11_sentBit_18 : decode cX11_sentBit 18 = .ok (.iload_n 2, 1) := by decide +kernel
theorem dX11_sentBit_19 : decode cX11_sentBit 19 = .ok (.bipush 16, 2) := by decide +kernel
theorem dX11_sentBit_21 : decode cX11_sentBit 21 = .ok (.idiv, 1) := by decide +kernel
theorem dX11_sentBit_22 : decode cX11_sentBit 22 = .ok (.iload_n 3, 1) := by decide +kernel
theorem dX11_sentBit_23 : decode cX11_sentBit 23 = .ok (.irem, 1) := by decide +kernel
theorem dX11_sentBit_24 : decode cX11_sentBit 24 = .ok (.istore 4, 2) := by decide +kernel
theorem dX11_sentBit_26 : decode cX11_sentBit 26 = .ok (.iconst 0, 1) := by decide +kernel
theorem dX11_sentBit_27 : decode cX11_sentBit 27 = .ok (.istore 5, 2) := by decide +kernel
theorem dX11_sentBit_29 : decode cX11_sentBit 29 = .ok (.iload 5, 2) := by decide +kernel
theorem dX11_sentBit_31 : decode cX11_sentBit 31 = .ok (.aload_n 0, 1) := by decide +kernel
theorem dX11_sentBit_32 : decode cX11_sentBit 32 = .ok (.getfield 124, 3) := by decide +kernel
theorem dX11_sentBit_35 : decode cX11_sentBit 35 = .ok (.if_icmp .ge 69, 3) := by decide +kernel
theorem dX11_sentBit_38 : decode cX11_sentBit 38 = .ok (.aload_n 0, 1) := by decide +kernel
theorem dX11_sentBit_39 : decode cX11_sentBit 39 = .ok (.getfield 23, 3) := by decide +kernel
theorem dX11_sentBit_42 : decode cX11_sentBit 42 = .ok (.iconst 3, 1) := by decide +kernel
theorem dX11_sentBit_43 : decode cX11_sentBit 43 = .ok (.iload 5, 2) := by decide +kernel
theorem dX11_sentBit_45 : decode cX11_sentBit 45 = .ok (.imul, 1) := by decide +kernel
theorem dX11_sentBit_46 : decode cX11_sentBit 46 = .ok (.iaload, 1) := by decide +kernel
theorem dX11_sentBit_47 : decode cX11_sentBit 47 = .ok (.iload_n 1, 1) := by decide +kernel
theorem dX11_sentBit_48 : decode cX11_sentBit 48 = .ok (.if_icmp .eq 6, 3) := by decide +kernel
theorem dX11_sentBit_51 : decode cX11_sentBit 51 = .ok (.goto 47, 3) := by decide +kernel
theorem dX11_sentBit_54 : decode cX11_sentBit 54 = .ok (.iload 4, 2) := by decide +kernel
theorem dX11_sentBit_56 : decode cX11_sentBit 56 = .ok (.ifCond .ne 39, 3) := by decide +kernel
theorem dX11_sentBit_59 : decode cX11_sentBit 59 = .ok (.aload_n 0, 1) := by decide +kernel
theorem dX11_sentBit_60 : decode cX11_sentBit 60 = .ok (.getfield 23, 3) := by decide +kernel
theorem dX11_sentBit_63 : decode cX11_sentBit 63 = .ok (.iconst 3, 1) := by decide +kernel
theorem dX11_sentBit_64 : decode cX11_sentBit 64 = .ok (.iload 5, 2) := by decide +kernel
theorem dX11_sentBit_66 : decode cX11_sentBit 66 = .ok (.imul, 1) := by decide +kernel
theorem dX11_sentBit_67 : decode cX11_sentBit 67 = .ok (.iconst 1, 1) := by decide +kernel
theorem dX11_sentBit_68 : decode cX11_sentBit 68 = .ok (.iadd, 1) := by decide +kernel
theorem dX11_sentBit_69 : decode cX11_sentBit 69 = .ok (.iaload, 1) := by decide +kernel
theorem dX11_sentBit_70 : decode cX11_sentBit 70 = .ok (.aload_n 0, 1) := by decide +kernel
theorem dX11_sentBit_71 : decode cX11_sentBit 71 = .ok (.getfield 23, 3) := by decide +kernel
theorem dX11_sentBit_74 : decode cX11_sentBit 74 = .ok (.iconst 3, 1) := by decide +kernel
theorem dX11_sentBit_75 : decode cX11_sentBit 75 = .ok (.iload 5, 2) := by decide +kernel
theorem dX11_sentBit_77 : decode cX11_sentBit 77 = .ok (.imul, 1) := by decide +kernel
theorem dX11_sentBit_78 : decode cX11_sentBit 78 = .ok (.iconst 2, 1) := by decide +kernel
theorem dX11_sentBit_79 : decode cX11_sentBit 79 = .ok (.iadd, 1) := by decide +kernel
theorem dX11_sentBit_80 : decode cX11_sentBit 80 = .ok (.iaload, 1) := by decide +kernel
theorem dX11_sentBit_81 : decode cX11_sentBit 81 = .ok (.invokestatic 243, 3) := by decide +kernel
theorem dX11_sentBit_84 : decode cX11_sentBit 84 = .ok (.bipush 15, 2) := by decide +kernel
theorem dX11_sentBit_86 : decode cX11_sentBit 86 = .ok (.iload_n 2, 1) := by decide +kernel
theorem dX11_sentBit_87 : decode cX11_sentBit 87 = .ok (.bipush 16, 2) := by decide +kernel
theorem dX11_sentBit_89 : decode cX11_sentBit 89 = .ok (.irem, 1) := by decide +kernel
theorem dX11_sentBit_90 : decode cX11_sentBit 90 = .ok (.isub, 1) := by decide +kernel
theorem dX11_sentBit_91 : decode cX11_sentBit 91 = .ok (.ishr, 1) := by decide +kernel
theorem dX11_sentBit_92 : decode cX11_sentBit 92 = .ok (.iconst 1, 1) := by decide +kernel
theorem dX11_sentBit_93 : decode cX11_sentBit 93 = .ok (.iand, 1) := by decide +kernel
theorem dX11_sentBit_94 : decode cX11_sentBit 94 = .ok (.ireturn, 1) := by decide +kernel
theorem dX11_sentBit_95 : decode cX11_sentBit 95 = .ok (.iinc 4 (-1), 3) := by decide +kernel
theorem dX11_sentBit_98 : decode cX11_sentBit 98 = .ok (.iinc 5 1, 3) := by decide +kernel
theorem dX11_sentBit_101 : decode cX11_sentBit 101 = .ok (.goto (-72), 3) := by decide +kernel
theorem dX11_sentBit_104 : decode cX11_sentBit 104 = .ok (.iconst 0, 1) := by decide +kernel
theorem dX11_sentBit_105 : decode cX11_sentBit 105 = .ok (.ireturn, 1) := by decide +kernel
theorem dX11_bit_0 : decode cX11_bit 0 = .ok (.aload_n 0, 1) := by decide +kernel
theorem dX11_bit_1 : decode cX11_bit 1 = .ok (.iconst 0, 1) := by decide +kernel
theorem dX11_bit_2 : decode cX11_bit 2 = .ok (.putfield 76, 3) := by decide +kernel
theorem dX11_bit_5 : decode cX11_bit 5 = .ok (.aload_n 0, 1) := by decide +kernel
theorem dX11_bit_6 : decode cX11_bit 6 = .ok (.iload_n 1, 1) := by decide +kernel
theorem dX11_bit_7 : decode cX11_bit 7 = .ok (.invokevirtual 216, 3) := by decide +kernel
theorem dX11_bit_10 : decode cX11_bit 10 = .ok (.ifCond .eq 23, 3) := by decide +kernel
theorem dX11_bit_13 : decode cX11_bit 13 = .ok (.iload_n 2, 1) := by decide +kernel
theorem dX11_bit_14 : decode cX11_bit 14 = .ok (.iconst 0, 1) := by decide +kernel
theorem dX11_bit_15 : decode cX11_bit 15 = .ok (.sipush 199, 3) := by decide +kernel
theorem dX11_bit_18 : decode cX11_bit 18 = .ok (.invokestatic 166, 3) := by decide +kernel
theorem dX11_bit_21 : decode cX11_bit 21 = .ok (.ifCond .eq 12, 3) := by decide +kernel
theorem dX11_bit_24 : decode cX11_bit 24 = .ok (.aload_n 0, 1) := by decide +kernel
theorem dX11_bit_25 : decode cX11_bit 25 = .ok (.iload_n 1, 1) := by decide +kernel
theorem dX11_bit_26 : decode cX11_bit 26 = .ok (.iload_n 2, 1) := by decide +kernel
theorem dX11_bit_27 : decode cX11_bit 27 = .ok (.invokevirtual 246, 3) := by decide +kernel
theorem dX11_bit_30 : decode cX11_bit 30 = .ok (.goto 4, 3) := by decide +kernel
theorem dX11_bit_33 : decode cX11_bit 33 = .ok (.iconst (-1), 1) := by decide +kernel
theorem dX11_bit_34 : decode cX11_bit 34 = .ok (.ireturn, 1) := by decide +kernel
theorem dX11_rest_0 : decode cX11_rest 0 = .ok (.iload_n 0, 1) := by decide +kernel
theorem dX11_rest_1 : decode cX11_rest 1 = .ok (.iload_n 1, 1) := by decide +kernel
theorem dX11_rest_2 : decode cX11_rest 2 = .ok (.irem, 1) := by decide +kernel
theorem dX11_rest_3 : decode cX11_rest 3 = .ok (.ifCond .ge 11, 3) := by decide +kernel
theorem dX11_rest_6 : decode cX11_rest 6 = .ok (.iload_n 0, 1) := by decide +kernel
theorem dX11_rest_7 : decode cX11_rest 7 = .ok (.iload_n 1, 1) := by decide +kernel
theorem dX11_rest_8 : decode cX11_rest 8 = .ok (.irem, 1) := by decide +kernel
theorem dX11_rest_9 : decode cX11_rest 9 = .ok (.iload_n 1, 1) := by decide +kernel
theorem dX11_rest_10 : decode cX11_rest 10 = .ok (.iadd, 1) := by decide +kernel
theorem dX11_rest_11 : decode cX11_rest 11 = .ok (.goto 6, 3) := by decide +kernel
theorem dX11_rest_14 : decode cX11_rest 14 = .ok (.iload_n 0, 1) := by decide +kernel
theorem dX11_rest_15 : decode cX11_rest 15 = .ok (.iload_n 1, 1) := by decide +kernel
theorem dX11_rest_16 : decode cX11_rest 16 = .ok (.irem, 1) := by decide +kernel
theorem dX11_rest_17 : decode cX11_rest 17 = .ok (.ireturn, 1) := by decide +kernel
theorem dX11_quotient_0 : decode cX11_quotient 0 = .ok (.iload_n 0, 1) := by decide +kernel
theorem dX11_quotient_1 : decode cX11_quotient 1 = .ok (.iload_n 0, 1) := by decide +kernel
theorem dX11_quotient_2 : decode cX11_quotient 2 = .ok (.iload_n 1, 1) := by decide +kernel
theorem dX11_quotient_3 : decode cX11_quotient 3 = .ok (.invokestatic 249, 3) := by decide +kernel
theorem dX11_quotient_6 : decode cX11_quotient 6 = .ok (.isub, 1) := by decide +kernel
theorem dX11_quotient_7 : decode cX11_quotient 7 = .ok (.iload_n 1, 1) := by decide +kernel
theorem dX11_quotient_8 : decode cX11_quotient 8 = .ok (.idiv, 1) := by decide +kernel
theorem dX11_quotient_9 : decode cX11_quotient 9 = .ok (.ireturn, 1) := by decide +kernel
theorem dX11_startIn_0 : decode cX11_startIn 0 = .ok (.aload_n 0, 1) := by decide +kernel
theorem dX11_startIn_1 : decode cX11_startIn 1 = .ok (.iload_n 1, 1) := by decide +kernel
theorem dX11_startIn_2 : decode cX11_startIn 2 = .ok (.iconst 3, 1) := by decide +kernel
theorem dX11_startIn_3 : decode cX11_startIn 3 = .ok (.invokevirtual 160, 3) := by decide +kernel
theorem dX11_startIn_6 : decode cX11_startIn 6 = .ok (.aload_n 0, 1) := by decide +kernel
theorem dX11_startIn_7 : decode cX11_startIn 7 = .ok (.iload_n 1, 1) := by decide +kernel
theorem dX11_startIn_8 : decode cX11_startIn 8 = .ok (.bipush 7, 2) := by decide +kernel
theorem dX11_startIn_10 : decode cX11_startIn 10 = .ok (.invokevirtual 160, 3) := by decide +kernel
theorem dX11_startIn_13 : decode cX11_startIn 13 = .ok (.ifCond .ne 7, 3) := by decide +kernel
theorem dX11_startIn_16 : decode cX11_startIn 16 = .ok (.iconst 0, 1) := by decide +kernel
theorem dX11_startIn_17 : decode cX11_startIn 17 = .ok (.goto 12, 3) := by decide +kernel
theorem dX11_startIn_20 : decode cX11_startIn 20 = .ok (.iload_n 2, 1) := by decide +kernel
theorem dX11_startIn_21 : decode cX11_startIn 21 = .ok (.aload_n 0, 1) := by decide +kernel
theorem dX11_startIn_22 : decode cX11_startIn 22 = .ok (.iload_n 1, 1) := by decide +kernel
theorem dX11_startIn_23 : decode cX11_startIn 23 = .ok (.bipush 7, 2) := by decide +kernel
theorem dX11_startIn_25 : decode cX11_startIn 25 = .ok (.invokevirtual 160, 3) := by decide +kernel
theorem dX11_startIn_28 : decode cX11_startIn 28 = .ok (.idiv, 1) := by decide +kernel
theorem dX11_startIn_29 : decode cX11_startIn 29 = .ok (.iadd, 1) := by decide +kernel
theorem dX11_startIn_30 : decode cX11_startIn 30 = .ok (.ireturn, 1) := by decide +kernel
theorem dX11_isLoud_0 : decode cX11_isLoud 0 = .ok (.aload_n 0, 1) := by decide +kernel
theorem dX11_isLoud_1 : decode cX11_isLoud 1 = .ok (.iload_n 1, 1) := by decide +kernel
theorem dX11_isLoud_2 : decode cX11_isLoud 2 = .ok (.iconst 2, 1) := by decide +kernel
theorem dX11_isLoud_3 : decode cX11_isLoud 3 = .ok (.invokevirtual 160, 3) := by decide +kernel
theorem dX11_isLoud_6 : decode cX11_isLoud 6 = .ok (.ifCond .eq 18, 3) := by decide +kernel
theorem dX11_isLoud_9 : decode cX11_isLoud 9 = .ok (.aload_n 0, 1) := by decide +kernel
theorem dX11_isLoud_10 : decode cX11_isLoud 10 = .ok (.getfield 140, 3) := by decide +kernel
theorem dX11_isLoud_13 : decode cX11_isLoud 13 = .ok (.ifCond .lt 13, 3) := by decide +kernel
theorem dX11_isLoud_16 : decode cX11_isLoud 16 = .ok (.iload_n 1, 1) := by decide +kernel
theorem dX11_isLoud_17 : decode cX11_isLoud 17 = .ok (.aload_n 0, 1) := by decide +kernel
theorem dX11_isLoud_18 : decode cX11_isLoud 18 = .ok (.getfield 140, 3) := by decide +kernel
theorem dX11_isLoud_21 : decode cX11_isLoud 21 = .ok (.if_icmp .eq 5, 3) := by decide +kernel
theorem dX11_isLoud_24 : decode cX11_isLoud 24 = .ok (.iconst 0, 1) := by decide +kernel
theorem dX11_isLoud_25 : decode cX11_isLoud 25 = .ok (.ireturn, 1) := by decide +kernel
theorem dX11_isLoud_26 : decode cX11_isLoud 26 = .ok (.aload_n 0, 1) := by decide +kernel
theorem dX11_isLoud_27 : decode cX11_isLoud 27 = .ok (.iload_n 1, 1) := by decide +kernel
theorem dX11_isLoud_28 : decode cX11_isLoud 28 = .ok (.bipush 8, 2) := by decide +kernel
theorem dX11_isLoud_30 : decode cX11_isLoud 30 = .ok (.invokevirtual 160, 3) := by decide +kernel
theorem dX11_isLoud_33 : decode cX11_isLoud 33 = .ok (.ifCond .eq 14, 3) := by decide +kernel
theorem dX11_isLoud_36 : decode cX11_isLoud 36 = .ok (.aload_n 0, 1) := by decide +kernel
theorem dX11_isLoud_37 : decode cX11_isLoud 37 = .ok (.iload_n 1, 1) := by decide +kernel
theorem dX11_isLoud_38 : decode cX11_isLoud 38 = .ok (.bipush 8, 2) := by decide +kernel
theorem dX11_isLoud_40 : decode cX11_isLoud 40 = .ok (.invokevirtual 160, 3) := by decide +kernel
theorem dX11_isLoud_43 : decode cX11_isLoud 43 = .ok (.iload_n 2, 1) := by decide +kernel
theorem dX11_isLoud_44 : decode cX11_isLoud 44 = .ok (.if_icmp .le 7, 3) := by decide +kernel
theorem dX11_isLoud_47 : decode cX11_isLoud 47 = .ok (.iconst 1, 1) := by decide +kernel
theorem dX11_isLoud_48 : decode cX11_isLoud 48 = .ok (.goto 4, 3) := by decide +kernel
theorem dX11_isLoud_51 : decode cX11_isLoud 51 = .ok (.iconst 0, 1) := by decide +kernel
theorem dX11_isLoud_52 : decode cX11_isLoud 52 = .ok (.ireturn, 1) := by decide +kernel
theorem dX11_cosOf_0 : decode cX11_cosOf 0 = .ok (.aload_n 0, 1) := by decide +kernel
theorem dX11_cosOf_1 : decode cX11_cosOf 1 = .ok (.getfield 36, 3) := by decide +kernel
theorem dX11_cosOf_4 : decode cX11_cosOf 4 = .ok (.iload_n 1, 1) := by decide +kernel
theorem dX11_cosOf_5 : decode cX11_cosOf 5 = .ok (.bipush 16, 2) := by decide +kernel
theorem dX11_cosOf_7 : decode cX11_cosOf 7 = .ok (.invokestatic 249, 3) := by decide +kernel
theorem dX11_cosOf_10 : decode cX11_cosOf 10 = .ok (.iaload, 1) := by decide +kernel
theorem dX11_cosOf_11 : decode cX11_cosOf 11 = .ok (.ireturn, 1) := by decide +kernel
theorem dX11_sinOf_0 : decode cX11_sinOf 0 = .ok (.aload_n 0, 1) := by decide +kernel
theorem dX11_sinOf_1 : decode cX11_sinOf 1 = .ok (.getfield 36, 3) := by decide +kernel
theorem dX11_sinOf_4 : decode cX11_sinOf 4 = .ok (.iload_n 1, 1) := by decide +kernel
theorem dX11_sinOf_5 : decode cX11_sinOf 5 = .ok (.bipush 12, 2) := by decide +kernel
theorem dX11_sinOf_7 : decode cX11_sinOf 7 = .ok (.iadd, 1) := by decide +kernel
theorem dX11_sinOf_8 : decode cX11_sinOf 8 = .ok (.bipush 16, 2) := by decide +kernel
theorem dX11_sinOf_10 : decode cX11_sinOf 10 = .ok (.invokestatic 249, 3) := by decide +kernel
theorem dX11_sinOf_13 : decode cX11_sinOf 13 = .ok (.iaload, 1) := by decide +kernel
theorem dX11_sinOf_14 : decode cX11_sinOf 14 = .ok (.ireturn, 1) := by decide +kernel
theorem dX11_angleOf_0 : decode cX11_angleOf 0 = .ok (.iload_n 0, 1) := by decide +kernel
theorem dX11_angleOf_1 : decode cX11_angleOf 1 = .ok (.bipush 7, 2) := by decide +kernel
theorem dX11_angleOf_3 : decode cX11_angleOf 3 = .ok (.isub, 1) := by decide +kernel
theorem dX11_angleOf_4 : decode cX11_angleOf 4 = .ok (.iload_n 2, 1) := by decide +kernel
theorem dX11_angleOf_5 : decode cX11_angleOf 5 = .ok (.imul, 1) := by decide +kernel
theorem dX11_angleOf_6 : decode cX11_angleOf 6 = .ok (.bipush 8, 2) := by decide +kernel
theorem dX11_angleOf_8 : decode cX11_angleOf 8 = .ok (.invokestatic 252, 3) := by decide +kernel
theorem dX11_angleOf_11 : decode cX11_angleOf 11 = .ok (.iload_n 1, 1) := by decide +kernel
theorem dX11_angleOf_12 : decode cX11_angleOf 12 = .ok (.iadd, 1) := by decide +kernel
theorem dX11_angleOf_13 : decode cX11_angleOf 13 = .ok (.ireturn, 1) := by decide +kernel
theorem dX11_made_0 : decode cX11_made 0 = .ok (.lload_n 0, 1) := by decide +kernel
theorem dX11_made_1 : decode cX11_made 1 = .ok (.ldc2_w 255, 3) := by decide +kernel
theorem dX11_made_4 : decode cX11_made 4 = .ok (.lmul, 1) := by decide +kernel
theorem dX11_made_5 : decode cX11_made 5 = .ok (.ldc2_w 257, 3) := by decide +kernel
theorem dX11_made_8 : decode cX11_made 8 = .ok (.ladd, 1) := by decide +kernel
theorem dX11_made_9 : decode cX11_made 9 = .ok (.ldc2_w 259, 3) := by decide +kernel
theorem dX11_made_12 : decode cX11_made 12 = .ok (.land, 1) := by decide +kernel
theorem dX11_made_13 : decode cX11_made 13 = .ok (.lreturn, 1) := by decide +kernel
theorem dX11_errorOf_0 : decode cX11_errorOf 0 = .ok (.lload_n 0, 1) := by decide +kernel
theorem dX11_errorOf_1 : decode cX11_errorOf 1 = .ok (.ldc2_w 261, 3) := by decide +kernel
theorem dX11_errorOf_4 : decode cX11_errorOf 4 = .ok (.ldiv, 1) := by decide +kernel
theorem dX11_errorOf_5 : decode cX11_errorOf 5 = .ok (.iconst 2, 1) := by decide +kernel
theorem dX11_errorOf_6 : decode cX11_errorOf 6 = .ok (.iload_n 2, 1) := by decide +kernel
theorem dX11_errorOf_7 : decode cX11_errorOf 7 = .ok (.imul, 1) := by decide +kernel
theorem dX11_errorOf_8 : decode cX11_errorOf 8 = .ok (.iconst 1, 1) := by decide +kernel
theorem dX11_errorOf_9 : decode cX11_errorOf 9 = .ok (.iadd, 1) := by decide +kernel
theorem dX11_errorOf_10 : decode cX11_errorOf 10 = .ok (.i2l, 1) := by decide +kernel
theorem dX11_errorOf_11 : decode cX11_errorOf 11 = .ok (.lrem, 1) := by decide +kernel
theorem dX11_errorOf_12 : decode cX11_errorOf 12 = .ok (.l2i, 1) := by decide +kernel
theorem dX11_errorOf_13 : decode cX11_errorOf 13 = .ok (.iload_n 2, 1) := by decide +kernel
theorem dX11_errorOf_14 : decode cX11_errorOf 14 = .ok (.isub, 1) := by decide +kernel
theorem dX11_errorOf_15 : decode cX11_errorOf 15 = .ok (.ireturn, 1) := by decide +kernel
theorem dX11_laySamples_0 : decode cX11_laySamples 0 = .ok (.iconst 0, 1) := by decide +kernel
theorem dX11_laySamples_1 : decode cX11_laySamples 1 = .ok (.istore_n 2, 1) := by decide +kernel
theorem dX11_laySamples_2 : decode cX11_laySamples 2 = .ok (.iload_n 2, 1) := by decide +kernel
theorem dX11_laySamples_3 : decode cX11_laySamples 3 = .ok (.bipush 62, 2) := by decide +kernel
theorem dX11_laySamples_5 : decode cX11_laySamples 5 = .ok (.if_icmp .ge 88, 3) := by decide +kernel
theorem dX11_laySamples_8 : decode cX11_laySamples 8 = .ok (.bipush 62, 2) := by decide +kernel
theorem dX11_laySamples_10 : decode cX11_laySamples 10 = .ok (.iload_n 1, 1) := by decide +kernel
theorem dX11_laySamples_11 : decode cX11_laySamples 11 = .ok (.imul, 1) := by decide +kernel
theorem dX11_laySamples_12 : decode cX11_laySamples 12 = .ok (.iload_n 2, 1) := by decide +kernel
theorem dX11_laySamples_13 : decode cX11_laySamples 13 = .ok (.iadd, 1) := by decide +kernel
theorem dX11_laySamples_14 : decode cX11_laySamples 14 = .ok (.istore_n 3, 1) := by decide +kernel
theorem dX11_laySamples_15 : decode cX11_laySamples 15 = .ok (.aload_n 0, 1) := by decide +kernel
theorem dX11_laySamples_16 : decode cX11_laySamples 16 = .ok (.getfield 137, 3) := by decide +kernel
theorem dX11_laySamples_19 : decode cX11_laySamples 19 = .ok (.i2l, 1) := by decide +kernel
theorem dX11_laySamples_20 : decode cX11_laySamples 20 = .ok (.iload_n 3, 1) := by decide +kernel
theorem dX11_laySamples_21 : decode cX11_laySamples 21 = .ok (.i2l, 1) := by decide +kernel
theorem dX11_laySamples_22 : decode cX11_laySamples 22 = .ok (.ladd, 1) := by decide +kernel
theorem dX11_laySamples_23 : decode cX11_laySamples 23 = .ok (.invokestatic 263, 3) := by decide +kernel
theorem dX11_laySamples_26 : decode cX11_laySamples 26 = .ok (.lstore 4, 2) := by decide +kernel
theorem dX11_laySamples_28 : decode cX11_laySamples 28 = .ok (.aload_n 0, 1) := by decide +kernel
theorem dX11_laySamples_29 : decode cX11_laySamples 29 = .ok (.getfield 39, 3) := by decide +kernel
theorem dX11_laySamples_32 : decode cX11_laySamples 32 = .ok (.iload_n 2, 1) := by decide +kernel
theorem dX11_laySamples_33 : decode cX11_laySamples 33 = .ok (.lload 4, 2) := by decide +kernel
theorem dX11_laySamples_35 : decode cX11_laySamples 35 = .ok (.aload_n 0, 1) := by decide +kernel
theorem dX11_laySamples_36 : decode cX11_laySamples 36 = .ok (.getfield 134, 3) := by decide +kernel
theorem dX11_laySamples_39 : decode cX11_laySamples 39 = .ok (.invokestatic 267, 3) := by decide +kernel
theorem dX11_laySamples_42 : decode cX11_laySamples 42 = .ok (.iastore, 1) := by decide +kernel
theorem dX11_laySamples_43 : decode cX11_laySamples 43 = .ok (.aload_n 0, 1) := by decide +kernel
theorem dX11_laySamples_44 : decode cX11_laySamples 44 = .ok (.getfield 42, 3) := by decide +kernel
theorem dX11_laySamples_47 : decode cX11_laySamples 47 = .ok (.iload_n 2, 1) := by decide +kernel
theorem dX11_laySamples_48 : decode cX11_laySamples 48 = .ok (.lload 4, 2) := by decide +kernel
theorem dX11_laySamples_50 : decode cX11_laySamples 50 = .ok (.invokestatic 263, 3) := by decide +kernel
theorem dX11_laySamples_53 : decode cX11_laySamples 53 = .ok (.aload_n 0, 1) := by decide +kernel
theorem dX11_laySamples_54 : decode cX11_laySamples 54 = .ok (.getfield 134, 3) := by decide +kernel
theorem dX11_laySamples_57 : decode cX11_laySamples 57 = .ok (.invokestatic 267, 3) := by decide +kernel
theorem dX11_laySamples_60 : decode cX11_laySamples 60 = .ok (.iastore, 1) := by decide +kernel
theorem dX11_laySamples_61 : decode cX11_laySamples 61 = .ok (.iconst 0, 1) := by decide +kernel
theorem dX11_laySamples_62 : decode cX11_laySamples 62 = .ok (.istore 6, 2) := by decide +kernel
theorem dX11_laySamples_64 : decode cX11_laySamples 64 = .ok (.iload 6, 2) := by decide +kernel
theorem dX11_laySamples_66 : decode cX11_laySamples 66 = .ok (.aload_n 0, 1) := by decide +kernel
theorem dX11_laySamples_67 : decode cX11_laySamples 67 = .ok (.getfield 121, 3) := by decide +kernel
theorem dX11_laySamples_70 : decode cX11_laySamples 70 = .ok (.if_icmp .ge 17, 3) := by decide +kernel
theorem dX11_laySamples_73 : decode cX11_laySamples 73 = .ok (.aload_n 0, 1) := by decide +kernel
theorem dX11_laySamples_74 : decode cX11_laySamples 74 = .ok (.iload 6, 2) := by decide +kernel
theorem dX11_laySamples_76 : decode cX11_laySamples 76 = .ok (.iload_n 1, 1) := by decide +kernel
theorem dX11_laySamples_77 : decode cX11_laySamples 77 = .ok (.iload_n 3, 1) := by decide +kernel
theorem dX11_laySamples_78 : decode cX11_laySamples 78 = .ok (.invokevirtual 271, 3) := by decide +kernel
theorem dX11_laySamples_81 : decode cX11_laySamples 81 = .ok (.iinc 6 1, 3) := by decide +kernel
theorem dX11_laySamples_84 : decode cX11_laySamples 84 = .ok (.goto (-20), 3) := by decide +kernel
theorem dX11_laySamples_87 : decode cX11_laySamples 87 = .ok (.iinc 2 1, 3) := by decide +kernel
theorem dX11_laySamples_90 : decode cX11_laySamples 90 = .ok (.goto (-88), 3) := by decide +kernel
theorem dX11_laySamples_93 : decode cX11_laySamples 93 = .ok (.return_, 1) := by decide +kernel
theorem dX11_adds_0 : decode cX11_adds 0 = .ok (.aload_n 0, 1) := by decide +kernel
theorem dX11_adds_1 : decode cX11_adds 1 = .ok (.iload_n 1, 1) := by decide +kernel
theorem dX11_adds_2 : decode cX11_adds 2 = .ok (.iload_n 2, 1) := by decide +kernel
theorem dX11_adds_3 : decode cX11_adds 3 = .ok (.invokevirtual 274, 3) := by decide +kernel
theorem dX11_adds_6 : decode cX11_adds 6 = .ok (.ifCond .ne 4, 3) := by decide +kernel
theorem dX11_adds_9 : decode cX11_adds 9 = .ok (.return_, 1) := by decide +kernel
theorem dX11_adds_10 : decode cX11_adds 10 = .ok (.iload_n 3, 1) := by decide +kernel
theorem dX11_adds_11 : decode cX11_adds 11 = .ok (.aload_n 0, 1) := by decide +kernel
theorem dX11_adds_12 : decode cX11_adds 12 = .ok (.iload_n 1, 1) := by decide +kernel
theorem dX11_adds_13 : decode cX11_adds 13 = .ok (.iload_n 2, 1) := by decide +kernel
theorem dX11_adds_14 : decode cX11_adds 14 = .ok (.invokevirtual 277, 3) := by decide +kernel
theorem dX11_adds_17 : decode cX11_adds 17 = .ok (.isub, 1) := by decide +kernel
theorem dX11_adds_18 : decode cX11_adds 18 = .ok (.istore 4, 2) := by decide +kernel
theorem dX11_adds_20 : decode cX11_adds 20 = .ok (.aload_n 0, 1) := by decide +kernel
theorem dX11_adds_21 : decode cX11_adds 21 = .ok (.iload_n 1, 1) := by decide +kernel
theorem dX11_adds_22 : decode cX11_adds 22 = .ok (.bipush 6, 2) := by decide +kernel
theorem dX11_adds_24 : decode cX11_adds 24 = .ok (.invokevirtual 160, 3) := by decide +kernel
theorem dX11_adds_27 : decode cX11_adds 27 = .ok (.aload_n 0, 1) := by decide +kernel
theorem dX11_adds_28 : decode cX11_adds 28 = .ok (.aload_n 0, 1) := by decide +kernel
theorem dX11_adds_29 : decode cX11_adds 29 = .ok (.iload_n 1, 1) := by decide +kernel
theorem dX11_adds_30 : decode cX11_adds 30 = .ok (.iconst 1, 1) := by decide +kernel
theorem dX11_adds_31 : decode cX11_adds 31 = .ok (.invokevirtual 160, 3) := by decide +kernel
theorem dX11_adds_34 : decode cX11_adds 34 = .ok (.iload 4, 2) := by decide +kernel
theorem dX11_adds_36 : decode cX11_adds 36 = .ok (.bipush 62, 2) := by decide +kernel
theorem dX11_adds_38 : decode cX11_adds 38 = .ok (.invokestatic 249, 3) := by decide +kernel
theorem dX11_adds_41 : decode cX11_adds 41 = .ok (.iconst 2, 1) := by decide +kernel
theorem dX11_adds_42 : decode cX11_adds 42 = .ok (.idiv, 1) := by decide +kernel
theorem dX11_adds_43 : decode cX11_adds 43 = .ok (.invokevirtual 229, 3) := by decide +kernel
theorem dX11_adds_46 : decode cX11_adds 46 = .ok (.imul, 1) := by decide +kernel
theorem dX11_adds_47 : decode cX11_adds 47 = .ok (.istore 5, 2) := by decide +kernel
theorem dX11_adds_49 : decode cX11_adds 49 = .ok (.aload_n 0, 1) := by decide +kernel
theorem dX11_adds_50 : decode cX11_adds 50 = .ok (.iload_n 1, 1) := by decide +kernel
theorem dX11_adds_51 : decode cX11_adds 51 = .ok (.iload 4, 2) := by decide +kernel
theorem dX11_adds_53 : decode cX11_adds 53 = .ok (.bipush 62, 2) := by decide +kernel
theorem dX11_adds_55 : decode cX11_adds 55 = .ok (.invokestatic 252, 3) := by decide +kernel
theorem dX11_adds_58 : decode cX11_adds 58 = .ok (.invokevirtual 246, 3) := by decide +kernel
theorem dX11_adds_61 : decode cX11_adds 61 = .ok (.iconst 1, 1) := by decide +kernel
theorem dX11_adds_62 : decode cX11_adds 62 = .ok (.if_icmp .ne 9, 3) := by decide +kernel
theorem dX11_adds_65 : decode cX11_adds 65 = .ok (.iload 5, 2) := by decide +kernel
theorem dX11_adds_67 : decode cX11_adds 67 = .ok (.ineg, 1) := by decide +kernel
theorem dX11_adds_68 : decode cX11_adds 68 = .ok (.goto 5, 3) := by decide +kernel
theorem dX11_adds_71 : decode cX11_adds 71 = .ok (.iload 5, 2) := by decide +kernel
theorem dX11_adds_73 : decode cX11_adds 73 = .ok (.istore 5, 2) := by decide +kernel
theorem dX11_adds_75 : decode cX11_adds 75 = .ok (.aload_n 0, 1) := by decide +kernel
theorem dX11_adds_76 : decode cX11_adds 76 = .ok (.iload_n 1, 1) := by decide +kernel
theorem dX11_adds_77 : decode cX11_adds 77 = .ok (.iconst 4, 1) := by decide +kernel
theorem dX11_adds_78 : decode cX11_adds 78 = .ok (.invokevirtual 160, 3) := by decide +kernel
theorem dX11_adds_81 : decode cX11_adds 81 = .ok (.aload_n 0, 1) := by decide +kernel
theorem dX11_adds_82 : decode cX11_adds 82 = .ok (.iload_n 1, 1) := by decide +kernel
theorem dX11_adds_83 : decode cX11_adds 83 = .ok (.iconst 5, 1) := by decide +kernel
theorem dX11_adds_84 : decode cX11_adds 84 = .ok (.invokevirtual 160, 3) := by decide +kernel
theorem dX11_adds_87 : decode cX11_adds 87 = .ok (.iload_n 3, 1) := by decide +kernel
theorem dX11_adds_88 : decode cX11_adds 88 = .ok (.invokestatic 280, 3) := by decide +kernel
theorem dX11_adds_91 : decode cX11_adds 91 = .ok (.istore 6, 2) := by decide +kernel
theorem dX11_adds_93 : decode cX11_adds 93 = .ok (.aload_n 0, 1) := by decide +kernel
theorem dX11_adds_94 : decode cX11_adds 94 = .ok (.getfield 39, 3) := by decide +kernel
theorem dX11_adds_97 : decode cX11_adds 97 = .ok (.iload_n 3, 1) := by decide +kernel
theorem dX11_adds_98 : decode cX11_adds 98 = .ok (.bipush 62, 2) := by decide +kernel
theorem dX11_adds_100 : decode cX11_adds 100 = .ok (.irem, 1) := by decide +kernel
theorem dX11_adds_101 : decode cX11_adds 101 = .ok (.dup2, 1) := by decide +kernel
theorem dX11_adds_102 : decode cX11_adds 102 = .ok (.iaload, 1) := by decide +kernel
theorem dX11_adds_103 : decode cX11_adds 103 = .ok (.iload 5, 2) := by decide +kernel
theorem dX11_adds_105 : decode cX11_adds 105 = .ok (.aload_n 0, 1) := by decide +kernel
theorem dX11_adds_106 : decode cX11_adds 106 = .ok (.iload 6, 2) := by decide +kernel
theorem dX11_adds_108 : decode cX11_adds 108 = .ok (.invokevirtual 283, 3) := by decide +kernel
theorem dX11_adds_111 : decode cX11_adds 111 = .ok (.imul, 1) := by decide +kernel
theorem dX11_adds_112 : decode cX11_adds 112 = .ok (.iadd, 1) := by decide +kernel
theorem dX11_adds_113 : decode cX11_adds 113 = .ok (.iastore, 1) := by decide +kernel
theorem dX11_adds_114 : decode cX11_adds 114 = .ok (.aload_n 0, 1) := by decide +kernel
theorem dX11_adds_115 : decode cX11_adds 115 = .ok (.getfield 42, 3) := by decide +kernel
theorem dX11_adds_118 : decode cX11_adds 118 = .ok (.iload_n 3, 1) := by decide +kernel
theorem dX11_adds_119 : decode cX11_adds 119 = .ok (.bipush 62, 2) := by decide +kernel
theorem dX11_adds_121 : decode cX11_adds 121 = .ok (.irem, 1) := by decide +kernel
theorem dX11_adds_122 : decode cX11_adds 122 = .ok (.dup2, 1) := by decide +kernel
theorem dX11_adds_123 : decode cX11_adds 123 = .ok (.iaload, 1) := by decide +kernel
theorem dX11_adds_124 : decode cX11_adds 124 = .ok (.iload 5, 2) := by decide +kernel
theorem dX11_adds_126 : decode cX11_adds 126 = .ok (.aload_n 0, 1) := by decide +kernel
theorem dX11_adds_127 : decode cX11_adds 127 = .ok (.iload 6, 2) := by decide +kernel
theorem dX11_adds_129 : decode cX11_adds 129 = .ok (.invokevirtual 286, 3) := by decide +kernel
theorem dX11_adds_132 : decode cX11_adds 132 = .ok (.imul, 1) := by decide +kernel
theorem dX11_adds_133 : decode cX11_adds 133 = .ok (.iadd, 1) := by decide +kernel
theorem dX11_adds_134 : decode cX11_adds 134 = .ok (.iastore, 1) := by decide +kernel
theorem dX11_adds_135 : decode cX11_adds 135 = .ok (.return_, 1) := by decide +kernel
theorem dX11_sample_0 : decode cX11_sample 0 = .ok (.aload_n 0, 1) := by decide +kernel
theorem dX11_sample_1 : decode cX11_sample 1 = .ok (.iconst 0, 1) := by decide +kernel
theorem dX11_sample_2 : decode cX11_sample 2 = .ok (.putfield 76, 3) := by decide +kernel
theorem dX11_sample_5 : decode cX11_sample 5 = .ok (.iload_n 1, 1) := by decide +kernel
theorem dX11_sample_6 : decode cX11_sample 6 = .ok (.iconst 0, 1) := by decide +kernel
theorem dX11_sample_7 : decode cX11_sample 7 = .ok (.sipush 12399, 3) := by decide +kernel
theorem dX11_sample_10 : decode cX11_sample 10 = .ok (.invokestatic 166, 3) := by decide +kernel
theorem dX11_sample_13 : decode cX11_sample 13 = .ok (.ifCond .eq 12, 3) := by decide +kernel
theorem dX11_sample_16 : decode cX11_sample 16 = .ok (.iload_n 2, 1) := by decide +kernel
theorem dX11_sample_17 : decode cX11_sample 17 = .ok (.iconst 0, 1) := by decide +kernel
theorem dX11_sample_18 : decode cX11_sample 18 = .ok (.iconst 1, 1) := by decide +kernel
theorem dX11_sample_19 : decode cX11_sample 19 = .ok (.invokestatic 166, 3) := by decide +kernel
theorem dX11_sample_22 : decode cX11_sample 22 = .ok (.ifCond .ne 5, 3) := by decide +kernel
theorem dX11_sample_25 : decode cX11_sample 25 = .ok (.iconst 0, 1) := by decide +kernel
theorem dX11_sample_26 : decode cX11_sample 26 = .ok (.ireturn, 1) := by decide +kernel
theorem dX11_sample_27 : decode cX11_sample 27 = .ok (.aload_n 0, 1) := by decide +kernel
theorem dX11_sample_28 : decode cX11_sample 28 = .ok (.iload_n 1, 1) := by decide +kernel
theorem dX11_sample_29 : decode cX11_sample 29 = .ok (.bipush 62, 2) := by decide +kernel
theorem dX11_sample_31 : decode cX11_sample 31 = .ok (.idiv, 1) := by decide +kernel
theorem dX11_sample_32 : decode cX11_sample 32 = .ok (.invokevirtual 289, 3) := by decide +kernel
theorem dX11_sample_35 : decode cX11_sample 35 = .ok (.iload_n 2, 1) := by decide +kernel
theorem dX11_sample_36 : decode cX11_sample 36 = .ok (.ifCond .ne 15, 3) := by decide +kernel
theorem dX11_sample_39 : decode cX11_sample 39 = .ok (.aload_n 0, 1) := by decide +kernel
theorem dX11_sample_40 : decode cX11_sample 40 = .ok (.getfield 39, 3) := by decide +kernel
theorem dX11_sample_43 : decode cX11_sample 43 = .ok (.iload_n 1, 1) := by decide +kernel
theorem dX11_sample_44 : decode cX11_sample 44 = .ok (.bipush 62, 2) := by decide +kernel
theorem dX11_sample_46 : decode cX11_sample 46 = .ok (.irem, 1) := by decide +kernel
theorem dX11_sample_47 : decode cX11_sample 47 = .ok (.iaload, 1) := by decide +kernel
theorem dX11_sample_48 : decode cX11_sample 48 = .ok (.goto 12, 3) := by decide +kernel
theorem dX11_sample_51 : decode cX11_sample 51 = .ok (.aload_n 0, 1) := by decide +kernel
theorem dX11_sample_52 : decode cX11_sample 52 = .ok (.getfield 42, 3) := by decide +kernel
theorem dX11_sample_55 : decode cX11_sample 55 = .ok (.iload_n 1, 1) := by decide +kernel
theorem dX11_sample_56 : decode cX11_sample 56 = .ok (.bipush 62, 2) := by decide +kernel
theorem dX11_sample_58 : decode cX11_sample 58 = .ok (.irem, 1) := by decide +kernel
theorem dX11_sample_59 : decode cX11_sample 59 = .ok (.iaload, 1) := by decide +kernel
theorem dX11_sample_60 : decode cX11_sample 60 = .ok (.ireturn, 1) := by decide +kernel
theorem dX11_turnsBack_0 : decode cX11_turnsBack 0 = .ok (.iconst 0, 1) := by decide +kernel
theorem dX11_turnsBack_1 : decode cX11_turnsBack 1 = .ok (.istore 4, 2) := by decide +kernel
theorem dX11_turnsBack_3 : decode cX11_turnsBack 3 = .ok (.iload 4, 2) := by decide +kernel
theorem dX11_turnsBack_5 : decode cX11_turnsBack 5 = .ok (.bipush 62, 2) := by decide +kernel
theorem dX11_turnsBack_7 : decode cX11_turnsBack 7 = .ok (.if_icmp .ge 95, 3) := by decide +kernel
theorem dX11_turnsBack_10 : decode cX11_turnsBack 10 = .ok (.iload_n 2, 1) := by decide +kernel
theorem dX11_turnsBack_11 : decode cX11_turnsBack 11 = .ok (.iload_n 3, 1) := by decide +kernel
theorem dX11_turnsBack_12 : decode cX11_turnsBack 12 = .ok (.bipush 62, 2) := by decide +kernel
theorem dX11_turnsBack_14 : decode cX11_turnsBack 14 = .ok (.iload_n 1, 1) := by decide +kernel
theorem dX11_turnsBack_15 : decode cX11_turnsBack 15 = .ok (.imul, 1) := by decide +kernel
theorem dX11_turnsBack_16 : decode cX11_turnsBack 16 = .ok (.iload 4, 2) := by decide +kernel
theorem dX11_turnsBack_18 : decode cX11_turnsBack 18 = .ok (.iadd, 1) := by decide +kernel
theorem dX11_turnsBack_19 : decode cX11_turnsBack 19 = .ok (.invokestatic 280, 3) := by decide +kernel
theorem dX11_turnsBack_22 : decode cX11_turnsBack 22 = .ok (.istore 5, 2) := by decide +kernel
theorem dX11_turnsBack_24 : decode cX11_turnsBack 24 = .ok (.aload_n 0, 1) := by decide +kernel
theorem dX11_turnsBack_25 : decode cX11_turnsBack 25 = .ok (.getfield 45, 3) := by decide +kernel
theorem dX11_turnsBack_28 : decode cX11_turnsBack 28 = .ok (.iload 4, 2) := by decide +kernel
theorem dX11_turnsBack_30 : decode cX11_turnsBack 30 = .ok (.aload_n 0, 1) := by decide +kernel
theorem dX11_turnsBack_31 : decode cX11_turnsBack 31 = .ok (.getfield 39, 3) := by decide +kernel
theorem dX11_turnsBack_34 : decode cX11_turnsBack 34 = .ok (.iload 4, 2) := by decide +kernel
theorem dX11_turnsBack_36 : decode cX11_turnsBack 36 = .ok (.iaload, 1) := by decide +kernel
theorem dX11_turnsBack_37 : decode cX11_turnsBack 37 = .ok (.aload_n 0, 1) := by decide +kernel
theorem dX11_turnsBack_38 : decode cX11_turnsBack 38 = .ok (.iload 5, 2) := by decide +kernel
theorem dX11_turnsBack_40 : decode cX11_turnsBack 40 = .ok (.invokevirtual 283, 3) := by decide +kernel
theorem dX11_turnsBack_43 : decode cX11_turnsBack 43 = .ok (.imul, 1) := by decide +kernel
theorem dX11_turnsBack_44 : decode cX11_turnsBack 44 = .ok (.aload_n 0, 1) := by decide +kernel
theorem dX11_turnsBack_45 : decode cX11_turnsBack 45 = .ok (.getfield 42, 3) := by decide +kernel
theorem dX11_turnsBack_48 : decode cX11_turnsBack 48 = .ok (.iload 4, 2) := by decide +kernel
theorem dX11_turnsBack_50 : decode cX11_turnsBack 50 = .ok (.iaload, 1) := by decide +kernel
theorem dX11_turnsBack_51 : decode cX11_turnsBack 51 = .ok (.aload_n 0, 1) := by decide +kernel
theorem dX11_turnsBack_52 : decode cX11_turnsBack 52 = .ok (.iload 5, 2) := by decide +kernel
theorem dX11_turnsBack_54 : decode cX11_turnsBack 54 = .ok (.invokevirtual 286, 3) := by decide +kernel
theorem dX11_turnsBack_57 : decode cX11_turnsBack 57 = .ok (.imul, 1) := by decide +kernel
theorem dX11_turnsBack_58 : decode cX11_turnsBack 58 = .ok (.iadd, 1) := by decide +kernel
theorem dX11_turnsBack_59 : decode cX11_turnsBack 59 = .ok (.iastore, 1) := by decide +kernel
theorem dX11_turnsBack_60 : decode cX11_turnsBack 60 = .ok (.aload_n 0, 1) := by decide +kernel
theorem dX11_turnsBack_61 : decode cX11_turnsBack 61 = .ok (.getfield 48, 3) := by decide +kernel
theorem dX11_turnsBack_64 : decode cX11_turnsBack 64 = .ok (.iload 4, 2) := by decide +kernel
theorem dX11_turnsBack_66 : decode cX11_turnsBack 66 = .ok (.aload_n 0, 1) := by decide +kernel
theorem dX11_turnsBack_67 : decode cX11_turnsBack 67 = .ok (.getfield 42, 3) := by decide +kernel
theorem dX11_turnsBack_70 : decode cX11_turnsBack 70 = .ok (.iload 4, 2) := by decide +kernel
theorem dX11_turnsBack_72 : decode cX11_turnsBack 72 = .ok (.iaload, 1) := by decide +kernel
theorem dX11_turnsBack_73 : decode cX11_turnsBack 73 = .ok (.aload_n 0, 1) := by decide +kernel
theorem dX11_turnsBack_74 : decode cX11_turnsBack 74 = .ok (.iload 5, 2) := by decide +kernel
theorem dX11_turnsBack_76 : decode cX11_turnsBack 76 = .ok (.invokevirtual 283, 3) := by decide +kernel
theorem dX11_turnsBack_79 : decode cX11_turnsBack 79 = .ok (.imul, 1) := by decide +kernel
theorem dX11_turnsBack_80 : decode cX11_turnsBack 80 = .ok (.aload_n 0, 1) := by decide +kernel
theorem dX11_turnsBack_81 : decode cX11_turnsBack 81 = .ok (.getfield 39, 3) := by decide +kernel
theorem dX11_turnsBack_84 : decode cX11_turnsBack 84 = .ok (.iload 4, 2) := by decide +kernel
theorem dX11_turnsBack_86 : decode cX11_turnsBack 86 = .ok (.iaload, 1) := by decide +kernel
theorem dX11_turnsBack_87 : decode cX11_turnsBack 87 = .ok (.aload_n 0, 1) := by decide +kernel
theorem dX11_turnsBack_88 : decode cX11_turnsBack 88 = .ok (.iload 5, 2) := by decide +kernel
theorem dX11_turnsBack_90 : decode cX11_turnsBack 90 = .ok (.invokevirtual 286, 3) := by decide +kernel
theorem dX11_turnsBack_93 : decode cX11_turnsBack 93 = .ok (.imul, 1) := by decide +kernel
theorem dX11_turnsBack_94 : decode cX11_turnsBack 94 = .ok (.isub, 1) := by decide +kernel
theorem dX11_turnsBack_95 : decode cX11_turnsBack 95 = .ok (.iastore, 1) := by decide +kernel
theorem dX11_turnsBack_96 : decode cX11_turnsBack 96 = .ok (.iinc 4 1, 3) := by decide +kernel
theorem dX11_turnsBack_99 : decode cX11_turnsBack 99 = .ok (.goto (-96), 3) := by decide +kernel
theorem dX11_turnsBack_102 : decode cX11_turnsBack 102 = .ok (.return_, 1) := by decide +kernel
theorem dX11_powerBy_0 : decode cX11_powerBy 0 = .ok (.iconst 0, 1) := by decide +kernel
theorem dX11_powerBy_1 : decode cX11_powerBy 1 = .ok (.istore_n 3, 1) := by decide +kernel
theorem dX11_powerBy_2 : decode cX11_powerBy 2 = .ok (.iconst 0, 1) := by decide +kernel
theorem dX11_powerBy_3 : decode cX11_powerBy 3 = .ok (.istore 4, 2) := by decide +kernel
theorem dX11_powerBy_5 : decode cX11_powerBy 5 = .ok (.iconst 0, 1) := by decide +kernel
theorem dX11_powerBy_6 : decode cX11_powerBy 6 = .ok (.istore 5, 2) := by decide +kernel
theorem dX11_powerBy_8 : decode cX11_powerBy 8 = .ok (.iload 5, 2) := by decide +kernel
theorem dX11_powerBy_10 : decode cX11_powerBy 10 = .ok (.bipush 62, 2) := by decide +kernel
theorem dX11_powerBy_12 : decode cX11_powerBy 12 = .ok (.if_icmp .ge 60, 3) := by decide +kernel
theorem dX11_powerBy_15 : decode cX11_powerBy 15 = .ok (.aload_n 0, 1) := by decide +kernel
theorem dX11_powerBy_16 : decode cX11_powerBy 16 = .ok (.aload_n 0, 1) := by decide +kernel
theorem dX11_powerBy_17 : decode cX11_powerBy 17 = .ok (.iload_n 1, 1) := by decide +kernel
theorem dX11_powerBy_18 : decode cX11_powerBy 18 = .ok (.iconst 1, 1) := by decide +kernel
theorem dX11_powerBy_19 : decode cX11_powerBy 19 = .ok (.invokevirtual 160, 3) := by decide +kernel
theorem dX11_powerBy_22 : decode cX11_powerBy 22 = .ok (.iload 5, 2) := by decide +kernel
theorem dX11_powerBy_24 : decode cX11_powerBy 24 = .ok (.iload_n 2, 1) := by decide +kernel
theorem dX11_powerBy_25 : decode cX11_powerBy 25 = .ok (.isub, 1) := by decide +kernel
theorem dX11_powerBy_26 : decode cX11_powerBy 26 = .ok (.bipush 62, 2) := by decide +kernel
theorem dX11_powerBy_28 : decode cX11_powerBy 28 = .ok (.invokestatic 249, 3) := by decide +kernel
theorem dX11_powerBy_31 : decode cX11_powerBy 31 = .ok (.iconst 2, 1) := by decide +kernel
theorem dX11_powerBy_32 : decode cX11_powerBy 32 = .ok (.idiv, 1) := by decide +kernel
theorem dX11_powerBy_33 : decode cX11_powerBy 33 = .ok (.invokevirtual 229, 3) := by decide +kernel
theorem dX11_powerBy_36 : decode cX11_powerBy 36 = .ok (.istore 6, 2) := by decide +kernel
theorem dX11_powerBy_38 : decode cX11_powerBy 38 = .ok (.iload_n 3, 1) := by decide +kernel
theorem dX11_powerBy_39 : decode cX11_powerBy 39 = .ok (.iload 6, 2) := by decide +kernel
theorem dX11_powerBy_41 : decode cX11_powerBy 41 = .ok (.aload_n 0, 1) := by decide +kernel
theorem dX11_powerBy_42 : decode cX11_powerBy 42 = .ok (.getfield 45, 3) := by decide +kernel
theorem dX11_powerBy_45 : decode cX11_powerBy 45 = .ok (.iload 5, 2) := by decide +kernel
theorem dX11_powerBy_47 : decode cX11_powerBy 47 = .ok (.iaload, 1) := by decide +kernel
theorem dX11_powerBy_48 : decode cX11_powerBy 48 = .ok (.imul, 1) := by decide +kernel
theorem dX11_powerBy_49 : decode cX11_powerBy 49 = .ok (.iadd, 1) := by decide +kernel
theorem dX11_powerBy_50 : decode cX11_powerBy 50 = .ok (.istore_n 3, 1) := by decide +kernel
theorem dX11_powerBy_51 : decode cX11_powerBy 51 = .ok (.iload 4, 2) := by decide +kernel
theorem dX11_powerBy_53 : decode cX11_powerBy 53 = .ok (.iload 6, 2) := by decide +kernel
theorem dX11_powerBy_55 : decode cX11_powerBy 55 = .ok (.aload_n 0, 1) := by decide +kernel
theorem dX11_powerBy_56 : decode cX11_powerBy 56 = .ok (.getfield 48, 3) := by decide +kernel
theorem dX11_powerBy_59 : decode cX11_powerBy 59 = .ok (.iload 5, 2) := by decide +kernel
theorem dX11_powerBy_61 : decode cX11_powerBy 61 = .ok (.iaload, 1) := by decide +kernel
theorem dX11_powerBy_62 : decode cX11_powerBy 62 = .ok (.imul, 1) := by decide +kernel
theorem dX11_powerBy_63 : decode cX11_powerBy 63 = .ok (.iadd, 1) := by decide +kernel
theorem dX11_powerBy_64 : decode cX11_powerBy 64 = .ok (.istore 4, 2) := by decide +kernel
theorem dX11_powerBy_66 : decode cX11_powerBy 66 = .ok (.iinc 5 1, 3) := by decide +kernel
theorem dX11_powerBy_69 : decode cX11_powerBy 69 = .ok (.goto (-61), 3) := by decide +kernel
theorem dX11_powerBy_72 : decode cX11_powerBy 72 = .ok (.aload_n 0, 1) := by decide +kernel
theorem dX11_powerBy_73 : decode cX11_powerBy 73 = .ok (.iload_n 3, 1) := by decide +kernel
theorem dX11_powerBy_74 : decode cX11_powerBy 74 = .ok (.bipush 64, 2) := by decide +kernel
theorem dX11_powerBy_76 : decode cX11_powerBy 76 = .ok (.invokestatic 252, 3) := by decide +kernel
theorem dX11_powerBy_79 : decode cX11_powerBy 79 = .ok (.putfield 293, 3) := by decide +kernel
theorem dX11_powerBy_82 : decode cX11_powerBy 82 = .ok (.aload_n 0, 1) := by decide +kernel
theorem dX11_powerBy_83 : decode cX11_powerBy 83 = .ok (.iload 4, 2) := by decide +kernel
theorem dX11_powerBy_85 : decode cX11_powerBy 85 = .ok (.bipush 64, 2) := by decide +kernel
theorem dX11_powerBy_87 : decode cX11_powerBy 87 = .ok (.invokestatic 252, 3) := by decide +kernel
theorem dX11_powerBy_90 : decode cX11_powerBy 90 = .ok (.putfield 296, 3) := by decide +kernel
theorem dX11_powerBy_93 : decode cX11_powerBy 93 = .ok (.aload_n 0, 1) := by decide +kernel
theorem dX11_powerBy_94 : decode cX11_powerBy 94 = .ok (.getfield 293, 3) := by decide +kernel
theorem dX11_powerBy_97 : decode cX11_powerBy 97 = .ok (.aload_n 0, 1) := by decide +kernel
theorem dX11_powerBy_98 : decode cX11_powerBy 98 = .ok (.getfield 293, 3) := by decide +kernel
theorem dX11_powerBy_101 : decode cX11_powerBy 101 = .ok (.imul, 1) := by decide +kernel
theorem dX11_powerBy_102 : decode cX11_powerBy 102 = .ok (.aload_n 0, 1) := by decide +kernel
theorem dX11_powerBy_103 : decode cX11_powerBy 103 = .ok (.getfield 296, 3) := by decide +kernel
theorem dX11_powerBy_106 : decode cX11_powerBy 106 = .ok (.aload_n 0, 1) := by decide +kernel
theorem dX11_powerBy_107 : decode cX11_powerBy 107 = .ok (.getfield 296, 3) := by decide +kernel
theorem dX11_powerBy_110 : decode cX11_powerBy 110 = .ok (.imul, 1) := by decide +kernel
theorem dX11_powerBy_111 : decode cX11_powerBy 111 = .ok (.iadd, 1) := by decide +kernel
theorem dX11_powerBy_112 : decode cX11_powerBy 112 = .ok (.ireturn, 1) := by decide +kernel
theorem dX11_sum_0 : decode cX11_sum 0 = .ok (.aload_n 0, 1) := by decide +kernel
theorem dX11_sum_1 : decode cX11_sum 1 = .ok (.iconst 0, 1) := by decide +kernel
theorem dX11_sum_2 : decode cX11_sum 2 = .ok (.putfield 76, 3) := by decide +kernel
theorem dX11_sum_5 : decode cX11_sum 5 = .ok (.aload_n 0, 1) := by decide +kernel
theorem dX11_sum_6 : decode cX11_sum 6 = .ok (.iload_n 1, 1) := by decide +kernel
theorem dX11_sum_7 : decode cX11_sum 7 = .ok (.invokevirtual 216, 3) := by decide +kernel
theorem dX11_sum_10 : decode cX11_sum 10 = .ok (.ifCond .eq 46, 3) := by decide +kernel
theorem dX11_sum_13 : decode cX11_sum 13 = .ok (.iload_n 2, 1) := by decide +kernel
theorem dX11_sum_14 : decode cX11_sum 14 = .ok (.iconst 0, 1) := by decide +kernel
theorem dX11_sum_15 : decode cX11_sum 15 = .ok (.sipush 199, 3) := by decide +kernel
theorem dX11_sum_18 : decode cX11_sum 18 = .ok (.invokestatic 166, 3) := by decide +kernel
theorem dX11_sum_21 : decode cX11_sum 21 = .ok (.ifCond .eq 35, 3) := by decide +kernel
