theorem dL_law_148 : decode cL_law 148 = .ok (.aload_n 1, 1) := by decide +kernel
theorem dL_law_149 : decode cL_law 149 = .ok (.aload_n 0, 1) := by decide +kernel
theorem dL_law_150 : decode cL_law 150 = .ok (.iload 4, 2) := by decide +kernel
theorem dL_law_152 : decode cL_law 152 = .ok (.iconst 1, 1) := by decide +kernel
theorem dL_law_153 : decode cL_law 153 = .ok (.iadd, 1) := by decide +kernel
theorem dL_law_154 : decode cL_law 154 = .ok (.iaload, 1) := by decide +kernel
theorem dL_law_155 : decode cL_law 155 = .ok (.aload_n 0, 1) := by decide +kernel
theorem dL_law_156 : decode cL_law 156 = .ok (.iload 4, 2) := by decide +kernel
theorem dL_law_158 : decode cL_law 158 = .ok (.iconst 2, 1) := by decide +kernel
theorem dL_law_159 : decode cL_law 159 = .ok (.iadd, 1) := by decide +kernel
theorem dL_law_160 : decode cL_law 160 = .ok (.iaload, 1) := by decide +kernel
theorem dL_law_161 : decode cL_law 161 = .ok (.aload_n 0, 1) := by decide +kernel
theorem dL_law_162 : decode cL_law 162 = .ok (.iload 4, 2) := by decide +kernel
theorem dL_law_164 : decode cL_law 164 = .ok (.iconst 3, 1) := by decide +kernel
theorem dL_law_165 : decode cL_law 165 = .ok (.iadd, 1) := by decide +kernel
theorem dL_law_166 : decode cL_law 166 = .ok (.iaload, 1) := by decide +kernel
theorem dL_law_167 : decode cL_law 167 = .ok (.aload_n 0, 1) := by decide +kernel
theorem dL_law_168 : decode cL_law 168 = .ok (.iload 4, 2) := by decide +kernel
theorem dL_law_170 : decode cL_law 170 = .ok (.iconst 4, 1) := by decide +kernel
theorem dL_law_171 : decode cL_law 171 = .ok (.iadd, 1) := by decide +kernel
theorem dL_law_172 : decode cL_law 172 = .ok (.iaload, 1) := by decide +kernel
theorem dL_law_173 : decode cL_law 173 = .ok (.aload_n 0, 1) := by decide +kernel
theorem dL_law_174 : decode cL_law 174 = .ok (.iload 4, 2) := by decide +kernel
theorem dL_law_176 : decode cL_law 176 = .ok (.iconst 5, 1) := by decide +kernel
theorem dL_law_177 : decode cL_law 177 = .ok (.iadd, 1) := by decide +kernel
theorem dL_law_178 : decode cL_law 178 = .ok (.iaload, 1) := by decide +kernel
theorem dL_law_179 : decode cL_law 179 = .ok (.invokevirtual 29, 3) := by decide +kernel
theorem dL_law_182 : decode cL_law 182 = .ok (.pop, 1) := by decide +kernel
theorem dL_law_183 : decode cL_law 183 = .ok (.aload_n 2, 1) := by decide +kernel
theorem dL_law_184 : decode cL_law 184 = .ok (.aload_n 0, 1) := by decide +kernel
theorem dL_law_185 : decode cL_law 185 = .ok (.iload 4, 2) := by decide +kernel
theorem dL_law_187 : decode cL_law 187 = .ok (.iconst 1, 1) := by decide +kernel
theorem dL_law_188 : decode cL_law 188 = .ok (.iadd, 1) := by decide +kernel
theorem dL_law_189 : decode cL_law 189 = .ok (.iaload, 1) := by decide +kernel
theorem dL_law_190 : decode cL_law 190 = .ok (.aload_n 0, 1) := by decide +kernel
theorem dL_law_191 : decode cL_law 191 = .ok (.iload 4, 2) := by decide +kernel
theorem dL_law_193 : decode cL_law 193 = .ok (.iconst 2, 1) := by decide +kernel
theorem dL_law_194 : decode cL_law 194 = .ok (.iadd, 1) := by decide +kernel
theorem dL_law_195 : decode cL_law 195 = .ok (.iaload, 1) := by decide +kernel
theorem dL_law_196 : decode cL_law 196 = .ok (.aload_n 0, 1) := by decide +kernel
theorem dL_law_197 : decode cL_law 197 = .ok (.iload 4, 2) := by decide +kernel
theorem dL_law_199 : decode cL_law 199 = .ok (.iconst 3, 1) := by decide +kernel
theorem dL_law_200 : decode cL_law 200 = .ok (.iadd, 1) := by decide +kernel
theorem dL_law_201 : decode cL_law 201 = .ok (.iaload, 1) := by decide +kernel
theorem dL_law_202 : decode cL_law 202 = .ok (.aload_n 0, 1) := by decide +kernel
theorem dL_law_203 : decode cL_law 203 = .ok (.iload 4, 2) := by decide +kernel
theorem dL_law_205 : decode cL_law 205 = .ok (.iconst 4, 1) := by decide +kernel
theorem dL_law_206 : decode cL_law 206 = .ok (.iadd, 1) := by decide +kernel
theorem dL_law_207 : decode cL_law 207 = .ok (.iaload, 1) := by decide +kernel
theorem dL_law_208 : decode cL_law 208 = .ok (.aload_n 0, 1) := by decide +kernel
theorem dL_law_209 : decode cL_law 209 = .ok (.iload 4, 2) := by decide +kernel
theorem dL_law_211 : decode cL_law 211 = .ok (.iconst 5, 1) := by decide +kernel
theorem dL_law_212 : decode cL_law 212 = .ok (.iadd, 1) := by decide +kernel
theorem dL_law_213 : decode cL_law 213 = .ok (.iaload, 1) := by decide +kernel
theorem dL_law_214 : decode cL_law 214 = .ok (.invokevirtual 33, 3) := by decide +kernel
theorem dL_law_217 : decode cL_law 217 = .ok (.pop, 1) := by decide +kernel
theorem dL_law_218 : decode cL_law 218 = .ok (.goto 889, 3) := by decide +kernel
theorem dL_law_221 : decode cL_law 221 = .ok (.aload_n 1, 1) := by decide +kernel
theorem dL_law_222 : decode cL_law 222 = .ok (.aload_n 0, 1) := by decide +kernel
theorem dL_law_223 : decode cL_law 223 = .ok (.iload 4, 2) := by decide +kernel
theorem dL_law_225 : decode cL_law 225 = .ok (.iconst 1, 1) := by decide +kernel
theorem dL_law_226 : decode cL_law 226 = .ok (.iadd, 1) := by decide +kernel
theorem dL_law_227 : decode cL_law 227 = .ok (.iaload, 1) := by decide +kernel
theorem dL_law_228 : decode cL_law 228 = .ok (.invokevirtual 34, 3) := by decide +kernel
theorem dL_law_231 : decode cL_law 231 = .ok (.pop, 1) := by decide +kernel
theorem dL_law_232 : decode cL_law 232 = .ok (.aload_n 2, 1) := by decide +kernel
theorem dL_law_233 : decode cL_law 233 = .ok (.aload_n 0, 1) := by decide +kernel
theorem dL_law_234 : decode cL_law 234 = .ok (.iload 4, 2) := by decide +kernel
theorem dL_law_236 : decode cL_law 236 = .ok (.iconst 1, 1) := by decide +kernel
theorem dL_law_237 : decode cL_law 237 = .ok (.iadd, 1) := by decide +kernel
theorem dL_law_238 : decode cL_law 238 = .ok (.iaload, 1) := by decide +kernel
theorem dL_law_239 : decode cL_law 239 = .ok (.invokevirtual 38, 3) := by decide +kernel
theorem dL_law_242 : decode cL_law 242 = .ok (.pop, 1) := by decide +kernel
theorem dL_law_243 : decode cL_law 243 = .ok (.goto 864, 3) := by decide +kernel
theorem dL_law_246 : decode cL_law 246 = .ok (.aload_n 1, 1) := by decide +kernel
theorem dL_law_247 : decode cL_law 247 = .ok (.aload_n 0, 1) := by decide +kernel
theorem dL_law_248 : decode cL_law 248 = .ok (.iload 4, 2) := by decide +kernel
theorem dL_law_250 : decode cL_law 250 = .ok (.iconst 1, 1) := by decide +kernel
theorem dL_law_251 : decode cL_law 251 = .ok (.iadd, 1) := by decide +kernel
theorem dL_law_252 : decode cL_law 252 = .ok (.iaload, 1) := by decide +kernel
theorem dL_law_253 : decode cL_law 253 = .ok (.aload_n 0, 1) := by decide +kernel
theorem dL_law_254 : decode cL_law 254 = .ok (.iload 4, 2) := by decide +kernel
theorem dL_law_256 : decode cL_law 256 = .ok (.iconst 2, 1) := by decide +kernel
theorem dL_law_257 : decode cL_law 257 = .ok (.iadd, 1) := by decide +kernel
theorem dL_law_258 : decode cL_law 258 = .ok (.iaload, 1) := by decide +kernel
theorem dL_law_259 : decode cL_law 259 = .ok (.aload_n 0, 1) := by decide +kernel
theorem dL_law_260 : decode cL_law 260 = .ok (.iload 4, 2) := by decide +kernel
theorem dL_law_262 : decode cL_law 262 = .ok (.iconst 3, 1) := by decide +kernel
theorem dL_law_263 : decode cL_law 263 = .ok (.iadd, 1) := by decide +kernel
theorem dL_law_264 : decode cL_law 264 = .ok (.iaload, 1) := by decide +kernel
theorem dL_law_265 : decode cL_law 265 = .ok (.invokevirtual 39, 3) := by decide +kernel
theorem dL_law_268 : decode cL_law 268 = .ok (.pop, 1) := by decide +kernel
theorem dL_law_269 : decode cL_law 269 = .ok (.aload_n 2, 1) := by decide +kernel
theorem dL_law_270 : decode cL_law 270 = .ok (.aload_n 0, 1) := by decide +kernel
theorem dL_law_271 : decode cL_law 271 = .ok (.iload 4, 2) := by decide +kernel
theorem dL_law_273 : decode cL_law 273 = .ok (.iconst 1, 1) := by decide +kernel
theorem dL_law_274 : decode cL_law 274 = .ok (.iadd, 1) := by decide +kernel
theorem dL_law_275 : decode cL_law 275 = .ok (.iaload, 1) := by decide +kernel
theorem dL_law_276 : decode cL_law 276 = .ok (.aload_n 0, 1) := by decide +kernel
theorem dL_law_277 : decode cL_law 277 = .ok (.iload 4, 2) := by decide +kernel
theorem dL_law_279 : decode cL_law 279 = .ok (.iconst 2, 1) := by decide +kernel
theorem dL_law_280 : decode cL_law 280 = .ok (.iadd, 1) := by decide +kernel
theorem dL_law_281 : decode cL_law 281 = .ok (.iaload, 1) := by decide +kernel
theorem dL_law_282 : decode cL_law 282 = .ok (.aload_n 0, 1) := by decide +kernel
theorem dL_law_283 : decode cL_law 283 = .ok (.iload 4, 2) := by decide +kernel
theorem dL_law_285 : decode cL_law 285 = .ok (.iconst 3, 1) := by decide +kernel
theorem dL_law_286 : decode cL_law 286 = .ok (.iadd, 1) := by decide +kernel
theorem dL_law_287 : decode cL_law 287 = .ok (.iaload, 1) := by decide +kernel
theorem dL_law_288 : decode cL_law 288 = .ok (.invokevirtual 43, 3) := by decide +kernel
theorem dL_law_291 : decode cL_law 291 = .ok (.pop, 1) := by decide +kernel
theorem dL_law_292 : decode cL_law 292 = .ok (.goto 815, 3) := by decide +kernel
theorem dL_law_295 : decode cL_law 295 = .ok (.aload_n 1, 1) := by decide +kernel
theorem dL_law_296 : decode cL_law 296 = .ok (.aload_n 0, 1) := by decide +kernel
theorem dL_law_297 : decode cL_law 297 = .ok (.iload 4, 2) := by decide +kernel
theorem dL_law_299 : decode cL_law 299 = .ok (.iconst 1, 1) := by decide +kernel
theorem dL_law_300 : decode cL_law 300 = .ok (.iadd, 1) := by decide +kernel
theorem dL_law_301 : decode cL_law 301 = .ok (.iaload, 1) := by decide +kernel
theorem dL_law_302 : decode cL_law 302 = .ok (.aload_n 0, 1) := by decide +kernel
theorem dL_law_303 : decode cL_law 303 = .ok (.iload 4, 2) := by decide +kernel
theorem dL_law_305 : decode cL_law 305 = .ok (.iconst 2, 1) := by decide +kernel
theorem dL_law_306 : decode cL_law 306 = .ok (.iadd, 1) := by decide +kernel
theorem dL_law_307 : decode cL_law 307 = .ok (.iaload, 1) := by decide +kernel
theorem dL_law_308 : decode cL_law 308 = .ok (.aload_n 0, 1) := by decide +kernel
theorem dL_law_309 : decode cL_law 309 = .ok (.iload 4, 2) := by decide +kernel
theorem dL_law_311 : decode cL_law 311 = .ok (.iconst 3, 1) := by decide +kernel
theorem dL_law_312 : decode cL_law 312 = .ok (.iadd, 1) := by decide +kernel
theorem dL_law_313 : decode cL_law 313 = .ok (.iaload, 1) := by decide +kernel
theorem dL_law_314 : decode cL_law 314 = .ok (.invokevirtual 44, 3) := by decide +kernel
theorem dL_law_317 : decode cL_law 317 = .ok (.pop, 1) := by decide +kernel
theorem dL_law_318 : decode cL_law 318 = .ok (.aload_n 2, 1) := by decide +kernel
theorem dL_law_319 : decode cL_law 319 = .ok (.aload_n 0, 1) := by decide +kernel
theorem dL_law_320 : decode cL_law 320 = .ok (.iload 4, 2) := by decide +kernel
theorem dL_law_322 : decode cL_law 322 = .ok (.iconst 1, 1) := by decide +kernel
theorem dL_law_323 : decode cL_law 323 = .ok (.iadd, 1) := by decide +kernel
theorem dL_law_324 : decode cL_law 324 = .ok (.iaload, 1) := by decide +kernel
theorem dL_law_325 : decode cL_law 325 = .ok (.aload_n 0, 1) := by decide +kernel
theorem dL_law_326 : decode cL_law 326 = .ok (.iload 4, 2) := by decide +kernel
theorem dL_law_328 : decode cL_law 328 = .ok (.iconst 2, 1) := by decide +kernel
theorem dL_law_329 : decode cL_law 329 = .ok (.iadd, 1) := by decide +kernel
theorem dL_law_330 : decode cL_law 330 = .ok (.iaload, 1) := by decide +kernel
theorem dL_law_331 : decode cL_law 331 = .ok (.aload_n 0, 1) := by decide +kernel
theorem dL_law_332 : decode cL_law 332 = .ok (.iload 4, 2) := by decide +kernel
theorem dL_law_334 : decode cL_law 334 = .ok (.iconst 3, 1) := by decide +kernel
theorem dL_law_335 : decode cL_law 335 = .ok (.iadd, 1) := by decide +kernel
theorem dL_law_336 : decode cL_law 336 = .ok (.iaload, 1) := by decide +kernel
theorem dL_law_337 : decode cL_law 337 = .ok (.invokevirtual 47, 3) := by decide +kernel
theorem dL_law_340 : decode cL_law 340 = .ok (.pop, 1) := by decide +kernel
theorem dL_law_341 : decode cL_law 341 = .ok (.goto 766, 3) := by decide +kernel
theorem dL_law_344 : decode cL_law 344 = .ok (.aload_n 1, 1) := by decide +kernel
theorem dL_law_345 : decode cL_law 345 = .ok (.aload_n 0, 1) := by decide +kernel
theorem dL_law_346 : decode cL_law 346 = .ok (.iload 4, 2) := by decide +kernel
theorem dL_law_348 : decode cL_law 348 = .ok (.iconst 1, 1) := by decide +kernel
theorem dL_law_349 : decode cL_law 349 = .ok (.iadd, 1) := by decide +kernel
theorem dL_law_350 : decode cL_law 350 = .ok (.iaload, 1) := by decide +kernel
theorem dL_law_351 : decode cL_law 351 = .ok (.aload_n 0, 1) := by decide +kernel
theorem dL_law_352 : decode cL_law 352 = .ok (.iload 4, 2) := by decide +kernel
theorem dL_law_354 : decode cL_law 354 = .ok (.iconst 2, 1) := by decide +kernel
theorem dL_law_355 : decode cL_law 355 = .ok (.iadd, 1) := by decide +kernel
theorem dL_law_356 : decode cL_law 356 = .ok (.iaload, 1) := by decide +kernel
theorem dL_law_357 : decode cL_law 357 = .ok (.aload_n 0, 1) := by decide +kernel
theorem dL_law_358 : decode cL_law 358 = .ok (.iload 4, 2) := by decide +kernel
theorem dL_law_360 : decode cL_law 360 = .ok (.iconst 3, 1) := by decide +kernel
theorem dL_law_361 : decode cL_law 361 = .ok (.iadd, 1) := by decide +kernel
theorem dL_law_362 : decode cL_law 362 = .ok (.iaload, 1) := by decide +kernel
theorem dL_law_363 : decode cL_law 363 = .ok (.aload_n 0, 1) := by decide +kernel
theorem dL_law_364 : decode cL_law 364 = .ok (.iload 4, 2) := by decide +kernel
theorem dL_law_366 : decode cL_law 366 = .ok (.iconst 4, 1) := by decide +kernel
theorem dL_law_367 : decode cL_law 367 = .ok (.iadd, 1) := by decide +kernel
theorem dL_law_368 : decode cL_law 368 = .ok (.iaload, 1) := by decide +kernel
theorem dL_law_369 : decode cL_law 369 = .ok (.invokevirtual 48, 3) := by decide +kernel
theorem dL_law_372 : decode cL_law 372 = .ok (.pop, 1) := by decide +kernel
theorem dL_law_373 : decode cL_law 373 = .ok (.aload_n 2, 1) := by decide +kernel
theorem dL_law_374 : decode cL_law 374 = .ok (.aload_n 0, 1) := by decide +kernel
theorem dL_law_375 : decode cL_law 375 = .ok (.iload 4, 2) := by decide +kernel
theorem dL_law_377 : decode cL_law 377 = .ok (.iconst 1, 1) := by decide +kernel
theorem dL_law_378 : decode cL_law 378 = .ok (.iadd, 1) := by decide +kernel
theorem dL_law_379 : decode cL_law 379 = .ok (.iaload, 1) := by decide +kernel
theorem dL_law_380 : decode cL_law 380 = .ok (.aload_n 0, 1) := by decide +kernel
theorem dL_law_381 : decode cL_law 381 = .ok (.iload 4, 2) := by decide +kernel
theorem dL_law_383 : decode cL_law 383 = .ok (.iconst 2, 1) := by decide +kernel
theorem dL_law_384 : decode cL_law 384 = .ok (.iadd, 1) := by decide +kernel
theorem dL_law_385 : decode cL_law 385 = .ok (.iaload, 1) := by decide +kernel
theorem dL_law_386 : decode cL_law 386 = .ok (.aload_n 0, 1) := by decide +kernel
theorem dL_law_387 : decode cL_law 387 = .ok (.iload 4, 2) := by decide +kernel
theorem dL_law_389 : decode cL_law 389 = .ok (.iconst 3, 1) := by decide +kernel
theorem dL_law_390 : decode cL_law 390 = .ok (.iadd, 1) := by decide +kernel
theorem dL_law_391 : decode cL_law 391 = .ok (.iaload, 1) := by decide +kernel
theorem dL_law_392 : decode cL_law 392 = .ok (.aload_n 0, 1) := by decide +kernel
theorem dL_law_393 : decode cL_law 393 = .ok (.iload 4, 2) := by decide +kernel
theorem dL_law_395 : decode cL_law 395 = .ok (.iconst 4, 1) := by decide +kernel
theorem dL_law_396 : decode cL_law 396 = .ok (.iadd, 1) := by decide +kernel
theorem dL_law_397 : decode cL_law 397 = .ok (.iaload, 1) := by decide +kernel
theorem dL_law_398 : decode cL_law 398 = .ok (.invokevirtual 52, 3) := by decide +kernel
theorem dL_law_401 : decode cL_law 401 = .ok (.pop, 1) := by decide +kernel
theorem dL_law_402 : decode cL_law 402 = .ok (.goto 705, 3) := by decide +kernel
theorem dL_law_405 : decode cL_law 405 = .ok (.aload_n 1, 1) := by decide +kernel
theorem dL_law_406 : decode cL_law 406 = .ok (.aload_n 0, 1) := by decide +kernel
theorem dL_law_407 : decode cL_law 407 = .ok (.iload 4, 2) := by decide +kernel
theorem dL_law_409 : decode cL_law 409 = .ok (.iconst 1, 1) := by decide +kernel
theorem dL_law_410 : decode cL_law 410 = .ok (.iadd, 1) := by decide +kernel
theorem dL_law_411 : decode cL_law 411 = .ok (.iaload, 1) := by decide +kernel
theorem dL_law_412 : decode cL_law 412 = .ok (.aload_n 0, 1) := by decide +kernel
theorem dL_law_413 : decode cL_law 413 = .ok (.iload 4, 2) := by decide +kernel
theorem dL_law_415 : decode cL_law 415 = .ok (.iconst 2, 1) := by decide +kernel
theorem dL_law_416 : decode cL_law 416 = .ok (.iadd, 1) := by decide +kernel
theorem dL_law_417 : decode cL_law 417 = .ok (.iaload, 1) := by decide +kernel
theorem dL_law_418 : decode cL_law 418 = .ok (.invokevirtual 53, 3) := by decide +kernel
theorem dL_law_421 : decode cL_law 421 = .ok (.pop, 1) := by decide +kernel
theorem dL_law_422 : decode cL_law 422 = .ok (.aload_n 2, 1) := by decide +kernel
theorem dL_law_423 : decode cL_law 423 = .ok (.aload_n 0, 1) := by decide +kernel
theorem dL_law_424 : decode cL_law 424 = .ok (.iload 4, 2) := by decide +kernel
theorem dL_law_426 : decode cL_law 426 = .ok (.iconst 1, 1) := by decide +kernel
theorem dL_law_427 : decode cL_law 427 = .ok (.iadd, 1) := by decide +kernel
theorem dL_law_428 : decode cL_law 428 = .ok (.iaload, 1) := by decide +kernel
theorem dL_law_429 : decode cL_law 429 = .ok (.aload_n 0, 1) := by decide +kernel
theorem dL_law_430 : decode cL_law 430 = .ok (.iload 4, 2) := by decide +kernel
theorem dL_law_432 : decode cL_law 432 = .ok (.iconst 2, 1) := by decide +kernel
theorem dL_law_433 : decode cL_law 433 = .ok (.iadd, 1) := by decide +kernel
theorem dL_law_434 : decode cL_law 434 = .ok (.iaload, 1) := by decide +kernel
theorem dL_law_435 : decode cL_law 435 = .ok (.invokevirtual 56, 3) := by decide +kernel
theorem dL_law_438 : decode cL_law 438 = .ok (.pop, 1) := by decide +kernel
theorem dL_law_439 : decode cL_law 439 = .ok (.goto 668, 3) := by decide +kernel
theorem dL_law_442 : decode cL_law 442 = .ok (.aload_n 1, 1) := by decide +kernel
theorem dL_law_443 : decode cL_law 443 = .ok (.aload_n 0, 1) := by decide +kernel
theorem dL_law_444 : decode cL_law 444 = .ok (.iload 4, 2) := by decide +kernel
theorem dL_law_446 : decode cL_law 446 = .ok (.iconst 1, 1) := by decide +kernel
theorem dL_law_447 : decode cL_law 447 = .ok (.iadd, 1) := by decide +kernel
theorem dL_law_448 : decode cL_law 448 = .ok (.iaload, 1) := by decide +kernel
theorem dL_law_449 : decode cL_law 449 = .ok (.aload_n 0, 1) := by decide +kernel
theorem dL_law_450 : decode cL_law 450 = .ok (.iload 4, 2) := by decide +kernel
theorem dL_law_452 : decode cL_law 452 = .ok (.iconst 2, 1) := by decide +kernel
theorem dL_law_453 : decode cL_law 453 = .ok (.iadd, 1) := by decide +kernel
theorem dL_law_454 : decode cL_law 454 = .ok (.iaload, 1) := by decide +kernel
theorem dL_law_455 : decode cL_law 455 = .ok (.aload_n 3, 1) := by decide +kernel
theorem dL_law_456 : decode cL_law 456 = .ok (.invokestatic 57, 3) := by decide +kernel
theorem dL_law_459 : decode cL_law 459 = .ok (.istore 5, 2) := by decide +kernel
theorem dL_law_461 : decode cL_law 461 = .ok (.aload_n 2, 1) := by decide +kernel
theorem dL_law_462 : decode cL_law 462 = .ok (.aload_n 0, 1) := by decide +kernel
theorem dL_law_463 : decode cL_law 463 = .ok (.iload 4, 2) := by decide +kernel
theorem dL_law_465 : decode cL_law 465 = .ok (.iconst 1, 1) := by decide +kernel
theorem dL_law_466 : decode cL_law 466 = .ok (.iadd, 1) := by decide +kernel
theorem dL_law_467 : decode cL_law 467 = .ok (.iaload, 1) := by decide +kernel
theorem dL_law_468 : decode cL_law 468 = .ok (.aload_n 0, 1) := by decide +kernel
theorem dL_law_469 : decode cL_law 469 = .ok (.iload 4, 2) := by decide +kernel
theorem dL_law_471 : decode cL_law 471 = .ok (.iconst 2, 1) := by decide +kernel
theorem dL_law_472 : decode cL_law 472 = .ok (.iadd, 1) := by decide +kernel
theorem dL_law_473 : decode cL_law 473 = .ok (.iaload, 1) := by decide +kernel
theorem dL_law_474 : decode cL_law 474 = .ok (.invokevirtual 62, 3) := by decide +kernel
theorem dL_law_477 : decode cL_law 477 = .ok (.istore 6, 2) := by decide +kernel
theorem dL_law_479 : decode cL_law 479 = .ok (.goto 628, 3) := by decide +kernel
theorem dL_law_482 : decode cL_law 482 = .ok (.aload_n 1, 1) := by decide +kernel
theorem dL_law_483 : decode cL_law 483 = .ok (.aload_n 0, 1) := by decide +kernel
theorem dL_law_484 : decode cL_law 484 = .ok (.iload 4, 2) := by decide +kernel
theorem dL_law_486 : decode cL_law 486 = .ok (.iconst 1, 1) := by decide +kernel
theorem dL_law_487 : decode cL_law 487 = .ok (.iadd, 1) := by decide +kernel
theorem dL_law_488 : decode cL_law 488 = .ok (.iaload, 1) := by decide +kernel
theorem dL_law_489 : decode cL_law 489 = .ok (.aload_n 0, 1) := by decide +kernel
theorem dL_law_490 : decode cL_law 490 = .ok (.iload 4, 2) := by decide +kernel
theorem dL_law_492 : decode cL_law 492 = .ok (.iconst 2, 1) := by decide +kernel
theorem dL_law_493 : decode cL_law 493 = .ok (.iadd, 1) := by decide +kernel
theorem dL_law_494 : decode cL_law 494 = .ok (.iaload, 1) := by decide +kernel
theorem dL_law_495 : decode cL_law 495 = .ok (.aload_n 0, 1) := by decide +kernel
theorem dL_law_496 : decode cL_law 496 = .ok (.iload 4, 2) := by decide +kernel
theorem dL_law_498 : decode cL_law 498 = .ok (.iconst 3, 1) := by decide +kernel
theorem dL_law_499 : decode cL_law 499 = .ok (.iadd, 1) := by decide +kernel
theorem dL_law_500 : decode cL_law 500 = .ok (.iaload, 1) := by decide +kernel
theorem dL_law_501 : decode cL_law 501 = .ok (.invokevirtual 63, 3) := by decide +kernel
theorem dL_law_504 : decode cL_law 504 = .ok (.pop, 1) := by decide +kernel
theorem dL_law_505 : decode cL_law 505 = .ok (.aload_n 2, 1) := by decide +kernel
theorem dL_law_506 : decode cL_law 506 = .ok (.aload_n 0, 1) := by decide +kernel
theorem dL_law_507 : decode cL_law 507 = .ok (.iload 4, 2) := by decide +kernel
theorem dL_law_509 : decode cL_law 509 = .ok (.iconst 1, 1) := by decide +kernel
theorem dL_law_510 : decode cL_law 510 = .ok (.iadd, 1) := by decide +kernel
theorem dL_law_511 : decode cL_law 511 = .ok (.iaload, 1) := by decide +kernel
theorem dL_law_512 : decode cL_law 512 = .ok (.aload_n 0, 1) := by decide +kernel
theorem dL_law_513 : decode cL_law 513 = .ok (.iload 4, 2) := by decide +kernel
theorem dL_law_515 : decode cL_law 515 = .ok (.iconst 2, 1) := by decide +kernel
theorem dL_law_516 : decode cL_law 516 = .ok (.iadd, 1) := by decide +kernel
theorem dL_law_517 : decode cL_law 517 = .ok (.iaload, 1) := by decide +kernel
theorem dL_law_518 : decode cL_law 518 = .ok (.aload_n 0, 1) := by decide +kernel
theorem dL_law_519 : decode cL_law 519 = .ok (.iload 4, 2) := by decide +kernel
theorem dL_law_521 : decode cL_law 521 = .ok (.iconst 3, 1) := by decide +kernel
theorem dL_law_522 : decode cL_law 522 = .ok (.iadd, 1) := by decide +kernel
theorem dL_law_523 : decode cL_law 523 = .ok (.iaload, 1) := by decide +kernel
theorem dL_law_524 : decode cL_law 524 = .ok (.invokevirtual 66, 3) := by decide +kernel
theorem dL_law_527 : decode cL_law 527 = .ok (.pop, 1) := by decide +kernel
theorem dL_law_528 : decode cL_law 528 = .ok (.goto 579, 3) := by decide +kernel
theorem dL_law_531 : decode cL_law 531 = .ok (.aload_n 1, 1) := by decide +kernel
theorem dL_law_532 : decode cL_law 532 = .ok (.aload_n 0, 1) := by decide +kernel
theorem dL_law_533 : decode cL_law 533 = .ok (.iload 4, 2) := by decide +kernel
theorem dL_law_535 : decode cL_law 535 = .ok (.iconst 1, 1) := by decide +kernel
theorem dL_law_536 : decode cL_law 536 = .ok (.iadd, 1) := by decide +kernel
theorem dL_law_537 : decode cL_law 537 = .ok (.iaload, 1) := by decide +kernel
theorem dL_law_538 : decode cL_law 538 = .ok (.aload_n 0, 1) := by decide +kernel
theorem dL_law_539 : decode cL_law 539 = .ok (.iload 4, 2) := by decide +kernel
theorem dL_law_541 : decode cL_law 541 = .ok (.iconst 2, 1) := by decide +kernel
theorem dL_law_542 : decode cL_law 542 = .ok (.iadd, 1) := by decide +kernel
theorem dL_law_543 : decode cL_law 543 = .ok (.iaload, 1) := by decide +kernel
theorem dL_law_544 : decode cL_law 544 = .ok (.invokevirtual 67, 3) := by decide +kernel
theorem dL_law_547 : decode cL_law 547 = .ok (.pop, 1) := by decide +kernel
theorem dL_law_548 : decode cL_law 548 = .ok (.aload_n 2, 1) := by decide +kernel
theorem dL_law_549 : decode cL_law 549 = .ok (.aload_n 0, 1) := by decide +kernel
theorem dL_law_550 : decode cL_law 550 = .ok (.iload 4, 2) := by decide +kernel
theorem dL_law_552 : decode cL_law 552 = .ok (.iconst 1, 1) := by decide +kernel
theorem dL_law_553 : decode cL_law 553 = .ok (.iadd, 1) := by decide +kernel
theorem dL_law_554 : decode cL_law 554 = .ok (.iaload, 1) := by decide +kernel
theorem dL_law_555 : decode cL_law 555 = .ok (.aload_n 0, 1) := by decide +kernel
theorem dL_law_556 : decode cL_law 556 = .ok (.iload 4, 2) := by decide +kernel
theorem dL_law_558 : decode cL_law 558 = .ok (.iconst 2, 1) := by decide +kernel
theorem dL_law_559 : decode cL_law 559 = .ok (.iadd, 1) := by decide +kernel
theorem dL_law_560 : decode cL_law 560 = .ok (.iaload, 1) := by decide +kernel
theorem dL_law_561 : decode cL_law 561 = .ok (.invokevirtual 70, 3) := by decide +kernel
theorem dL_law_564 : decode cL_law 564 = .ok (.pop, 1) := by decide +kernel
theorem dL_law_565 : decode cL_law 565 = .ok (.goto 542, 3) := by decide +kernel
theorem dL_law_568 : decode cL_law 568 = .ok (.aload_n 1, 1) := by decide +kernel
theorem dL_law_569 : decode cL_law 569 = .ok (.aload_n 0, 1) := by decide +kernel
theorem dL_law_570 : decode cL_law 570 = .ok (.iload 4, 2) := by decide +kernel
theorem dL_law_572 : decode cL_law 572 = .ok (.iconst 1, 1) := by decide +kernel
theorem dL_law_573 : decode cL_law 573 = .ok (.iadd, 1) := by decide +kernel
theorem dL_law_574 : decode cL_law 574 = .ok (.iaload, 1) := by decide +kernel
theorem dL_law_575 : decode cL_law 575 = .ok (.aload_n 0, 1) := by decide +kernel
theorem dL_law_576 : decode cL_law 576 = .ok (.iload 4, 2) := by decide +kernel
theorem dL_law_578 : decode cL_law 578 = .ok (.iconst 2, 1) := by decide +kernel
theorem dL_law_579 : decode cL_law 579 = .ok (.iadd, 1) := by decide +kernel
theorem dL_law_580 : decode cL_law 580 = .ok (.iaload, 1) := by decide +kernel
theorem dL_law_581 : decode cL_law 581 = .ok (.invokevirtual 71, 3) := by decide +kernel
theorem dL_law_584 : decode cL_law 584 = .ok (.pop, 1) := by decide +kernel
theorem dL_law_585 : decode cL_law 585 = .ok (.aload_n 2, 1) := by decide +kernel
theorem dL_law_586 : decode cL_law 586 = .ok (.aload_n 0, 1) := by decide +kernel
theorem dL_law_587 : decode cL_law 587 = .ok (.iload 4, 2) := by decide +kernel
theorem dL_law_589 : decode cL_law 589 = .ok (.iconst 1, 1) := by decide +kernel
theorem dL_law_590 : decode cL_law 590 = .ok (.iadd, 1) := by decide +kernel
theorem dL_law_591 : decode cL_law 591 = .ok (.iaload, 1) := by decide +kernel
theorem dL_law_592 : decode cL_law 592 = .ok (.aload_n 0, 1) := by decide +kernel
theorem dL_law_593 : decode cL_law 593 = .ok (.iload 4, 2) := by decide +kernel
theorem dL_law_595 : decode cL_law 595 = .ok (.iconst 2, 1) := by decide +kernel
theorem dL_law_596 : decode cL_law 596 = .ok (.iadd, 1) := by decide +kernel
theorem dL_law_597 : decode cL_law 597 = .ok (.iaload, 1) := by decide +kernel
theorem dL_law_598 : decode cL_law 598 = .ok (.invokevirtual 74, 3) := by decide +kernel
theorem dL_law_601 : decode cL_law 601 = .ok (.pop, 1) := by decide +kernel
theorem dL_law_602 : decode cL_law 602 = .ok (.goto 505, 3) := by decide +kernel
theorem dL_law_605 : decode cL_law 605 = .ok (.aload_n 1, 1) := by decide +kernel
theorem dL_law_606 : decode cL_law 606 = .ok (.aload_n 0, 1) := by decide +kernel
theorem dL_law_607 : decode cL_law 607 = .ok (.iload 4, 2) := by decide +kernel
theorem dL_law_609 : decode cL_law 609 = .ok (.iconst 1, 1) := by decide +kernel
theorem dL_law_610 : decode cL_law 610 = .ok (.iadd, 1) := by decide +kernel
theorem dL_law_611 : decode cL_law 611 = .ok (.iaload, 1) := by decide +kernel
theorem dL_law_612 : decode cL_law 612 = .ok (.aload_n 0, 1) := by decide +kernel
theorem dL_law_613 : decode cL_law 613 = .ok (.iload 4, 2) := by decide +kernel
theorem dL_law_615 : decode cL_law 615 = .ok (.iconst 2, 1) := by decide +kernel
theorem dL_law_616 : decode cL_law 616 = .ok (.iadd, 1) := by decide +kernel
theorem dL_law_617 : decode cL_law 617 = .ok (.iaload, 1) := by decide +kernel
theorem dL_law_618 : decode cL_law 618 = .ok (.aload_n 0, 1) := by decide +kernel
theorem dL_law_619 : decode cL_law 619 = .ok (.iload 4, 2) := by decide +kernel
theorem dL_law_621 : decode cL_law 621 = .ok (.iconst 3, 1) := by decide +kernel
theorem dL_law_622 : decode cL_law 622 = .ok (.iadd, 1) := by decide +kernel
theorem dL_law_623 : decode cL_law 623 = .ok (.iaload, 1) := by decide +kernel
theorem dL_law_624 : decode cL_law 624 = .ok (.aload_n 0, 1) := by decide +kernel
theorem dL_law_625 : decode cL_law 625 = .ok (.iload 4, 2) := by decide +kernel
theorem dL_law_627 : decode cL_law 627 = .ok (.iconst 4, 1) := by decide +kernel
theorem dL_law_628 : decode cL_law 628 = .ok (.iadd, 1) := by decide +kernel
theorem dL_law_629 : decode cL_law 629 = .ok (.iaload, 1) := by decide +kernel
theorem dL_law_630 : decode cL_law 630 = .ok (.invokevirtual 75, 3) := by decide +kernel
theorem dL_law_633 : decode cL_law 633 = .ok (.pop, 1) := by decide +kernel
theorem dL_law_634 : decode cL_law 634 = .ok (.aload_n 2, 1) := by decide +kernel
theorem dL_law_635 : decode cL_law 635 = .ok (.aload_n 0, 1) := by decide +kernel
theorem dL_law_636 : decode cL_law 636 = .ok (.iload 4, 2) := by decide +kernel
theorem dL_law_638 : decode cL_law 638 = .ok (.iconst 1, 1) := by decide +kernel
theorem dL_law_639 : decode cL_law 639 = .ok (.iadd, 1) := by decide +kernel
theorem dL_law_640 : decode cL_law 640 = .ok (.iaload, 1) := by decide +kernel
theorem dL_law_641 : decode cL_law 641 = .ok (.aload_n 0, 1) := by decide +kernel
theorem dL_law_642 : decode cL_law 642 = .ok (.iload 4, 2) := by decide +kernel
theorem dL_law_644 : decode cL_law 644 = .ok (.iconst 2, 1) := by decide +kernel
theorem dL_law_645 : decode cL_law 645 = .ok (.iadd, 1) := by decide +kernel
theorem dL_law_646 : decode cL_law 646 = .ok (.iaload, 1) := by decide +kernel
theorem dL_law_647 : decode cL_law 647 = .ok (.aload_n 0, 1) := by decide +kernel
theorem dL_law_648 : decode cL_law 648 = .ok (.iload 4, 2) := by decide +kernel
theorem dL_law_650 : decode cL_law 650 = .ok (.iconst 3, 1) := by decide +kernel
theorem dL_law_651 : decode cL_law 651 = .ok (.iadd, 1) := by decide +kernel
theorem dL_law_652 : decode cL_law 652 = .ok (.iaload, 1) := by decide +kernel
theorem dL_law_653 : decode cL_law 653 = .ok (.aload_n 0, 1) := by decide +kernel
theorem dL_law_654 : decode cL_law 654 = .ok (.iload 4, 2) := by decide +kernel
theorem dL_law_656 : decode cL_law 656 = .ok (.iconst 4, 1) := by decide +kernel
theorem dL_law_657 : decode cL_law 657 = .ok (.iadd, 1) := by decide +kernel
theorem dL_law_658 : decode cL_law 658 = .ok (.iaload, 1) := by decide +kernel
theorem dL_law_659 : decode cL_law 659 = .ok (.invokevirtual 78, 3) := by decide +kernel
theorem dL_law_662 : decode cL_law 662 = .ok (.pop, 1) := by decide +kernel
theorem dL_law_663 : decode cL_law 663 = .ok (.goto 444, 3) := by decide +kernel
theorem dL_law_666 : decode cL_law 666 = .ok (.aload_n 1, 1) := by decide +kernel
theorem dL_law_667 : decode cL_law 667 = .ok (.aload_n 0, 1) := by decide +kernel
theorem dL_law_668 : decode cL_law 668 = .ok (.iload 4, 2) := by decide +kernel
theorem dL_law_670 : decode cL_law 670 = .ok (.iconst 1, 1) := by decide +kernel
theorem dL_law_671 : decode cL_law 671 = .ok (.iadd, 1) := by decide +kernel
theorem dL_law_672 : decode cL_law 672 = .ok (.iaload, 1) := by decide +kernel
theorem dL_law_673 : decode cL_law 673 = .ok (.aload_n 0, 1) := by decide +kernel
theorem dL_law_674 : decode cL_law 674 = .ok (.iload 4, 2) := by decide +kernel
theorem dL_law_676 : decode cL_law 676 = .ok (.iconst 2, 1) := by decide +kernel
theorem dL_law_677 : decode cL_law 677 = .ok (.iadd, 1) := by decide +kernel
theorem dL_law_678 : decode cL_law 678 = .ok (.iaload, 1) := by decide +kernel
theorem dL_law_679 : decode cL_law 679 = .ok (.aload_n 0, 1) := by decide +kernel
theorem dL_law_680 : decode cL_law 680 = .ok (.iload 4, 2) := by decide +kernel
theorem dL_law_682 : decode cL_law 682 = .ok (.iconst 3, 1) := by decide +kernel
theorem dL_law_683 : decode cL_law 683 = .ok (.iadd, 1) := by decide +kernel
theorem dL_law_684 : decode cL_law 684 = .ok (.iaload, 1) := by decide +kernel
theorem dL_law_685 : decode cL_law 685 = .ok (.aload_n 0, 1) := by decide +kernel
theorem dL_law_686 : decode cL_law 686 = .ok (.iload 4, 2) := by decide +kernel
theorem dL_law_688 : decode cL_law 688 = .ok (.iconst 4, 1) := by decide +kernel
theorem dL_law_689 : decode cL_law 689 = .ok (.iadd, 1) := by decide +kernel
theorem dL_law_690 : decode cL_law 690 = .ok (.iaload, 1) := by decide +kernel
theorem dL_law_691 : decode cL_law 691 = .ok (.invokevirtual 79, 3) := by decide +kernel
theorem dL_law_694 : decode cL_law 694 = .ok (.pop, 1) := by decide +kernel
theorem dL_law_695 : decode cL_law 695 = .ok (.aload_n 2, 1) := by decide +kernel
theorem dL_law_696 : decode cL_law 696 = .ok (.aload_n 0, 1) := by decide +kernel
theorem dL_law_697 : decode cL_law 697 = .ok (.iload 4, 2) := by decide +kernel
theorem dL_law_699 : decode cL_law 699 = .ok (.iconst 1, 1) := by decide +kernel
theorem dL_law_700 : decode cL_law 700 = .ok (.iadd, 1) := by decide +kernel
theorem dL_law_701 : decode cL_law 701 = .ok (.iaload, 1) := by decide +kernel
theorem dL_law_702 : decode cL_law 702 = .ok (.aload_n 0, 1) := by decide +kernel
theorem dL_law_703 : decode cL_law 703 = .ok (.iload 4, 2) := by decide +kernel
theorem dL_law_705 : decode cL_law 705 = .ok (.iconst 2, 1) := by decide +kernel
theorem dL_law_706 : decode cL_law 706 = .ok (.iadd, 1) := by decide +kernel
theorem dL_law_707 : decode cL_law 707 = .ok (.iaload, 1) := by decide +kernel
theorem dL_law_708 : decode cL_law 708 = .ok (.aload_n 0, 1) := by decide +kernel
theorem dL_law_709 : decode cL_law 709 = .ok (.iload 4, 2) := by decide +kernel
theorem dL_law_711 : decode cL_law 711 = .ok (.iconst 3, 1) := by decide +kernel
theorem dL_law_712 : decode cL_law 712 = .ok (.iadd, 1) := by decide +kernel
theorem dL_law_713 : decode cL_law 713 = .ok (.iaload, 1) := by decide +kernel
theorem dL_law_714 : decode cL_law 714 = .ok (.aload_n 0, 1) := by decide +kernel
theorem dL_law_715 : decode cL_law 715 = .ok (.iload 4, 2) := by decide +kernel
theorem dL_law_717 : decode cL_law 717 = .ok (.iconst 4, 1) := by decide +kernel
theorem dL_law_718 : decode cL_law 718 = .ok (.iadd, 1) := by decide +kernel
theorem dL_law_719 : decode cL_law 719 = .ok (.iaload, 1) := by decide +kernel
theorem dL_law_720 : decode cL_law 720 = .ok (.invokevirtual 82, 3) := by decide +kernel
theorem dL_law_723 : decode cL_law 723 = .ok (.pop, 1) := by decide +kernel
theorem dL_law_724 : decode cL_law 724 = .ok (.goto 383, 3) := by decide +kernel
theorem dL_law_727 : decode cL_law 727 = .ok (.aload_n 1, 1) := by decide +kernel
theorem dL_law_728 : decode cL_law 728 = .ok (.aload_n 0, 1) := by decide +kernel
theorem dL_law_729 : decode cL_law 729 = .ok (.iload 4, 2) := by decide +kernel
theorem dL_law_731 : decode cL_law 731 = .ok (.iconst 1, 1) := by decide +kernel
theorem dL_law_732 : decode cL_law 732 = .ok (.iadd, 1) := by decide +kernel
theorem dL_law_733 : decode cL_law 733 = .ok (.iaload, 1) := by decide +kernel
theorem dL_law_734 : decode cL_law 734 = .ok (.aload_n 0, 1) := by decide +kernel
theorem dL_law_735 : decode cL_law 735 = .ok (.iload 4, 2) := by decide +kernel
theorem dL_law_737 : decode cL_law 737 = .ok (.iconst 2, 1) := by decide +kernel
theorem dL_law_738 : decode cL_law 738 = .ok (.iadd, 1) := by decide +kernel
theorem dL_law_739 : decode cL_law 739 = .ok (.iaload, 1) := by decide +kernel
theorem dL_law_740 : decode cL_law 740 = .ok (.invokevirtual 83, 3) := by decide +kernel
theorem dL_law_743 : decode cL_law 743 = .ok (.pop, 1) := by decide +kernel
theorem dL_law_744 : decode cL_law 744 = .ok (.aload_n 2, 1) := by decide +kernel
theorem dL_law_745 : decode cL_law 745 = .ok (.aload_n 0, 1) := by decide +kernel
theorem dL_law_746 : decode cL_law 746 = .ok (.iload 4, 2) := by decide +kernel
theorem dL_law_748 : decode cL_law 748 = .ok (.iconst 1, 1) := by decide +kernel
theorem dL_law_749 : decode cL_law 749 = .ok (.iadd, 1) := by decide +kernel
theorem dL_law_750 : decode cL_law 750 = .ok (.iaload, 1) := by decide +kernel
theorem dL_law_751 : decode cL_law 751 = .ok (.aload_n 0, 1) := by decide +kernel
theorem dL_law_752 : decode cL_law 752 = .ok (.iload 4, 2) := by decide +kernel
theorem dL_law_754 : decode cL_law 754 = .ok (.iconst 2, 1) := by decide +kernel
theorem dL_law_755 : decode cL_law 755 = .ok (.iadd, 1) := by decide +kernel
theorem dL_law_756 : decode cL_law 756 = .ok (.iaload, 1) := by decide +kernel
theorem dL_law_757 : decode cL_law 757 = .ok (.invokevirtual 86, 3) := by decide +kernel
theorem dL_law_760 : decode cL_law 760 = .ok (.pop, 1) := by decide +kernel
theorem dL_law_761 : decode cL_law 761 = .ok (.goto 346, 3) := by decide +kernel
theorem dL_law_764 : decode cL_law 764 = .ok (.aload_n 1, 1) := by decide +kernel
theorem dL_law_765 : decode cL_law 765 = .ok (.aload_n 0, 1) := by decide +kernel
theorem dL_law_766 : decode cL_law 766 = .ok (.iload 4, 2) := by decide +kernel
theorem dL_law_768 : decode cL_law 768 = .ok (.iconst 1, 1) := by decide +kernel
theorem dL_law_769 : decode cL_law 769 = .ok (.iadd, 1) := by decide +kernel
theorem dL_law_770 : decode cL_law 770 = .ok (.iaload, 1) := by decide +kernel
theorem dL_law_771 : decode cL_law 771 = .ok (.aload_n 0, 1) := by decide +kernel
theorem dL_law_772 : decode cL_law 772 = .ok (.iload 4, 2) := by decide +kernel
theorem dL_law_774 : decode cL_law 774 = .ok (.iconst 2, 1) := by decide +kernel
theorem dL_law_775 : decode cL_law 775 = .ok (.iadd, 1) := by decide +kernel
theorem dL_law_776 : decode cL_law 776 = .ok (.iaload, 1) := by decide +kernel
theorem dL_law_777 : decode cL_law 777 = .ok (.invokevirtual 87, 3) := by decide +kernel
theorem dL_law_780 : decode cL_law 780 = .ok (.pop, 1) := by decide +kernel
theorem dL_law_781 : decode cL_law 781 = .ok (.aload_n 2, 1) := by decide +kernel
theorem dL_law_782 : decode cL_law 782 = .ok (.aload_n 0, 1) := by decide +kernel
theorem dL_law_783 : decode cL_law 783 = .ok (.iload 4, 2) := by decide +kernel
theorem dL_law_785 : decode cL_law 785 = .ok (.iconst 1, 1) := by decide +kernel
theorem dL_law_786 : decode cL_law 786 = .ok (.iadd, 1) := by decide +kernel
theorem dL_law_787 : decode cL_law 787 = .ok (.iaload, 1) := by decide +kernel
theorem dL_law_788 : decode cL_law 788 = .ok (.aload_n 0, 1) := by decide +kernel
theorem dL_law_789 : decode cL_law 789 = .ok (.iload 4, 2) := by decide +kernel
theorem dL_law_791 : decode cL_law 791 = .ok (.iconst 2, 1) := by decide +kernel
theorem dL_law_792 : decode cL_law 792 = .ok (.iadd, 1) := by decide +kernel
theorem dL_law_793 : decode cL_law 793 = .ok (.iaload, 1) := by decide +kernel
theorem dL_law_794 : decode cL_law 794 = .ok (.invokevirtual 90, 3) := by decide +kernel
theorem dL_law_797 : decode cL_law 797 = .ok (.pop, 1) := by decide +kernel
theorem dL_law_798 : decode cL_law 798 = .ok (.goto 309, 3) := by decide +kernel
theorem dL_law_801 : decode cL_law 801 = .ok (.aload_n 1, 1) := by decide +kernel
theorem dL_law_802 : decode cL_law 802 = .ok (.aload_n 0, 1) := by decide +kernel
theorem dL_law_803 : decode cL_law 803 = .ok (.iload 4, 2) := by decide +kernel
theorem dL_law_805 : decode cL_law 805 = .ok (.iconst 1, 1) := by decide +kernel
theorem dL_law_806 : decode cL_law 806 = .ok (.iadd, 1) := by decide +kernel
theorem dL_law_807 : decode cL_law 807 = .ok (.iaload, 1) := by decide +kernel
theorem dL_law_808 : decode cL_law 808 = .ok (.invokevirtual 91, 3) := by decide +kernel
theorem dL_law_811 : decode cL_law 811 = .ok (.pop, 1) := by decide +kernel
theorem dL_law_812 : decode cL_law 812 = .ok (.aload_n 2, 1) := by decide +kernel
theorem dL_law_813 : decode cL_law 813 = .ok (.aload_n 0, 1) := by decide +kernel
theorem dL_law_814 : decode cL_law 814 = .ok (.iload 4, 2) := by decide +kernel
theorem dL_law_816 : decode cL_law 816 = .ok (.iconst 1, 1) := by decide +kernel
theorem dL_law_817 : decode cL_law 817 = .ok (.iadd, 1) := by decide +kernel
theorem dL_law_818 : decode cL_law 818 = .ok (.iaload, 1) := by decide +kernel
theorem dL_law_819 : decode cL_law 819 = .ok (.invokevirtual 94, 3) := by decide +kernel
theorem dL_law_822 : decode cL_law 822 = .ok (.pop, 1) := by decide +kernel
theorem dL_law_823 : decode cL_law 823 = .ok (.goto 284, 3) := by decide +kernel
theorem dL_law_826 : decode cL_law 826 = .ok (.aload_n 1, 1) := by decide +kernel
theorem dL_law_827 : decode cL_law 827 = .ok (.aload_n 0, 1) := by decide +kernel
theorem dL_law_828 : decode cL_law 828 = .ok (.iload 4, 2) := by decide +kernel
theorem dL_law_830 : decode cL_law 830 = .ok (.iconst 1, 1) := by decide +kernel
theorem dL_law_831 : decode cL_law 831 = .ok (.iadd, 1) := by decide +kernel
theorem dL_law_832 : decode cL_law 832 = .ok (.iaload, 1) := by decide +kernel
theorem dL_law_833 : decode cL_law 833 = .ok (.invokevirtual 95, 3) := by decide +kernel
theorem dL_law_836 : decode cL_law 836 = .ok (.pop, 1) := by decide +kernel
theorem dL_law_837 : decode cL_law 837 = .ok (.aload_n 2, 1) := by decide +kernel
theorem dL_law_838 : decode cL_law 838 = .ok (.aload_n 0, 1) := by decide +kernel
theorem dL_law_839 : decode cL_law 839 = .ok (.iload 4, 2) := by decide +kernel
theorem dL_law_841 : decode cL_law 841 = .ok (.iconst 1, 1) := by decide +kernel
theorem dL_law_842 : decode cL_law 842 = .ok (.iadd, 1) := by decide +kernel
theorem dL_law_843 : decode cL_law 843 = .ok (.iaload, 1) := by decide +kernel
theorem dL_law_844 : decode cL_law 844 = .ok (.invokevirtual 98, 3) := by decide +kernel
theorem dL_law_847 : decode cL_law 847 = .ok (.pop, 1) := by decide +kernel
theorem dL_law_848 : decode cL_law 848 = .ok (.goto 259, 3) := by decide +kernel
theorem dL_law_851 : decode cL_law 851 = .ok (.aload_n 1, 1) := by decide +kernel
theorem dL_law_852 : decode cL_law 852 = .ok (.aload_n 0, 1) := by decide +kernel
theorem dL_law_853 : decode cL_law 853 = .ok (.iload 4, 2) := by decide +kernel
theorem dL_law_855 : decode cL_law 855 = .ok (.iconst 1, 1) := by decide +kernel
theorem dL_law_856 : decode cL_law 856 = .ok (.iadd, 1) := by decide +kernel
theorem dL_law_857 : decode cL_law 857 = .ok (.iaload, 1) := by decide +kernel
theorem dL_law_858 : decode cL_law 858 = .ok (.aload_n 0, 1) := by decide +kernel
theorem dL_law_859 : decode cL_law 859 = .ok (.iload 4, 2) := by decide +kernel
theorem dL_law_861 : decode cL_law 861 = .ok (.iconst 2, 1) := by decide +kernel
theorem dL_law_862 : decode cL_law 862 = .ok (.iadd, 1) := by decide +kernel
theorem dL_law_863 : decode cL_law 863 = .ok (.iaload, 1) := by decide +kernel
theorem dL_law_864 : decode cL_law 864 = .ok (.aload_n 3, 1) := by decide +kernel
theorem dL_law_865 : decode cL_law 865 = .ok (.invokestatic 99, 3) := by decide +kernel
theorem dL_law_868 : decode cL_law 868 = .ok (.istore 5, 2) := by decide +kernel
theorem dL_law_870 : decode cL_law 870 = .ok (.aload_n 2, 1) := by decide +kernel
theorem dL_law_871 : decode cL_law 871 = .ok (.aload_n 0, 1) := by decide +kernel
theorem dL_law_872 : decode cL_law 872 = .ok (.iload 4, 2) := by decide +kernel
theorem dL_law_874 : decode cL_law 874 = .ok (.iconst 1, 1) := by decide +kernel
theorem dL_law_875 : decode cL_law 875 = .ok (.iadd, 1) := by decide +kernel
theorem dL_law_876 : decode cL_law 876 = .ok (.iaload, 1) := by decide +kernel
theorem dL_law_877 : decode cL_law 877 = .ok (.aload_n 0, 1) := by decide +kernel
theorem dL_law_878 : decode cL_law 878 = .ok (.iload 4, 2) := by decide +kernel
theorem dL_law_880 : decode cL_law 880 = .ok (.iconst 2, 1) := by decide +kernel
theorem dL_law_881 : decode cL_law 881 = .ok (.iadd, 1) := by decide +kernel
theorem dL_law_882 : decode cL_law 882 = .ok (.iaload, 1) := by decide +kernel
theorem dL_law_883 : decode cL_law 883 = .ok (.invokevirtual 101, 3) := by decide +kernel
theorem dL_law_886 : decode cL_law 886 = .ok (.istore 6, 2) := by decide +kernel
theorem dL_law_888 : decode cL_law 888 = .ok (.goto 219, 3) := by decide +kernel
theorem dL_law_891 : decode cL_law 891 = .ok (.aload_n 1, 1) := by decide +kernel
theorem dL_law_892 : decode cL_law 892 = .ok (.aload_n 0, 1) := by decide +kernel
theorem dL_law_893 : decode cL_law 893 = .ok (.iload 4, 2) := by decide +kernel
theorem dL_law_895 : decode cL_law 895 = .ok (.iconst 1, 1) := by decide +kernel
theorem dL_law_896 : decode cL_law 896 = .ok (.iadd, 1) := by decide +kernel
theorem dL_law_897 : decode cL_law 897 = .ok (.iaload, 1) := by decide +kernel
theorem dL_law_898 : decode cL_law 898 = .ok (.aload_n 3, 1) := by decide +kernel
theorem dL_law_899 : decode cL_law 899 = .ok (.invokestatic 102, 3) := by decide +kernel
theorem dL_law_902 : decode cL_law 902 = .ok (.istore 5, 2) := by decide +kernel
theorem dL_law_904 : decode cL_law 904 = .ok (.aload_n 2, 1) := by decide +kernel
theorem dL_law_905 : decode cL_law 905 = .ok (.aload_n 0, 1) := by decide +kernel
theorem dL_law_906 : decode cL_law 906 = .ok (.iload 4, 2) := by decide +kernel
theorem dL_law_908 : decode cL_law 908 = .ok (.iconst 1, 1) := by decide +kernel
theorem dL_law_909 : decode cL_law 909 = .ok (.iadd, 1) := by decide +kernel
theorem dL_law_910 : decode cL_law 910 = .ok (.iaload, 1) := by decide +kernel
theorem dL_law_911 : decode cL_law 911 = .ok (.invokevirtual 105, 3) := by decide +kernel
theorem dL_law_914 : decode cL_law 914 = .ok (.lstore 6, 2) := by decide +kernel
theorem dL_law_916 : decode cL_law 916 = .ok (.goto 191, 3) := by decide +kernel
theorem dL_law_919 : decode cL_law 919 = .ok (.aload_n 1, 1) := by decide +kernel
theorem dL_law_920 : decode cL_law 920 = .ok (.aload_n 0, 1) := by decide +kernel
theorem dL_law_921 : decode cL_law 921 = .ok (.iload 4, 2) := by decide +kernel
theorem dL_law_923 : decode cL_law 923 = .ok (.iconst 1, 1) := by decide +kernel
theorem dL_law_924 : decode cL_law 924 = .ok (.iadd, 1) := by decide +kernel
theorem dL_law_925 : decode cL_law 925 = .ok (.iaload, 1) := by decide +kernel
theorem dL_law_926 : decode cL_law 926 = .ok (.aload_n 0, 1) := by decide +kernel
theorem dL_law_927 : decode cL_law 927 = .ok (.iload 4, 2) := by decide +kernel
theorem dL_law_929 : decode cL_law 929 = .ok (.iconst 2, 1) := by decide +kernel
theorem dL_law_930 : decode cL_law 930 = .ok (.iadd, 1) := by decide +kernel
theorem dL_law_931 : decode cL_law 931 = .ok (.iaload, 1) := by decide +kernel
theorem dL_law_932 : decode cL_law 932 = .ok (.aload_n 3, 1) := by decide +kernel
theorem dL_law_933 : decode cL_law 933 = .ok (.invokestatic 106, 3) := by decide +kernel
theorem dL_law_936 : decode cL_law 936 = .ok (.istore 5, 2) := by decide +kernel
theorem dL_law_938 : decode cL_law 938 = .ok (.aload_n 2, 1) := by decide +kernel
theorem dL_law_939 : decode cL_law 939 = .ok (.aload_n 0, 1) := by decide +kernel
theorem dL_law_940 : decode cL_law 940 = .ok (.iload 4, 2) := by decide +kernel
theorem dL_law_942 : decode cL_law 942 = .ok (.iconst 1, 1) := by decide +kernel
theorem dL_law_943 : decode cL_law 943 = .ok (.iadd, 1) := by decide +kernel
theorem dL_law_944 : decode cL_law 944 = .ok (.iaload, 1) := by decide +kernel
theorem dL_law_945 : decode cL_law 945 = .ok (.aload_n 0, 1) := by decide +kernel
theorem dL_law_946 : decode cL_law 946 = .ok (.iload 4, 2) := by decide +kernel
theorem dL_law_948 : decode cL_law 948 = .ok (.iconst 2, 1) := by decide +kernel
theorem dL_law_949 : decode cL_law 949 = .ok (.iadd, 1) := by decide +kernel
theorem dL_law_950 : decode cL_law 950 = .ok (.iaload, 1) := by decide +kernel
theorem dL_law_951 : decode cL_law 951 = .ok (.invokevirtual 108, 3) := by decide +kernel
theorem dL_law_954 : decode cL_law 954 = .ok (.istore 6, 2) := by decide +kernel
theorem dL_law_956 : decode cL_law 956 = .ok (.goto 151, 3) := by decide +kernel
theorem dL_law_959 : decode cL_law 959 = .ok (.aload_n 1, 1) := by decide +kernel
theorem dL_law_960 : decode cL_law 960 = .ok (.aload_n 0, 1) := by decide +kernel
theorem dL_law_961 : decode cL_law 961 = .ok (.iload 4, 2) := by decide +kernel
theorem dL_law_963 : decode cL_law 963 = .ok (.iconst 1, 1) := by decide +kernel
theorem dL_law_964 : decode cL_law 964 = .ok (.iadd, 1) := by decide +kernel
theorem dL_law_965 : decode cL_law 965 = .ok (.iaload, 1) := by decide +kernel
theorem dL_law_966 : decode cL_law 966 = .ok (.aload_n 0, 1) := by decide +kernel
theorem dL_law_967 : decode cL_law 967 = .ok (.iload 4, 2) := by decide +kernel
theorem dL_law_969 : decode cL_law 969 = .ok (.iconst 2, 1) := by decide +kernel
theorem dL_law_970 : decode cL_law 970 = .ok (.iadd, 1) := by decide +kernel
theorem dL_law_971 : decode cL_law 971 = .ok (.iaload, 1) := by decide +kernel
theorem dL_law_972 : decode cL_law 972 = .ok (.aload_n 0, 1) := by decide +kernel
theorem dL_law_973 : decode cL_law 973 = .ok (.iload 4, 2) := by decide +kernel
theorem dL_law_975 : decode cL_law 975 = .ok (.iconst 3, 1) := by decide +kernel
theorem dL_law_976 : decode cL_law 976 = .ok (.iadd, 1) := by decide +kernel
theorem dL_law_977 : decode cL_law 977 = .ok (.iaload, 1) := by decide +kernel
theorem dL_law_978 : decode cL_law 978 = .ok (.invokevirtual 109, 3) := by decide +kernel
theorem dL_law_981 : decode cL_law 981 = .ok (.pop, 1) := by decide +kernel
theorem dL_law_982 : decode cL_law 982 = .ok (.aload_n 2, 1) := by decide +kernel
theorem dL_law_983 : decode cL_law 983 = .ok (.aload_n 0, 1) := by decide +kernel
theorem dL_law_984 : decode cL_law 984 = .ok (.iload 4, 2) := by decide +kernel
theorem dL_law_986 : decode cL_law 986 = .ok (.iconst 1, 1) := by decide +kernel
theorem dL_law_987 : decode cL_law 987 = .ok (.iadd, 1) := by decide +kernel
theorem dL_law_988 : decode cL_law 988 = .ok (.iaload, 1) := by decide +kernel
theorem dL_law_989 : decode cL_law 989 = .ok (.aload_n 0, 1) := by decide +kernel
theorem dL_law_990 : decode cL_law 990 = .ok (.iload 4, 2) := by decide +kernel
theorem dL_law_992 : decode cL_law 992 = .ok (.iconst 2, 1) := by decide +kernel
theorem dL_law_993 : decode cL_law 993 = .ok (.iadd, 1) := by decide +kernel
theorem dL_law_994 : decode cL_law 994 = .ok (.iaload, 1) := by decide +kernel
theorem dL_law_995 : decode cL_law 995 = .ok (.aload_n 0, 1) := by decide +kernel
theorem dL_law_996 : decode cL_law 996 = .ok (.iload 4, 2) := by decide +kernel
theorem dL_law_998 : decode cL_law 998 = .ok (.iconst 3, 1) := by decide +kernel
theorem dL_law_999 : decode cL_law 999 = .ok (.iadd, 1) := by decide +kernel
theorem dL_law_1000 : decode cL_law 1000 = .ok (.iaload, 1) := by decide +kernel
theorem dL_law_1001 : decode cL_law 1001 = .ok (.invokevirtual 112, 3) := by decide +kernel
theorem dL_law_1004 : decode cL_law 1004 = .ok (.pop, 1) := by decide +kernel
theorem dL_law_1005 : decode cL_law 1005 = .ok (.goto 102, 3) := by decide +kernel
theorem dL_law_1008 : decode cL_law 1008 = .ok (.aload_n 1, 1) := by decide +kernel
theorem dL_law_1009 : decode cL_law 1009 = .ok (.aload_n 0, 1) := by decide +kernel
theorem dL_law_1010 : decode cL_law 1010 = .ok (.iload 4, 2) := by decide +kernel
theorem dL_law_1012 : decode cL_law 1012 = .ok (.iconst 1, 1) := by decide +kernel
theorem dL_law_1013 : decode cL_law 1013 = .ok (.iadd, 1) := by decide +kernel
theorem dL_law_1014 : decode cL_law 1014 = .ok (.iaload, 1) := by decide +kernel
theorem dL_law_1015 : decode cL_law 1015 = .ok (.aload_n 0, 1) := by decide +kernel
theorem dL_law_1016 : decode cL_law 1016 = .ok (.iload 4, 2) := by decide +kernel
theorem dL_law_1018 : decode cL_law 1018 = .ok (.iconst 2, 1) := by decide +kernel
theorem dL_law_1019 : decode cL_law 1019 = .ok (.iadd, 1) := by decide +kernel
theorem dL_law_1020 : decode cL_law 1020 = .ok (.iaload, 1) := by decide +kernel
theorem dL_law_1021 : decode cL_law 1021 = .ok (.aload_n 0, 1) := by decide +kernel
theorem dL_law_1022 : decode cL_law 1022 = .ok (.iload 4, 2) := by decide +kernel
theorem dL_law_1024 : decode cL_law 1024 = .ok (.iconst 3, 1) := by decide +kernel
theorem dL_law_1025 : decode cL_law 1025 = .ok (.iadd, 1) := by decide +kernel
theorem dL_law_1026 : decode cL_law 1026 = .ok (.iaload, 1) := by decide +kernel
theorem dL_law_1027 : decode cL_law 1027 = .ok (.invokevirtual 113, 3) := by decide +kernel
theorem dL_law_1030 : decode cL_law 1030 = .ok (.pop, 1) := by decide +kernel
theorem dL_law_1031 : decode cL_law 1031 = .ok (.aload_n 2, 1) := by decide +kernel
theorem dL_law_1032 : decode cL_law 1032 = .ok (.aload_n 0, 1) := by decide +kernel
theorem dL_law_1033 : decode cL_law 1033 = .ok (.iload 4, 2) := by decide +kernel
theorem dL_law_1035 : decode cL_law 1035 = .ok (.iconst 1, 1) := by decide +kernel
theorem dL_law_1036 : decode cL_law 1036 = .ok (.iadd, 1) := by decide +kernel
theorem dL_law_1037 : decode cL_law 1037 = .ok (.iaload, 1) := by decide +kernel
theorem dL_law_1038 : decode cL_law 1038 = .ok (.aload_n 0, 1) := by decide +kernel
theorem dL_law_1039 : decode cL_law 1039 = .ok (.iload 4, 2) := by decide +kernel
theorem dL_law_1041 : decode cL_law 1041 = .ok (.iconst 2, 1) := by decide +kernel
theorem dL_law_1042 : decode cL_law 1042 = .ok (.iadd, 1) := by decide +kernel
theorem dL_law_1043 : decode cL_law 1043 = .ok (.iaload, 1) := by decide +kernel
theorem dL_law_1044 : decode cL_law 1044 = .ok (.aload_n 0, 1) := by decide +kernel
theorem dL_law_1045 : decode cL_law 1045 = .ok (.iload 4, 2) := by decide +kernel
theorem dL_law_1047 : decode cL_law 1047 = .ok (.iconst 3, 1) := by decide +kernel
theorem dL_law_1048 : decode cL_law 1048 = .ok (.iadd, 1) := by decide +kernel
theorem dL_law_1049 : decode cL_law 1049 = .ok (.iaload, 1) := by decide +kernel
theorem dL_law_1050 : decode cL_law 1050 = .ok (.invokevirtual 116, 3) := by decide +kernel
theorem dL_law_1053 : decode cL_law 1053 = .ok (.pop, 1) := by decide +kernel
theorem dL_law_1054 : decode cL_law 1054 = .ok (.goto 53, 3) := by decide +kernel
theorem dL_law_1057 : decode cL_law 1057 = .ok (.aload_n 1, 1) := by decide +kernel
theorem dL_law_1058 : decode cL_law 1058 = .ok (.aload_n 0, 1) := by decide +kernel
theorem dL_law_1059 : decode cL_law 1059 = .ok (.iload 4, 2) := by decide +kernel
theorem dL_law_1061 : decode cL_law 1061 = .ok (.iconst 1, 1) := by decide +kernel
theorem dL_law_1062 : decode cL_law 1062 = .ok (.iadd, 1) := by decide +kernel
theorem dL_law_1063 : decode cL_law 1063 = .ok (.iaload, 1) := by decide +kernel
theorem dL_law_1064 : decode cL_law 1064 = .ok (.invokevirtual 117, 3) := by decide +kernel
theorem dL_law_1067 : decode cL_law 1067 = .ok (.pop, 1) := by decide +kernel
theorem dL_law_1068 : decode cL_law 1068 = .ok (.aload_n 2, 1) := by decide +kernel
theorem dL_law_1069 : decode cL_law 1069 = .ok (.aload_n 0, 1) := by decide +kernel
theorem dL_law_1070 : decode cL_law 1070 = .ok (.iload 4, 2) := by decide +kernel
theorem dL_law_1072 : decode cL_law 1072 = .ok (.iconst 1, 1) := by decide +kernel
theorem dL_law_1073 : decode cL_law 1073 = .ok (.iadd, 1) := by decide +kernel
theorem dL_law_1074 : decode cL_law 1074 = .ok (.iaload, 1) := by decide +kernel
theorem dL_law_1075 : decode cL_law 1075 = .ok (.invokevirtual 120, 3) := by decide +kernel
theorem dL_law_1078 : decode cL_law 1078 = .ok (.pop, 1) := by decide +kernel
theorem dL_law_1079 : decode cL_law 1079 = .ok (.goto 28, 3) := by decide +kernel
theorem dL_law_1082 : decode cL_law 1082 = .ok (.aload_n 1, 1) := by decide +kernel
theorem dL_law_1083 : decode cL_law 1083 = .ok (.aload_n 0, 1) := by decide +kernel
theorem dL_law_1084 : decode cL_law 1084 = .ok (.iload 4, 2) := by decide +kernel
theorem dL_law_1086 : decode cL_law 1086 = .ok (.iconst 1, 1) := by decide +kernel
theorem dL_law_1087 : decode cL_law 1087 = .ok (.iadd, 1) := by decide +kernel
theorem dL_law_1088 : decode cL_law 1088 = .ok (.iaload, 1) := by decide +kernel
theorem dL_law_1089 : decode cL_law 1089 = .ok (.invokevirtual 121, 3) := by decide +kernel
theorem dL_law_1092 : decode cL_law 1092 = .ok (.aload_n 2, 1) := by decide +kernel
theorem dL_law_1093 : decode cL_law 1093 = .ok (.aload_n 0, 1) := by decide +kernel
theorem dL_law_1094 : decode cL_law 1094 = .ok (.iload 4, 2) := by decide +kernel
theorem dL_law_1096 : decode cL_law 1096 = .ok (.iconst 1, 1) := by decide +kernel
theorem dL_law_1097 : decode cL_law 1097 = .ok (.iadd, 1) := by decide +kernel
theorem dL_law_1098 : decode cL_law 1098 = .ok (.iaload, 1) := by decide +kernel
theorem dL_law_1099 : decode cL_law 1099 = .ok (.invokevirtual 124, 3) := by decide +kernel
theorem dL_law_1102 : decode cL_law 1102 = .ok (.if_icmp .eq 5, 3) := by decide +kernel
theorem dL_law_1113 : decode cL_law 1113 = .ok (.iconst 1, 1) := by decide +kernel
theorem dL_law_1114 : decode cL_law 1114 = .ok (.ireturn, 1) := by decide +kernel
def lc_C (p : Program) (l : Launch) (s : State) (m : MethodId) (meth : Method) (c : Code) (sc L : Nat) (xs : Nat → Int32) (A : Nat → Prop) (dC : Nat → ClassId) (dI : Nat → Nat → Nat) (k k2 : Nat → ClassId) : Prop :=
  p.tables.exec = Jvm.exec ∧ c.code = code ∧ meth.sig.returnType = ret ∧ c.maxLocals = 8 ∧ s.vm.findClass RL = some m.cls ∧ (∀ w ∈ pw2, w.before #[Value.ref sc] s = true) ∧ va_X sc L xs s s.heap ∧ sc < s.heap.size ∧ meth.locks = false ∧ l.stackTraces = false ∧ (∀ q : Nat, s.heap.size ≤ q → A q) ∧ (∀ q : Nat, A q → s.heap.size ≤ q) ∧ vt A s s.heap ∧ nN s ∧ va_K (dC, dI) vwCl (tA k) s ∧ va_K (dC, dI) vwCl (tB k2) s
theorem vt.drawn {A : Nat → Prop} {s : State} {d : Drawn} (h : vt A s s.heap) : vt A (s.setDrawn d) (s.setDrawn d).heap :=
  ⟨fun w hw => va_Nw.same (pB_ot w hw) (u := s) (U := s.setDrawn d) rfl (h.1 w hw), vx_Zq.moved (u := s) (U := s.setDrawn d) (Vm.Alike.refl s.vm) h.2.1, vx_Zq.moved (u := s) (U := s.setDrawn d) (Vm.Alike.refl s.vm) h.2.2⟩
theorem va_D_left {A : Nat → Prop} {wa wb : va_W} (h : va_D A (wa ++ wb)) : va_D A wa := by
  have key : ∀ (i : Nat) (p : Nat × va_E), wa[i]? = some p → (wa ++ wb)[i]? = some p := fun i p hp => by rw [List.getElem?_append_left (List.getElem?_eq_some_iff.mp hp).1]; exact hp
  exact ⟨fun i j p q hi hj e => h.1 i j p q (key i p hi) (key j q hj) e, fun i q hi => h.2 i q (key i q hi)⟩
theorem va_D_right {A : Nat → Prop} {wa wb : va_W} (h : va_D A (wa ++ wb)) : va_D A wb := by
  have key : ∀ (i : Nat) (p : Nat × va_E), wb[i]? = some p → (wa ++ wb)[wa.length + i]? = some p := fun i p hp => by rw [List.getElem?_append_right (Nat.le_add_right _ _), Nat.add_sub_cancel_left]; exact hp
  exact ⟨fun i j p q hi hj e => by have := h.1 (wa.length + i) (wa.length + j) p q (key i p hi) (key j q hj) e; omega, fun i q hi => h.2 (wa.length + i) q (key i q hi)⟩
theorem va_D_apart {A : Nat → Prop} {wa wb : va_W} (h : va_D A (wa ++ wb)) {i j : Nat} {p q : Nat × va_E} (hi : wa[i]? = some p) (hj : wb[j]? = some q) : p.1 ≠ q.1 := by
  intro e
  have h1 : (wa ++ wb)[i]? = some p := by rw [List.getElem?_append_left (List.getElem?_eq_some_iff.mp hi).1]; exact hi
  have h2 : (wa ++ wb)[wa.length + j]? = some q := by rw [List.getElem?_append_right (Nat.le_add_right _ _), Nat.add_sub_cancel_left]; exact hj
  have h3 := h.1 i (wa.length + j) p q h1 h2 e
  have h4 := (List.getElem?_eq_some_iff.mp hi).1
  omega
theorem keepB {D : va_G} {cl : List vw_C} {A : Nat → Prop} {wa wb : va_W} {H H1 : Heap} (hPB : va_P D cl wb H) (hD : va_D A (wa ++ wb)) (hk : ∀ q : Nat, q < H.size → ¬ va_A wa H.size q → H1[q]? = H[q]?) : va_P D cl wb H1 := fun i p hp => (hPB i p hp).kept (hk p.1 (hPB i p hp).lt (fun h => by
  rcases h with ⟨j, e, h⟩ | h
  · exact va_D_apart hD h hp rfl
  · have := (hPB i p hp).lt; omega))
theorem keepA {D : va_G} {cl : List vw_C} {A : Nat → Prop} {wa wb : va_W} {H H1 : Heap} (hPA : va_P D cl wa H) (hD : va_D A (wa ++ wb)) (hk : ∀ q : Nat, q < H.size → ¬ va_A wb H.size q → H1[q]? = H[q]?) : va_P D cl wa H1 := fun i p hp => (hPA i p hp).kept (hk p.1 (hPA i p hp).lt (fun h => by
  rcases h with ⟨j, e, h⟩ | h
  · exact va_D_apart hD hp h rfl
  · have := (hPA i p hp).lt; omega))
theorem wAB_D {A : Nat → Prop} {a b : Nat → Nat} {k k2 : Nat → ClassId} {σ τ σ1 τ1 : ST} (h : va_D A (wA a k σ ++ wB b k2 τ)) : va_D A (wA a k σ1 ++ wB b k2 τ1) := va_D_fst (ws := wA a k σ ++ wB b k2 τ) (ws1 := wA a k σ1 ++ wB b k2 τ1) (by rw [List.map_append, List.map_append]; rfl) h
theorem la_ld1 {p : Program} {l : Launch} {e : Env} {s : State} {m : MethodId} {below : List Frame} {meth : Method} {c : Code} {sc L : Nat} {xs : Nat → Int32} {A : Nat → Prop} {cells slots pc : Nat} {H : Heap} {locs : List Loc} {ls : Array Slot} {rest : List Value} {Q : State → Prop} {t : Nat} (hx : p.tables.exec = Jvm.exec) (hb : c.code = code) (hXs : va_X sc L xs s s.heap) (hbl : sc < s.heap.size) (hbA : ¬ A sc) (hS : va_S A s.heap H locs) (hL : L ≤ 3072) (ht : 6 * t + 6 ≤ L) (hl0 : ls[0]? = some (.val (.ref sc))) (hl4 : ls[4]? = some (.val (.int (nI (6 * t))))) (d0 : decode cL_law pc = .ok (.aload_n 0, 1)) (d1 : decode cL_law (pc + 1) = .ok (.iload 4, 2)) (d2 : decode cL_law (pc + 3) = .ok (.iconst 1, 1)) (d3 : decode cL_law (pc + 4) = .ok (.iadd, 1)) (d4 : decode cL_law (pc + 5) = .ok (.iaload, 1))
    (kk : W p l e room_1 s m #[Value.ref sc] below meth c H locs cells slots Q (F0 m (pc + 6) ls (.int (xs (6 * t + 1)) :: rest))) : W p l e room_1 s m #[Value.ref sc] below meth c H locs cells slots Q (F0 m pc ls rest) := by
  refine lv_aload_n hx hb d0 rfl hl0 ?_
  refine lv_iload hx hb d1 hl4 ?_
  refine lv_iconst (v := 1) hx hb d2 (by decide) ?_
  refine lv_iadd hx hb d3 ?_
  have e1 : nI (6 * t) + 1 = nI (6 * t + 1) := nI_add (6 * t) 1
  rw [e1]
  refine va_sld hx hb hXs hbl hbA hS (vp_in_nI (by omega) (by omega)) d4 ?_
  rw [nI_clamp (by omega)]
  exact kk
theorem la_ld2 {p : Program} {l : Launch} {e : Env} {s : State} {m : MethodId} {below : List Frame} {meth : Method} {c : Code} {sc L : Nat} {xs : Nat → Int32} {A : Nat → Prop} {cells slots pc : Nat} {H : Heap} {locs : List Loc} {ls : Array Slot} {rest : List Value} {Q : State → Prop} {t : Nat} (hx : p.tables.exec = Jvm.exec) (hb : c.code = code) (hXs : va_X sc L xs s s.heap) (hbl : sc < s.heap.size) (hbA : ¬ A sc) (hS : va_S A s.heap H locs) (hL : L ≤ 3072) (ht : 6 * t + 6 ≤ L) (hl0 : ls[0]? = some (.val (.ref sc))) (hl4 : ls[4]? = some (.val (.int (nI (6 * t))))) (d0 : decode cL_law pc = .ok (.aload_n 0, 1)) (d1 : decode cL_law (pc + 1) = .ok (.iload 4, 2)) (d2 : decode cL_law (pc + 3) = .ok (.iconst 2, 1)) (d3 : decode cL_law (pc + 4) = .ok (.iadd, 1)) (d4 : decode cL_law (pc + 5) = .ok (.iaload, 1))
    (kk : W p l e room_1 s m #[Value.ref sc] below meth c H locs cells slots Q (F0 m (pc + 6) ls (.int (xs (6 * t + 2)) :: rest))) : W p l e room_1 s m #[Value.ref sc] below meth c H locs cells slots Q (F0 m pc ls rest) := by
  refine lv_aload_n hx hb d0 rfl hl0 ?_
  refine lv_iload hx hb d1 hl4 ?_
  refine lv_iconst (v := 2) hx hb d2 (by decide) ?_
  refine lv_iadd hx hb d3 ?_
  have e1 : nI (6 * t) + 2 = nI (6 * t + 2) := nI_add (6 * t) 2
  rw [e1]
  refine va_sld hx hb hXs hbl hbA hS (vp_in_nI (by omega) (by omega)) d4 ?_
  rw [nI_clamp (by omega)]
  exact kk
theorem la_ld3 {p : Program} {l : Launch} {e : Env} {s : State} {m : MethodId} {below : List Frame} {meth : Method} {c : Code} {sc L : Nat} {xs : Nat → Int32} {A : Nat → Prop} {cells slots pc : Nat} {H : Heap} {locs : List Loc} {ls : Array Slot} {rest : List Value} {Q : State → Prop} {t : Nat} (hx : p.tables.exec = Jvm.exec) (hb : c.code = code) (hXs : va_X sc L xs s s.heap) (hbl : sc < s.heap.size) (hbA : ¬ A sc) (hS : va_S A s.heap H locs) (hL : L ≤ 3072) (ht : 6 * t + 6 ≤ L) (hl0 : ls[0]? = some (.val (.ref sc))) (hl4 : ls[4]? = some (.val (.int (nI (6 * t))))) (d0 : decode cL_law pc = .ok (.aload_n 0, 1)) (d1 : decode cL_law (pc + 1) = .ok (.iload 4, 2)) (d2 : decode cL_law (pc + 3) = .ok (.iconst 3, 1)) (d3 : decode cL_law (pc + 4) = .ok (.iadd, 1)) (d4 : decode cL_law (pc + 5) = .ok (.iaload, 1))
    (kk : W p l e room_1 s m #[Value.ref sc] below meth c H locs cells slots Q (F0 m (pc + 6) ls (.int (xs (6 * t + 3)) :: rest))) : W p l e room_1 s m #[Value.ref sc] below meth c H locs cells slots Q (F0 m pc ls rest) := by
  refine lv_aload_n hx hb d0 rfl hl0 ?_
  refine lv_iload hx hb d1 hl4 ?_
  refine lv_iconst (v := 3) hx hb d2 (by decide) ?_
  refine lv_iadd hx hb d3 ?_
  have e1 : nI (6 * t) + 3 = nI (6 * t + 3) := nI_add (6 * t) 3
  rw [e1]
  refine va_sld hx hb hXs hbl hbA hS (vp_in_nI (by omega) (by omega)) d4 ?_
  rw [nI_clamp (by omega)]
  exact kk
theorem la_ld4 {p : Program} {l : Launch} {e : Env} {s : State} {m : MethodId} {below : List Frame} {meth : Method} {c : Code} {sc L : Nat} {xs : Nat → Int32} {A : Nat → Prop} {cells slots pc : Nat} {H : Heap} {locs : List Loc} {ls : Array Slot} {rest : List Value} {Q : State → Prop} {t : Nat} (hx : p.tables.exec = Jvm.exec) (hb : c.code = code) (hXs : va_X sc L xs s s.heap) (hbl : sc < s.heap.size) (hbA : ¬ A sc) (hS : va_S A s.heap H locs) (hL : L ≤ 3072) (ht : 6 * t + 6 ≤ L) (hl0 : ls[0]? = some (.val (.ref sc))) (hl4 : ls[4]? = some (.val (.int (nI (6 * t))))) (d0 : decode cL_law pc = .ok (.aload_n 0, 1)) (d1 : decode cL_law (pc + 1) = .ok (.iload 4, 2)) (d2 : decode cL_law (pc + 3) = .ok (.iconst 4, 1)) (d3 : decode cL_law (pc + 4) = .ok (.iadd, 1)) (d4 : decode cL_law (pc + 5) = .ok (.iaload, 1))
    (kk : W p l e room_1 s m #[Value.ref sc] below meth c H locs cells slots Q (F0 m (pc + 6) ls (.int (xs (6 * t + 4)) :: rest))) : W p l e room_1 s m #[Value.ref sc] below meth c H locs cells slots Q (F0 m pc ls rest) := by
  refine lv_aload_n hx hb d0 rfl hl0 ?_
  refine lv_iload hx hb d1 hl4 ?_
  refine lv_iconst (v := 4) hx hb d2 (by decide) ?_
  refine lv_iadd hx hb d3 ?_
  have e1 : nI (6 * t) + 4 = nI (6 * t + 4) := nI_add (6 * t) 4
  rw [e1]
  refine va_sld hx hb hXs hbl hbA hS (vp_in_nI (by omega) (by omega)) d4 ?_
  rw [nI_clamp (by omega)]
  exact kk
theorem la_ld5 {p : Program} {l : Launch} {e : Env} {s : State} {m : MethodId} {below : List Frame} {meth : Method} {c : Code} {sc L : Nat} {xs : Nat → Int32} {A : Nat → Prop} {cells slots pc : Nat} {H : Heap} {locs : List Loc} {ls : Array Slot} {rest : List Value} {Q : State → Prop} {t : Nat} (hx : p.tables.exec = Jvm.exec) (hb : c.code = code) (hXs : va_X sc L xs s s.heap) (hbl : sc < s.heap.size) (hbA : ¬ A sc) (hS : va_S A s.heap H locs) (hL : L ≤ 3072) (ht : 6 * t + 6 ≤ L) (hl0 : ls[0]? = some (.val (.ref sc))) (hl4 : ls[4]? = some (.val (.int (nI (6 * t))))) (d0 : decode cL_law pc = .ok (.aload_n 0, 1)) (d1 : decode cL_law (pc + 1) = .ok (.iload 4, 2)) (d2 : decode cL_law (pc + 3) = .ok (.iconst 5, 1)) (d3 : decode cL_law (pc + 4) = .ok (.iadd, 1)) (d4 : decode cL_law (pc + 5) = .ok (.iaload, 1))
    (kk : W p l e room_1 s m #[Value.ref sc] below meth c H locs cells slots Q (F0 m (pc + 6) ls (.int (xs (6 * t + 5)) :: rest))) : W p l e room_1 s m #[Value.ref sc] below meth c H locs cells slots Q (F0 m pc ls rest) := by
  refine lv_aload_n hx hb d0 rfl hl0 ?_
  refine lv_iload hx hb d1 hl4 ?_
  refine lv_iconst (v := 5) hx hb d2 (by decide) ?_
  refine lv_iadd hx hb d3 ?_
  have e1 : nI (6 * t) + 5 = nI (6 * t + 5) := nI_add (6 * t) 5
  rw [e1]
  refine va_sld hx hb hXs hbl hbA hS (vp_in_nI (by omega) (by omega)) d4 ?_
  rw [nI_clamp (by omega)]
  exact kk
theorem law_end {p : Program} {l : Launch} {e : Env} {s : State} {m : MethodId} {below : List Frame} {meth : Method} {c : Code} {sc L : Nat} {xs : Nat → Int32} {A : Nat → Prop} {dC : Nat → ClassId} {dI : Nat → Nat → Nat} {k k2 : Nat → ClassId} (C0 : lc_C p l s m meth c sc L xs A dC dI k k2) {d0 : Drawn} (hd0 : s.drawn.sameBut d0 lw_cs) (H : Heap) (locs : List Loc) (cells slots : Nat) (ls : Array Slot) (hc : cells ≤ 601024) (hs : slots ≤ 7293034) (hS : va_S A s.heap H locs) : W p l e room_1 (s.setDrawn d0) m #[Value.ref sc] below meth c H locs cells slots (lw_Z below #[Value.ref sc] s) (F0 m 1113 ls []) := by
  obtain ⟨hx, hb, hr, hml, hown, hts02, hXs0, hbl, hlocks, hst, hA, hA2, hV0, hN0, hKA0, hKB0⟩ := id C0
  refine va_forget (fun q h => hA2 _ (hS.2.2 q h)) ?_
  refine W.widen (k := 601024) (n := 7293034) hc hs ?_
  refine lv_iconst (v := 1) hx hb dL_law_1113 (by decide) ?_
  exact lw_ret hd0 hx hb hr hlocks dL_law_1114
set_option maxRecDepth 100000 in
set_option maxHeartbeats 4000000 in
/-- feed -/
theorem lk_0 {p : Program} {l : Launch} {e : Env} {s : State} {m : MethodId} {below : List Frame} {meth : Method} {c : Code} {sc L : Nat} {xs : Nat → Int32} {A : Nat → Prop} {dC : Nat → ClassId} {dI : Nat → Nat → Nat} {a b : Nat → Nat} {k k2 : Nat → ClassId} (C0 : lc_C p l s m meth c sc L xs A dC dI k k2) (hL : L ≤ 3072) {t : Nat} (ht : 6 * t + 6 ≤ L) {σ τ : ST} {qa : Int32 × ST} {qb : Int32 × ST} (ha : f_X10_feed (xs (6 * t + 1)) (xs (6 * t + 2)) (xs (6 * t + 3)) (xs (6 * t + 4)) (xs (6 * t + 5)) σ = some qa) (hb9 : f_X11_feed (xs (6 * t + 1)) (xs (6 * t + 2)) (xs (6 * t + 3)) (xs (6 * t + 4)) (xs (6 * t + 5)) τ = some qb) {cells slots : Nat} (hcl : cells + 0 + 0 ≤ 601024) (hsl : slots + 0 + 0 ≤ 7293034) {d0 : Drawn} (hd0 : s.drawn.sameBut d0 lw_cs) {H : Heap} {locs : List Loc} {ls : Array Slot} (hPA : va_P (dC, dI) vwCl (wA a k σ) H) (hPB : va_P (dC, dI) vwCl (wB b k2 τ) H) (hD : va_D A (wA a k σ ++ wB b k2 τ)) (hS : va_S A s.heap H locs) (hl : lv_has ls 8 [(4, .int (nI (6 * t))), (3, .ref (a 95)), (2, .ref (b 0)), (1, .ref (a 0)), (0, .ref sc)])
    (kk : ∀ (d0 : Drawn) (H : Heap) (locs : List Loc) (ls : Array Slot), s.drawn.sameBut d0 lw_cs → va_P (dC, dI) vwCl (wA a k qa.2) H → va_P (dC, dI) vwCl (wB b k2 qb.2) H → va_D A (wA a k qa.2 ++ wB b k2 qb.2) → va_S A s.heap H locs → lv_has ls 8 [(4, .int (nI (6 * t))), (3, .ref (a 95)), (2, .ref (b 0)), (1, .ref (a 0)), (0, .ref sc)] → W p l e room_1 (s.setDrawn d0) m #[Value.ref sc] below meth c H locs (cells + 0 + 0) (slots + 0 + 0) (lw_Z below #[Value.ref sc] s) (F0 m 1107 ls [])) : W p l e room_1 (s.setDrawn d0) m #[Value.ref sc] below meth c H locs (cells) (slots) (lw_Z below #[Value.ref sc] s) (F0 m 148 ls []) := by
  obtain ⟨hx, hb, hr, hml, hown, hts02, hXs0, hbl, hlocks, hst, hA, hA2, hV0, hN0, hKA0, hKB0⟩ := id C0
  have hbA : ¬ A sc := fun h => Nat.not_le.mpr hbl (hA2 sc h)
  have hts2 := dr_words hts02 d0
  have hts : ∀ w ∈ pw, w.before #[Value.ref sc] (s.setDrawn d0) = true := fun w h => hts2 w (pw_to2 h)
  have hN : nN (s.setDrawn d0) := nN.same (u := s) (U := s.setDrawn d0) rfl hN0
  have hKA : va_K (dC, dI) vwCl (tA k) (s.setDrawn d0) := va_K.moved (u := s) (U := s.setDrawn d0) (Vm.Alike.refl s.vm) hKA0
  have hKB : va_K (dC, dI) vwCl (tB k2) (s.setDrawn d0) := va_K.moved (u := s) (U := s.setDrawn d0) (Vm.Alike.refl s.vm) hKB0
  have hXs : va_X sc L xs (s.setDrawn d0) (s.setDrawn d0).heap := va_X.moved (u := s) (U := s.setDrawn d0) (Vm.Alike.refl s.vm) hXs0
  refine lv_aload_n hx hb dL_law_148 rfl (lv_at hl 3 rfl) ?_
  refine la_ld1 (s := s.setDrawn d0) hx hb hXs hbl hbA hS hL ht (lv_at hl 4 rfl) (lv_at hl 0 rfl) dL_law_149 dL_law_150 dL_law_152 dL_law_153 dL_law_154 ?_
  refine la_ld2 (s := s.setDrawn d0) hx hb hXs hbl hbA hS hL ht (lv_at hl 4 rfl) (lv_at hl 0 rfl) dL_law_155 dL_law_156 dL_law_158 dL_law_159 dL_law_160 ?_
  refine la_ld3 (s := s.setDrawn d0) hx hb hXs hbl hbA hS hL ht (lv_at hl 4 rfl) (lv_at hl 0 rfl) dL_law_161 dL_law_162 dL_law_164 dL_law_165 dL_law_166 ?_
  refine la_ld4 (s := s.setDrawn d0) hx hb hXs hbl hbA hS hL ht (lv_at hl 4 rfl) (lv_at hl 0 rfl) dL_law_167 dL_law_168 dL_law_170 dL_law_171 dL_law_172 ?_
  refine la_ld5 (s := s.setDrawn d0) hx hb hXs hbl hbA hS hL ht (lv_at hl 4 rfl) (lv_at hl 0 rfl) dL_law_173 dL_law_174 dL_law_176 dL_law_177 dL_law_178 ?_
  have hDA := va_D_left hD
  have hDB := va_D_right hD
  have hF := va_frees hDA hS hA
  refine va_calli (va_runV (As := [.int (xs (6 * t + 1)), .int (xs (6 * t + 2)), .int (xs (6 * t + 3)), .int (xs (6 * t + 4)), .int (xs (6 * t + 5))]) (rest := []) ⟨hx, hb, hml, hown, hts⟩ (s_X10_feed ha) (cwV 5 hts (gV mw_41_19 mw_41_20 mw_41_21 mw_0_14 mw_52_25) rfl rfl rfl (by decide +kernel) ⟨(Nat.le_of_ble_eq_true rfl), (Nat.le_of_ble_eq_true rfl)⟩) (vV (ci := 10) (q0 := 0) hKA hPA hDA hN rfl gA_0) rfl rfl hl.1 rfl (lv_room (Nat.le_of_ble_eq_true rfl)) dL_law_179 ⟨by show cells + 0 ≤ 601024; omega, by show slots + 0 ≤ 7293034; omega⟩) hS (fun q _ h => hF q h) hF (fun r9 u t9 H1 locs ht9 hvm hw hB _ hk hS => ?_)
  obtain rfl : r9 = qa.1 := hw
  replace hPA : va_P (dC, dI) vwCl (wA a k qa.2) H1 := by rw [← ht9]; exact hB.1
  replace hPB := keepB hPB hD hk
  replace hD : va_D A (wA a k qa.2 ++ wB b k2 τ) := wAB_D hD
  clear hB hF hk hvm
  refine lv_pop hx hb dL_law_182 rfl ?_
  refine lv_aload_n hx hb dL_law_183 rfl (lv_at hl 2 rfl) ?_
  refine la_ld1 (s := s.setDrawn d0) hx hb hXs hbl hbA hS hL ht (lv_at hl 4 rfl) (lv_at hl 0 rfl) dL_law_184 dL_law_185 dL_law_187 dL_law_188 dL_law_189 ?_
  refine la_ld2 (s := s.setDrawn d0) hx hb hXs hbl hbA hS hL ht (lv_at hl 4 rfl) (lv_at hl 0 rfl) dL_law_190 dL_law_191 dL_law_193 dL_law_194 dL_law_195 ?_
  refine la_ld3 (s := s.setDrawn d0) hx hb hXs hbl hbA hS hL ht (lv_at hl 4 rfl) (lv_at hl 0 rfl) dL_law_196 dL_law_197 dL_law_199 dL_law_200 dL_law_201 ?_
  refine la_ld4 (s := s.setDrawn d0) hx hb hXs hbl hbA hS hL ht (lv_at hl 4 rfl) (lv_at hl 0 rfl) dL_law_202 dL_law_203 dL_law_205 dL_law_206 dL_law_207 ?_
  refine la_ld5 (s := s.setDrawn d0) hx hb hXs hbl hbA hS hL ht (lv_at hl 4 rfl) (lv_at hl 0 rfl) dL_law_208 dL_law_209 dL_law_211 dL_law_212 dL_law_213 ?_
  replace hDA := va_D_left hD
  replace hDB := va_D_right hD
  have hF := va_frees hDB hS hA
  refine va_calli (va_runV (As := [.int (xs (6 * t + 1)), .int (xs (6 * t + 2)), .int (xs (6 * t + 3)), .int (xs (6 * t + 4)), .int (xs (6 * t + 5))]) (rest := []) ⟨hx, hb, hml, hown, hts⟩ (s_X11_feed hb9) (cwV 5 hts (gV mw_41_22 mw_41_23 mw_41_24 mw_0_15 mw_53_27) rfl rfl rfl (by decide +kernel) ⟨(Nat.le_of_ble_eq_true rfl), (Nat.le_of_ble_eq_true rfl)⟩) (vV (ci := 11) (q0 := 0) hKB hPB hDB hN rfl gB_0) rfl rfl hl.1 rfl (lv_room (Nat.le_of_ble_eq_true rfl)) dL_law_214 ⟨by show (cells + 0) + 0 ≤ 601024; omega, by show (slots + 0) + 0 ≤ 7293034; omega⟩) hS (fun q _ h => hF q h) hF (fun r8 u t9 H1 locs ht9 hvm hw hB _ hk hS => ?_)
  obtain rfl : r8 = qb.1 := hw
  replace hPB : va_P (dC, dI) vwCl (wB b k2 qb.2) H1 := by rw [← ht9]; exact hB.1
  replace hPA := keepA hPA hD hk
  replace hD : va_D A (wA a k qa.2 ++ wB b k2 qb.2) := wAB_D hD
  refine lv_pop hx hb dL_law_217 rfl ?_
  refine lv_goto (tgt := 1107) hx hb dL_law_218 (by decide) ?_
  exact kk d0 H1 locs _ hd0 hPA hPB hD hS (lv_sub hl [0, 1, 2, 3, 4] rfl)

set_option maxRecDepth 100000 in
set_option maxHeartbeats 4000000 in
/-- plans -/
theorem lk_1 {p : Program} {l : Launch} {e : Env} {s : State} {m : MethodId} {below : List Frame} {meth : Method} {c : Code} {sc L : Nat} {xs : Nat → Int32} {A : Nat → Prop} {dC : Nat → ClassId} {dI : Nat → Nat → Nat} {a b : Nat → Nat} {k k2 : Nat → ClassId} (C0 : lc_C p l s m meth c sc L xs A dC dI k k2) (hL : L ≤ 3072) {t : Nat} (ht : 6 * t + 6 ≤ L) {σ τ : ST} {qa : Int32 × ST} {qb : (Int32 × ST) × Nat} (ha : f_X10_plans (xs (6 * t + 1)) σ = some qa) (hb9 : f_X11_plans (xs (6 * t + 1)) τ = some qb) {cells slots : Nat} (hcl : cells + 0 + qb.2 ≤ 601024) (hsl : slots + 0 + 6 * qb.2 ≤ 7293034) {d0 : Drawn} (hd0 : s.drawn.sameBut d0 lw_cs) {H : Heap} {locs : List Loc} {ls : Array Slot} (hPA : va_P (dC, dI) vwCl (wA a k σ) H) (hPB : va_P (dC, dI) vwCl (wB b k2 τ) H) (hD : va_D A (wA a k σ ++ wB b k2 τ)) (hS : va_S A s.heap H locs) (hl : lv_has ls 8 [(4, .int (nI (6 * t))), (3, .ref (a 95)), (2, .ref (b 0)), (1, .ref (a 0)), (0, .ref sc)])
    (kk : ∀ (d0 : Drawn) (H : Heap) (locs : List Loc) (ls : Array Slot), s.drawn.sameBut d0 lw_cs → va_P (dC, dI) vwCl (wA a k qa.2) H → va_P (dC, dI) vwCl (wB b k2 qb.1.2) H → va_D A (wA a k qa.2 ++ wB b k2 qb.1.2) → va_S A s.heap H locs → lv_has ls 8 [(4, .int (nI (6 * t))), (3, .ref (a 95)), (2, .ref (b 0)), (1, .ref (a 0)), (0, .ref sc)] → W p l e room_1 (s.setDrawn d0) m #[Value.ref sc] below meth c H locs (cells + 0 + qb.2) (slots + 0 + 6 * qb.2) (lw_Z below #[Value.ref sc] s) (F0 m 1107 ls [])) : W p l e room_1 (s.setDrawn d0) m #[Value.ref sc] below meth c H locs (cells) (slots) (lw_Z below #[Value.ref sc] s) (F0 m 221 ls []) := by
  obtain ⟨hx, hb, hr, hml, hown, hts02, hXs0, hbl, hlocks, hst, hA, hA2, hV0, hN0, hKA0, hKB0⟩ := id C0
  have hbA : ¬ A sc := fun h => Nat.not_le.mpr hbl (hA2 sc h)
  have hts2 := dr_words hts02 d0
  have hts : ∀ w ∈ pw, w.before #[Value.ref sc] (s.setDrawn d0) = true := fun w h => hts2 w (pw_to2 h)
  have hN : nN (s.setDrawn d0) := nN.same (u := s) (U := s.setDrawn d0) rfl hN0
  have hKA : va_K (dC, dI) vwCl (tA k) (s.setDrawn d0) := va_K.moved (u := s) (U := s.setDrawn d0) (Vm.Alike.refl s.vm) hKA0
  have hKB : va_K (dC, dI) vwCl (tB k2) (s.setDrawn d0) := va_K.moved (u := s) (U := s.setDrawn d0) (Vm.Alike.refl s.vm) hKB0
  have hXs : va_X sc L xs (s.setDrawn d0) (s.setDrawn d0).heap := va_X.moved (u := s) (U := s.setDrawn d0) (Vm.Alike.refl s.vm) hXs0
  refine lv_aload_n hx hb dL_law_221 rfl (lv_at hl 3 rfl) ?_
  refine la_ld1 (s := s.setDrawn d0) hx hb hXs hbl hbA hS hL ht (lv_at hl 4 rfl) (lv_at hl 0 rfl) dL_law_222 dL_law_223 dL_law_225 dL_law_226 dL_law_227 ?_
  have hDA := va_D_left hD
  have hDB := va_D_right hD
  have hF := va_frees hDA hS hA
  refine va_calli (va_runV (As := [.int (xs (6 * t + 1))]) (rest := []) ⟨hx, hb, hml, hown, hts⟩ (s_X10_plans ha) (cwV 1 hts (gV mw_41_25 mw_41_26 mw_41_27 mw_0_14 mw_52_27) rfl rfl rfl (by decide +kernel) ⟨(Nat.le_of_ble_eq_true rfl), (Nat.le_of_ble_eq_true rfl)⟩) (vV (ci := 10) (q0 := 0) hKA hPA hDA hN rfl gA_0) rfl rfl hl.1 rfl (lv_room (Nat.le_of_ble_eq_true rfl)) dL_law_228 ⟨by show cells + 0 ≤ 601024; omega, by show slots + 0 ≤ 7293034; omega⟩) hS (fun q _ h => hF q h) hF (fun r9 u t9 H1 locs ht9 hvm hw hB _ hk hS => ?_)
  obtain rfl : r9 = qa.1 := hw
  replace hPA : va_P (dC, dI) vwCl (wA a k qa.2) H1 := by rw [← ht9]; exact hB.1
  replace hPB := keepB hPB hD hk
  replace hD : va_D A (wA a k qa.2 ++ wB b k2 τ) := wAB_D hD
  clear hB hF hk hvm
  refine lv_pop hx hb dL_law_231 rfl ?_
  refine lv_aload_n hx hb dL_law_232 rfl (lv_at hl 2 rfl) ?_
  refine la_ld1 (s := s.setDrawn d0) hx hb hXs hbl hbA hS hL ht (lv_at hl 4 rfl) (lv_at hl 0 rfl) dL_law_233 dL_law_234 dL_law_236 dL_law_237 dL_law_238 ?_
  replace hDA := va_D_left hD
  replace hDB := va_D_right hD
  have hF := va_frees hDB hS hA
  refine va_calli (va_runV (As := [.int (xs (6 * t + 1))]) (rest := []) ⟨hx, hb, hml, hown, hts⟩ (s_X11_plans (q := qb.1) (r := qb.2) hb9) (cwV 1 hts (gV mw_41_28 mw_41_29 mw_42_0 mw_0_15 mw_55_8) rfl rfl rfl (by decide +kernel) ⟨(Nat.le_of_ble_eq_true rfl), (Nat.le_of_ble_eq_true rfl)⟩) (vV (ci := 11) (q0 := 0) hKB hPB hDB hN rfl gB_0) rfl rfl hl.1 rfl (lv_room (Nat.le_of_ble_eq_true rfl)) dL_law_239 ⟨by show (cells + 0) + qb.2 ≤ 601024; omega, by show (slots + 0) + 6 * qb.2 ≤ 7293034; omega⟩) hS (fun q _ h => hF q h) hF (fun r8 u t9 H1 locs ht9 hvm hw hB _ hk hS => ?_)
  obtain rfl : r8 = qb.1.1 := hw
  replace hPB : va_P (dC, dI) vwCl (wB b k2 qb.1.2) H1 := by rw [← ht9]; exact hB.1
  replace hPA := keepA hPA hD hk
  replace hD : va_D A (wA a k qa.2 ++ wB b k2 qb.1.2) := wAB_D hD
  refine lv_pop hx hb dL_law_242 rfl ?_
  refine lv_goto (tgt := 1107) hx hb dL_law_243 (by decide) ?_
  exact kk d0 H1 locs _ hd0 hPA hPB hD hS (lv_sub hl [0, 1, 2, 3, 4] rfl)

set_option maxRecDepth 100000 in
set_option maxHeartbeats 4000000 in
/-- write -/
theorem lk_2 {p : Program} {l : Launch} {e : Env} {s : State} {m : MethodId} {below : List Frame} {meth : Method} {c : Code} {sc L : Nat} {xs : Nat → Int32} {A : Nat → Prop} {dC : Nat → ClassId} {dI : Nat → Nat → Nat} {a b : Nat → Nat} {k k2 : Nat → ClassId} (C0 : lc_C p l s m meth c sc L xs A dC dI k k2) (hL : L ≤ 3072) {t : Nat} (ht : 6 * t + 6 ≤ L) {σ τ : ST} {qa : Int32 × ST} {qb : (Int32 × ST) × Nat} (ha : f_X10_write (xs (6 * t + 1)) (xs (6 * t + 2)) (xs (6 * t + 3)) σ = some qa) (hb9 : f_X11_write (xs (6 * t + 1)) (xs (6 * t + 2)) (xs (6 * t + 3)) τ = some qb) {cells slots : Nat} (hcl : cells + 0 + qb.2 ≤ 601024) (hsl : slots + 0 + 6 * qb.2 ≤ 7293034) {d0 : Drawn} (hd0 : s.drawn.sameBut d0 lw_cs) {H : Heap} {locs : List Loc} {ls : Array Slot} (hPA : va_P (dC, dI) vwCl (wA a k σ) H) (hPB : va_P (dC, dI) vwCl (wB b k2 τ) H) (hD : va_D A (wA a k σ ++ wB b k2 τ)) (hS : va_S A s.heap H locs) (hl : lv_has ls 8 [(4, .int (nI (6 * t))), (3, .ref (a 95)), (2, .ref (b 0)), (1, .ref (a 0)), (0, .ref sc)])
    (kk : ∀ (d0 : Drawn) (H : Heap) (locs : List Loc) (ls : Array Slot), s.drawn.sameBut d0 lw_cs → va_P (dC, dI) vwCl (wA a k qa.2) H → va_P (dC, dI) vwCl (wB b k2 qb.1.2) H → va_D A (wA a k qa.2 ++ wB b k2 qb.1.2) → va_S A s.heap H locs → lv_has ls 8 [(4, .int (nI (6 * t))), (3, .ref (a 95)), (2, .ref (b 0)), (1, .ref (a 0)), (0, .ref sc)] → W p l e room_1 (s.setDrawn d0) m #[Value.ref sc] below meth c H locs (cells + 0 + qb.2) (slots + 0 + 6 * qb.2) (lw_Z below #[Value.ref sc] s) (F0 m 1107 ls [])) : W p l e room_1 (s.setDrawn d0) m #[Value.ref sc] below meth c H locs (cells) (slots) (lw_Z below #[Value.ref sc] s) (F0 m 246 ls []) := by
  obtain ⟨hx, hb, hr, hml, hown, hts02, hXs0, hbl, hlocks, hst, hA, hA2, hV0, hN0, hKA0, hKB0⟩ := id C0
  have hbA : ¬ A sc := fun h => Nat.not_le.mpr hbl (hA2 sc h)
  have hts2 := dr_words hts02 d0
  have hts : ∀ w ∈ pw, w.before #[Value.ref sc] (s.setDrawn d0) = true := fun w h => hts2 w (pw_to2 h)
  have hN : nN (s.setDrawn d0) := nN.same (u := s) (U := s.setDrawn d0) rfl hN0
  have hKA : va_K (dC, dI) vwCl (tA k) (s.setDrawn d0) := va_K.moved (u := s) (U := s.setDrawn d0) (Vm.Alike.refl s.vm) hKA0
  have hKB : va_K (dC, dI) vwCl (tB k2) (s.setDrawn d0) := va_K.moved (u := s) (U := s.setDrawn d0) (Vm.Alike.refl s.vm) hKB0
  have hXs : va_X sc L xs (s.setDrawn d0) (s.setDrawn d0).heap := va_X.moved (u := s) (U := s.setDrawn d0) (Vm.Alike.refl s.vm) hXs0
  refine lv_aload_n hx hb dL_law_246 rfl (lv_at hl 3 rfl) ?_
  refine la_ld1 (s := s.setDrawn d0) hx hb hXs hbl hbA hS hL ht (lv_at hl 4 rfl) (lv_at hl 0 rfl) dL_law_247 dL_law_248 dL_law_250 dL_law_251 dL_law_252 ?_
  refine la_ld2 (s := s.setDrawn d0) hx hb hXs hbl hbA hS hL ht (lv_at hl 4 rfl) (lv_at hl 0 rfl) dL_law_253 dL_law_254 dL_law_256 dL_law_257 dL_law_258 ?_
  refine la_ld3 (s := s.setDrawn d0) hx hb hXs hbl hbA hS hL ht (lv_at hl 4 rfl) (lv_at hl 0 rfl) dL_law_259 dL_law_260 dL_law_262 dL_law_263 dL_law_264 ?_
  have hDA := va_D_left hD
  have hDB := va_D_right hD
  have hF := va_frees hDA hS hA
  refine va_calli (va_runV (As := [.int (xs (6 * t + 1)), .int (xs (6 * t + 2)), .int (xs (6 * t + 3))]) (rest := []) ⟨hx, hb, hml, hown, hts⟩ (s_X10_write ha) (cwV 3 hts (gV mw_42_1 mw_42_2 mw_42_3 mw_0_14 mw_52_28) rfl rfl rfl (by decide +kernel) ⟨(Nat.le_of_ble_eq_true rfl), (Nat.le_of_ble_eq_true rfl)⟩) (vV (ci := 10) (q0 := 0) hKA hPA hDA hN rfl gA_0) rfl rfl hl.1 rfl (lv_room (Nat.le_of_ble_eq_true rfl)) dL_law_265 ⟨by show cells + 0 ≤ 601024; omega, by show slots + 0 ≤ 7293034; omega⟩) hS (fun q _ h => hF q h) hF (fun r9 u t9 H1 locs ht9 hvm hw hB _ hk hS => ?_)
  obtain rfl : r9 = qa.1 := hw
  replace hPA : va_P (dC, dI) vwCl (wA a k qa.2) H1 := by rw [← ht9]; exact hB.1
  replace hPB := keepB hPB hD hk
  replace hD : va_D A (wA a k qa.2 ++ wB b k2 τ) := wAB_D hD
  clear hB hF hk hvm
  refine lv_pop hx hb dL_law_268 rfl ?_
  refine lv_aload_n hx hb dL_law_269 rfl (lv_at hl 2 rfl) ?_
  refine la_ld1 (s := s.setDrawn d0) hx hb hXs hbl hbA hS hL ht (lv_at hl 4 rfl) (lv_at hl 0 rfl) dL_law_270 dL_law_271 dL_law_273 dL_law_274 dL_law_275 ?_
  refine la_ld2 (s := s.setDrawn d0) hx hb hXs hbl hbA hS hL ht (lv_at hl 4 rfl) (lv_at hl 0 rfl) dL_law_276 dL_law_277 dL_law_279 dL_law_280 dL_law_281 ?_
  refine la_ld3 (s := s.setDrawn d0) hx hb hXs hbl hbA hS hL ht (lv_at hl 4 rfl) (lv_at hl 0 rfl) dL_law_282 dL_law_283 dL_law_285 dL_law_286 dL_law_287 ?_
  replace hDA := va_D_left hD
  replace hDB := va_D_right hD
  have hF := va_frees hDB hS hA
  refine va_calli (va_runV (As := [.int (xs (6 * t + 1)), .int (xs (6 * t + 2)), .int (xs (6 * t + 3))]) (rest := []) ⟨hx, hb, hml, hown, hts⟩ (s_X11_write (q := qb.1) (r := qb.2) hb9) (cwV 3 hts (gV mw_42_4 mw_42_5 mw_42_6 mw_0_15 mw_56_0) rfl rfl rfl (by decide +kernel) ⟨(Nat.le_of_ble_eq_true rfl), (Nat.le_of_ble_eq_true rfl)⟩) (vV (ci := 11) (q0 := 0) hKB hPB hDB hN rfl gB_0) rfl rfl hl.1 rfl (lv_room (Nat.le_of_ble_eq_true rfl)) dL_law_288 ⟨by show (cells + 0) + qb.2 ≤ 601024; omega, by show (slots + 0) + 6 * qb.2 ≤ 7293034; omega⟩) hS (fun q _ h => hF q h) hF (fun r8 u t9 H1 locs ht9 hvm hw hB _ hk hS => ?_)
  obtain rfl : r8 = qb.1.1 := hw
  replace hPB : va_P (dC, dI) vwCl (wB b k2 qb.1.2) H1 := by rw [← ht9]; exact hB.1
  replace hPA := keepA hPA hD hk
  replace hD : va_D A (wA a k qa.2 ++ wB b k2 qb.1.2) := wAB_D hD
  refine lv_pop hx hb dL_law_291 rfl ?_
  refine lv_goto (tgt := 1107) hx hb dL_law_292 (by decide) ?_
  exact kk d0 H1 locs _ hd0 hPA hPB hD hS (lv_sub hl [0, 1, 2, 3, 4] rfl)

set_option maxRecDepth 100000 in
set_option maxHeartbeats 4000000 in
/-- record -/
theorem lk_3 {p : Program} {l : Launch} {e : Env} {s : State} {m : MethodId} {below : List Frame} {meth : Method} {c : Code} {sc L : Nat} {xs : Nat → Int32} {A : Nat → Prop} {dC : Nat → ClassId} {dI : Nat → Nat → Nat} {a b : Nat → Nat} {k k2 : Nat → ClassId} (C0 : lc_C p l s m meth c sc L xs A dC dI k k2) (hL : L ≤ 3072) {t : Nat} (ht : 6 * t + 6 ≤ L) {σ τ : ST} {qa : Int32 × ST} {qb : Int32 × ST} (ha : f_X10_record (xs (6 * t + 1)) (xs (6 * t + 2)) (xs (6 * t + 3)) σ = some qa) (hb9 : f_X11_record_ (xs (6 * t + 1)) (xs (6 * t + 2)) (xs (6 * t + 3)) τ = some qb) {cells slots : Nat} (hcl : cells + 0 + 0 ≤ 601024) (hsl : slots + 0 + 0 ≤ 7293034) {d0 : Drawn} (hd0 : s.drawn.sameBut d0 lw_cs) {H : Heap} {locs : List Loc} {ls : Array Slot} (hPA : va_P (dC, dI) vwCl (wA a k σ) H) (hPB : va_P (dC, dI) vwCl (wB b k2 τ) H) (hD : va_D A (wA a k σ ++ wB b k2 τ)) (hS : va_S A s.heap H locs) (hl : lv_has ls 8 [(4, .int (nI (6 * t))), (3, .ref (a 95)), (2, .ref (b 0)), (1, .ref (a 0)), (0, .ref sc)])
    (kk : ∀ (d0 : Drawn) (H : Heap) (locs : List Loc) (ls : Array Slot), s.drawn.sameBut d0 lw_cs → va_P (dC, dI) vwCl (wA a k qa.2) H → va_P (dC, dI) vwCl (wB b k2 qb.2) H → va_D A (wA a k qa.2 ++ wB b k2 qb.2) → va_S A s.heap H locs → lv_has ls 8 [(4, .int (nI (6 * t))), (3, .ref (a 95)), (2, .ref (b 0)), (1, .ref (a 0)), (0, .ref sc)] → W p l e room_1 (s.setDrawn d0) m #[Value.ref sc] below meth c H locs (cells + 0 + 0) (slots + 0 + 0) (lw_Z below #[Value.ref sc] s) (F0 m 1107 ls [])) : W p l e room_1 (s.setDrawn d0) m #[Value.ref sc] below meth c H locs (cells) (slots) (lw_Z below #[Value.ref sc] s) (F0 m 295 ls []) := by
  obtain ⟨hx, hb, hr, hml, hown, hts02, hXs0, hbl, hlocks, hst, hA, hA2, hV0, hN0, hKA0, hKB0⟩ := id C0
  have hbA : ¬ A sc := fun h => Nat.not_le.mpr hbl (hA2 sc h)
  have hts2 := dr_words hts02 d0
  have hts : ∀ w ∈ pw, w.before #[Value.ref sc] (s.setDrawn d0) = true := fun w h => hts2 w (pw_to2 h)
  have hN : nN (s.setDrawn d0) := nN.same (u := s) (U := s.setDrawn d0) rfl hN0
  have hKA : va_K (dC, dI) vwCl (tA k) (s.setDrawn d0) := va_K.moved (u := s) (U := s.setDrawn d0) (Vm.Alike.refl s.vm) hKA0
  have hKB : va_K (dC, dI) vwCl (tB k2) (s.setDrawn d0) := va_K.moved (u := s) (U := s.setDrawn d0) (Vm.Alike.refl s.vm) hKB0
  have hXs : va_X sc L xs (s.setDrawn d0) (s.setDrawn d0).heap := va_X.moved (u := s) (U := s.setDrawn d0) (Vm.Alike.refl s.vm) hXs0
  refine lv_aload_n hx hb dL_law_295 rfl (lv_at hl 3 rfl) ?_
  refine la_ld1 (s := s.setDrawn d0) hx hb hXs hbl hbA hS hL ht (lv_at hl 4 rfl) (lv_at hl 0 rfl) dL_law_296 dL_law_297 dL_law_299 dL_law_300 dL_law_301 ?_
  refine la_ld2 (s := s.setDrawn d0) hx hb hXs hbl hbA hS hL ht (lv_at hl 4 rfl) (lv_at hl 0 rfl) dL_law_302 dL_law_303 dL_law_305 dL_law_306 dL_law_307 ?_
  refine la_ld3 (s := s.setDrawn d0) hx hb hXs hbl hbA hS hL ht (lv_at hl 4 rfl) (lv_at hl 0 rfl) dL_law_308 dL_law_309 dL_law_311 dL_law_312 dL_law_313 ?_
  have hDA := va_D_left hD
  have hDB := va_D_right hD
  have hF := va_frees hDA hS hA
  refine va_calli (va_runV (As := [.int (xs (6 * t + 1)), .int (xs (6 * t + 2)), .int (xs (6 * t + 3))]) (rest := []) ⟨hx, hb, hml, hown, hts⟩ (s_X10_record ha) (cwV 3 hts (gV mw_42_7 mw_42_8 mw_42_9 mw_0_14 mw_53_0) rfl rfl rfl (by decide +kernel) ⟨(Nat.le_of_ble_eq_true rfl), (Nat.le_of_ble_eq_true rfl)⟩) (vV (ci := 10) (q0 := 0) hKA hPA hDA hN rfl gA_0) rfl rfl hl.1 rfl (lv_room (Nat.le_of_ble_eq_true rfl)) dL_law_314 ⟨by show cells + 0 ≤ 601024; omega, by show slots + 0 ≤ 7293034; omega⟩) hS (fun q _ h => hF q h) hF (fun r9 u t9 H1 locs ht9 hvm hw hB _ hk hS => ?_)
  obtain rfl : r9 = qa.1 := hw
  replace hPA : va_P (dC, dI) vwCl (wA a k qa.2) H1 := by rw [← ht9]; exact hB.1
  replace hPB := keepB hPB hD hk
  replace hD : va_D A (wA a k qa.2 ++ wB b k2 τ) := wAB_D hD
  clear hB hF hk hvm
  refine lv_pop hx hb dL_law_317 rfl ?_
  refine lv_aload_n hx hb dL_law_318 rfl (lv_at hl 2 rfl) ?_
  refine la_ld1 (s := s.setDrawn d0) hx hb hXs hbl hbA hS hL ht (lv_at hl 4 rfl) (lv_at hl 0 rfl) dL_law_319 dL_law_320 dL_law_322 dL_law_323 dL_law_324 ?_
  refine la_ld2 (s := s.setDrawn d0) hx hb hXs hbl hbA hS hL ht (lv_at hl 4 rfl) (lv_at hl 0 rfl) dL_law_325 dL_law_326 dL_law_328 dL_law_329 dL_law_330 ?_
  refine la_ld3 (s := s.setDrawn d0) hx hb hXs hbl hbA hS hL ht (lv_at hl 4 rfl) (lv_at hl 0 rfl) dL_law_331 dL_law_332 dL_law_334 dL_law_335 dL_law_336 ?_
  replace hDA := va_D_left hD
  replace hDB := va_D_right hD
  have hF := va_frees hDB hS hA
  refine va_calli (va_runV (As := [.int (xs (6 * t + 1)), .int (xs (6 * t + 2)), .int (xs (6 * t + 3))]) (rest := []) ⟨hx, hb, hml, hown, hts⟩ (s_X11_record_ hb9) (cwV 3 hts (gV mw_42_10 mw_42_11 mw_42_12 mw_0_15 mw_55_10) rfl rfl rfl (by decide +kernel) ⟨(Nat.le_of_ble_eq_true rfl), (Nat.le_of_ble_eq_true rfl)⟩) (vV (ci := 11) (q0 := 0) hKB hPB hDB hN rfl gB_0) rfl rfl hl.1 rfl (lv_room (Nat.le_of_ble_eq_true rfl)) dL_law_337 ⟨by show (cells + 0) + 0 ≤ 601024; omega, by show (slots + 0) + 0 ≤ 7293034; omega⟩) hS (fun q _ h => hF q h) hF (fun r8 u t9 H1 locs ht9 hvm hw hB _ hk hS => ?_)
  obtain rfl : r8 = qb.1 := hw
  replace hPB : va_P (dC, dI) vwCl (wB b k2 qb.2) H1 := by rw [← ht9]; exact hB.1
  replace hPA := keepA hPA hD hk
  replace hD : va_D A (wA a k qa.2 ++ wB b k2 qb.2) := wAB_D hD
  refine lv_pop hx hb dL_law_340 rfl ?_
  refine lv_goto (tgt := 1107) hx hb dL_law_341 (by decide) ?_
  exact kk d0 H1 locs _ hd0 hPA hPB hD hS (lv_sub hl [0, 1, 2, 3, 4] rfl)

set_option maxRecDepth 100000 in
set_option maxHeartbeats 4000000 in
/-- field -/
theorem lk_4 {p : Program} {l : Launch} {e : Env} {s : State} {m : MethodId} {below : List Frame} {meth : Method} {c : Code} {sc L : Nat} {xs : Nat → Int32} {A : Nat → Prop} {dC : Nat → ClassId} {dI : Nat → Nat → Nat} {a b : Nat → Nat} {k k2 : Nat → ClassId} (C0 : lc_C p l s m meth c sc L xs A dC dI k k2) (hL : L ≤ 3072) {t : Nat} (ht : 6 * t + 6 ≤ L) {σ τ : ST} {qa : Int32 × ST} {qb : Int32 × ST} (ha : f_X10_field (xs (6 * t + 1)) (xs (6 * t + 2)) (xs (6 * t + 3)) (xs (6 * t + 4)) σ = some qa) (hb9 : f_X11_field_ (xs (6 * t + 1)) (xs (6 * t + 2)) (xs (6 * t + 3)) (xs (6 * t + 4)) τ = some qb) {cells slots : Nat} (hcl : cells + 0 + 0 ≤ 601024) (hsl : slots + 0 + 0 ≤ 7293034) {d0 : Drawn} (hd0 : s.drawn.sameBut d0 lw_cs) {H : Heap} {locs : List Loc} {ls : Array Slot} (hPA : va_P (dC, dI) vwCl (wA a k σ) H) (hPB : va_P (dC, dI) vwCl (wB b k2 τ) H) (hD : va_D A (wA a k σ ++ wB b k2 τ)) (hS : va_S A s.heap H locs) (hl : lv_has ls 8 [(4, .int (nI (6 * t))), (3, .ref (a 95)), (2, .ref (b 0)), (1, .ref (a 0)), (0, .ref sc)])
    (kk : ∀ (d0 : Drawn) (H : Heap) (locs : List Loc) (ls : Array Slot), s.drawn.sameBut d0 lw_cs → va_P (dC, dI) vwCl (wA a k qa.2) H → va_P (dC, dI) vwCl (wB b k2 qb.2) H → va_D A (wA a k qa.2 ++ wB b k2 qb.2) → va_S A s.heap H locs → lv_has ls 8 [(4, .int (nI (6 * t))), (3, .ref (a 95)), (2, .ref (b 0)), (1, .ref (a 0)), (0, .ref sc)] → W p l e room_1 (s.setDrawn d0) m #[Value.ref sc] below meth c H locs (cells + 0 + 0) (slots + 0 + 0) (lw_Z below #[Value.ref sc] s) (F0 m 1107 ls [])) : W p l e room_1 (s.setDrawn d0) m #[Value.ref sc] below meth c H locs (cells) (slots) (lw_Z below #[Value.ref sc] s) (F0 m 344 ls []) := by
  obtain ⟨hx, hb, hr, hml, hown, hts02, hXs0, hbl, hlocks, hst, hA, hA2, hV0, hN0, hKA0, hKB0⟩ := id C0
  have hbA : ¬ A sc := fun h => Nat.not_le.mpr hbl (hA2 sc h)
  have hts2 := dr_words hts02 d0
  have hts : ∀ w ∈ pw, w.before #[Value.ref sc] (s.setDrawn d0) = true := fun w h => hts2 w (pw_to2 h)
  have hN : nN (s.setDrawn d0) := nN.same (u := s) (U := s.setDrawn d0) rfl hN0
  have hKA : va_K (dC, dI) vwCl (tA k) (s.setDrawn d0) := va_K.moved (u := s) (U := s.setDrawn d0) (Vm.Alike.refl s.vm) hKA0
  have hKB : va_K (dC, dI) vwCl (tB k2) (s.setDrawn d0) := va_K.moved (u := s) (U := s.setDrawn d0) (Vm.Alike.refl s.vm) hKB0
  have hXs : va_X sc L xs (s.setDrawn d0) (s.setDrawn d0).heap := va_X.moved (u := s) (U := s.setDrawn d0) (Vm.Alike.refl s.vm) hXs0
  refine lv_aload_n hx hb dL_law_344 rfl (lv_at hl 3 rfl) ?_
  refine la_ld1 (s := s.setDrawn d0) hx hb hXs hbl hbA hS hL ht (lv_at hl 4 rfl) (lv_at hl 0 rfl) dL_law_345 dL_law_346 dL_law_348 dL_law_349 dL_law_350 ?_
  refine la_ld2 (s := s.setDrawn d0) hx hb hXs hbl hbA hS hL ht (lv_at hl 4 rfl) (lv_at hl 0 rfl) dL_law_351 dL_law_352 dL_law_354 dL_law_355 dL_law_356 ?_
  refine la_ld3 (s := s.setDrawn d0) hx hb hXs hbl hbA hS hL ht (lv_at hl 4 rfl) (lv_at hl 0 rfl) dL_law_357 dL_law_358 dL_law_360 dL_law_361 dL_law_362 ?_
  refine la_ld4 (s := s.setDrawn d0) hx hb hXs hbl hbA hS hL ht (lv_at hl 4 rfl) (lv_at hl 0 rfl) dL_law_363 dL_law_364 dL_law_366 dL_law_367 dL_law_368 ?_
  have hDA := va_D_left hD
  have hDB := va_D_right hD
  have hF := va_frees hDA hS hA
  refine va_calli (va_runV (As := [.int (xs (6 * t + 1)), .int (xs (6 * t + 2)), .int (xs (6 * t + 3)), .int (xs (6 * t + 4))]) (rest := []) ⟨hx, hb, hml, hown, hts⟩ (s_X10_field ha) (cwV 4 hts (gV mw_42_13 mw_42_14 mw_42_15 mw_0_14 mw_53_1) rfl rfl rfl (by decide +kernel) ⟨(Nat.le_of_ble_eq_true rfl), (Nat.le_of_ble_eq_true rfl)⟩) (vV (ci := 10) (q0 := 0) hKA hPA hDA hN rfl gA_0) rfl rfl hl.1 rfl (lv_room (Nat.le_of_ble_eq_true rfl)) dL_law_369 ⟨by show cells + 0 ≤ 601024; omega, by show slots + 0 ≤ 7293034; omega⟩) hS (fun q _ h => hF q h) hF (fun r9 u t9 H1 locs ht9 hvm hw hB _ hk hS => ?_)
  obtain rfl : r9 = qa.1 := hw
  replace hPA : va_P (dC, dI) vwCl (wA a k qa.2) H1 := by rw [← ht9]; exact hB.1
  replace hPB := keepB hPB hD hk
  replace hD : va_D A (wA a k qa.2 ++ wB b k2 τ) := wAB_D hD
  clear hB hF hk hvm
  refine lv_pop hx hb dL_law_372 rfl ?_
  refine lv_aload_n hx hb dL_law_373 rfl (lv_at hl 2 rfl) ?_
  refine la_ld1 (s := s.setDrawn d0) hx hb hXs hbl hbA hS hL ht (lv_at hl 4 rfl) (lv_at hl 0 rfl) dL_law_374 dL_law_375 dL_law_377 dL_law_378 dL_law_379 ?_
  refine la_ld2 (s := s.setDrawn d0) hx hb hXs hbl hbA hS hL ht (lv_at hl 4 rfl) (lv_at hl 0 rfl) dL_law_380 dL_law_381 dL_law_383 dL_law_384 dL_law_385 ?_
  refine la_ld3 (s := s.setDrawn d0) hx hb hXs hbl hbA hS hL ht (lv_at hl 4 rfl) (lv_at hl 0 rfl) dL_law_386 dL_law_387 dL_law_389 dL_law_390 dL_law_391 ?_
  refine la_ld4 (s := s.setDrawn d0) hx hb hXs hbl hbA hS hL ht (lv_at hl 4 rfl) (lv_at hl 0 rfl) dL_law_392 dL_law_393 dL_law_395 dL_law_396 dL_law_397 ?_
  replace hDA := va_D_left hD
  replace hDB := va_D_right hD
  have hF := va_frees hDB hS hA
  refine va_calli (va_runV (As := [.int (xs (6 * t + 1)), .int (xs (6 * t + 2)), .int (xs (6 * t + 3)), .int (xs (6 * t + 4))]) (rest := []) ⟨hx, hb, hml, hown, hts⟩ (s_X11_field_ hb9) (cwV 4 hts (gV mw_42_16 mw_42_17 mw_42_18 mw_0_15 mw_55_12) rfl rfl rfl (by decide +kernel) ⟨(Nat.le_of_ble_eq_true rfl), (Nat.le_of_ble_eq_true rfl)⟩) (vV (ci := 11) (q0 := 0) hKB hPB hDB hN rfl gB_0) rfl rfl hl.1 rfl (lv_room (Nat.le_of_ble_eq_true rfl)) dL_law_398 ⟨by show (cells + 0) + 0 ≤ 601024; omega, by show (slots + 0) + 0 ≤ 7293034; omega⟩) hS (fun q _ h => hF q h) hF (fun r8 u t9 H1 locs ht9 hvm hw hB _ hk hS => ?_)
  obtain rfl : r8 = qb.1 := hw
  replace hPB : va_P (dC, dI) vwCl (wB b k2 qb.2) H1 := by rw [← ht9]; exact hB.1
  replace hPA := keepA hPA hD hk
  replace hD : va_D A (wA a k qa.2 ++ wB b k2 qb.2) := wAB_D hD
  refine lv_pop hx hb dL_law_401 rfl ?_
  refine lv_goto (tgt := 1107) hx hb dL_law_402 (by decide) ?_
  exact kk d0 H1 locs _ hd0 hPA hPB hD hS (lv_sub hl [0, 1, 2, 3, 4] rfl)

set_option maxRecDepth 100000 in
set_option maxHeartbeats 4000000 in
/-- message -/
theorem lk_5 {p : Program} {l : Launch} {e : Env} {s : State} {m : MethodId} {below : List Frame} {meth : Method} {c : Code} {sc L : Nat} {xs : Nat → Int32} {A : Nat → Prop} {dC : Nat → ClassId} {dI : Nat → Nat → Nat} {a b : Nat → Nat} {k k2 : Nat → ClassId} (C0 : lc_C p l s m meth c sc L xs A dC dI k k2) (hL : L ≤ 3072) {t : Nat} (ht : 6 * t + 6 ≤ L) {σ τ : ST} {qa : Int32 × ST} {qb : Int32 × ST} (ha : f_X10_message (xs (6 * t + 1)) (xs (6 * t + 2)) σ = some qa) (hb9 : f_X11_message (xs (6 * t + 1)) (xs (6 * t + 2)) τ = some qb) {cells slots : Nat} (hcl : cells + 0 + 0 ≤ 601024) (hsl : slots + 0 + 0 ≤ 7293034) {d0 : Drawn} (hd0 : s.drawn.sameBut d0 lw_cs) {H : Heap} {locs : List Loc} {ls : Array Slot} (hPA : va_P (dC, dI) vwCl (wA a k σ) H) (hPB : va_P (dC, dI) vwCl (wB b k2 τ) H) (hD : va_D A (wA a k σ ++ wB b k2 τ)) (hS : va_S A s.heap H locs) (hl : lv_has ls 8 [(4, .int (nI (6 * t))), (3, .ref (a 95)), (2, .ref (b 0)), (1, .ref (a 0)), (0, .ref sc)])
    (kk : ∀ (d0 : Drawn) (H : Heap) (locs : List Loc) (ls : Array Slot), s.drawn.sameBut d0 lw_cs → va_P (dC, dI) vwCl (wA a k qa.2) H → va_P (dC, dI) vwCl (wB b k2 qb.2) H → va_D A (wA a k qa.2 ++ wB b k2 qb.2) → va_S A s.heap H locs → lv_has ls 8 [(4, .int (nI (6 * t))), (3, .ref (a 95)), (2, .ref (b 0)), (1, .ref (a 0)), (0, .ref sc)] → W p l e room_1 (s.setDrawn d0) m #[Value.ref sc] below meth c H locs (cells + 0 + 0) (slots + 0 + 0) (lw_Z below #[Value.ref sc] s) (F0 m 1107 ls [])) : W p l e room_1 (s.setDrawn d0) m #[Value.ref sc] below meth c H locs (cells) (slots) (lw_Z below #[Value.ref sc] s) (F0 m 405 ls []) := by
  obtain ⟨hx, hb, hr, hml, hown, hts02, hXs0, hbl, hlocks, hst, hA, hA2, hV0, hN0, hKA0, hKB0⟩ := id C0
  have hbA : ¬ A sc := fun h => Nat.not_le.mpr hbl (hA2 sc h)
  have hts2 := dr_words hts02 d0
  have hts : ∀ w ∈ pw, w.before #[Value.ref sc] (s.setDrawn d0) = true := fun w h => hts2 w (pw_to2 h)
  have hN : nN (s.setDrawn d0) := nN.same (u := s) (U := s.setDrawn d0) rfl hN0
  have hKA : va_K (dC, dI) vwCl (tA k) (s.setDrawn d0) := va_K.moved (u := s) (U := s.setDrawn d0) (Vm.Alike.refl s.vm) hKA0
  have hKB : va_K (dC, dI) vwCl (tB k2) (s.setDrawn d0) := va_K.moved (u := s) (U := s.setDrawn d0) (Vm.Alike.refl s.vm) hKB0
  have hXs : va_X sc L xs (s.setDrawn d0) (s.setDrawn d0).heap := va_X.moved (u := s) (U := s.setDrawn d0) (Vm.Alike.refl s.vm) hXs0
  refine lv_aload_n hx hb dL_law_405 rfl (lv_at hl 3 rfl) ?_
  refine la_ld1 (s := s.setDrawn d0) hx hb hXs hbl hbA hS hL ht (lv_at hl 4 rfl) (lv_at hl 0 rfl) dL_law_406 dL_law_407 dL_law_409 dL_law_410 dL_law_411 ?_
  refine la_ld2 (s := s.setDrawn d0) hx hb hXs hbl hbA hS hL ht (lv_at hl 4 rfl) (lv_at hl 0 rfl) dL_law_412 dL_law_413 dL_law_415 dL_law_416 dL_law_417 ?_
  have hDA := va_D_left hD
  have hDB := va_D_right hD
  have hF := va_frees hDA hS hA
  refine va_calli (va_runV (As := [.int (xs (6 * t + 1)), .int (xs (6 * t + 2))]) (rest := []) ⟨hx, hb, hml, hown, hts⟩ (s_X10_message ha) (cwV 2 hts (gV mw_42_19 mw_42_20 mw_42_21 mw_0_14 mw_53_2) rfl rfl rfl (by decide +kernel) ⟨(Nat.le_of_ble_eq_true rfl), (Nat.le_of_ble_eq_true rfl)⟩) (vV (ci := 10) (q0 := 0) hKA hPA hDA hN rfl gA_0) rfl rfl hl.1 rfl (lv_room (Nat.le_of_ble_eq_true rfl)) dL_law_418 ⟨by show cells + 0 ≤ 601024; omega, by show slots + 0 ≤ 7293034; omega⟩) hS (fun q _ h => hF q h) hF (fun r9 u t9 H1 locs ht9 hvm hw hB _ hk hS => ?_)
  obtain rfl : r9 = qa.1 := hw
  replace hPA : va_P (dC, dI) vwCl (wA a k qa.2) H1 := by rw [← ht9]; exact hB.1
  replace hPB := keepB hPB hD hk
  replace hD : va_D A (wA a k qa.2 ++ wB b k2 τ) := wAB_D hD
  clear hB hF hk hvm
  refine lv_pop hx hb dL_law_421 rfl ?_
  refine lv_aload_n hx hb dL_law_422 rfl (lv_at hl 2 rfl) ?_
  refine la_ld1 (s := s.setDrawn d0) hx hb hXs hbl hbA hS hL ht (lv_at hl 4 rfl) (lv_at hl 0 rfl) dL_law_423 dL_law_424 dL_law_426 dL_law_427 dL_law_428 ?_
  refine la_ld2 (s := s.setDrawn d0) hx hb hXs hbl hbA hS hL ht (lv_at hl 4 rfl) (lv_at hl 0 rfl) dL_law_429 dL_law_430 dL_law_432 dL_law_433 dL_law_434 ?_
  replace hDA := va_D_left hD
  replace hDB := va_D_right hD
  have hF := va_frees hDB hS hA
  refine va_calli (va_runV (As := [.int (xs (6 * t + 1)), .int (xs (6 * t + 2))]) (rest := []) ⟨hx, hb, hml, hown, hts⟩ (s_X11_message hb9) (cwV 2 hts (gV mw_42_22 mw_42_23 mw_42_24 mw_0_15 mw_56_1) rfl rfl rfl (by decide +kernel) ⟨(Nat.le_of_ble_eq_true rfl), (Nat.le_of_ble_eq_true rfl)⟩) (vV (ci := 11) (q0 := 0) hKB hPB hDB hN rfl gB_0) rfl rfl hl.1 rfl (lv_room (Nat.le_of_ble_eq_true rfl)) dL_law_435 ⟨by show (cells + 0) + 0 ≤ 601024; omega, by show (slots + 0) + 0 ≤ 7293034; omega⟩) hS (fun q _ h => hF q h) hF (fun r8 u t9 H1 locs ht9 hvm hw hB _ hk hS => ?_)
  obtain rfl : r8 = qb.1 := hw
  replace hPB : va_P (dC, dI) vwCl (wB b k2 qb.2) H1 := by rw [← ht9]; exact hB.1
  replace hPA := keepA hPA hD hk
  replace hD : va_D A (wA a k qa.2 ++ wB b k2 qb.2) := wAB_D hD
  refine lv_pop hx hb dL_law_438 rfl ?_
  refine lv_goto (tgt := 1107) hx hb dL_law_439 (by decide) ?_
  exact kk d0 H1 locs _ hd0 hPA hPB hD hS (lv_sub hl [0, 1, 2, 3, 4] rfl)

set_option maxRecDepth 100000 in
set_option maxHeartbeats 4000000 in
/-- byteAt -/
theorem lk_6 {p : Program} {l : Launch} {e : Env} {s : State} {m : MethodId} {below : List Frame} {meth : Method} {c : Code} {sc L : Nat} {xs : Nat → Int32} {A : Nat → Prop} {dC : Nat → ClassId} {dI : Nat → Nat → Nat} {a b : Nat → Nat} {k k2 : Nat → ClassId} (C0 : lc_C p l s m meth c sc L xs A dC dI k k2) (hL : L ≤ 3072) {t : Nat} (ht : 6 * t + 6 ≤ L) {σ τ : ST} {qa : Int32 × ST} {qb : Int32 × ST} (ha : f_L_byteAt (xs (6 * t + 1)) (xs (6 * t + 2)) σ = some qa) (hb9 : f_X11_byteAt_ (xs (6 * t + 1)) (xs (6 * t + 2)) τ = some qb) {cells slots : Nat} (hcl : cells + 1 + 0 ≤ 601024) (hsl : slots + 6 + 0 ≤ 7293034) {d0 : Drawn} (hd0 : s.drawn.sameBut d0 lw_cs) {H : Heap} {locs : List Loc} {ls : Array Slot} (hPA : va_P (dC, dI) vwCl (wA a k σ) H) (hPB : va_P (dC, dI) vwCl (wB b k2 τ) H) (hD : va_D A (wA a k σ ++ wB b k2 τ)) (hS : va_S A s.heap H locs) (hl : lv_has ls 8 [(4, .int (nI (6 * t))), (3, .ref (a 95)), (2, .ref (b 0)), (1, .ref (a 0)), (0, .ref sc)])
    (kk : ∀ (d0 : Drawn) (H : Heap) (locs : List Loc) (ls : Array Slot), s.drawn.sameBut d0 lw_cs → va_P (dC, dI) vwCl (wA a k qa.2) H → va_P (dC, dI) vwCl (wB b k2 qb.2) H → va_D A (wA a k qa.2 ++ wB b k2 qb.2) → va_S A s.heap H locs → lv_has ls 8 [(4, .int (nI (6 * t))), (3, .ref (a 95)), (2, .ref (b 0)), (1, .ref (a 0)), (0, .ref sc)] → W p l e room_1 (s.setDrawn d0) m #[Value.ref sc] below meth c H locs (cells + 1 + 0) (slots + 6 + 0) (lw_Z below #[Value.ref sc] s) (F0 m 1107 ls [])) : W p l e room_1 (s.setDrawn d0) m #[Value.ref sc] below meth c H locs (cells) (slots) (lw_Z below #[Value.ref sc] s) (F0 m 442 ls []) := by
  obtain ⟨hx, hb, hr, hml, hown, hts02, hXs0, hbl, hlocks, hst, hA, hA2, hV0, hN0, hKA0, hKB0⟩ := id C0
  have hbA : ¬ A sc := fun h => Nat.not_le.mpr hbl (hA2 sc h)
  have hts2 := dr_words hts02 d0
  have hts : ∀ w ∈ pw, w.before #[Value.ref sc] (s.setDrawn d0) = true := fun w h => hts2 w (pw_to2 h)
  have hN : nN (s.setDrawn d0) := nN.same (u := s) (U := s.setDrawn d0) rfl hN0
  have hKA : va_K (dC, dI) vwCl (tA k) (s.setDrawn d0) := va_K.moved (u := s) (U := s.setDrawn d0) (Vm.Alike.refl s.vm) hKA0
  have hKB : va_K (dC, dI) vwCl (tB k2) (s.setDrawn d0) := va_K.moved (u := s) (U := s.setDrawn d0) (Vm.Alike.refl s.vm) hKB0
  have hXs : va_X sc L xs (s.setDrawn d0) (s.setDrawn d0).heap := va_X.moved (u := s) (U := s.setDrawn d0) (Vm.Alike.refl s.vm) hXs0
  refine lv_aload_n hx hb dL_law_442 rfl (lv_at hl 3 rfl) ?_
  refine la_ld1 (s := s.setDrawn d0) hx hb hXs hbl hbA hS hL ht (lv_at hl 4 rfl) (lv_at hl 0 rfl) dL_law_443 dL_law_444 dL_law_446 dL_law_447 dL_law_448 ?_
  refine la_ld2 (s := s.setDrawn d0) hx hb hXs hbl hbA hS hL ht (lv_at hl 4 rfl) (lv_at hl 0 rfl) dL_law_449 dL_law_450 dL_law_452 dL_law_453 dL_law_454 ?_
  have hDA := va_D_left hD
  have hDB := va_D_right hD
  have hF := va_frees hDA hS hA
  refine lv_aload_n hx hb dL_law_455 rfl (lv_at hl 1 rfl) ?_
  have hV : vt A (s.setDrawn d0) (s.setDrawn d0).heap := hV0.drawn
  refine vx_calli (vx_runSX (As := [.ref (a 0), .int (xs (6 * t + 1)), .int (xs (6 * t + 2)), .ref (a 95)]) (rest := []) ⟨hx, hb, hml, hown, hts2⟩ (s_L_byteAt hst ha) (vx_cwSW 4 hts2 (gSW2 mw_42_25 mw_42_26 (pw_to2 mw_42_27) mw_58_5) rfl rfl rfl (by decide +kernel) ⟨(Nat.le_of_ble_eq_true rfl), (Nat.le_of_ble_eq_true rfl)⟩) (vST hKA hPA hDA hN hV hS hF) rfl rfl hl.1 rfl (lv_room (Nat.le_of_ble_eq_true rfl)) dL_law_456 ⟨by show cells + 1 ≤ 601024; omega, by show slots + 6 ≤ 7293034; omega⟩) hS (fun q _ h => hF q h) hF (fun q _ h => hF q h) (fun E ce q9 u t9 H1 locs ht9 hvm hw hB _ _ hS h91 h92 h93 => hw.elim) (fun r9 u t9 H1 locs ht9 hvm hw hB _ hk hS => ?_)
  obtain rfl : r9 = qa.1 := hw
  replace hPA : va_P (dC, dI) vwCl (wA a k qa.2) H1 := by rw [← ht9]; exact hB.1
  replace hPB := keepB hPB hD hk
  replace hD : va_D A (wA a k qa.2 ++ wB b k2 τ) := wAB_D hD
  clear hB hF hk hvm
  refine lv_istore (lv' := [(5, .int qa.1), (4, .int (nI (6 * t))), (3, .ref (a 95)), (2, .ref (b 0)), (1, .ref (a 0)), (0, .ref sc)]) hx hb dL_law_459 hl (by decide) rfl (fun ls hl => ?_)
  refine lv_aload_n hx hb dL_law_461 rfl (lv_at hl 3 rfl) ?_
  refine la_ld1 (s := s.setDrawn d0) hx hb hXs hbl hbA hS hL ht (lv_at hl 5 rfl) (lv_at hl 1 rfl) dL_law_462 dL_law_463 dL_law_465 dL_law_466 dL_law_467 ?_
  refine la_ld2 (s := s.setDrawn d0) hx hb hXs hbl hbA hS hL ht (lv_at hl 5 rfl) (lv_at hl 1 rfl) dL_law_468 dL_law_469 dL_law_471 dL_law_472 dL_law_473 ?_
  replace hDA := va_D_left hD
  replace hDB := va_D_right hD
  have hF := va_frees hDB hS hA
  refine va_calli (va_runV (As := [.int (xs (6 * t + 1)), .int (xs (6 * t + 2))]) (rest := []) ⟨hx, hb, hml, hown, hts⟩ (s_X11_byteAt_ hb9) (cwV 2 hts (gV mw_42_28 mw_42_29 mw_43_0 mw_0_15 mw_56_3) rfl rfl rfl (by decide +kernel) ⟨(Nat.le_of_ble_eq_true rfl), (Nat.le_of_ble_eq_true rfl)⟩) (vV (ci := 11) (q0 := 0) hKB hPB hDB hN rfl gB_0) rfl rfl hl.1 rfl (lv_room (Nat.le_of_ble_eq_true rfl)) dL_law_474 ⟨by show (cells + 1) + 0 ≤ 601024; omega, by show (slots + 6) + 0 ≤ 7293034; omega⟩) hS (fun q _ h => hF q h) hF (fun r8 u t9 H1 locs ht9 hvm hw hB _ hk hS => ?_)
  obtain rfl : r8 = qb.1 := hw
  replace hPB : va_P (dC, dI) vwCl (wB b k2 qb.2) H1 := by rw [← ht9]; exact hB.1
  replace hPA := keepA hPA hD hk
  replace hD : va_D A (wA a k qa.2 ++ wB b k2 qb.2) := wAB_D hD
  refine lv_istore (lv' := [(6, .int qb.1), (5, .int qa.1), (4, .int (nI (6 * t))), (3, .ref (a 95)), (2, .ref (b 0)), (1, .ref (a 0)), (0, .ref sc)]) hx hb dL_law_477 hl (by decide) rfl (fun ls hl => ?_)
  refine lv_goto (tgt := 1107) hx hb dL_law_479 (by decide) ?_
  exact kk d0 H1 locs _ hd0 hPA hPB hD hS (lv_sub hl [2, 3, 4, 5, 6] rfl)

set_option maxRecDepth 100000 in
set_option maxHeartbeats 4000000 in
/-- spoil -/
theorem lk_7 {p : Program} {l : Launch} {e : Env} {s : State} {m : MethodId} {below : List Frame} {meth : Method} {c : Code} {sc L : Nat} {xs : Nat → Int32} {A : Nat → Prop} {dC : Nat → ClassId} {dI : Nat → Nat → Nat} {a b : Nat → Nat} {k k2 : Nat → ClassId} (C0 : lc_C p l s m meth c sc L xs A dC dI k k2) (hL : L ≤ 3072) {t : Nat} (ht : 6 * t + 6 ≤ L) {σ τ : ST} {qa : Int32 × ST} {qb : Int32 × ST} (ha : f_X10_spoil (xs (6 * t + 1)) (xs (6 * t + 2)) (xs (6 * t + 3)) σ = some qa) (hb9 : f_X11_spoil (xs (6 * t + 1)) (xs (6 * t + 2)) (xs (6 * t + 3)) τ = some qb) {cells slots : Nat} (hcl : cells + 0 + 0 ≤ 601024) (hsl : slots + 0 + 0 ≤ 7293034) {d0 : Drawn} (hd0 : s.drawn.sameBut d0 lw_cs) {H : Heap} {locs : List Loc} {ls : Array Slot} (hPA : va_P (dC, dI) vwCl (wA a k σ) H) (hPB : va_P (dC, dI) vwCl (wB b k2 τ) H) (hD : va_D A (wA a k σ ++ wB b k2 τ)) (hS : va_S A s.heap H locs) (hl : lv_has ls 8 [(4, .int (nI (6 * t))), (3, .ref (a 95)), (2, .ref (b 0)), (1, .ref (a 0)), (0, .ref sc)])
    (kk : ∀ (d0 : Drawn) (H : Heap) (locs : List Loc) (ls : Array Slot), s.drawn.sameBut d0 lw_cs → va_P (dC, dI) vwCl (wA a k qa.2) H → va_P (dC, dI) vwCl (wB b k2 qb.2) H → va_D A (wA a k qa.2 ++ wB b k2 qb.2) → va_S A s.heap H locs → lv_has ls 8 [(4, .int (nI (6 * t))), (3, .ref (a 95)), (2, .ref (b 0)), (1, .ref (a 0)), (0, .ref sc)] → W p l e room_1 (s.setDrawn d0) m #[Value.ref sc] below meth c H locs (cells + 0 + 0) (slots + 0 + 0) (lw_Z below #[Value.ref sc] s) (F0 m 1107 ls [])) : W p l e room_1 (s.setDrawn d0) m #[Value.ref sc] below meth c H locs (cells) (slots) (lw_Z below #[Value.ref sc] s) (F0 m 482 ls []) := by
  obtain ⟨hx, hb, hr, hml, hown, hts02, hXs0, hbl, hlocks, hst, hA, hA2, hV0, hN0, hKA0, hKB0⟩ := id C0
  have hbA : ¬ A sc := fun h => Nat.not_le.mpr hbl (hA2 sc h)
  have hts2 := dr_words hts02 d0
  have hts : ∀ w ∈ pw, w.before #[Value.ref sc] (s.setDrawn d0) = true := fun w h => hts2 w (pw_to2 h)
  have hN : nN (s.setDrawn d0) := nN.same (u := s) (U := s.setDrawn d0) rfl hN0
  have hKA : va_K (dC, dI) vwCl (tA k) (s.setDrawn d0) := va_K.moved (u := s) (U := s.setDrawn d0) (Vm.Alike.refl s.vm) hKA0
  have hKB : va_K (dC, dI) vwCl (tB k2) (s.setDrawn d0) := va_K.moved (u := s) (U := s.setDrawn d0) (Vm.Alike.refl s.vm) hKB0
  have hXs : va_X sc L xs (s.setDrawn d0) (s.setDrawn d0).heap := va_X.moved (u := s) (U := s.setDrawn d0) (Vm.Alike.refl s.vm) hXs0
  refine lv_aload_n hx hb dL_law_482 rfl (lv_at hl 3 rfl) ?_
  refine la_ld1 (s := s.setDrawn d0) hx hb hXs hbl hbA hS hL ht (lv_at hl 4 rfl) (lv_at hl 0 rfl) dL_law_483 dL_law_484 dL_law_486 dL_law_487 dL_law_488 ?_
  refine la_ld2 (s := s.setDrawn d0) hx hb hXs hbl hbA hS hL ht (lv_at hl 4 rfl) (lv_at hl 0 rfl) dL_law_489 dL_law_490 dL_law_492 dL_law_493 dL_law_494 ?_
  refine la_ld3 (s := s.setDrawn d0) hx hb hXs hbl hbA hS hL ht (lv_at hl 4 rfl) (lv_at hl 0 rfl) dL_law_495 dL_law_496 dL_law_498 dL_law_499 dL_law_500 ?_
  have hDA := va_D_left hD
  have hDB := va_D_right hD
  have hF := va_frees hDA hS hA
  refine va_calli (va_runV (As := [.int (xs (6 * t + 1)), .int (xs (6 * t + 2)), .int (xs (6 * t + 3))]) (rest := []) ⟨hx, hb, hml, hown, hts⟩ (s_X10_spoil ha) (cwV 3 hts (gV mw_43_1 mw_43_2 mw_43_3 mw_0_14 mw_53_4) rfl rfl rfl (by decide +kernel) ⟨(Nat.le_of_ble_eq_true rfl), (Nat.le_of_ble_eq_true rfl)⟩) (vV (ci := 10) (q0 := 0) hKA hPA hDA hN rfl gA_0) rfl rfl hl.1 rfl (lv_room (Nat.le_of_ble_eq_true rfl)) dL_law_501 ⟨by show cells + 0 ≤ 601024; omega, by show slots + 0 ≤ 7293034; omega⟩) hS (fun q _ h => hF q h) hF (fun r9 u t9 H1 locs ht9 hvm hw hB _ hk hS => ?_)
  obtain rfl : r9 = qa.1 := hw
  replace hPA : va_P (dC, dI) vwCl (wA a k qa.2) H1 := by rw [← ht9]; exact hB.1
  replace hPB := keepB hPB hD hk
  replace hD : va_D A (wA a k qa.2 ++ wB b k2 τ) := wAB_D hD
  clear hB hF hk hvm
  refine lv_pop hx hb dL_law_504 rfl ?_
  refine lv_aload_n hx hb dL_law_505 rfl (lv_at hl 2 rfl) ?_
  refine la_ld1 (s := s.setDrawn d0) hx hb hXs hbl hbA hS hL ht (lv_at hl 4 rfl) (lv_at hl 0 rfl) dL_law_506 dL_law_507 dL_law_509 dL_law_510 dL_law_511 ?_
  refine la_ld2 (s := s.setDrawn d0) hx hb hXs hbl hbA hS hL ht (lv_at hl 4 rfl) (lv_at hl 0 rfl) dL_law_512 dL_law_513 dL_law_515 dL_law_516 dL_law_517 ?_
  refine la_ld3 (s := s.setDrawn d0) hx hb hXs hbl hbA hS hL ht (lv_at hl 4 rfl) (lv_at hl 0 rfl) dL_law_518 dL_law_519 dL_law_521 dL_law_522 dL_law_523 ?_
  replace hDA := va_D_left hD
  replace hDB := va_D_right hD
  have hF := va_frees hDB hS hA
  refine va_calli (va_runV (As := [.int (xs (6 * t + 1)), .int (xs (6 * t + 2)), .int (xs (6 * t + 3))]) (rest := []) ⟨hx, hb, hml, hown, hts⟩ (s_X11_spoil hb9) (cwV 3 hts (gV mw_43_4 mw_43_5 mw_43_6 mw_0_15 mw_56_4) rfl rfl rfl (by decide +kernel) ⟨(Nat.le_of_ble_eq_true rfl), (Nat.le_of_ble_eq_true rfl)⟩) (vV (ci := 11) (q0 := 0) hKB hPB hDB hN rfl gB_0) rfl rfl hl.1 rfl (lv_room (Nat.le_of_ble_eq_true rfl)) dL_law_524 ⟨by show (cells + 0) + 0 ≤ 601024; omega, by show (slots + 0) + 0 ≤ 7293034; omega⟩) hS (fun q _ h => hF q h) hF (fun r8 u t9 H1 locs ht9 hvm hw hB _ hk hS => ?_)
  obtain rfl : r8 = qb.1 := hw
  replace hPB : va_P (dC, dI) vwCl (wB b k2 qb.2) H1 := by rw [← ht9]; exact hB.1
  replace hPA := keepA hPA hD hk
  replace hD : va_D A (wA a k qa.2 ++ wB b k2 qb.2) := wAB_D hD
  refine lv_pop hx hb dL_law_527 rfl ?_
  refine lv_goto (tgt := 1107) hx hb dL_law_528 (by decide) ?_
  exact kk d0 H1 locs _ hd0 hPA hPB hD hS (lv_sub hl [0, 1, 2, 3, 4] rfl)

set_option maxRecDepth 100000 in
set_option maxHeartbeats 4000000 in
/-- cut -/
theorem lk_8 {p : Program} {l : Launch} {e : Env} {s : State} {m : MethodId} {below : List Frame} {meth : Method} {c : Code} {sc L : Nat} {xs : Nat → Int32} {A : Nat → Prop} {dC : Nat → ClassId} {dI : Nat → Nat → Nat} {a b : Nat → Nat} {k k2 : Nat → ClassId} (C0 : lc_C p l s m meth c sc L xs A dC dI k k2) (hL : L ≤ 3072) {t : Nat} (ht : 6 * t + 6 ≤ L) {σ τ : ST} {qa : Int32 × ST} {qb : Int32 × ST} (ha : f_X10_cut (xs (6 * t + 1)) (xs (6 * t + 2)) σ = some qa) (hb9 : f_X11_cut (xs (6 * t + 1)) (xs (6 * t + 2)) τ = some qb) {cells slots : Nat} (hcl : cells + 0 + 0 ≤ 601024) (hsl : slots + 0 + 0 ≤ 7293034) {d0 : Drawn} (hd0 : s.drawn.sameBut d0 lw_cs) {H : Heap} {locs : List Loc} {ls : Array Slot} (hPA : va_P (dC, dI) vwCl (wA a k σ) H) (hPB : va_P (dC, dI) vwCl (wB b k2 τ) H) (hD : va_D A (wA a k σ ++ wB b k2 τ)) (hS : va_S A s.heap H locs) (hl : lv_has ls 8 [(4, .int (nI (6 * t))), (3, .ref (a 95)), (2, .ref (b 0)), (1, .ref (a 0)), (0, .ref sc)])
    (kk : ∀ (d0 : Drawn) (H : Heap) (locs : List Loc) (ls : Array Slot), s.drawn.sameBut d0 lw_cs → va_P (dC, dI) vwCl (wA a k qa.2) H → va_P (dC, dI) vwCl (wB b k2 qb.2) H → va_D A (wA a k qa.2 ++ wB b k2 qb.2) → va_S A s.heap H locs → lv_has ls 8 [(4, .int (nI (6 * t))), (3, .ref (a 95)), (2, .ref (b 0)), (1, .ref (a 0)), (0, .ref sc)] → W p l e room_1 (s.setDrawn d0) m #[Value.ref sc] below meth c H locs (cells + 0 + 0) (slots + 0 + 0) (lw_Z below #[Value.ref sc] s) (F0 m 1107 ls [])) : W p l e room_1 (s.setDrawn d0) m #[Value.ref sc] below meth c H locs (cells) (slots) (lw_Z below #[Value.ref sc] s) (F0 m 531 ls []) := by
  obtain ⟨hx, hb, hr, hml, hown, hts02, hXs0, hbl, hlocks, hst, hA, hA2, hV0, hN0, hKA0, hKB0⟩ := id C0
  have hbA : ¬ A sc := fun h => Nat.not_le.mpr hbl (hA2 sc h)
  have hts2 := dr_words hts02 d0
  have hts : ∀ w ∈ pw, w.before #[Value.ref sc] (s.setDrawn d0) = true := fun w h => hts2 w (pw_to2 h)
  have hN : nN (s.setDrawn d0) := nN.same (u := s) (U := s.setDrawn d0) rfl hN0
  have hKA : va_K (dC, dI) vwCl (tA k) (s.setDrawn d0) := va_K.moved (u := s) (U := s.setDrawn d0) (Vm.Alike.refl s.vm) hKA0
  have hKB : va_K (dC, dI) vwCl (tB k2) (s.setDrawn d0) := va_K.moved (u := s) (U := s.setDrawn d0) (Vm.Alike.refl s.vm) hKB0
  have hXs : va_X sc L xs (s.setDrawn d0) (s.setDrawn d0).heap := va_X.moved (u := s) (U := s.setDrawn d0) (Vm.Alike.refl s.vm) hXs0
  refine lv_aload_n hx hb dL_law_531 rfl (lv_at hl 3 rfl) ?_
  refine la_ld1 (s := s.setDrawn d0) hx hb hXs hbl hbA hS hL ht (lv_at hl 4 rfl) (lv_at hl 0 rfl) dL_law_532 dL_law_533 dL_law_535 dL_law_536 dL_law_537 ?_
  refine la_ld2 (s := s.setDrawn d0) hx hb hXs hbl hbA hS hL ht (lv_at hl 4 rfl) (lv_at hl 0 rfl) dL_law_538 dL_law_539 dL_law_541 dL_law_542 dL_law_543 ?_
  have hDA := va_D_left hD
  have hDB := va_D_right hD
  have hF := va_frees hDA hS hA
  refine va_calli (va_runV (As := [.int (xs (6 * t + 1)), .int (xs (6 * t + 2))]) (rest := []) ⟨hx, hb, hml, hown, hts⟩ (s_X10_cut ha) (cwV 2 hts (gV mw_43_7 mw_43_8 mw_43_9 mw_0_14 mw_53_5) rfl rfl rfl (by decide +kernel) ⟨(Nat.le_of_ble_eq_true rfl), (Nat.le_of_ble_eq_true rfl)⟩) (vV (ci := 10) (q0 := 0) hKA hPA hDA hN rfl gA_0) rfl rfl hl.1 rfl (lv_room (Nat.le_of_ble_eq_true rfl)) dL_law_544 ⟨by show cells + 0 ≤ 601024; omega, by show slots + 0 ≤ 7293034; omega⟩) hS (fun q _ h => hF q h) hF (fun r9 u t9 H1 locs ht9 hvm hw hB _ hk hS => ?_)
  obtain rfl : r9 = qa.1 := hw
  replace hPA : va_P (dC, dI) vwCl (wA a k qa.2) H1 := by rw [← ht9]; exact hB.1
  replace hPB := keepB hPB hD hk
  replace hD : va_D A (wA a k qa.2 ++ wB b k2 τ) := wAB_D hD
  clear hB hF hk hvm
  refine lv_pop hx hb dL_law_547 rfl ?_
  refine lv_aload_n hx hb dL_law_548 rfl (lv_at hl 2 rfl) ?_
  refine la_ld1 (s := s.setDrawn d0) hx hb hXs hbl hbA hS hL ht (lv_at hl 4 rfl) (lv_at hl 0 rfl) dL_law_549 dL_law_550 dL_law_552 dL_law_553 dL_law_554 ?_
  refine la_ld2 (s := s.setDrawn d0) hx hb hXs hbl hbA hS hL ht (lv_at hl 4 rfl) (lv_at hl 0 rfl) dL_law_555 dL_law_556 dL_law_558 dL_law_559 dL_law_560 ?_
  replace hDA := va_D_left hD
  replace hDB := va_D_right hD
  have hF := va_frees hDB hS hA
  refine va_calli (va_runV (As := [.int (xs (6 * t + 1)), .int (xs (6 * t + 2))]) (rest := []) ⟨hx, hb, hml, hown, hts⟩ (s_X11_cut hb9) (cwV 2 hts (gV mw_43_10 mw_43_11 mw_43_12 mw_0_15 mw_56_5) rfl rfl rfl (by decide +kernel) ⟨(Nat.le_of_ble_eq_true rfl), (Nat.le_of_ble_eq_true rfl)⟩) (vV (ci := 11) (q0 := 0) hKB hPB hDB hN rfl gB_0) rfl rfl hl.1 rfl (lv_room (Nat.le_of_ble_eq_true rfl)) dL_law_561 ⟨by show (cells + 0) + 0 ≤ 601024; omega, by show (slots + 0) + 0 ≤ 7293034; omega⟩) hS (fun q _ h => hF q h) hF (fun r8 u t9 H1 locs ht9 hvm hw hB _ hk hS => ?_)
  obtain rfl : r8 = qb.1 := hw
  replace hPB : va_P (dC, dI) vwCl (wB b k2 qb.2) H1 := by rw [← ht9]; exact hB.1
  replace hPA := keepA hPA hD hk
  replace hD : va_D A (wA a k qa.2 ++ wB b k2 qb.2) := wAB_D hD
  refine lv_pop hx hb dL_law_564 rfl ?_
  refine lv_goto (tgt := 1107) hx hb dL_law_565 (by decide) ?_
  exact kk d0 H1 locs _ hd0 hPA hPB hD hS (lv_sub hl [0, 1, 2, 3, 4] rfl)

set_option maxRecDepth 100000 in
set_option maxHeartbeats 4000000 in
/-- matches -/
theorem lk_9 {p : Program} {l : Launch} {e : Env} {s : State} {m : MethodId} {below : List Frame} {meth : Method} {c : Code} {sc L : Nat} {xs : Nat → Int32} {A : Nat → Prop} {dC : Nat → ClassId} {dI : Nat → Nat → Nat} {a b : Nat → Nat} {k k2 : Nat → ClassId} (C0 : lc_C p l s m meth c sc L xs A dC dI k k2) (hL : L ≤ 3072) {t : Nat} (ht : 6 * t + 6 ≤ L) {σ τ : ST} {qa : Int32 × ST} {qb : Int32 × ST} (ha : f_X10_matches (xs (6 * t + 1)) (xs (6 * t + 2)) σ = some qa) (hb9 : f_X11_matches (xs (6 * t + 1)) (xs (6 * t + 2)) τ = some qb) {cells slots : Nat} (hcl : cells + 0 + 0 ≤ 601024) (hsl : slots + 0 + 0 ≤ 7293034) {d0 : Drawn} (hd0 : s.drawn.sameBut d0 lw_cs) {H : Heap} {locs : List Loc} {ls : Array Slot} (hPA : va_P (dC, dI) vwCl (wA a k σ) H) (hPB : va_P (dC, dI) vwCl (wB b k2 τ) H) (hD : va_D A (wA a k σ ++ wB b k2 τ)) (hS : va_S A s.heap H locs) (hl : lv_has ls 8 [(4, .int (nI (6 * t))), (3, .ref (a 95)), (2, .ref (b 0)), (1, .ref (a 0)), (0, .ref sc)])
    (kk : ∀ (d0 : Drawn) (H : Heap) (locs : List Loc) (ls : Array Slot), s.drawn.sameBut d0 lw_cs → va_P (dC, dI) vwCl (wA a k qa.2) H → va_P (dC, dI) vwCl (wB b k2 qb.2) H → va_D A (wA a k qa.2 ++ wB b k2 qb.2) → va_S A s.heap H locs → lv_has ls 8 [(4, .int (nI (6 * t))), (3, .ref (a 95)), (2, .ref (b 0)), (1, .ref (a 0)), (0, .ref sc)] → W p l e room_1 (s.setDrawn d0) m #[Value.ref sc] below meth c H locs (cells + 0 + 0) (slots + 0 + 0) (lw_Z below #[Value.ref sc] s) (F0 m 1107 ls [])) : W p l e room_1 (s.setDrawn d0) m #[Value.ref sc] below meth c H locs (cells) (slots) (lw_Z below #[Value.ref sc] s) (F0 m 568 ls []) := by
  obtain ⟨hx, hb, hr, hml, hown, hts02, hXs0, hbl, hlocks, hst, hA, hA2, hV0, hN0, hKA0, hKB0⟩ := id C0
  have hbA : ¬ A sc := fun h => Nat.not_le.mpr hbl (hA2 sc h)
  have hts2 := dr_words hts02 d0
  have hts : ∀ w ∈ pw, w.before #[Value.ref sc] (s.setDrawn d0) = true := fun w h => hts2 w (pw_to2 h)
  have hN : nN (s.setDrawn d0) := nN.same (u := s) (U := s.setDrawn d0) rfl hN0
  have hKA : va_K (dC, dI) vwCl (tA k) (s.setDrawn d0) := va_K.moved (u := s) (U := s.setDrawn d0) (Vm.Alike.refl s.vm) hKA0
  have hKB : va_K (dC, dI) vwCl (tB k2) (s.setDrawn d0) := va_K.moved (u := s) (U := s.setDrawn d0) (Vm.Alike.refl s.vm) hKB0
  have hXs : va_X sc L xs (s.setDrawn d0) (s.setDrawn d0).heap := va_X.moved (u := s) (U := s.setDrawn d0) (Vm.Alike.refl s.vm) hXs0
  refine lv_aload_n hx hb dL_law_568 rfl (lv_at hl 3 rfl) ?_
  refine la_ld1 (s := s.setDrawn d0) hx hb hXs hbl hbA hS hL ht (lv_at hl 4 rfl) (lv_at hl 0 rfl) dL_law_569 dL_law_570 dL_law_572 dL_law_573 dL_law_574 ?_
  refine la_ld2 (s := s.setDrawn d0) hx hb hXs hbl hbA hS hL ht (lv_at hl 4 rfl) (lv_at hl 0 rfl) dL_law_575 dL_law_576 dL_law_578 dL_law_579 dL_law_580 ?_
  have hDA := va_D_left hD
  have hDB := va_D_right hD
  have hF := va_frees hDA hS hA
  refine va_calli (va_runV (As := [.int (xs (6 * t + 1)), .int (xs (6 * t + 2))]) (rest := []) ⟨hx, hb, hml, hown, hts⟩ (s_X10_matches ha) (cwV 2 hts (gV mw_43_13 mw_43_14 mw_43_15 mw_0_14 mw_53_6) rfl rfl rfl (by decide +kernel) ⟨(Nat.le_of_ble_eq_true rfl), (Nat.le_of_ble_eq_true rfl)⟩) (vV (ci := 10) (q0 := 0) hKA hPA hDA hN rfl gA_0) rfl rfl hl.1 rfl (lv_room (Nat.le_of_ble_eq_true rfl)) dL_law_581 ⟨by show cells + 0 ≤ 601024; omega, by show slots + 0 ≤ 7293034; omega⟩) hS (fun q _ h => hF q h) hF (fun r9 u t9 H1 locs ht9 hvm hw hB _ hk hS => ?_)
  obtain rfl : r9 = qa.1 := hw
  replace hPA : va_P (dC, dI) vwCl (wA a k qa.2) H1 := by rw [← ht9]; exact hB.1
  replace hPB := keepB hPB hD hk
  replace hD : va_D A (wA a k qa.2 ++ wB b k2 τ) := wAB_D hD
  clear hB hF hk hvm
  refine lv_pop hx hb dL_law_584 rfl ?_
  refine lv_aload_n hx hb dL_law_585 rfl (lv_at hl 2 rfl) ?_
  refine la_ld1 (s := s.setDrawn d0) hx hb hXs hbl hbA hS hL ht (lv_at hl 4 rfl) (lv_at hl 0 rfl) dL_law_586 dL_law_587 dL_law_589 dL_law_590 dL_law_591 ?_
  refine la_ld2 (s := s.setDrawn d0) hx hb hXs hbl hbA hS hL ht (lv_at hl 4 rfl) (lv_at hl 0 rfl) dL_law_592 dL_law_593 dL_law_595 dL_law_596 dL_law_597 ?_
  replace hDA := va_D_left hD
  replace hDB := va_D_right hD
  have hF := va_frees hDB hS hA
  refine va_calli (va_runV (As := [.int (xs (6 * t + 1)), .int (xs (6 * t + 2))]) (rest := []) ⟨hx, hb, hml, hown, hts⟩ (s_X11_matches hb9) (cwV 2 hts (gV mw_43_16 mw_43_17 mw_43_18 mw_0_15 mw_56_18) rfl rfl rfl (by decide +kernel) ⟨(Nat.le_of_ble_eq_true rfl), (Nat.le_of_ble_eq_true rfl)⟩) (vV (ci := 11) (q0 := 0) hKB hPB hDB hN rfl gB_0) rfl rfl hl.1 rfl (lv_room (Nat.le_of_ble_eq_true rfl)) dL_law_598 ⟨by show (cells + 0) + 0 ≤ 601024; omega, by show (slots + 0) + 0 ≤ 7293034; omega⟩) hS (fun q _ h => hF q h) hF (fun r8 u t9 H1 locs ht9 hvm hw hB _ hk hS => ?_)
  obtain rfl : r8 = qb.1 := hw
  replace hPB : va_P (dC, dI) vwCl (wB b k2 qb.2) H1 := by rw [← ht9]; exact hB.1
  replace hPA := keepA hPA hD hk
  replace hD : va_D A (wA a k qa.2 ++ wB b k2 qb.2) := wAB_D hD
  refine lv_pop hx hb dL_law_601 rfl ?_
  refine lv_goto (tgt := 1107) hx hb dL_law_602 (by decide) ?_
  exact kk d0 H1 locs _ hd0 hPA hPB hD hS (lv_sub hl [0, 1, 2, 3, 4] rfl)

set_option maxRecDepth 100000 in
set_option maxHeartbeats 4000000 in
/-- miss -/
theorem lk_10 {p : Program} {l : Launch} {e : Env} {s : State} {m : MethodId} {below : List Frame} {meth : Method} {c : Code} {sc L : Nat} {xs : Nat → Int32} {A : Nat → Prop} {dC : Nat → ClassId} {dI : Nat → Nat → Nat} {a b : Nat → Nat} {k k2 : Nat → ClassId} (C0 : lc_C p l s m meth c sc L xs A dC dI k k2) (hL : L ≤ 3072) {t : Nat} (ht : 6 * t + 6 ≤ L) {σ τ : ST} {qa : Int32 × ST} {qb : Int32 × ST} (ha : f_X10_miss (xs (6 * t + 1)) (xs (6 * t + 2)) (xs (6 * t + 3)) (xs (6 * t + 4)) σ = some qa) (hb9 : f_X11_miss (xs (6 * t + 1)) (xs (6 * t + 2)) (xs (6 * t + 3)) (xs (6 * t + 4)) τ = some qb) {cells slots : Nat} (hcl : cells + 0 + 0 ≤ 601024) (hsl : slots + 0 + 0 ≤ 7293034) {d0 : Drawn} (hd0 : s.drawn.sameBut d0 lw_cs) {H : Heap} {locs : List Loc} {ls : Array Slot} (hPA : va_P (dC, dI) vwCl (wA a k σ) H) (hPB : va_P (dC, dI) vwCl (wB b k2 τ) H) (hD : va_D A (wA a k σ ++ wB b k2 τ)) (hS : va_S A s.heap H locs) (hl : lv_has ls 8 [(4, .int (nI (6 * t))), (3, .ref (a 95)), (2, .ref (b 0)), (1, .ref (a 0)), (0, .ref sc)])
    (kk : ∀ (d0 : Drawn) (H : Heap) (locs : List Loc) (ls : Array Slot), s.drawn.sameBut d0 lw_cs → va_P (dC, dI) vwCl (wA a k qa.2) H → va_P (dC, dI) vwCl (wB b k2 qb.2) H → va_D A (wA a k qa.2 ++ wB b k2 qb.2) → va_S A s.heap H locs → lv_has ls 8 [(4, .int (nI (6 * t))), (3, .ref (a 95)), (2, .ref (b 0)), (1, .ref (a 0)), (0, .ref sc)] → W p l e room_1 (s.setDrawn d0) m #[Value.ref sc] below meth c H locs (cells + 0 + 0) (slots + 0 + 0) (lw_Z below #[Value.ref sc] s) (F0 m 1107 ls [])) : W p l e room_1 (s.setDrawn d0) m #[Value.ref sc] below meth c H locs (cells) (slots) (lw_Z below #[Value.ref sc] s) (F0 m 605 ls []) := by
  obtain ⟨hx, hb, hr, hml, hown, hts02, hXs0, hbl, hlocks, hst, hA, hA2, hV0, hN0, hKA0, hKB0⟩ := id C0
  have hbA : ¬ A sc := fun h => Nat.not_le.mpr hbl (hA2 sc h)
  have hts2 := dr_words hts02 d0
  have hts : ∀ w ∈ pw, w.before #[Value.ref sc] (s.setDrawn d0) = true := fun w h => hts2 w (pw_to2 h)
  have hN : nN (s.setDrawn d0) := nN.same (u := s) (U := s.setDrawn d0) rfl hN0
  have hKA : va_K (dC, dI) vwCl (tA k) (s.setDrawn d0) := va_K.moved (u := s) (U := s.setDrawn d0) (Vm.Alike.refl s.vm) hKA0
  have hKB : va_K (dC, dI) vwCl (tB k2) (s.setDrawn d0) := va_K.moved (u := s) (U := s.setDrawn d0) (Vm.Alike.refl s.vm) hKB0
  have hXs : va_X sc L xs (s.setDrawn d0) (s.setDrawn d0).heap := va_X.moved (u := s) (U := s.setDrawn d0) (Vm.Alike.refl s.vm) hXs0
  refine lv_aload_n hx hb dL_law_605 rfl (lv_at hl 3 rfl) ?_
  refine la_ld1 (s := s.setDrawn d0) hx hb hXs hbl hbA hS hL ht (lv_at hl 4 rfl) (lv_at hl 0 rfl) dL_law_606 dL_law_607 dL_law_609 dL_law_610 dL_law_611 ?_
  refine la_ld2 (s := s.setDrawn d0) hx hb hXs hbl hbA hS hL ht (lv_at hl 4 rfl) (lv_at hl 0 rfl) dL_law_612 dL_law_613 dL_law_615 dL_law_616 dL_law_617 ?_
  refine la_ld3 (s := s.setDrawn d0) hx hb hXs hbl hbA hS hL ht (lv_at hl 4 rfl) (lv_at hl 0 rfl) dL_law_618 dL_law_619 dL_law_621 dL_law_622 dL_law_623 ?_
  refine la_ld4 (s := s.setDrawn d0) hx hb hXs hbl hbA hS hL ht (lv_at hl 4 rfl) (lv_at hl 0 rfl) dL_law_624 dL_law_625 dL_law_627 dL_law_628 dL_law_629 ?_
  have hDA := va_D_left hD
  have hDB := va_D_right hD
  have hF := va_frees hDA hS hA
  refine va_calli (va_runV (As := [.int (xs (6 * t + 1)), .int (xs (6 * t + 2)), .int (xs (6 * t + 3)), .int (xs (6 * t + 4))]) (rest := []) ⟨hx, hb, hml, hown, hts⟩ (s_X10_miss ha) (cwV 4 hts (gV mw_43_19 mw_43_20 mw_43_21 mw_0_14 mw_53_7) rfl rfl rfl (by decide +kernel) ⟨(Nat.le_of_ble_eq_true rfl), (Nat.le_of_ble_eq_true rfl)⟩) (vV (ci := 10) (q0 := 0) hKA hPA hDA hN rfl gA_0) rfl rfl hl.1 rfl (lv_room (Nat.le_of_ble_eq_true rfl)) dL_law_630 ⟨by show cells + 0 ≤ 601024; omega, by show slots + 0 ≤ 7293034; omega⟩) hS (fun q _ h => hF q h) hF (fun r9 u t9 H1 locs ht9 hvm hw hB _ hk hS => ?_)
  obtain rfl : r9 = qa.1 := hw
  replace hPA : va_P (dC, dI) vwCl (wA a k qa.2) H1 := by rw [← ht9]; exact hB.1
  replace hPB := keepB hPB hD hk
  replace hD : va_D A (wA a k qa.2 ++ wB b k2 τ) := wAB_D hD
  clear hB hF hk hvm
  refine lv_pop hx hb dL_law_633 rfl ?_
  refine lv_aload_n hx hb dL_law_634 rfl (lv_at hl 2 rfl) ?_
  refine la_ld1 (s := s.setDrawn d0) hx hb hXs hbl hbA hS hL ht (lv_at hl 4 rfl) (lv_at hl 0 rfl) dL_law_635 dL_law_636 dL_law_638 dL_law_639 dL_law_640 ?_
  refine la_ld2 (s := s.setDrawn d0) hx hb hXs hbl hbA hS hL ht (lv_at hl 4 rfl) (lv_at hl 0 rfl) dL_law_641 dL_law_642 dL_law_644 dL_law_645 dL_law_646 ?_
  refine la_ld3 (s := s.setDrawn d0) hx hb hXs hbl hbA hS hL ht (lv_at hl 4 rfl) (lv_at hl 0 rfl) dL_law_647 dL_law_648 dL_law_650 dL_law_651 dL_law_652 ?_
  refine la_ld4 (s := s.setDrawn d0) hx hb hXs hbl hbA hS hL ht (lv_at hl 4 rfl) (lv_at hl 0 rfl) dL_law_653 dL_law_654 dL_law_656 dL_law_657 dL_law_658 ?_
  replace hDA := va_D_left hD
  replace hDB := va_D_right hD
  have hF := va_frees hDB hS hA
  refine va_calli (va_runV (As := [.int (xs (6 * t + 1)), .int (xs (6 * t + 2)), .int (xs (6 * t + 3)), .int (xs (6 * t + 4))]) (rest := []) ⟨hx, hb, hml, hown, hts⟩ (s_X11_miss hb9) (cwV 4 hts (gV mw_43_22 mw_43_23 mw_43_24 mw_0_15 mw_56_19) rfl rfl rfl (by decide +kernel) ⟨(Nat.le_of_ble_eq_true rfl), (Nat.le_of_ble_eq_true rfl)⟩) (vV (ci := 11) (q0 := 0) hKB hPB hDB hN rfl gB_0) rfl rfl hl.1 rfl (lv_room (Nat.le_of_ble_eq_true rfl)) dL_law_659 ⟨by show (cells + 0) + 0 ≤ 601024; omega, by show (slots + 0) + 0 ≤ 7293034; omega⟩) hS (fun q _ h => hF q h) hF (fun r8 u t9 H1 locs ht9 hvm hw hB _ hk hS => ?_)
  obtain rfl : r8 = qb.1 := hw
  replace hPB : va_P (dC, dI) vwCl (wB b k2 qb.2) H1 := by rw [← ht9]; exact hB.1
  replace hPA := keepA hPA hD hk
  replace hD : va_D A (wA a k qa.2 ++ wB b k2 qb.2) := wAB_D hD
  refine lv_pop hx hb dL_law_662 rfl ?_
  refine lv_goto (tgt := 1107) hx hb dL_law_663 (by decide) ?_
  exact kk d0 H1 locs _ hd0 hPA hPB hD hS (lv_sub hl [0, 1, 2, 3, 4] rfl)

set_option maxRecDepth 100000 in
set_option maxHeartbeats 4000000 in
/-- missStep -/
theorem lk_11 {p : Program} {l : Launch} {e : Env} {s : State} {m : MethodId} {below : List Frame} {meth : Method} {c : Code} {sc L : Nat} {xs : Nat → Int32} {A : Nat → Prop} {dC : Nat → ClassId} {dI : Nat → Nat → Nat} {a b : Nat → Nat} {k k2 : Nat → ClassId} (C0 : lc_C p l s m meth c sc L xs A dC dI k k2) (hL : L ≤ 3072) {t : Nat} (ht : 6 * t + 6 ≤ L) {σ τ : ST} {qa : Int32 × ST} {qb : Int32 × ST} (ha : f_X10_missStep (xs (6 * t + 1)) (xs (6 * t + 2)) (xs (6 * t + 3)) (xs (6 * t + 4)) σ = some qa) (hb9 : f_X11_missStep (xs (6 * t + 1)) (xs (6 * t + 2)) (xs (6 * t + 3)) (xs (6 * t + 4)) τ = some qb) {cells slots : Nat} (hcl : cells + 0 + 0 ≤ 601024) (hsl : slots + 0 + 0 ≤ 7293034) {d0 : Drawn} (hd0 : s.drawn.sameBut d0 lw_cs) {H : Heap} {locs : List Loc} {ls : Array Slot} (hPA : va_P (dC, dI) vwCl (wA a k σ) H) (hPB : va_P (dC, dI) vwCl (wB b k2 τ) H) (hD : va_D A (wA a k σ ++ wB b k2 τ)) (hS : va_S A s.heap H locs) (hl : lv_has ls 8 [(4, .int (nI (6 * t))), (3, .ref (a 95)), (2, .ref (b 0)), (1, .ref (a 0)), (0, .ref sc)])
    (kk : ∀ (d0 : Drawn) (H : Heap) (locs : List Loc) (ls : Array Slot), s.drawn.sameBut d0 lw_cs → va_P (dC, dI) vwCl (wA a k qa.2) H → va_P (dC, dI) vwCl (wB b k2 qb.2) H → va_D A (wA a k qa.2 ++ wB b k2 qb.2) → va_S A s.heap H locs → lv_has ls 8 [(4, .int (nI (6 * t))), (3, .ref (a 95)), (2, .ref (b 0)), (1, .ref (a 0)), (0, .ref sc)] → W p l e room_1 (s.setDrawn d0) m #[Value.ref sc] below meth c H locs (cells + 0 + 0) (slots + 0 + 0) (lw_Z below #[Value.ref sc] s) (F0 m 1107 ls [])) : W p l e room_1 (s.setDrawn d0) m #[Value.ref sc] below meth c H locs (cells) (slots) (lw_Z below #[Value.ref sc] s) (F0 m 666 ls []) := by
  obtain ⟨hx, hb, hr, hml, hown, hts02, hXs0, hbl, hlocks, hst, hA, hA2, hV0, hN0, hKA0, hKB0⟩ := id C0
  have hbA : ¬ A sc := fun h => Nat.not_le.mpr hbl (hA2 sc h)
  have hts2 := dr_words hts02 d0
  have hts : ∀ w ∈ pw, w.before #[Value.ref sc] (s.setDrawn d0) = true := fun w h => hts2 w (pw_to2 h)
  have hN : nN (s.setDrawn d0) := nN.same (u := s) (U := s.setDrawn d0) rfl hN0
  have hKA : va_K (dC, dI) vwCl (tA k) (s.setDrawn d0) := va_K.moved (u := s) (U := s.setDrawn d0) (Vm.Alike.refl s.vm) hKA0
  have hKB : va_K (dC, dI) vwCl (tB k2) (s.setDrawn d0) := va_K.moved (u := s) (U := s.setDrawn d0) (Vm.Alike.refl s.vm) hKB0
  have hXs : va_X sc L xs (s.setDrawn d0) (s.setDrawn d0).heap := va_X.moved (u := s) (U := s.setDrawn d0) (Vm.Alike.refl s.vm) hXs0
  refine lv_aload_n hx hb dL_law_666 rfl (lv_at hl 3 rfl) ?_
  refine la_ld1 (s := s.setDrawn d0) hx hb hXs hbl hbA hS hL ht (lv_at hl 4 rfl) (lv_at hl 0 rfl) dL_law_667 dL_law_668 dL_law_670 dL_law_671 dL_law_672 ?_
  refine la_ld2 (s := s.setDrawn d0) hx hb hXs hbl hbA hS hL ht (lv_at hl 4 rfl) (lv_at hl 0 rfl) dL_law_673 dL_law_674 dL_law_676 dL_law_677 dL_law_678 ?_
  refine la_ld3 (s := s.setDrawn d0) hx hb hXs hbl hbA hS hL ht (lv_at hl 4 rfl) (lv_at hl 0 rfl) dL_law_679 dL_law_680 dL_law_682 dL_law_683 dL_law_684 ?_
  refine la_ld4 (s := s.setDrawn d0) hx hb hXs hbl hbA hS hL ht (lv_at hl 4 rfl) (lv_at hl 0 rfl) dL_law_685 dL_law_686 dL_law_688 dL_law_689 dL_law_690 ?_
  have hDA := va_D_left hD
  have hDB := va_D_right hD
  have hF := va_frees hDA hS hA
  refine va_calli (va_runV (As := [.int (xs (6 * t + 1)), .int (xs (6 * t + 2)), .int (xs (6 * t + 3)), .int (xs (6 * t + 4))]) (rest := []) ⟨hx, hb, hml, hown, hts⟩ (s_X10_missStep ha) (cwV 4 hts (gV mw_43_25 mw_43_26 mw_43_27 mw_0_14 mw_53_8) rfl rfl rfl (by decide +kernel) ⟨(Nat.le_of_ble_eq_true rfl), (Nat.le_of_ble_eq_true rfl)⟩) (vV (ci := 10) (q0 := 0) hKA hPA hDA hN rfl gA_0) rfl rfl hl.1 rfl (lv_room (Nat.le_of_ble_eq_true rfl)) dL_law_691 ⟨by show cells + 0 ≤ 601024; omega, by show slots + 0 ≤ 7293034; omega⟩) hS (fun q _ h => hF q h) hF (fun r9 u t9 H1 locs ht9 hvm hw hB _ hk hS => ?_)
  obtain rfl : r9 = qa.1 := hw
  replace hPA : va_P (dC, dI) vwCl (wA a k qa.2) H1 := by rw [← ht9]; exact hB.1
  replace hPB := keepB hPB hD hk
  replace hD : va_D A (wA a k qa.2 ++ wB b k2 τ) := wAB_D hD
  clear hB hF hk hvm
  refine lv_pop hx hb dL_law_694 rfl ?_
  refine lv_aload_n hx hb dL_law_695 rfl (lv_at hl 2 rfl) ?_
  refine la_ld1 (s := s.setDrawn d0) hx hb hXs hbl hbA hS hL ht (lv_at hl 4 rfl) (lv_at hl 0 rfl) dL_law_696 dL_law_697 dL_law_699 dL_law_700 dL_law_701 ?_
  refine la_ld2 (s := s.setDrawn d0) hx hb hXs hbl hbA hS hL ht (lv_at hl 4 rfl) (lv_at hl 0 rfl) dL_law_702 dL_law_703 dL_law_705 dL_law_706 dL_law_707 ?_
  refine la_ld3 (s := s.setDrawn d0) hx hb hXs hbl hbA hS hL ht (lv_at hl 4 rfl) (lv_at hl 0 rfl) dL_law_708 dL_law_709 dL_law_711 dL_law_712 dL_law_713 ?_
  refine la_ld4 (s := s.setDrawn d0) hx hb hXs hbl hbA hS hL ht (lv_at hl 4 rfl) (lv_at hl 0 rfl) dL_law_714 dL_law_715 dL_law_717 dL_law_718 dL_law_719 ?_
  replace hDA := va_D_left hD
  replace hDB := va_D_right hD
  have hF := va_frees hDB hS hA
  refine va_calli (va_runV (As := [.int (xs (6 * t + 1)), .int (xs (6 * t + 2)), .int (xs (6 * t + 3)), .int (xs (6 * t + 4))]) (rest := []) ⟨hx, hb, hml, hown, hts⟩ (s_X11_missStep hb9) (cwV 4 hts (gV mw_43_28 mw_43_29 mw_44_0 mw_0_15 mw_56_20) rfl rfl rfl (by decide +kernel) ⟨(Nat.le_of_ble_eq_true rfl), (Nat.le_of_ble_eq_true rfl)⟩) (vV (ci := 11) (q0 := 0) hKB hPB hDB hN rfl gB_0) rfl rfl hl.1 rfl (lv_room (Nat.le_of_ble_eq_true rfl)) dL_law_720 ⟨by show (cells + 0) + 0 ≤ 601024; omega, by show (slots + 0) + 0 ≤ 7293034; omega⟩) hS (fun q _ h => hF q h) hF (fun r8 u t9 H1 locs ht9 hvm hw hB _ hk hS => ?_)
  obtain rfl : r8 = qb.1 := hw
  replace hPB : va_P (dC, dI) vwCl (wB b k2 qb.2) H1 := by rw [← ht9]; exact hB.1
  replace hPA := keepA hPA hD hk
  replace hD : va_D A (wA a k qa.2 ++ wB b k2 qb.2) := wAB_D hD
  refine lv_pop hx hb dL_law_723 rfl ?_
  refine lv_goto (tgt := 1107) hx hb dL_law_724 (by decide) ?_
  exact kk d0 H1 locs _ hd0 hPA hPB hD hS (lv_sub hl [0, 1, 2, 3, 4] rfl)
