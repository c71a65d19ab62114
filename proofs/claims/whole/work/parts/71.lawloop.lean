theorem dL_law_16 : dk cL_law 16 17 (.iconst 0) 1 := by unfold dk; decide +kernel
theorem dL_law_17 : dk cL_law 17 18 (.istore_n 3) 1 := by unfold dk; decide +kernel
theorem dL_law_18 : dk cL_law 18 19 (.iload_n 3) 1 := by unfold dk; decide +kernel
theorem dL_law_19 : dk cL_law 19 20 (.aload_n 0) 1 := by unfold dk; decide +kernel
theorem dL_law_20 : dk cL_law 20 21 (.arraylength) 1 := by unfold dk; decide +kernel
theorem dL_law_21 : dk cL_law 21 23 (.bipush 6) 2 := by unfold dk; decide +kernel
theorem dL_law_23 : dk cL_law 23 24 (.isub) 1 := by unfold dk; decide +kernel
theorem dL_law_27 : dk cL_law 27 28 (.aload_n 0) 1 := by unfold dk; decide +kernel
theorem dL_law_28 : dk cL_law 28 29 (.iload_n 3) 1 := by unfold dk; decide +kernel
theorem dL_law_29 : dk cL_law 29 30 (.iaload) 1 := by unfold dk; decide +kernel
theorem dL_law_30 : dk cL_law 30 32 (.bipush 63) 2 := by unfold dk; decide +kernel
theorem dL_law_32 : dk cL_law 32 33 (.iand) 1 := by unfold dk; decide +kernel
theorem dL_law_33 : dk cL_law 33 180 (.tableswitch 976 0 32 #[147, 210, 233, 246, 279, 302, 315, 348, 361, 374, 387, 400, 413, 446, 479, 512, 555, 578, 611, 634, 677, 700, 723, 746, 759, 792, 815, 838, 871, 894, 907, 930, 953]) 147 := by unfold dk; decide +kernel
theorem dL_law_180 : dk cL_law 180 181 (.aload_n 1) 1 := by unfold dk; decide +kernel
theorem dL_law_181 : dk cL_law 181 182 (.aload_n 0) 1 := by unfold dk; decide +kernel
theorem dL_law_182 : dk cL_law 182 183 (.iload_n 3) 1 := by unfold dk; decide +kernel
theorem dL_law_183 : dk cL_law 183 184 (.iconst 1) 1 := by unfold dk; decide +kernel
theorem dL_law_184 : dk cL_law 184 185 (.iadd) 1 := by unfold dk; decide +kernel
theorem dL_law_185 : dk cL_law 185 186 (.iaload) 1 := by unfold dk; decide +kernel
theorem dL_law_186 : dk cL_law 186 187 (.aload_n 0) 1 := by unfold dk; decide +kernel
theorem dL_law_187 : dk cL_law 187 188 (.iload_n 3) 1 := by unfold dk; decide +kernel
theorem dL_law_188 : dk cL_law 188 189 (.iconst 2) 1 := by unfold dk; decide +kernel
theorem dL_law_189 : dk cL_law 189 190 (.iadd) 1 := by unfold dk; decide +kernel
theorem dL_law_190 : dk cL_law 190 191 (.iaload) 1 := by unfold dk; decide +kernel
theorem dL_law_191 : dk cL_law 191 192 (.aload_n 0) 1 := by unfold dk; decide +kernel
theorem dL_law_192 : dk cL_law 192 193 (.iload_n 3) 1 := by unfold dk; decide +kernel
theorem dL_law_193 : dk cL_law 193 194 (.iconst 3) 1 := by unfold dk; decide +kernel
theorem dL_law_194 : dk cL_law 194 195 (.iadd) 1 := by unfold dk; decide +kernel
theorem dL_law_195 : dk cL_law 195 196 (.iaload) 1 := by unfold dk; decide +kernel
theorem dL_law_196 : dk cL_law 196 197 (.aload_n 0) 1 := by unfold dk; decide +kernel
theorem dL_law_197 : dk cL_law 197 198 (.iload_n 3) 1 := by unfold dk; decide +kernel
theorem dL_law_198 : dk cL_law 198 199 (.iconst 4) 1 := by unfold dk; decide +kernel
theorem dL_law_199 : dk cL_law 199 200 (.iadd) 1 := by unfold dk; decide +kernel
theorem dL_law_200 : dk cL_law 200 201 (.iaload) 1 := by unfold dk; decide +kernel
theorem dL_law_201 : dk cL_law 201 202 (.aload_n 0) 1 := by unfold dk; decide +kernel
theorem dL_law_202 : dk cL_law 202 203 (.iload_n 3) 1 := by unfold dk; decide +kernel
theorem dL_law_203 : dk cL_law 203 204 (.iconst 5) 1 := by unfold dk; decide +kernel
theorem dL_law_204 : dk cL_law 204 205 (.iadd) 1 := by unfold dk; decide +kernel
theorem dL_law_205 : dk cL_law 205 206 (.iaload) 1 := by unfold dk; decide +kernel
theorem dL_law_206 : dk cL_law 206 209 (.invokevirtual 13) 3 := by unfold dk; decide +kernel
theorem dL_law_209 : dk cL_law 209 210 (.aload_n 2) 1 := by unfold dk; decide +kernel
theorem dL_law_210 : dk cL_law 210 211 (.aload_n 0) 1 := by unfold dk; decide +kernel
theorem dL_law_211 : dk cL_law 211 212 (.iload_n 3) 1 := by unfold dk; decide +kernel
theorem dL_law_212 : dk cL_law 212 213 (.iconst 1) 1 := by unfold dk; decide +kernel
theorem dL_law_213 : dk cL_law 213 214 (.iadd) 1 := by unfold dk; decide +kernel
theorem dL_law_214 : dk cL_law 214 215 (.iaload) 1 := by unfold dk; decide +kernel
theorem dL_law_215 : dk cL_law 215 216 (.aload_n 0) 1 := by unfold dk; decide +kernel
theorem dL_law_216 : dk cL_law 216 217 (.iload_n 3) 1 := by unfold dk; decide +kernel
theorem dL_law_217 : dk cL_law 217 218 (.iconst 2) 1 := by unfold dk; decide +kernel
theorem dL_law_218 : dk cL_law 218 219 (.iadd) 1 := by unfold dk; decide +kernel
theorem dL_law_219 : dk cL_law 219 220 (.iaload) 1 := by unfold dk; decide +kernel
theorem dL_law_220 : dk cL_law 220 221 (.aload_n 0) 1 := by unfold dk; decide +kernel
theorem dL_law_221 : dk cL_law 221 222 (.iload_n 3) 1 := by unfold dk; decide +kernel
theorem dL_law_222 : dk cL_law 222 223 (.iconst 3) 1 := by unfold dk; decide +kernel
theorem dL_law_223 : dk cL_law 223 224 (.iadd) 1 := by unfold dk; decide +kernel
theorem dL_law_224 : dk cL_law 224 225 (.iaload) 1 := by unfold dk; decide +kernel
theorem dL_law_225 : dk cL_law 225 226 (.aload_n 0) 1 := by unfold dk; decide +kernel
theorem dL_law_226 : dk cL_law 226 227 (.iload_n 3) 1 := by unfold dk; decide +kernel
theorem dL_law_227 : dk cL_law 227 228 (.iconst 4) 1 := by unfold dk; decide +kernel
theorem dL_law_228 : dk cL_law 228 229 (.iadd) 1 := by unfold dk; decide +kernel
theorem dL_law_229 : dk cL_law 229 230 (.iaload) 1 := by unfold dk; decide +kernel
theorem dL_law_230 : dk cL_law 230 231 (.aload_n 0) 1 := by unfold dk; decide +kernel
theorem dL_law_231 : dk cL_law 231 232 (.iload_n 3) 1 := by unfold dk; decide +kernel
theorem dL_law_232 : dk cL_law 232 233 (.iconst 5) 1 := by unfold dk; decide +kernel
theorem dL_law_233 : dk cL_law 233 234 (.iadd) 1 := by unfold dk; decide +kernel
theorem dL_law_234 : dk cL_law 234 235 (.iaload) 1 := by unfold dk; decide +kernel
theorem dL_law_235 : dk cL_law 235 238 (.invokevirtual 17) 3 := by unfold dk; decide +kernel
theorem dL_law_1009 : dk cL_law 1009 1012 (.iinc 3 6) 3 := by unfold dk; decide +kernel
theorem dL_law_1012 : bk cL_law 1012 1015 18 (.goto (-994)) (-994) := by unfold bk; decide +kernel
theorem dL_law_241 : dk cL_law 241 242 (.iconst 0) 1 := by unfold dk; decide +kernel
theorem dL_law_242 : dk cL_law 242 243 (.ireturn) 1 := by unfold dk; decide +kernel
theorem dL_law_238 : bk cL_law 238 241 1009 (.if_icmp .eq 771) (771) := by unfold bk; decide +kernel
theorem dL_law_243 : dk cL_law 243 244 (.aload_n 1) 1 := by unfold dk; decide +kernel
theorem dL_law_244 : dk cL_law 244 245 (.aload_n 0) 1 := by unfold dk; decide +kernel
theorem dL_law_245 : dk cL_law 245 246 (.iload_n 3) 1 := by unfold dk; decide +kernel
theorem dL_law_246 : dk cL_law 246 247 (.iconst 1) 1 := by unfold dk; decide +kernel
theorem dL_law_247 : dk cL_law 247 248 (.iadd) 1 := by unfold dk; decide +kernel
theorem dL_law_248 : dk cL_law 248 249 (.iaload) 1 := by unfold dk; decide +kernel
theorem dL_law_249 : dk cL_law 249 252 (.invokevirtual 18) 3 := by unfold dk; decide +kernel
theorem dL_law_252 : dk cL_law 252 253 (.aload_n 2) 1 := by unfold dk; decide +kernel
theorem dL_law_253 : dk cL_law 253 254 (.aload_n 0) 1 := by unfold dk; decide +kernel
theorem dL_law_254 : dk cL_law 254 255 (.iload_n 3) 1 := by unfold dk; decide +kernel
theorem dL_law_255 : dk cL_law 255 256 (.iconst 1) 1 := by unfold dk; decide +kernel
theorem dL_law_256 : dk cL_law 256 257 (.iadd) 1 := by unfold dk; decide +kernel
theorem dL_law_257 : dk cL_law 257 258 (.iaload) 1 := by unfold dk; decide +kernel
theorem dL_law_258 : dk cL_law 258 261 (.invokevirtual 22) 3 := by unfold dk; decide +kernel
theorem dL_law_264 : dk cL_law 264 265 (.iconst 0) 1 := by unfold dk; decide +kernel
theorem dL_law_265 : dk cL_law 265 266 (.ireturn) 1 := by unfold dk; decide +kernel
theorem dL_law_261 : bk cL_law 261 264 1009 (.if_icmp .eq 748) (748) := by unfold bk; decide +kernel
theorem dL_law_266 : dk cL_law 266 267 (.aload_n 1) 1 := by unfold dk; decide +kernel
theorem dL_law_267 : dk cL_law 267 270 (.invokevirtual 23) 3 := by unfold dk; decide +kernel
theorem dL_law_270 : dk cL_law 270 271 (.aload_n 2) 1 := by unfold dk; decide +kernel
theorem dL_law_271 : dk cL_law 271 274 (.invokevirtual 27) 3 := by unfold dk; decide +kernel
theorem dL_law_277 : dk cL_law 277 278 (.iconst 0) 1 := by unfold dk; decide +kernel
theorem dL_law_278 : dk cL_law 278 279 (.ireturn) 1 := by unfold dk; decide +kernel
theorem dL_law_274 : bk cL_law 274 277 1009 (.if_icmp .eq 735) (735) := by unfold bk; decide +kernel
theorem dL_law_279 : dk cL_law 279 280 (.aload_n 1) 1 := by unfold dk; decide +kernel
theorem dL_law_280 : dk cL_law 280 281 (.aload_n 0) 1 := by unfold dk; decide +kernel
theorem dL_law_281 : dk cL_law 281 282 (.iload_n 3) 1 := by unfold dk; decide +kernel
theorem dL_law_282 : dk cL_law 282 283 (.iconst 1) 1 := by unfold dk; decide +kernel
theorem dL_law_283 : dk cL_law 283 284 (.iadd) 1 := by unfold dk; decide +kernel
theorem dL_law_284 : dk cL_law 284 285 (.iaload) 1 := by unfold dk; decide +kernel
theorem dL_law_285 : dk cL_law 285 286 (.aload_n 0) 1 := by unfold dk; decide +kernel
theorem dL_law_286 : dk cL_law 286 287 (.iload_n 3) 1 := by unfold dk; decide +kernel
theorem dL_law_287 : dk cL_law 287 288 (.iconst 2) 1 := by unfold dk; decide +kernel
theorem dL_law_288 : dk cL_law 288 289 (.iadd) 1 := by unfold dk; decide +kernel
theorem dL_law_289 : dk cL_law 289 290 (.iaload) 1 := by unfold dk; decide +kernel
theorem dL_law_290 : dk cL_law 290 293 (.invokevirtual 28) 3 := by unfold dk; decide +kernel
theorem dL_law_293 : dk cL_law 293 294 (.aload_n 2) 1 := by unfold dk; decide +kernel
theorem dL_law_294 : dk cL_law 294 295 (.aload_n 0) 1 := by unfold dk; decide +kernel
theorem dL_law_295 : dk cL_law 295 296 (.iload_n 3) 1 := by unfold dk; decide +kernel
theorem dL_law_296 : dk cL_law 296 297 (.iconst 1) 1 := by unfold dk; decide +kernel
theorem dL_law_297 : dk cL_law 297 298 (.iadd) 1 := by unfold dk; decide +kernel
theorem dL_law_298 : dk cL_law 298 299 (.iaload) 1 := by unfold dk; decide +kernel
theorem dL_law_299 : dk cL_law 299 300 (.aload_n 0) 1 := by unfold dk; decide +kernel
theorem dL_law_300 : dk cL_law 300 301 (.iload_n 3) 1 := by unfold dk; decide +kernel
theorem dL_law_301 : dk cL_law 301 302 (.iconst 2) 1 := by unfold dk; decide +kernel
theorem dL_law_302 : dk cL_law 302 303 (.iadd) 1 := by unfold dk; decide +kernel
theorem dL_law_303 : dk cL_law 303 304 (.iaload) 1 := by unfold dk; decide +kernel
theorem dL_law_304 : dk cL_law 304 307 (.invokevirtual 32) 3 := by unfold dk; decide +kernel
theorem dL_law_310 : dk cL_law 310 311 (.iconst 0) 1 := by unfold dk; decide +kernel
theorem dL_law_311 : dk cL_law 311 312 (.ireturn) 1 := by unfold dk; decide +kernel
theorem dL_law_307 : bk cL_law 307 310 1009 (.if_icmp .eq 702) (702) := by unfold bk; decide +kernel
theorem dL_law_312 : dk cL_law 312 313 (.aload_n 1) 1 := by unfold dk; decide +kernel
theorem dL_law_313 : dk cL_law 313 314 (.aload_n 0) 1 := by unfold dk; decide +kernel
theorem dL_law_314 : dk cL_law 314 315 (.iload_n 3) 1 := by unfold dk; decide +kernel
theorem dL_law_315 : dk cL_law 315 316 (.iconst 1) 1 := by unfold dk; decide +kernel
theorem dL_law_316 : dk cL_law 316 317 (.iadd) 1 := by unfold dk; decide +kernel
theorem dL_law_317 : dk cL_law 317 318 (.iaload) 1 := by unfold dk; decide +kernel
theorem dL_law_318 : dk cL_law 318 321 (.invokevirtual 33) 3 := by unfold dk; decide +kernel
theorem dL_law_321 : dk cL_law 321 322 (.aload_n 2) 1 := by unfold dk; decide +kernel
theorem dL_law_322 : dk cL_law 322 323 (.aload_n 0) 1 := by unfold dk; decide +kernel
theorem dL_law_323 : dk cL_law 323 324 (.iload_n 3) 1 := by unfold dk; decide +kernel
theorem dL_law_324 : dk cL_law 324 325 (.iconst 1) 1 := by unfold dk; decide +kernel
theorem dL_law_325 : dk cL_law 325 326 (.iadd) 1 := by unfold dk; decide +kernel
theorem dL_law_326 : dk cL_law 326 327 (.iaload) 1 := by unfold dk; decide +kernel
theorem dL_law_327 : dk cL_law 327 330 (.invokevirtual 36) 3 := by unfold dk; decide +kernel
theorem dL_law_333 : dk cL_law 333 334 (.iconst 0) 1 := by unfold dk; decide +kernel
theorem dL_law_334 : dk cL_law 334 335 (.ireturn) 1 := by unfold dk; decide +kernel
theorem dL_law_330 : bk cL_law 330 333 1009 (.if_icmp .eq 679) (679) := by unfold bk; decide +kernel
theorem dL_law_335 : dk cL_law 335 336 (.aload_n 1) 1 := by unfold dk; decide +kernel
theorem dL_law_336 : dk cL_law 336 339 (.invokevirtual 37) 3 := by unfold dk; decide +kernel
theorem dL_law_339 : dk cL_law 339 340 (.aload_n 2) 1 := by unfold dk; decide +kernel
theorem dL_law_340 : dk cL_law 340 343 (.invokevirtual 40) 3 := by unfold dk; decide +kernel
theorem dL_law_346 : dk cL_law 346 347 (.iconst 0) 1 := by unfold dk; decide +kernel
theorem dL_law_347 : dk cL_law 347 348 (.ireturn) 1 := by unfold dk; decide +kernel
theorem dL_law_343 : bk cL_law 343 346 1009 (.if_icmp .eq 666) (666) := by unfold bk; decide +kernel
theorem dL_law_348 : dk cL_law 348 349 (.aload_n 1) 1 := by unfold dk; decide +kernel
theorem dL_law_349 : dk cL_law 349 350 (.aload_n 0) 1 := by unfold dk; decide +kernel
theorem dL_law_350 : dk cL_law 350 351 (.iload_n 3) 1 := by unfold dk; decide +kernel
theorem dL_law_351 : dk cL_law 351 352 (.iconst 1) 1 := by unfold dk; decide +kernel
theorem dL_law_352 : dk cL_law 352 353 (.iadd) 1 := by unfold dk; decide +kernel
theorem dL_law_353 : dk cL_law 353 354 (.iaload) 1 := by unfold dk; decide +kernel
theorem dL_law_354 : dk cL_law 354 355 (.aload_n 0) 1 := by unfold dk; decide +kernel
theorem dL_law_355 : dk cL_law 355 356 (.iload_n 3) 1 := by unfold dk; decide +kernel
theorem dL_law_356 : dk cL_law 356 357 (.iconst 2) 1 := by unfold dk; decide +kernel
theorem dL_law_357 : dk cL_law 357 358 (.iadd) 1 := by unfold dk; decide +kernel
theorem dL_law_358 : dk cL_law 358 359 (.iaload) 1 := by unfold dk; decide +kernel
theorem dL_law_359 : dk cL_law 359 362 (.invokevirtual 41) 3 := by unfold dk; decide +kernel
theorem dL_law_362 : dk cL_law 362 363 (.aload_n 2) 1 := by unfold dk; decide +kernel
theorem dL_law_363 : dk cL_law 363 364 (.aload_n 0) 1 := by unfold dk; decide +kernel
theorem dL_law_364 : dk cL_law 364 365 (.iload_n 3) 1 := by unfold dk; decide +kernel
theorem dL_law_365 : dk cL_law 365 366 (.iconst 1) 1 := by unfold dk; decide +kernel
theorem dL_law_366 : dk cL_law 366 367 (.iadd) 1 := by unfold dk; decide +kernel
theorem dL_law_367 : dk cL_law 367 368 (.iaload) 1 := by unfold dk; decide +kernel
theorem dL_law_368 : dk cL_law 368 369 (.aload_n 0) 1 := by unfold dk; decide +kernel
theorem dL_law_369 : dk cL_law 369 370 (.iload_n 3) 1 := by unfold dk; decide +kernel
theorem dL_law_370 : dk cL_law 370 371 (.iconst 2) 1 := by unfold dk; decide +kernel
theorem dL_law_371 : dk cL_law 371 372 (.iadd) 1 := by unfold dk; decide +kernel
theorem dL_law_372 : dk cL_law 372 373 (.iaload) 1 := by unfold dk; decide +kernel
theorem dL_law_373 : dk cL_law 373 376 (.invokevirtual 44) 3 := by unfold dk; decide +kernel
theorem dL_law_379 : dk cL_law 379 380 (.iconst 0) 1 := by unfold dk; decide +kernel
theorem dL_law_380 : dk cL_law 380 381 (.ireturn) 1 := by unfold dk; decide +kernel
theorem dL_law_376 : bk cL_law 376 379 1009 (.if_icmp .eq 633) (633) := by unfold bk; decide +kernel
theorem dL_law_381 : dk cL_law 381 382 (.aload_n 1) 1 := by unfold dk; decide +kernel
theorem dL_law_382 : dk cL_law 382 385 (.invokevirtual 45) 3 := by unfold dk; decide +kernel
theorem dL_law_385 : dk cL_law 385 386 (.aload_n 2) 1 := by unfold dk; decide +kernel
theorem dL_law_386 : dk cL_law 386 389 (.invokevirtual 48) 3 := by unfold dk; decide +kernel
theorem dL_law_392 : dk cL_law 392 393 (.iconst 0) 1 := by unfold dk; decide +kernel
theorem dL_law_393 : dk cL_law 393 394 (.ireturn) 1 := by unfold dk; decide +kernel
theorem dL_law_389 : bk cL_law 389 392 1009 (.if_icmp .eq 620) (620) := by unfold bk; decide +kernel
theorem dL_law_394 : dk cL_law 394 395 (.aload_n 1) 1 := by unfold dk; decide +kernel
theorem dL_law_395 : dk cL_law 395 398 (.invokevirtual 49) 3 := by unfold dk; decide +kernel
theorem dL_law_398 : dk cL_law 398 399 (.aload_n 2) 1 := by unfold dk; decide +kernel
theorem dL_law_399 : dk cL_law 399 402 (.invokevirtual 52) 3 := by unfold dk; decide +kernel
theorem dL_law_405 : dk cL_law 405 406 (.iconst 0) 1 := by unfold dk; decide +kernel
theorem dL_law_406 : dk cL_law 406 407 (.ireturn) 1 := by unfold dk; decide +kernel
theorem dL_law_402 : bk cL_law 402 405 1009 (.if_icmp .eq 607) (607) := by unfold bk; decide +kernel
theorem dL_law_407 : dk cL_law 407 408 (.aload_n 1) 1 := by unfold dk; decide +kernel
theorem dL_law_408 : dk cL_law 408 411 (.invokevirtual 53) 3 := by unfold dk; decide +kernel
theorem dL_law_411 : dk cL_law 411 412 (.aload_n 2) 1 := by unfold dk; decide +kernel
theorem dL_law_412 : dk cL_law 412 415 (.invokevirtual 56) 3 := by unfold dk; decide +kernel
theorem dL_law_418 : dk cL_law 418 419 (.iconst 0) 1 := by unfold dk; decide +kernel
theorem dL_law_419 : dk cL_law 419 420 (.ireturn) 1 := by unfold dk; decide +kernel
theorem dL_law_415 : bk cL_law 415 418 1009 (.if_icmp .eq 594) (594) := by unfold bk; decide +kernel
theorem dL_law_420 : dk cL_law 420 421 (.aload_n 1) 1 := by unfold dk; decide +kernel
theorem dL_law_421 : dk cL_law 421 424 (.invokevirtual 57) 3 := by unfold dk; decide +kernel
theorem dL_law_424 : dk cL_law 424 425 (.aload_n 2) 1 := by unfold dk; decide +kernel
theorem dL_law_425 : dk cL_law 425 428 (.invokevirtual 60) 3 := by unfold dk; decide +kernel
theorem dL_law_431 : dk cL_law 431 432 (.iconst 0) 1 := by unfold dk; decide +kernel
theorem dL_law_432 : dk cL_law 432 433 (.ireturn) 1 := by unfold dk; decide +kernel
theorem dL_law_428 : bk cL_law 428 431 1009 (.if_icmp .eq 581) (581) := by unfold bk; decide +kernel
theorem dL_law_433 : dk cL_law 433 434 (.aload_n 1) 1 := by unfold dk; decide +kernel
theorem dL_law_434 : dk cL_law 434 437 (.invokevirtual 61) 3 := by unfold dk; decide +kernel
theorem dL_law_437 : dk cL_law 437 438 (.aload_n 2) 1 := by unfold dk; decide +kernel
theorem dL_law_438 : dk cL_law 438 441 (.invokevirtual 64) 3 := by unfold dk; decide +kernel
theorem dL_law_444 : dk cL_law 444 445 (.iconst 0) 1 := by unfold dk; decide +kernel
theorem dL_law_445 : dk cL_law 445 446 (.ireturn) 1 := by unfold dk; decide +kernel
theorem dL_law_441 : bk cL_law 441 444 1009 (.if_icmp .eq 568) (568) := by unfold bk; decide +kernel
theorem dL_law_446 : dk cL_law 446 447 (.aload_n 1) 1 := by unfold dk; decide +kernel
theorem dL_law_447 : dk cL_law 447 448 (.aload_n 0) 1 := by unfold dk; decide +kernel
theorem dL_law_448 : dk cL_law 448 449 (.iload_n 3) 1 := by unfold dk; decide +kernel
theorem dL_law_449 : dk cL_law 449 450 (.iconst 1) 1 := by unfold dk; decide +kernel
theorem dL_law_450 : dk cL_law 450 451 (.iadd) 1 := by unfold dk; decide +kernel
theorem dL_law_451 : dk cL_law 451 452 (.iaload) 1 := by unfold dk; decide +kernel
theorem dL_law_452 : dk cL_law 452 453 (.aload_n 0) 1 := by unfold dk; decide +kernel
theorem dL_law_453 : dk cL_law 453 454 (.iload_n 3) 1 := by unfold dk; decide +kernel
theorem dL_law_454 : dk cL_law 454 455 (.iconst 2) 1 := by unfold dk; decide +kernel
theorem dL_law_455 : dk cL_law 455 456 (.iadd) 1 := by unfold dk; decide +kernel
theorem dL_law_456 : dk cL_law 456 457 (.iaload) 1 := by unfold dk; decide +kernel
theorem dL_law_457 : dk cL_law 457 460 (.invokevirtual 65) 3 := by unfold dk; decide +kernel
theorem dL_law_460 : dk cL_law 460 461 (.aload_n 2) 1 := by unfold dk; decide +kernel
theorem dL_law_461 : dk cL_law 461 462 (.aload_n 0) 1 := by unfold dk; decide +kernel
theorem dL_law_462 : dk cL_law 462 463 (.iload_n 3) 1 := by unfold dk; decide +kernel
theorem dL_law_463 : dk cL_law 463 464 (.iconst 1) 1 := by unfold dk; decide +kernel
theorem dL_law_464 : dk cL_law 464 465 (.iadd) 1 := by unfold dk; decide +kernel
theorem dL_law_465 : dk cL_law 465 466 (.iaload) 1 := by unfold dk; decide +kernel
theorem dL_law_466 : dk cL_law 466 467 (.aload_n 0) 1 := by unfold dk; decide +kernel
theorem dL_law_467 : dk cL_law 467 468 (.iload_n 3) 1 := by unfold dk; decide +kernel
theorem dL_law_468 : dk cL_law 468 469 (.iconst 2) 1 := by unfold dk; decide +kernel
theorem dL_law_469 : dk cL_law 469 470 (.iadd) 1 := by unfold dk; decide +kernel
theorem dL_law_470 : dk cL_law 470 471 (.iaload) 1 := by unfold dk; decide +kernel
theorem dL_law_471 : dk cL_law 471 474 (.invokevirtual 68) 3 := by unfold dk; decide +kernel
theorem dL_law_477 : dk cL_law 477 478 (.iconst 0) 1 := by unfold dk; decide +kernel
theorem dL_law_478 : dk cL_law 478 479 (.ireturn) 1 := by unfold dk; decide +kernel
theorem dL_law_474 : bk cL_law 474 477 1009 (.if_icmp .eq 535) (535) := by unfold bk; decide +kernel
theorem dL_law_479 : dk cL_law 479 480 (.aload_n 1) 1 := by unfold dk; decide +kernel
theorem dL_law_480 : dk cL_law 480 481 (.aload_n 0) 1 := by unfold dk; decide +kernel
theorem dL_law_481 : dk cL_law 481 482 (.iload_n 3) 1 := by unfold dk; decide +kernel
theorem dL_law_482 : dk cL_law 482 483 (.iconst 1) 1 := by unfold dk; decide +kernel
theorem dL_law_483 : dk cL_law 483 484 (.iadd) 1 := by unfold dk; decide +kernel
theorem dL_law_484 : dk cL_law 484 485 (.iaload) 1 := by unfold dk; decide +kernel
theorem dL_law_485 : dk cL_law 485 486 (.aload_n 0) 1 := by unfold dk; decide +kernel
theorem dL_law_486 : dk cL_law 486 487 (.iload_n 3) 1 := by unfold dk; decide +kernel
theorem dL_law_487 : dk cL_law 487 488 (.iconst 2) 1 := by unfold dk; decide +kernel
theorem dL_law_488 : dk cL_law 488 489 (.iadd) 1 := by unfold dk; decide +kernel
theorem dL_law_489 : dk cL_law 489 490 (.iaload) 1 := by unfold dk; decide +kernel
theorem dL_law_490 : dk cL_law 490 493 (.invokevirtual 69) 3 := by unfold dk; decide +kernel
theorem dL_law_493 : dk cL_law 493 494 (.aload_n 2) 1 := by unfold dk; decide +kernel
theorem dL_law_494 : dk cL_law 494 495 (.aload_n 0) 1 := by unfold dk; decide +kernel
theorem dL_law_495 : dk cL_law 495 496 (.iload_n 3) 1 := by unfold dk; decide +kernel
theorem dL_law_496 : dk cL_law 496 497 (.iconst 1) 1 := by unfold dk; decide +kernel
theorem dL_law_497 : dk cL_law 497 498 (.iadd) 1 := by unfold dk; decide +kernel
theorem dL_law_498 : dk cL_law 498 499 (.iaload) 1 := by unfold dk; decide +kernel
theorem dL_law_499 : dk cL_law 499 500 (.aload_n 0) 1 := by unfold dk; decide +kernel
theorem dL_law_500 : dk cL_law 500 501 (.iload_n 3) 1 := by unfold dk; decide +kernel
theorem dL_law_501 : dk cL_law 501 502 (.iconst 2) 1 := by unfold dk; decide +kernel
theorem dL_law_502 : dk cL_law 502 503 (.iadd) 1 := by unfold dk; decide +kernel
theorem dL_law_503 : dk cL_law 503 504 (.iaload) 1 := by unfold dk; decide +kernel
theorem dL_law_504 : dk cL_law 504 507 (.invokevirtual 72) 3 := by unfold dk; decide +kernel
theorem dL_law_510 : dk cL_law 510 511 (.iconst 0) 1 := by unfold dk; decide +kernel
theorem dL_law_511 : dk cL_law 511 512 (.ireturn) 1 := by unfold dk; decide +kernel
theorem dL_law_507 : bk cL_law 507 510 1009 (.if_icmp .eq 502) (502) := by unfold bk; decide +kernel
theorem dL_law_512 : dk cL_law 512 513 (.aload_n 1) 1 := by unfold dk; decide +kernel
theorem dL_law_513 : dk cL_law 513 514 (.aload_n 0) 1 := by unfold dk; decide +kernel
theorem dL_law_514 : dk cL_law 514 515 (.iload_n 3) 1 := by unfold dk; decide +kernel
theorem dL_law_515 : dk cL_law 515 516 (.iconst 1) 1 := by unfold dk; decide +kernel
theorem dL_law_516 : dk cL_law 516 517 (.iadd) 1 := by unfold dk; decide +kernel
theorem dL_law_517 : dk cL_law 517 518 (.iaload) 1 := by unfold dk; decide +kernel
theorem dL_law_518 : dk cL_law 518 519 (.aload_n 0) 1 := by unfold dk; decide +kernel
theorem dL_law_519 : dk cL_law 519 520 (.iload_n 3) 1 := by unfold dk; decide +kernel
theorem dL_law_520 : dk cL_law 520 521 (.iconst 2) 1 := by unfold dk; decide +kernel
theorem dL_law_521 : dk cL_law 521 522 (.iadd) 1 := by unfold dk; decide +kernel
theorem dL_law_522 : dk cL_law 522 523 (.iaload) 1 := by unfold dk; decide +kernel
theorem dL_law_523 : dk cL_law 523 526 (.invokevirtual 73) 3 := by unfold dk; decide +kernel
theorem dL_law_526 : dk cL_law 526 527 (.aload_n 2) 1 := by unfold dk; decide +kernel
theorem dL_law_527 : dk cL_law 527 528 (.aload_n 0) 1 := by unfold dk; decide +kernel
theorem dL_law_528 : dk cL_law 528 529 (.iload_n 3) 1 := by unfold dk; decide +kernel
theorem dL_law_529 : dk cL_law 529 530 (.iconst 1) 1 := by unfold dk; decide +kernel
theorem dL_law_530 : dk cL_law 530 531 (.iadd) 1 := by unfold dk; decide +kernel
theorem dL_law_531 : dk cL_law 531 532 (.iaload) 1 := by unfold dk; decide +kernel
theorem dL_law_532 : dk cL_law 532 533 (.aload_n 0) 1 := by unfold dk; decide +kernel
theorem dL_law_533 : dk cL_law 533 534 (.iload_n 3) 1 := by unfold dk; decide +kernel
theorem dL_law_534 : dk cL_law 534 535 (.iconst 2) 1 := by unfold dk; decide +kernel
theorem dL_law_535 : dk cL_law 535 536 (.iadd) 1 := by unfold dk; decide +kernel
theorem dL_law_536 : dk cL_law 536 537 (.iaload) 1 := by unfold dk; decide +kernel
theorem dL_law_537 : dk cL_law 537 540 (.invokevirtual 76) 3 := by unfold dk; decide +kernel
theorem dL_law_543 : dk cL_law 543 544 (.iconst 0) 1 := by unfold dk; decide +kernel
theorem dL_law_544 : dk cL_law 544 545 (.ireturn) 1 := by unfold dk; decide +kernel
theorem dL_law_540 : bk cL_law 540 543 1009 (.if_icmp .eq 469) (469) := by unfold bk; decide +kernel
theorem dL_law_545 : dk cL_law 545 546 (.aload_n 1) 1 := by unfold dk; decide +kernel
theorem dL_law_546 : dk cL_law 546 547 (.aload_n 0) 1 := by unfold dk; decide +kernel
theorem dL_law_547 : dk cL_law 547 548 (.iload_n 3) 1 := by unfold dk; decide +kernel
theorem dL_law_548 : dk cL_law 548 549 (.iconst 1) 1 := by unfold dk; decide +kernel
theorem dL_law_549 : dk cL_law 549 550 (.iadd) 1 := by unfold dk; decide +kernel
theorem dL_law_550 : dk cL_law 550 551 (.iaload) 1 := by unfold dk; decide +kernel
theorem dL_law_551 : dk cL_law 551 552 (.aload_n 0) 1 := by unfold dk; decide +kernel
theorem dL_law_552 : dk cL_law 552 553 (.iload_n 3) 1 := by unfold dk; decide +kernel
theorem dL_law_553 : dk cL_law 553 554 (.iconst 2) 1 := by unfold dk; decide +kernel
theorem dL_law_554 : dk cL_law 554 555 (.iadd) 1 := by unfold dk; decide +kernel
theorem dL_law_555 : dk cL_law 555 556 (.iaload) 1 := by unfold dk; decide +kernel
theorem dL_law_556 : dk cL_law 556 557 (.aload_n 0) 1 := by unfold dk; decide +kernel
theorem dL_law_557 : dk cL_law 557 558 (.iload_n 3) 1 := by unfold dk; decide +kernel
theorem dL_law_558 : dk cL_law 558 559 (.iconst 3) 1 := by unfold dk; decide +kernel
theorem dL_law_559 : dk cL_law 559 560 (.iadd) 1 := by unfold dk; decide +kernel
theorem dL_law_560 : dk cL_law 560 561 (.iaload) 1 := by unfold dk; decide +kernel
theorem dL_law_561 : dk cL_law 561 564 (.invokevirtual 77) 3 := by unfold dk; decide +kernel
theorem dL_law_564 : dk cL_law 564 565 (.aload_n 2) 1 := by unfold dk; decide +kernel
theorem dL_law_565 : dk cL_law 565 566 (.aload_n 0) 1 := by unfold dk; decide +kernel
theorem dL_law_566 : dk cL_law 566 567 (.iload_n 3) 1 := by unfold dk; decide +kernel
theorem dL_law_567 : dk cL_law 567 568 (.iconst 1) 1 := by unfold dk; decide +kernel
theorem dL_law_568 : dk cL_law 568 569 (.iadd) 1 := by unfold dk; decide +kernel
theorem dL_law_569 : dk cL_law 569 570 (.iaload) 1 := by unfold dk; decide +kernel
theorem dL_law_570 : dk cL_law 570 571 (.aload_n 0) 1 := by unfold dk; decide +kernel
theorem dL_law_571 : dk cL_law 571 572 (.iload_n 3) 1 := by unfold dk; decide +kernel
theorem dL_law_572 : dk cL_law 572 573 (.iconst 2) 1 := by unfold dk; decide +kernel
theorem dL_law_573 : dk cL_law 573 574 (.iadd) 1 := by unfold dk; decide +kernel
theorem dL_law_574 : dk cL_law 574 575 (.iaload) 1 := by unfold dk; decide +kernel
theorem dL_law_575 : dk cL_law 575 576 (.aload_n 0) 1 := by unfold dk; decide +kernel
theorem dL_law_576 : dk cL_law 576 577 (.iload_n 3) 1 := by unfold dk; decide +kernel
theorem dL_law_577 : dk cL_law 577 578 (.iconst 3) 1 := by unfold dk; decide +kernel
theorem dL_law_578 : dk cL_law 578 579 (.iadd) 1 := by unfold dk; decide +kernel
theorem dL_law_579 : dk cL_law 579 580 (.iaload) 1 := by unfold dk; decide +kernel
theorem dL_law_580 : dk cL_law 580 583 (.invokevirtual 81) 3 := by unfold dk; decide +kernel
theorem dL_law_586 : dk cL_law 586 587 (.iconst 0) 1 := by unfold dk; decide +kernel
theorem dL_law_587 : dk cL_law 587 588 (.ireturn) 1 := by unfold dk; decide +kernel
theorem dL_law_583 : bk cL_law 583 586 1009 (.if_icmp .eq 426) (426) := by unfold bk; decide +kernel
theorem dL_law_588 : dk cL_law 588 589 (.aload_n 1) 1 := by unfold dk; decide +kernel
theorem dL_law_589 : dk cL_law 589 590 (.aload_n 0) 1 := by unfold dk; decide +kernel
theorem dL_law_590 : dk cL_law 590 591 (.iload_n 3) 1 := by unfold dk; decide +kernel
theorem dL_law_591 : dk cL_law 591 592 (.iconst 1) 1 := by unfold dk; decide +kernel
theorem dL_law_592 : dk cL_law 592 593 (.iadd) 1 := by unfold dk; decide +kernel
theorem dL_law_593 : dk cL_law 593 594 (.iaload) 1 := by unfold dk; decide +kernel
theorem dL_law_594 : dk cL_law 594 597 (.invokevirtual 82) 3 := by unfold dk; decide +kernel
theorem dL_law_597 : dk cL_law 597 598 (.aload_n 2) 1 := by unfold dk; decide +kernel
theorem dL_law_598 : dk cL_law 598 599 (.aload_n 0) 1 := by unfold dk; decide +kernel
theorem dL_law_599 : dk cL_law 599 600 (.iload_n 3) 1 := by unfold dk; decide +kernel
theorem dL_law_600 : dk cL_law 600 601 (.iconst 1) 1 := by unfold dk; decide +kernel
theorem dL_law_601 : dk cL_law 601 602 (.iadd) 1 := by unfold dk; decide +kernel
theorem dL_law_602 : dk cL_law 602 603 (.iaload) 1 := by unfold dk; decide +kernel
theorem dL_law_603 : dk cL_law 603 606 (.invokevirtual 85) 3 := by unfold dk; decide +kernel
theorem dL_law_609 : dk cL_law 609 610 (.iconst 0) 1 := by unfold dk; decide +kernel
theorem dL_law_610 : dk cL_law 610 611 (.ireturn) 1 := by unfold dk; decide +kernel
theorem dL_law_606 : bk cL_law 606 609 1009 (.if_icmp .eq 403) (403) := by unfold bk; decide +kernel
theorem dL_law_611 : dk cL_law 611 612 (.aload_n 1) 1 := by unfold dk; decide +kernel
theorem dL_law_612 : dk cL_law 612 613 (.aload_n 0) 1 := by unfold dk; decide +kernel
theorem dL_law_613 : dk cL_law 613 614 (.iload_n 3) 1 := by unfold dk; decide +kernel
theorem dL_law_614 : dk cL_law 614 615 (.iconst 1) 1 := by unfold dk; decide +kernel
theorem dL_law_615 : dk cL_law 615 616 (.iadd) 1 := by unfold dk; decide +kernel
theorem dL_law_616 : dk cL_law 616 617 (.iaload) 1 := by unfold dk; decide +kernel
theorem dL_law_617 : dk cL_law 617 618 (.aload_n 0) 1 := by unfold dk; decide +kernel
theorem dL_law_618 : dk cL_law 618 619 (.iload_n 3) 1 := by unfold dk; decide +kernel
theorem dL_law_619 : dk cL_law 619 620 (.iconst 2) 1 := by unfold dk; decide +kernel
theorem dL_law_620 : dk cL_law 620 621 (.iadd) 1 := by unfold dk; decide +kernel
theorem dL_law_621 : dk cL_law 621 622 (.iaload) 1 := by unfold dk; decide +kernel
theorem dL_law_622 : dk cL_law 622 625 (.invokevirtual 86) 3 := by unfold dk; decide +kernel
theorem dL_law_625 : dk cL_law 625 626 (.aload_n 2) 1 := by unfold dk; decide +kernel
theorem dL_law_626 : dk cL_law 626 627 (.aload_n 0) 1 := by unfold dk; decide +kernel
theorem dL_law_627 : dk cL_law 627 628 (.iload_n 3) 1 := by unfold dk; decide +kernel
theorem dL_law_628 : dk cL_law 628 629 (.iconst 1) 1 := by unfold dk; decide +kernel
theorem dL_law_629 : dk cL_law 629 630 (.iadd) 1 := by unfold dk; decide +kernel
theorem dL_law_630 : dk cL_law 630 631 (.iaload) 1 := by unfold dk; decide +kernel
theorem dL_law_631 : dk cL_law 631 632 (.aload_n 0) 1 := by unfold dk; decide +kernel
theorem dL_law_632 : dk cL_law 632 633 (.iload_n 3) 1 := by unfold dk; decide +kernel
theorem dL_law_633 : dk cL_law 633 634 (.iconst 2) 1 := by unfold dk; decide +kernel
theorem dL_law_634 : dk cL_law 634 635 (.iadd) 1 := by unfold dk; decide +kernel
theorem dL_law_635 : dk cL_law 635 636 (.iaload) 1 := by unfold dk; decide +kernel
theorem dL_law_636 : dk cL_law 636 639 (.invokevirtual 89) 3 := by unfold dk; decide +kernel
theorem dL_law_642 : dk cL_law 642 643 (.iconst 0) 1 := by unfold dk; decide +kernel
theorem dL_law_643 : dk cL_law 643 644 (.ireturn) 1 := by unfold dk; decide +kernel
theorem dL_law_639 : bk cL_law 639 642 1009 (.if_icmp .eq 370) (370) := by unfold bk; decide +kernel
theorem dL_law_644 : dk cL_law 644 645 (.aload_n 1) 1 := by unfold dk; decide +kernel
theorem dL_law_645 : dk cL_law 645 646 (.aload_n 0) 1 := by unfold dk; decide +kernel
theorem dL_law_646 : dk cL_law 646 647 (.iload_n 3) 1 := by unfold dk; decide +kernel
theorem dL_law_647 : dk cL_law 647 648 (.iconst 1) 1 := by unfold dk; decide +kernel
theorem dL_law_648 : dk cL_law 648 649 (.iadd) 1 := by unfold dk; decide +kernel
theorem dL_law_649 : dk cL_law 649 650 (.iaload) 1 := by unfold dk; decide +kernel
theorem dL_law_650 : dk cL_law 650 653 (.invokevirtual 90) 3 := by unfold dk; decide +kernel
theorem dL_law_653 : dk cL_law 653 654 (.aload_n 2) 1 := by unfold dk; decide +kernel
theorem dL_law_654 : dk cL_law 654 655 (.aload_n 0) 1 := by unfold dk; decide +kernel
theorem dL_law_655 : dk cL_law 655 656 (.iload_n 3) 1 := by unfold dk; decide +kernel
theorem dL_law_656 : dk cL_law 656 657 (.iconst 1) 1 := by unfold dk; decide +kernel
theorem dL_law_657 : dk cL_law 657 658 (.iadd) 1 := by unfold dk; decide +kernel
theorem dL_law_658 : dk cL_law 658 659 (.iaload) 1 := by unfold dk; decide +kernel
theorem dL_law_659 : dk cL_law 659 662 (.invokevirtual 93) 3 := by unfold dk; decide +kernel
theorem dL_law_665 : dk cL_law 665 666 (.iconst 0) 1 := by unfold dk; decide +kernel
theorem dL_law_666 : dk cL_law 666 667 (.ireturn) 1 := by unfold dk; decide +kernel
theorem dL_law_662 : bk cL_law 662 665 1009 (.if_icmp .eq 347) (347) := by unfold bk; decide +kernel
theorem dL_law_667 : dk cL_law 667 668 (.aload_n 1) 1 := by unfold dk; decide +kernel
theorem dL_law_668 : dk cL_law 668 669 (.aload_n 0) 1 := by unfold dk; decide +kernel
theorem dL_law_669 : dk cL_law 669 670 (.iload_n 3) 1 := by unfold dk; decide +kernel
theorem dL_law_670 : dk cL_law 670 671 (.iconst 1) 1 := by unfold dk; decide +kernel
theorem dL_law_671 : dk cL_law 671 672 (.iadd) 1 := by unfold dk; decide +kernel
theorem dL_law_672 : dk cL_law 672 673 (.iaload) 1 := by unfold dk; decide +kernel
theorem dL_law_673 : dk cL_law 673 674 (.aload_n 0) 1 := by unfold dk; decide +kernel
theorem dL_law_674 : dk cL_law 674 675 (.iload_n 3) 1 := by unfold dk; decide +kernel
theorem dL_law_675 : dk cL_law 675 676 (.iconst 2) 1 := by unfold dk; decide +kernel
theorem dL_law_676 : dk cL_law 676 677 (.iadd) 1 := by unfold dk; decide +kernel
theorem dL_law_677 : dk cL_law 677 678 (.iaload) 1 := by unfold dk; decide +kernel
theorem dL_law_678 : dk cL_law 678 679 (.aload_n 0) 1 := by unfold dk; decide +kernel
theorem dL_law_679 : dk cL_law 679 680 (.iload_n 3) 1 := by unfold dk; decide +kernel
theorem dL_law_680 : dk cL_law 680 681 (.iconst 3) 1 := by unfold dk; decide +kernel
theorem dL_law_681 : dk cL_law 681 682 (.iadd) 1 := by unfold dk; decide +kernel
theorem dL_law_682 : dk cL_law 682 683 (.iaload) 1 := by unfold dk; decide +kernel
theorem dL_law_683 : dk cL_law 683 686 (.invokevirtual 94) 3 := by unfold dk; decide +kernel
theorem dL_law_686 : dk cL_law 686 687 (.aload_n 2) 1 := by unfold dk; decide +kernel
theorem dL_law_687 : dk cL_law 687 688 (.aload_n 0) 1 := by unfold dk; decide +kernel
theorem dL_law_688 : dk cL_law 688 689 (.iload_n 3) 1 := by unfold dk; decide +kernel
theorem dL_law_689 : dk cL_law 689 690 (.iconst 1) 1 := by unfold dk; decide +kernel
theorem dL_law_690 : dk cL_law 690 691 (.iadd) 1 := by unfold dk; decide +kernel
theorem dL_law_691 : dk cL_law 691 692 (.iaload) 1 := by unfold dk; decide +kernel
theorem dL_law_692 : dk cL_law 692 693 (.aload_n 0) 1 := by unfold dk; decide +kernel
theorem dL_law_693 : dk cL_law 693 694 (.iload_n 3) 1 := by unfold dk; decide +kernel
theorem dL_law_694 : dk cL_law 694 695 (.iconst 2) 1 := by unfold dk; decide +kernel
theorem dL_law_695 : dk cL_law 695 696 (.iadd) 1 := by unfold dk; decide +kernel
theorem dL_law_696 : dk cL_law 696 697 (.iaload) 1 := by unfold dk; decide +kernel
theorem dL_law_697 : dk cL_law 697 698 (.aload_n 0) 1 := by unfold dk; decide +kernel
theorem dL_law_698 : dk cL_law 698 699 (.iload_n 3) 1 := by unfold dk; decide +kernel
theorem dL_law_699 : dk cL_law 699 700 (.iconst 3) 1 := by unfold dk; decide +kernel
theorem dL_law_700 : dk cL_law 700 701 (.iadd) 1 := by unfold dk; decide +kernel
theorem dL_law_701 : dk cL_law 701 702 (.iaload) 1 := by unfold dk; decide +kernel
theorem dL_law_702 : dk cL_law 702 705 (.invokevirtual 97) 3 := by unfold dk; decide +kernel
theorem dL_law_708 : dk cL_law 708 709 (.iconst 0) 1 := by unfold dk; decide +kernel
theorem dL_law_709 : dk cL_law 709 710 (.ireturn) 1 := by unfold dk; decide +kernel
theorem dL_law_705 : bk cL_law 705 708 1009 (.if_icmp .eq 304) (304) := by unfold bk; decide +kernel
theorem dL_law_710 : dk cL_law 710 711 (.aload_n 1) 1 := by unfold dk; decide +kernel
theorem dL_law_711 : dk cL_law 711 712 (.aload_n 0) 1 := by unfold dk; decide +kernel
theorem dL_law_712 : dk cL_law 712 713 (.iload_n 3) 1 := by unfold dk; decide +kernel
theorem dL_law_713 : dk cL_law 713 714 (.iconst 1) 1 := by unfold dk; decide +kernel
theorem dL_law_714 : dk cL_law 714 715 (.iadd) 1 := by unfold dk; decide +kernel
theorem dL_law_715 : dk cL_law 715 716 (.iaload) 1 := by unfold dk; decide +kernel
theorem dL_law_716 : dk cL_law 716 719 (.invokevirtual 98) 3 := by unfold dk; decide +kernel
theorem dL_law_719 : dk cL_law 719 720 (.aload_n 2) 1 := by unfold dk; decide +kernel
theorem dL_law_720 : dk cL_law 720 721 (.aload_n 0) 1 := by unfold dk; decide +kernel
theorem dL_law_721 : dk cL_law 721 722 (.iload_n 3) 1 := by unfold dk; decide +kernel
theorem dL_law_722 : dk cL_law 722 723 (.iconst 1) 1 := by unfold dk; decide +kernel
theorem dL_law_723 : dk cL_law 723 724 (.iadd) 1 := by unfold dk; decide +kernel
theorem dL_law_724 : dk cL_law 724 725 (.iaload) 1 := by unfold dk; decide +kernel
theorem dL_law_725 : dk cL_law 725 728 (.invokevirtual 101) 3 := by unfold dk; decide +kernel
theorem dL_law_731 : dk cL_law 731 732 (.iconst 0) 1 := by unfold dk; decide +kernel
theorem dL_law_732 : dk cL_law 732 733 (.ireturn) 1 := by unfold dk; decide +kernel
theorem dL_law_728 : bk cL_law 728 731 1009 (.if_icmp .eq 281) (281) := by unfold bk; decide +kernel
theorem dL_law_733 : dk cL_law 733 734 (.aload_n 1) 1 := by unfold dk; decide +kernel
theorem dL_law_734 : dk cL_law 734 735 (.aload_n 0) 1 := by unfold dk; decide +kernel
theorem dL_law_735 : dk cL_law 735 736 (.iload_n 3) 1 := by unfold dk; decide +kernel
theorem dL_law_736 : dk cL_law 736 737 (.iconst 1) 1 := by unfold dk; decide +kernel
theorem dL_law_737 : dk cL_law 737 738 (.iadd) 1 := by unfold dk; decide +kernel
theorem dL_law_738 : dk cL_law 738 739 (.iaload) 1 := by unfold dk; decide +kernel
theorem dL_law_739 : dk cL_law 739 742 (.invokevirtual 102) 3 := by unfold dk; decide +kernel
theorem dL_law_742 : dk cL_law 742 743 (.aload_n 2) 1 := by unfold dk; decide +kernel
theorem dL_law_743 : dk cL_law 743 744 (.aload_n 0) 1 := by unfold dk; decide +kernel
theorem dL_law_744 : dk cL_law 744 745 (.iload_n 3) 1 := by unfold dk; decide +kernel
theorem dL_law_745 : dk cL_law 745 746 (.iconst 1) 1 := by unfold dk; decide +kernel
theorem dL_law_746 : dk cL_law 746 747 (.iadd) 1 := by unfold dk; decide +kernel
theorem dL_law_747 : dk cL_law 747 748 (.iaload) 1 := by unfold dk; decide +kernel
theorem dL_law_748 : dk cL_law 748 751 (.invokevirtual 105) 3 := by unfold dk; decide +kernel
theorem dL_law_754 : dk cL_law 754 755 (.iconst 0) 1 := by unfold dk; decide +kernel
theorem dL_law_755 : dk cL_law 755 756 (.ireturn) 1 := by unfold dk; decide +kernel
theorem dL_law_751 : bk cL_law 751 754 1009 (.if_icmp .eq 258) (258) := by unfold bk; decide +kernel
theorem dL_law_756 : dk cL_law 756 757 (.aload_n 1) 1 := by unfold dk; decide +kernel
theorem dL_law_757 : dk cL_law 757 758 (.aload_n 0) 1 := by unfold dk; decide +kernel
theorem dL_law_758 : dk cL_law 758 759 (.iload_n 3) 1 := by unfold dk; decide +kernel
theorem dL_law_759 : dk cL_law 759 760 (.iconst 1) 1 := by unfold dk; decide +kernel
theorem dL_law_760 : dk cL_law 760 761 (.iadd) 1 := by unfold dk; decide +kernel
theorem dL_law_761 : dk cL_law 761 762 (.iaload) 1 := by unfold dk; decide +kernel
theorem dL_law_762 : dk cL_law 762 765 (.invokevirtual 106) 3 := by unfold dk; decide +kernel
theorem dL_law_765 : dk cL_law 765 766 (.aload_n 2) 1 := by unfold dk; decide +kernel
theorem dL_law_766 : dk cL_law 766 767 (.aload_n 0) 1 := by unfold dk; decide +kernel
theorem dL_law_767 : dk cL_law 767 768 (.iload_n 3) 1 := by unfold dk; decide +kernel
theorem dL_law_768 : dk cL_law 768 769 (.iconst 1) 1 := by unfold dk; decide +kernel
theorem dL_law_769 : dk cL_law 769 770 (.iadd) 1 := by unfold dk; decide +kernel
theorem dL_law_770 : dk cL_law 770 771 (.iaload) 1 := by unfold dk; decide +kernel
theorem dL_law_771 : dk cL_law 771 774 (.invokevirtual 109) 3 := by unfold dk; decide +kernel
theorem dL_law_777 : dk cL_law 777 778 (.iconst 0) 1 := by unfold dk; decide +kernel
theorem dL_law_778 : dk cL_law 778 779 (.ireturn) 1 := by unfold dk; decide +kernel
theorem dL_law_774 : bk cL_law 774 777 1009 (.if_icmp .eq 235) (235) := by unfold bk; decide +kernel
theorem dL_law_779 : dk cL_law 779 780 (.aload_n 1) 1 := by unfold dk; decide +kernel
theorem dL_law_780 : dk cL_law 780 783 (.invokevirtual 110) 3 := by unfold dk; decide +kernel
theorem dL_law_783 : dk cL_law 783 784 (.aload_n 2) 1 := by unfold dk; decide +kernel
theorem dL_law_784 : dk cL_law 784 787 (.invokevirtual 113) 3 := by unfold dk; decide +kernel
theorem dL_law_790 : dk cL_law 790 791 (.iconst 0) 1 := by unfold dk; decide +kernel
theorem dL_law_791 : dk cL_law 791 792 (.ireturn) 1 := by unfold dk; decide +kernel
theorem dL_law_787 : bk cL_law 787 790 1009 (.if_icmp .eq 222) (222) := by unfold bk; decide +kernel
theorem dL_law_792 : dk cL_law 792 793 (.aload_n 1) 1 := by unfold dk; decide +kernel
theorem dL_law_793 : dk cL_law 793 794 (.aload_n 0) 1 := by unfold dk; decide +kernel
theorem dL_law_794 : dk cL_law 794 795 (.iload_n 3) 1 := by unfold dk; decide +kernel
theorem dL_law_795 : dk cL_law 795 796 (.iconst 1) 1 := by unfold dk; decide +kernel
theorem dL_law_796 : dk cL_law 796 797 (.iadd) 1 := by unfold dk; decide +kernel
theorem dL_law_797 : dk cL_law 797 798 (.iaload) 1 := by unfold dk; decide +kernel
theorem dL_law_798 : dk cL_law 798 799 (.aload_n 0) 1 := by unfold dk; decide +kernel
theorem dL_law_799 : dk cL_law 799 800 (.iload_n 3) 1 := by unfold dk; decide +kernel
theorem dL_law_800 : dk cL_law 800 801 (.iconst 2) 1 := by unfold dk; decide +kernel
theorem dL_law_801 : dk cL_law 801 802 (.iadd) 1 := by unfold dk; decide +kernel
theorem dL_law_802 : dk cL_law 802 803 (.iaload) 1 := by unfold dk; decide +kernel
theorem dL_law_803 : dk cL_law 803 806 (.invokevirtual 114) 3 := by unfold dk; decide +kernel
theorem dL_law_806 : dk cL_law 806 807 (.aload_n 2) 1 := by unfold dk; decide +kernel
theorem dL_law_807 : dk cL_law 807 808 (.aload_n 0) 1 := by unfold dk; decide +kernel
theorem dL_law_808 : dk cL_law 808 809 (.iload_n 3) 1 := by unfold dk; decide +kernel
theorem dL_law_809 : dk cL_law 809 810 (.iconst 1) 1 := by unfold dk; decide +kernel
theorem dL_law_810 : dk cL_law 810 811 (.iadd) 1 := by unfold dk; decide +kernel
theorem dL_law_811 : dk cL_law 811 812 (.iaload) 1 := by unfold dk; decide +kernel
theorem dL_law_812 : dk cL_law 812 813 (.aload_n 0) 1 := by unfold dk; decide +kernel
theorem dL_law_813 : dk cL_law 813 814 (.iload_n 3) 1 := by unfold dk; decide +kernel
theorem dL_law_814 : dk cL_law 814 815 (.iconst 2) 1 := by unfold dk; decide +kernel
theorem dL_law_815 : dk cL_law 815 816 (.iadd) 1 := by unfold dk; decide +kernel
theorem dL_law_816 : dk cL_law 816 817 (.iaload) 1 := by unfold dk; decide +kernel
theorem dL_law_817 : dk cL_law 817 820 (.invokevirtual 117) 3 := by unfold dk; decide +kernel
theorem dL_law_823 : dk cL_law 823 824 (.iconst 0) 1 := by unfold dk; decide +kernel
theorem dL_law_824 : dk cL_law 824 825 (.ireturn) 1 := by unfold dk; decide +kernel
theorem dL_law_820 : bk cL_law 820 823 1009 (.if_icmp .eq 189) (189) := by unfold bk; decide +kernel
theorem dL_law_825 : dk cL_law 825 826 (.aload_n 1) 1 := by unfold dk; decide +kernel
theorem dL_law_826 : dk cL_law 826 827 (.aload_n 0) 1 := by unfold dk; decide +kernel
theorem dL_law_827 : dk cL_law 827 828 (.iload_n 3) 1 := by unfold dk; decide +kernel
theorem dL_law_828 : dk cL_law 828 829 (.iconst 1) 1 := by unfold dk; decide +kernel
theorem dL_law_829 : dk cL_law 829 830 (.iadd) 1 := by unfold dk; decide +kernel
theorem dL_law_830 : dk cL_law 830 831 (.iaload) 1 := by unfold dk; decide +kernel
theorem dL_law_831 : dk cL_law 831 834 (.invokevirtual 118) 3 := by unfold dk; decide +kernel
theorem dL_law_834 : dk cL_law 834 835 (.aload_n 2) 1 := by unfold dk; decide +kernel
theorem dL_law_835 : dk cL_law 835 836 (.aload_n 0) 1 := by unfold dk; decide +kernel
theorem dL_law_836 : dk cL_law 836 837 (.iload_n 3) 1 := by unfold dk; decide +kernel
theorem dL_law_837 : dk cL_law 837 838 (.iconst 1) 1 := by unfold dk; decide +kernel
theorem dL_law_838 : dk cL_law 838 839 (.iadd) 1 := by unfold dk; decide +kernel
theorem dL_law_839 : dk cL_law 839 840 (.iaload) 1 := by unfold dk; decide +kernel
theorem dL_law_840 : dk cL_law 840 843 (.invokevirtual 121) 3 := by unfold dk; decide +kernel
theorem dL_law_846 : dk cL_law 846 847 (.iconst 0) 1 := by unfold dk; decide +kernel
theorem dL_law_847 : dk cL_law 847 848 (.ireturn) 1 := by unfold dk; decide +kernel
theorem dL_law_843 : bk cL_law 843 846 1009 (.if_icmp .eq 166) (166) := by unfold bk; decide +kernel
theorem dL_law_848 : dk cL_law 848 849 (.aload_n 1) 1 := by unfold dk; decide +kernel
theorem dL_law_849 : dk cL_law 849 850 (.aload_n 0) 1 := by unfold dk; decide +kernel
theorem dL_law_850 : dk cL_law 850 851 (.iload_n 3) 1 := by unfold dk; decide +kernel
theorem dL_law_851 : dk cL_law 851 852 (.iconst 1) 1 := by unfold dk; decide +kernel
theorem dL_law_852 : dk cL_law 852 853 (.iadd) 1 := by unfold dk; decide +kernel
theorem dL_law_853 : dk cL_law 853 854 (.iaload) 1 := by unfold dk; decide +kernel
theorem dL_law_854 : dk cL_law 854 857 (.invokevirtual 122) 3 := by unfold dk; decide +kernel
theorem dL_law_857 : dk cL_law 857 858 (.aload_n 2) 1 := by unfold dk; decide +kernel
theorem dL_law_858 : dk cL_law 858 859 (.aload_n 0) 1 := by unfold dk; decide +kernel
theorem dL_law_859 : dk cL_law 859 860 (.iload_n 3) 1 := by unfold dk; decide +kernel
theorem dL_law_860 : dk cL_law 860 861 (.iconst 1) 1 := by unfold dk; decide +kernel
theorem dL_law_861 : dk cL_law 861 862 (.iadd) 1 := by unfold dk; decide +kernel
theorem dL_law_862 : dk cL_law 862 863 (.iaload) 1 := by unfold dk; decide +kernel
theorem dL_law_863 : dk cL_law 863 866 (.invokevirtual 125) 3 := by unfold dk; decide +kernel
theorem dL_law_869 : dk cL_law 869 870 (.iconst 0) 1 := by unfold dk; decide +kernel
theorem dL_law_870 : dk cL_law 870 871 (.ireturn) 1 := by unfold dk; decide +kernel
theorem dL_law_866 : bk cL_law 866 869 1009 (.if_icmp .eq 143) (143) := by unfold bk; decide +kernel
theorem dL_law_871 : dk cL_law 871 872 (.aload_n 1) 1 := by unfold dk; decide +kernel
theorem dL_law_872 : dk cL_law 872 873 (.aload_n 0) 1 := by unfold dk; decide +kernel
theorem dL_law_873 : dk cL_law 873 874 (.iload_n 3) 1 := by unfold dk; decide +kernel
theorem dL_law_874 : dk cL_law 874 875 (.iconst 1) 1 := by unfold dk; decide +kernel
theorem dL_law_875 : dk cL_law 875 876 (.iadd) 1 := by unfold dk; decide +kernel
theorem dL_law_876 : dk cL_law 876 877 (.iaload) 1 := by unfold dk; decide +kernel
theorem dL_law_877 : dk cL_law 877 878 (.aload_n 0) 1 := by unfold dk; decide +kernel
theorem dL_law_878 : dk cL_law 878 879 (.iload_n 3) 1 := by unfold dk; decide +kernel
theorem dL_law_879 : dk cL_law 879 880 (.iconst 2) 1 := by unfold dk; decide +kernel
theorem dL_law_880 : dk cL_law 880 881 (.iadd) 1 := by unfold dk; decide +kernel
theorem dL_law_881 : dk cL_law 881 882 (.iaload) 1 := by unfold dk; decide +kernel
theorem dL_law_882 : dk cL_law 882 885 (.invokevirtual 126) 3 := by unfold dk; decide +kernel
theorem dL_law_885 : dk cL_law 885 886 (.aload_n 2) 1 := by unfold dk; decide +kernel
theorem dL_law_886 : dk cL_law 886 887 (.aload_n 0) 1 := by unfold dk; decide +kernel
theorem dL_law_887 : dk cL_law 887 888 (.iload_n 3) 1 := by unfold dk; decide +kernel
theorem dL_law_888 : dk cL_law 888 889 (.iconst 1) 1 := by unfold dk; decide +kernel
theorem dL_law_889 : dk cL_law 889 890 (.iadd) 1 := by unfold dk; decide +kernel
theorem dL_law_890 : dk cL_law 890 891 (.iaload) 1 := by unfold dk; decide +kernel
theorem dL_law_891 : dk cL_law 891 892 (.aload_n 0) 1 := by unfold dk; decide +kernel
theorem dL_law_892 : dk cL_law 892 893 (.iload_n 3) 1 := by unfold dk; decide +kernel
theorem dL_law_893 : dk cL_law 893 894 (.iconst 2) 1 := by unfold dk; decide +kernel
theorem dL_law_894 : dk cL_law 894 895 (.iadd) 1 := by unfold dk; decide +kernel
theorem dL_law_895 : dk cL_law 895 896 (.iaload) 1 := by unfold dk; decide +kernel
theorem dL_law_896 : dk cL_law 896 899 (.invokevirtual 129) 3 := by unfold dk; decide +kernel
theorem dL_law_902 : dk cL_law 902 903 (.iconst 0) 1 := by unfold dk; decide +kernel
theorem dL_law_903 : dk cL_law 903 904 (.ireturn) 1 := by unfold dk; decide +kernel
theorem dL_law_899 : bk cL_law 899 902 1009 (.if_icmp .eq 110) (110) := by unfold bk; decide +kernel
theorem dL_law_904 : dk cL_law 904 905 (.aload_n 1) 1 := by unfold dk; decide +kernel
theorem dL_law_905 : dk cL_law 905 906 (.aload_n 0) 1 := by unfold dk; decide +kernel
theorem dL_law_906 : dk cL_law 906 907 (.iload_n 3) 1 := by unfold dk; decide +kernel
theorem dL_law_907 : dk cL_law 907 908 (.iconst 1) 1 := by unfold dk; decide +kernel
theorem dL_law_908 : dk cL_law 908 909 (.iadd) 1 := by unfold dk; decide +kernel
theorem dL_law_909 : dk cL_law 909 910 (.iaload) 1 := by unfold dk; decide +kernel
theorem dL_law_910 : dk cL_law 910 913 (.invokevirtual 130) 3 := by unfold dk; decide +kernel
theorem dL_law_913 : dk cL_law 913 914 (.aload_n 2) 1 := by unfold dk; decide +kernel
theorem dL_law_914 : dk cL_law 914 915 (.aload_n 0) 1 := by unfold dk; decide +kernel
theorem dL_law_915 : dk cL_law 915 916 (.iload_n 3) 1 := by unfold dk; decide +kernel
theorem dL_law_916 : dk cL_law 916 917 (.iconst 1) 1 := by unfold dk; decide +kernel
theorem dL_law_917 : dk cL_law 917 918 (.iadd) 1 := by unfold dk; decide +kernel
theorem dL_law_918 : dk cL_law 918 919 (.iaload) 1 := by unfold dk; decide +kernel
theorem dL_law_919 : dk cL_law 919 922 (.invokevirtual 133) 3 := by unfold dk; decide +kernel
theorem dL_law_925 : dk cL_law 925 926 (.iconst 0) 1 := by unfold dk; decide +kernel
theorem dL_law_926 : dk cL_law 926 927 (.ireturn) 1 := by unfold dk; decide +kernel
theorem dL_law_922 : bk cL_law 922 925 1009 (.if_icmp .eq 87) (87) := by unfold bk; decide +kernel
theorem dL_law_927 : dk cL_law 927 928 (.aload_n 1) 1 := by unfold dk; decide +kernel
theorem dL_law_928 : dk cL_law 928 931 (.invokevirtual 134) 3 := by unfold dk; decide +kernel
theorem dL_law_931 : dk cL_law 931 932 (.aload_n 2) 1 := by unfold dk; decide +kernel
theorem dL_law_932 : dk cL_law 932 935 (.invokevirtual 137) 3 := by unfold dk; decide +kernel
theorem dL_law_938 : dk cL_law 938 939 (.iconst 0) 1 := by unfold dk; decide +kernel
theorem dL_law_939 : dk cL_law 939 940 (.ireturn) 1 := by unfold dk; decide +kernel
theorem dL_law_935 : bk cL_law 935 938 1009 (.if_icmp .eq 74) (74) := by unfold bk; decide +kernel
theorem dL_law_940 : dk cL_law 940 941 (.aload_n 1) 1 := by unfold dk; decide +kernel
theorem dL_law_941 : dk cL_law 941 942 (.aload_n 0) 1 := by unfold dk; decide +kernel
theorem dL_law_942 : dk cL_law 942 943 (.iload_n 3) 1 := by unfold dk; decide +kernel
theorem dL_law_943 : dk cL_law 943 944 (.iconst 1) 1 := by unfold dk; decide +kernel
theorem dL_law_944 : dk cL_law 944 945 (.iadd) 1 := by unfold dk; decide +kernel
theorem dL_law_945 : dk cL_law 945 946 (.iaload) 1 := by unfold dk; decide +kernel
theorem dL_law_946 : dk cL_law 946 949 (.invokevirtual 138) 3 := by unfold dk; decide +kernel
theorem dL_law_949 : dk cL_law 949 950 (.aload_n 2) 1 := by unfold dk; decide +kernel
theorem dL_law_950 : dk cL_law 950 951 (.aload_n 0) 1 := by unfold dk; decide +kernel
theorem dL_law_951 : dk cL_law 951 952 (.iload_n 3) 1 := by unfold dk; decide +kernel
theorem dL_law_952 : dk cL_law 952 953 (.iconst 1) 1 := by unfold dk; decide +kernel
theorem dL_law_953 : dk cL_law 953 954 (.iadd) 1 := by unfold dk; decide +kernel
theorem dL_law_954 : dk cL_law 954 955 (.iaload) 1 := by unfold dk; decide +kernel
theorem dL_law_955 : dk cL_law 955 958 (.invokevirtual 141) 3 := by unfold dk; decide +kernel
theorem dL_law_961 : dk cL_law 961 962 (.iconst 0) 1 := by unfold dk; decide +kernel
theorem dL_law_962 : dk cL_law 962 963 (.ireturn) 1 := by unfold dk; decide +kernel
theorem dL_law_958 : bk cL_law 958 961 1009 (.if_icmp .eq 51) (51) := by unfold bk; decide +kernel
theorem dL_law_963 : dk cL_law 963 964 (.aload_n 1) 1 := by unfold dk; decide +kernel
theorem dL_law_964 : dk cL_law 964 965 (.aload_n 0) 1 := by unfold dk; decide +kernel
theorem dL_law_965 : dk cL_law 965 966 (.iload_n 3) 1 := by unfold dk; decide +kernel
theorem dL_law_966 : dk cL_law 966 967 (.iconst 1) 1 := by unfold dk; decide +kernel
theorem dL_law_967 : dk cL_law 967 968 (.iadd) 1 := by unfold dk; decide +kernel
theorem dL_law_968 : dk cL_law 968 969 (.iaload) 1 := by unfold dk; decide +kernel
theorem dL_law_969 : dk cL_law 969 972 (.invokevirtual 142) 3 := by unfold dk; decide +kernel
theorem dL_law_972 : dk cL_law 972 973 (.aload_n 2) 1 := by unfold dk; decide +kernel
theorem dL_law_973 : dk cL_law 973 974 (.aload_n 0) 1 := by unfold dk; decide +kernel
theorem dL_law_974 : dk cL_law 974 975 (.iload_n 3) 1 := by unfold dk; decide +kernel
theorem dL_law_975 : dk cL_law 975 976 (.iconst 1) 1 := by unfold dk; decide +kernel
theorem dL_law_976 : dk cL_law 976 977 (.iadd) 1 := by unfold dk; decide +kernel
theorem dL_law_977 : dk cL_law 977 978 (.iaload) 1 := by unfold dk; decide +kernel
theorem dL_law_978 : dk cL_law 978 981 (.invokevirtual 145) 3 := by unfold dk; decide +kernel
theorem dL_law_984 : dk cL_law 984 985 (.iconst 0) 1 := by unfold dk; decide +kernel
theorem dL_law_985 : dk cL_law 985 986 (.ireturn) 1 := by unfold dk; decide +kernel
theorem dL_law_981 : bk cL_law 981 984 1009 (.if_icmp .eq 28) (28) := by unfold bk; decide +kernel
theorem dL_law_986 : dk cL_law 986 987 (.aload_n 1) 1 := by unfold dk; decide +kernel
theorem dL_law_987 : dk cL_law 987 988 (.aload_n 0) 1 := by unfold dk; decide +kernel
theorem dL_law_988 : dk cL_law 988 989 (.iload_n 3) 1 := by unfold dk; decide +kernel
theorem dL_law_989 : dk cL_law 989 990 (.iconst 1) 1 := by unfold dk; decide +kernel
theorem dL_law_990 : dk cL_law 990 991 (.iadd) 1 := by unfold dk; decide +kernel
theorem dL_law_991 : dk cL_law 991 992 (.iaload) 1 := by unfold dk; decide +kernel
theorem dL_law_992 : dk cL_law 992 995 (.invokevirtual 146) 3 := by unfold dk; decide +kernel
theorem dL_law_995 : dk cL_law 995 996 (.aload_n 2) 1 := by unfold dk; decide +kernel
theorem dL_law_996 : dk cL_law 996 997 (.aload_n 0) 1 := by unfold dk; decide +kernel
theorem dL_law_997 : dk cL_law 997 998 (.iload_n 3) 1 := by unfold dk; decide +kernel
theorem dL_law_998 : dk cL_law 998 999 (.iconst 1) 1 := by unfold dk; decide +kernel
theorem dL_law_999 : dk cL_law 999 1000 (.iadd) 1 := by unfold dk; decide +kernel
theorem dL_law_1000 : dk cL_law 1000 1001 (.iaload) 1 := by unfold dk; decide +kernel
theorem dL_law_1001 : dk cL_law 1001 1004 (.invokevirtual 149) 3 := by unfold dk; decide +kernel
theorem dL_law_1007 : dk cL_law 1007 1008 (.iconst 0) 1 := by unfold dk; decide +kernel
theorem dL_law_1008 : dk cL_law 1008 1009 (.ireturn) 1 := by unfold dk; decide +kernel
theorem dL_law_1004 : bk cL_law 1004 1007 1009 (.if_icmp .eq 5) (5) := by unfold bk; decide +kernel
theorem dL_law_24 : bk cL_law 24 27 1015 (.if_icmp .gt 991) (991) := by unfold bk; decide +kernel
theorem dL_law_1015 : dk cL_law 1015 1016 (.iconst 1) 1 := by unfold dk; decide +kernel
theorem dL_law_1016 : dk cL_law 1016 1017 (.ireturn) 1 := by unfold dk; decide +kernel
set_option maxHeartbeats 8000000 in
set_option maxRecDepth 100000 in
theorem kL_law {κ : KT} {G : Gl} {E : En} {b L a1 a2 : Nat} {xs : Nat → Int32} {σ σ' : Sg} {u : Nat × Nat} (C : Cx κ G cL_law RL 4) (hr : (kT κ).sig.returnType = ret) (hA : kA κ = #[Value.ref b]) (hR : kR κ = room_1) (hu : u.1 ≤ 600000 ∧ u.2 ≤ 7302250) (hGs : (kS κ).heap.size ≤ G.1) (hX : lwX κ G b L xs) : fL_law L xs E a1 a2 σ = some (1, σ') → V κ G (lw_Z (kB κ) (kA κ) (kS κ)) E σ (false, u) 16 [(0, .ref b), (1, .ref (G.1 + a1)), (2, .ref (G.1 + a2))] [] := by
  unfold fL_law
  refine R_tk (fun ha1 => ?_)
  refine R_tk (fun ha2 => ?_)
  refine R_iconst C (0) dL_law_16 (by decide) ?_
  refine R_istore_n (lv2 := [(3, .int (0 : Int32)), (0, .ref b), (1, .ref (G.1 + a1)), (2, .ref (G.1 + a2))]) C dL_law_17 rfl (by decide) rfl ?_
  refine R_loc (lv2 := [(0, .ref b), (1, .ref (G.1 + a1)), (2, .ref (G.1 + a2)), (3, .int (0 : Int32))]) [1, 2, 3, 0] rfl ?_
  refine R_loop (fun (a : (Int32) × Sg) => V κ G (lw_Z (kB κ) (kA κ) (kS κ)) E a.2 (false, u) 18 [(0, .ref b), (1, .ref (G.1 + a1)), (2, .ref (G.1 + a2)), (3, .int a.1)] []) (fun (o : ((Int32) ⊕ Int32)) (s : Sg) => sm o (fun o => V κ G (lw_Z (kB κ) (kA κ) (kS κ)) E s (false, u) 1015 [] []) (fun rr => some (rr, s) = some (1, σ'))) ((0 : Int32), σ) (fun o353 s354 => ?_) (fun rec I6 a b4 s5 K3 => ?_)
  · rcases o353 with vo353 | ro353
    · refine R_sml ?_
      refine R_iconst C (1) dL_law_1015 (by decide) ?_
      exact R_law C hr hA hR hu hGs dL_law_1016
    · exact fun h => h
  · obtain ⟨v1, s2⟩ := a
    show bL_law_18 L xs E a1 a2 (fun u0 t => rec (u0, t)) v1 s2 = some (b4, s5) → V κ G (lw_Z (kB κ) (kA κ) (kS κ)) E s2 (false, u) 18 [(0, .ref b), (1, .ref (G.1 + a1)), (2, .ref (G.1 + a2)), (3, .int v1)] []
    unfold bL_law_18
    refine R_iload_n C 3 rfl dL_law_18 ?_
    refine R_aload_n C 0 rfl dL_law_19 ?_
    refine R_slen C hX dL_law_20 ?_
    refine R_bipush C (6) dL_law_21 (by decide) ?_
    refine R_isub C dL_law_23 ?_
    refine B_icmp_gt C dL_law_24 ?_ ?_
    · refine R_loc (lv2 := []) [] rfl ?_
      exact R_inr (VX := (fun (o : ((Int32) ⊕ Int32)) (s : Sg) => sm o (fun o => V κ G (lw_Z (kB κ) (kA κ) (kS κ)) E s (false, u) 1015 [] []) (fun rr => some (rr, s) = some (1, σ')))) (i := .inl) K3 (fun h => h)
    · refine R_aload_n C 0 rfl dL_law_27 ?_
      refine R_iload_n C 3 rfl dL_law_28 ?_
      refine R_ck (fun h7 => ?_)
      refine R_sld C hX h7 dL_law_29 ?_
      refine R_bipush C (63) dL_law_30 (by decide) ?_
      refine R_iand C dL_law_32 ?_
      refine R_if (fun h8 => ?_) (fun h8 => ?_)
      · refine R_tsIn (off := 147) (t := 180) C dL_law_33 h8 (by decide) ?_
        refine R_aload_n C 1 rfl dL_law_180 ?_
        refine R_aload_n C 0 rfl dL_law_181 ?_
        refine R_iload_n C 3 rfl dL_law_182 ?_
        refine R_iconst C (1) dL_law_183 (by decide) ?_
        refine R_iadd C dL_law_184 ?_
        refine R_ck (fun h9 => ?_)
        refine R_sld C hX h9 dL_law_185 ?_
        refine R_aload_n C 0 rfl dL_law_186 ?_
        refine R_iload_n C 3 rfl dL_law_187 ?_
        refine R_iconst C (2) dL_law_188 (by decide) ?_
        refine R_iadd C dL_law_189 ?_
        refine R_ck (fun h10 => ?_)
        refine R_sld C hX h10 dL_law_190 ?_
        refine R_aload_n C 0 rfl dL_law_191 ?_
        refine R_iload_n C 3 rfl dL_law_192 ?_
        refine R_iconst C (3) dL_law_193 (by decide) ?_
        refine R_iadd C dL_law_194 ?_
        refine R_ck (fun h11 => ?_)
        refine R_sld C hX h11 dL_law_195 ?_
        refine R_aload_n C 0 rfl dL_law_196 ?_
        refine R_iload_n C 3 rfl dL_law_197 ?_
        refine R_iconst C (4) dL_law_198 (by decide) ?_
        refine R_iadd C dL_law_199 ?_
        refine R_ck (fun h12 => ?_)
        refine R_sld C hX h12 dL_law_200 ?_
        refine R_aload_n C 0 rfl dL_law_201 ?_
        refine R_iload_n C 3 rfl dL_law_202 ?_
        refine R_iconst C (5) dL_law_203 (by decide) ?_
        refine R_iadd C dL_law_204 ?_
        refine R_ck (fun h13 => ?_)
        refine R_sld C hX h13 dL_law_205 ?_
        refine R_bd (fun r16 s14 q15 => ?_)
        refine R_callVi [.int (xs (v1 + (1 : Int32)).toNatClampNeg), .int (xs (v1 + (2 : Int32)).toNatClampNeg), .int (xs (v1 + (3 : Int32)).toNatClampNeg), .int (xs (v1 + (4 : Int32)).toNatClampNeg), .int (xs (v1 + (5 : Int32)).toNatClampNeg)] [] C mlL_13 (kX6_feed q15) (by rw [hR]; exact ⟨rfl, rfl, Nat.le_of_ble_eq_true rfl, Nat.le_of_ble_eq_true rfl, hu.1, hu.2⟩) ha1 rfl rfl (Nat.le_of_ble_eq_true rfl) dL_law_206 ?_
        refine R_aload_n C 2 rfl dL_law_209 ?_
        refine R_aload_n C 0 rfl dL_law_210 ?_
        refine R_iload_n C 3 rfl dL_law_211 ?_
        refine R_iconst C (1) dL_law_212 (by decide) ?_
        refine R_iadd C dL_law_213 ?_
        refine R_ck (fun h17 => ?_)
        refine R_sld C hX h17 dL_law_214 ?_
        refine R_aload_n C 0 rfl dL_law_215 ?_
        refine R_iload_n C 3 rfl dL_law_216 ?_
        refine R_iconst C (2) dL_law_217 (by decide) ?_
        refine R_iadd C dL_law_218 ?_
        refine R_ck (fun h18 => ?_)
        refine R_sld C hX h18 dL_law_219 ?_
        refine R_aload_n C 0 rfl dL_law_220 ?_
        refine R_iload_n C 3 rfl dL_law_221 ?_
        refine R_iconst C (3) dL_law_222 (by decide) ?_
        refine R_iadd C dL_law_223 ?_
        refine R_ck (fun h19 => ?_)
        refine R_sld C hX h19 dL_law_224 ?_
        refine R_aload_n C 0 rfl dL_law_225 ?_
        refine R_iload_n C 3 rfl dL_law_226 ?_
        refine R_iconst C (4) dL_law_227 (by decide) ?_
        refine R_iadd C dL_law_228 ?_
        refine R_ck (fun h20 => ?_)
        refine R_sld C hX h20 dL_law_229 ?_
        refine R_aload_n C 0 rfl dL_law_230 ?_
        refine R_iload_n C 3 rfl dL_law_231 ?_
        refine R_iconst C (5) dL_law_232 (by decide) ?_
        refine R_iadd C dL_law_233 ?_
        refine R_ck (fun h21 => ?_)
        refine R_sld C hX h21 dL_law_234 ?_
        refine R_bd (fun r24 s22 q23 => ?_)
        refine R_callVi [.int (xs (v1 + (1 : Int32)).toNatClampNeg), .int (xs (v1 + (2 : Int32)).toNatClampNeg), .int (xs (v1 + (3 : Int32)).toNatClampNeg), .int (xs (v1 + (4 : Int32)).toNatClampNeg), .int (xs (v1 + (5 : Int32)).toNatClampNeg)] [.int r16] C mlL_17 (kX7_feed q23) (by rw [hR]; exact ⟨rfl, rfl, Nat.le_of_ble_eq_true rfl, Nat.le_of_ble_eq_true rfl, hu.1, hu.2⟩) ha2 rfl rfl (Nat.le_of_ble_eq_true rfl) dL_law_235 ?_
        refine B_icmp_eq C dL_law_238 ?_ ?_
        · refine S_iinc (fun v25 => [(3, .int v25), (0, .ref b), (1, .ref (G.1 + a1)), (2, .ref (G.1 + a2))]) 3 C dL_law_1009 rfl (by decide) (by decide) (fun _ => rfl) (fun v25 => ?_)
          refine R_goto C dL_law_1012 ?_
          refine R_loc (lv2 := [(0, .ref b), (1, .ref (G.1 + a1)), (2, .ref (G.1 + a2)), (3, .int v25)]) [1, 2, 3, 0] rfl ?_
          exact I6 (v25, s22) b4 s5 K3
        · refine R_iconst C (0) dL_law_241 (by decide) ?_
          exact R_inr (VX := (fun (o : ((Int32) ⊕ Int32)) (s : Sg) => sm o (fun o => V κ G (lw_Z (kB κ) (kA κ) (kS κ)) E s (false, u) 1015 [] []) (fun rr => some (rr, s) = some (1, σ')))) (i := .inr) K3 (R_law C hr hA hR hu hGs dL_law_242)
      refine R_if (fun h26 => ?_) (fun h26 => ?_)
      · refine R_tsIn (off := 210) (t := 243) C dL_law_33 h26 (by decide) ?_
        refine R_aload_n C 1 rfl dL_law_243 ?_
        refine R_aload_n C 0 rfl dL_law_244 ?_
        refine R_iload_n C 3 rfl dL_law_245 ?_
        refine R_iconst C (1) dL_law_246 (by decide) ?_
        refine R_iadd C dL_law_247 ?_
        refine R_ck (fun h27 => ?_)
        refine R_sld C hX h27 dL_law_248 ?_
        refine R_bd (fun r30 s28 q29 => ?_)
        refine R_callVi [.int (xs (v1 + (1 : Int32)).toNatClampNeg)] [] C mlL_18 (kX6_end q29) (by rw [hR]; exact ⟨rfl, rfl, Nat.le_of_ble_eq_true rfl, Nat.le_of_ble_eq_true rfl, hu.1, hu.2⟩) ha1 rfl rfl (Nat.le_of_ble_eq_true rfl) dL_law_249 ?_
        refine R_aload_n C 2 rfl dL_law_252 ?_
        refine R_aload_n C 0 rfl dL_law_253 ?_
        refine R_iload_n C 3 rfl dL_law_254 ?_
        refine R_iconst C (1) dL_law_255 (by decide) ?_
        refine R_iadd C dL_law_256 ?_
        refine R_ck (fun h31 => ?_)
        refine R_sld C hX h31 dL_law_257 ?_
        refine R_bd (fun r34 s32 q33 => ?_)
        refine R_callVi [.int (xs (v1 + (1 : Int32)).toNatClampNeg)] [.int r30] C mlL_22 (kX7_end q33) (by rw [hR]; exact ⟨rfl, rfl, Nat.le_of_ble_eq_true rfl, Nat.le_of_ble_eq_true rfl, hu.1, hu.2⟩) ha2 rfl rfl (Nat.le_of_ble_eq_true rfl) dL_law_258 ?_
        refine B_icmp_eq C dL_law_261 ?_ ?_
        · refine S_iinc (fun v35 => [(3, .int v35), (0, .ref b), (1, .ref (G.1 + a1)), (2, .ref (G.1 + a2))]) 3 C dL_law_1009 rfl (by decide) (by decide) (fun _ => rfl) (fun v35 => ?_)
          refine R_goto C dL_law_1012 ?_
          refine R_loc (lv2 := [(0, .ref b), (1, .ref (G.1 + a1)), (2, .ref (G.1 + a2)), (3, .int v35)]) [1, 2, 3, 0] rfl ?_
          exact I6 (v35, s32) b4 s5 K3
        · refine R_iconst C (0) dL_law_264 (by decide) ?_
          exact R_inr (VX := (fun (o : ((Int32) ⊕ Int32)) (s : Sg) => sm o (fun o => V κ G (lw_Z (kB κ) (kA κ) (kS κ)) E s (false, u) 1015 [] []) (fun rr => some (rr, s) = some (1, σ')))) (i := .inr) K3 (R_law C hr hA hR hu hGs dL_law_265)
      refine R_if (fun h36 => ?_) (fun h36 => ?_)
      · refine R_tsIn (off := 233) (t := 266) C dL_law_33 h36 (by decide) ?_
        refine R_aload_n C 1 rfl dL_law_266 ?_
        refine R_bd (fun r39 s37 q38 => ?_)
        refine R_callVi [] [] C mlL_23 (kX6_tell q38) (by rw [hR]; exact ⟨rfl, rfl, Nat.le_of_ble_eq_true rfl, Nat.le_of_ble_eq_true rfl, hu.1, hu.2⟩) ha1 rfl rfl (Nat.le_of_ble_eq_true rfl) dL_law_267 ?_
        refine R_aload_n C 2 rfl dL_law_270 ?_
        refine R_bd (fun r42 s40 q41 => ?_)
        refine R_callVi [] [.int r39] C mlL_27 (kX7_tell q41) (by rw [hR]; exact ⟨rfl, rfl, Nat.le_of_ble_eq_true rfl, Nat.le_of_ble_eq_true rfl, hu.1, hu.2⟩) ha2 rfl rfl (Nat.le_of_ble_eq_true rfl) dL_law_271 ?_
        refine B_icmp_eq C dL_law_274 ?_ ?_
        · refine S_iinc (fun v43 => [(3, .int v43), (0, .ref b), (1, .ref (G.1 + a1)), (2, .ref (G.1 + a2))]) 3 C dL_law_1009 rfl (by decide) (by decide) (fun _ => rfl) (fun v43 => ?_)
          refine R_goto C dL_law_1012 ?_
          refine R_loc (lv2 := [(0, .ref b), (1, .ref (G.1 + a1)), (2, .ref (G.1 + a2)), (3, .int v43)]) [1, 2, 3, 0] rfl ?_
          exact I6 (v43, s40) b4 s5 K3
        · refine R_iconst C (0) dL_law_277 (by decide) ?_
          exact R_inr (VX := (fun (o : ((Int32) ⊕ Int32)) (s : Sg) => sm o (fun o => V κ G (lw_Z (kB κ) (kA κ) (kS κ)) E s (false, u) 1015 [] []) (fun rr => some (rr, s) = some (1, σ')))) (i := .inr) K3 (R_law C hr hA hR hu hGs dL_law_278)
      refine R_if (fun h44 => ?_) (fun h44 => ?_)
      · refine R_tsIn (off := 246) (t := 279) C dL_law_33 h44 (by decide) ?_
        refine R_aload_n C 1 rfl dL_law_279 ?_
        refine R_aload_n C 0 rfl dL_law_280 ?_
        refine R_iload_n C 3 rfl dL_law_281 ?_
        refine R_iconst C (1) dL_law_282 (by decide) ?_
        refine R_iadd C dL_law_283 ?_
        refine R_ck (fun h45 => ?_)
        refine R_sld C hX h45 dL_law_284 ?_
        refine R_aload_n C 0 rfl dL_law_285 ?_
        refine R_iload_n C 3 rfl dL_law_286 ?_
        refine R_iconst C (2) dL_law_287 (by decide) ?_
        refine R_iadd C dL_law_288 ?_
        refine R_ck (fun h46 => ?_)
        refine R_sld C hX h46 dL_law_289 ?_
        refine R_bd (fun r49 s47 q48 => ?_)
        refine R_callVi [.int (xs (v1 + (1 : Int32)).toNatClampNeg), .int (xs (v1 + (2 : Int32)).toNatClampNeg)] [] C mlL_28 (kX6_drawn q48) (by rw [hR]; exact ⟨rfl, rfl, Nat.le_of_ble_eq_true rfl, Nat.le_of_ble_eq_true rfl, hu.1, hu.2⟩) ha1 rfl rfl (Nat.le_of_ble_eq_true rfl) dL_law_290 ?_
        refine R_aload_n C 2 rfl dL_law_293 ?_
        refine R_aload_n C 0 rfl dL_law_294 ?_
        refine R_iload_n C 3 rfl dL_law_295 ?_
        refine R_iconst C (1) dL_law_296 (by decide) ?_
        refine R_iadd C dL_law_297 ?_
        refine R_ck (fun h50 => ?_)
        refine R_sld C hX h50 dL_law_298 ?_
        refine R_aload_n C 0 rfl dL_law_299 ?_
        refine R_iload_n C 3 rfl dL_law_300 ?_
        refine R_iconst C (2) dL_law_301 (by decide) ?_
        refine R_iadd C dL_law_302 ?_
        refine R_ck (fun h51 => ?_)
        refine R_sld C hX h51 dL_law_303 ?_
        refine R_bd (fun r54 s52 q53 => ?_)
        refine R_callVi [.int (xs (v1 + (1 : Int32)).toNatClampNeg), .int (xs (v1 + (2 : Int32)).toNatClampNeg)] [.int r49] C mlL_32 (kX7_drawn q53) (by rw [hR]; exact ⟨rfl, rfl, Nat.le_of_ble_eq_true rfl, Nat.le_of_ble_eq_true rfl, hu.1, hu.2⟩) ha2 rfl rfl (Nat.le_of_ble_eq_true rfl) dL_law_304 ?_
        refine B_icmp_eq C dL_law_307 ?_ ?_
        · refine S_iinc (fun v55 => [(3, .int v55), (0, .ref b), (1, .ref (G.1 + a1)), (2, .ref (G.1 + a2))]) 3 C dL_law_1009 rfl (by decide) (by decide) (fun _ => rfl) (fun v55 => ?_)
          refine R_goto C dL_law_1012 ?_
          refine R_loc (lv2 := [(0, .ref b), (1, .ref (G.1 + a1)), (2, .ref (G.1 + a2)), (3, .int v55)]) [1, 2, 3, 0] rfl ?_
          exact I6 (v55, s52) b4 s5 K3
        · refine R_iconst C (0) dL_law_310 (by decide) ?_
          exact R_inr (VX := (fun (o : ((Int32) ⊕ Int32)) (s : Sg) => sm o (fun o => V κ G (lw_Z (kB κ) (kA κ) (kS κ)) E s (false, u) 1015 [] []) (fun rr => some (rr, s) = some (1, σ')))) (i := .inr) K3 (R_law C hr hA hR hu hGs dL_law_311)
      refine R_if (fun h56 => ?_) (fun h56 => ?_)
      · refine R_tsIn (off := 279) (t := 312) C dL_law_33 h56 (by decide) ?_
        refine R_aload_n C 1 rfl dL_law_312 ?_
        refine R_aload_n C 0 rfl dL_law_313 ?_
        refine R_iload_n C 3 rfl dL_law_314 ?_
        refine R_iconst C (1) dL_law_315 (by decide) ?_
        refine R_iadd C dL_law_316 ?_
        refine R_ck (fun h57 => ?_)
        refine R_sld C hX h57 dL_law_317 ?_
        refine R_bd (fun r60 s58 q59 => ?_)
        refine R_callVi [.int (xs (v1 + (1 : Int32)).toNatClampNeg)] [] C mlL_33 (kX6_draws q59) (by rw [hR]; exact ⟨rfl, rfl, Nat.le_of_ble_eq_true rfl, Nat.le_of_ble_eq_true rfl, hu.1, hu.2⟩) ha1 rfl rfl (Nat.le_of_ble_eq_true rfl) dL_law_318 ?_
        refine R_aload_n C 2 rfl dL_law_321 ?_
        refine R_aload_n C 0 rfl dL_law_322 ?_
        refine R_iload_n C 3 rfl dL_law_323 ?_
        refine R_iconst C (1) dL_law_324 (by decide) ?_
        refine R_iadd C dL_law_325 ?_
        refine R_ck (fun h61 => ?_)
        refine R_sld C hX h61 dL_law_326 ?_
        refine R_bd (fun r64 s62 q63 => ?_)
        refine R_callVi [.int (xs (v1 + (1 : Int32)).toNatClampNeg)] [.int r60] C mlL_36 (kX7_draws q63) (by rw [hR]; exact ⟨rfl, rfl, Nat.le_of_ble_eq_true rfl, Nat.le_of_ble_eq_true rfl, hu.1, hu.2⟩) ha2 rfl rfl (Nat.le_of_ble_eq_true rfl) dL_law_327 ?_
        refine B_icmp_eq C dL_law_330 ?_ ?_
        · refine S_iinc (fun v65 => [(3, .int v65), (0, .ref b), (1, .ref (G.1 + a1)), (2, .ref (G.1 + a2))]) 3 C dL_law_1009 rfl (by decide) (by decide) (fun _ => rfl) (fun v65 => ?_)
          refine R_goto C dL_law_1012 ?_
          refine R_loc (lv2 := [(0, .ref b), (1, .ref (G.1 + a1)), (2, .ref (G.1 + a2)), (3, .int v65)]) [1, 2, 3, 0] rfl ?_
          exact I6 (v65, s62) b4 s5 K3
        · refine R_iconst C (0) dL_law_333 (by decide) ?_
          exact R_inr (VX := (fun (o : ((Int32) ⊕ Int32)) (s : Sg) => sm o (fun o => V κ G (lw_Z (kB κ) (kA κ) (kS κ)) E s (false, u) 1015 [] []) (fun rr => some (rr, s) = some (1, σ')))) (i := .inr) K3 (R_law C hr hA hR hu hGs dL_law_334)
      refine R_if (fun h66 => ?_) (fun h66 => ?_)
      · refine R_tsIn (off := 302) (t := 335) C dL_law_33 h66 (by decide) ?_
        refine R_aload_n C 1 rfl dL_law_335 ?_
        refine R_bd (fun r69 s67 q68 => ?_)
        refine R_callVi [] [] C mlL_37 (kX6_clear q68) (by rw [hR]; exact ⟨rfl, rfl, Nat.le_of_ble_eq_true rfl, Nat.le_of_ble_eq_true rfl, hu.1, hu.2⟩) ha1 rfl rfl (Nat.le_of_ble_eq_true rfl) dL_law_336 ?_
        refine R_aload_n C 2 rfl dL_law_339 ?_
        refine R_bd (fun r72 s70 q71 => ?_)
        refine R_callVi [] [.int r69] C mlL_40 (kX7_clear q71) (by rw [hR]; exact ⟨rfl, rfl, Nat.le_of_ble_eq_true rfl, Nat.le_of_ble_eq_true rfl, hu.1, hu.2⟩) ha2 rfl rfl (Nat.le_of_ble_eq_true rfl) dL_law_340 ?_
        refine B_icmp_eq C dL_law_343 ?_ ?_
        · refine S_iinc (fun v73 => [(3, .int v73), (0, .ref b), (1, .ref (G.1 + a1)), (2, .ref (G.1 + a2))]) 3 C dL_law_1009 rfl (by decide) (by decide) (fun _ => rfl) (fun v73 => ?_)
          refine R_goto C dL_law_1012 ?_
          refine R_loc (lv2 := [(0, .ref b), (1, .ref (G.1 + a1)), (2, .ref (G.1 + a2)), (3, .int v73)]) [1, 2, 3, 0] rfl ?_
          exact I6 (v73, s70) b4 s5 K3
        · refine R_iconst C (0) dL_law_346 (by decide) ?_
          exact R_inr (VX := (fun (o : ((Int32) ⊕ Int32)) (s : Sg) => sm o (fun o => V κ G (lw_Z (kB κ) (kA κ) (kS κ)) E s (false, u) 1015 [] []) (fun rr => some (rr, s) = some (1, σ')))) (i := .inr) K3 (R_law C hr hA hR hu hGs dL_law_347)
      refine R_if (fun h74 => ?_) (fun h74 => ?_)
      · refine R_tsIn (off := 315) (t := 348) C dL_law_33 h74 (by decide) ?_
        refine R_aload_n C 1 rfl dL_law_348 ?_
        refine R_aload_n C 0 rfl dL_law_349 ?_
        refine R_iload_n C 3 rfl dL_law_350 ?_
        refine R_iconst C (1) dL_law_351 (by decide) ?_
        refine R_iadd C dL_law_352 ?_
        refine R_ck (fun h75 => ?_)
        refine R_sld C hX h75 dL_law_353 ?_
        refine R_aload_n C 0 rfl dL_law_354 ?_
        refine R_iload_n C 3 rfl dL_law_355 ?_
        refine R_iconst C (2) dL_law_356 (by decide) ?_
        refine R_iadd C dL_law_357 ?_
        refine R_ck (fun h76 => ?_)
        refine R_sld C hX h76 dL_law_358 ?_
        refine R_bd (fun r79 s77 q78 => ?_)
        refine R_callVi [.int (xs (v1 + (1 : Int32)).toNatClampNeg), .int (xs (v1 + (2 : Int32)).toNatClampNeg)] [] C mlL_41 (kX6_settle q78) (by rw [hR]; exact ⟨rfl, rfl, Nat.le_of_ble_eq_true rfl, Nat.le_of_ble_eq_true rfl, hu.1, hu.2⟩) ha1 rfl rfl (Nat.le_of_ble_eq_true rfl) dL_law_359 ?_
        refine R_aload_n C 2 rfl dL_law_362 ?_
        refine R_aload_n C 0 rfl dL_law_363 ?_
        refine R_iload_n C 3 rfl dL_law_364 ?_
        refine R_iconst C (1) dL_law_365 (by decide) ?_
        refine R_iadd C dL_law_366 ?_
        refine R_ck (fun h80 => ?_)
        refine R_sld C hX h80 dL_law_367 ?_
        refine R_aload_n C 0 rfl dL_law_368 ?_
        refine R_iload_n C 3 rfl dL_law_369 ?_
        refine R_iconst C (2) dL_law_370 (by decide) ?_
        refine R_iadd C dL_law_371 ?_
        refine R_ck (fun h81 => ?_)
        refine R_sld C hX h81 dL_law_372 ?_
        refine R_bd (fun r84 s82 q83 => ?_)
        refine R_callVi [.int (xs (v1 + (1 : Int32)).toNatClampNeg), .int (xs (v1 + (2 : Int32)).toNatClampNeg)] [.int r79] C mlL_44 (kX7_settle q83) (by rw [hR]; exact ⟨rfl, rfl, Nat.le_of_ble_eq_true rfl, Nat.le_of_ble_eq_true rfl, hu.1, hu.2⟩) ha2 rfl rfl (Nat.le_of_ble_eq_true rfl) dL_law_373 ?_
        refine B_icmp_eq C dL_law_376 ?_ ?_
        · refine S_iinc (fun v85 => [(3, .int v85), (0, .ref b), (1, .ref (G.1 + a1)), (2, .ref (G.1 + a2))]) 3 C dL_law_1009 rfl (by decide) (by decide) (fun _ => rfl) (fun v85 => ?_)
          refine R_goto C dL_law_1012 ?_
          refine R_loc (lv2 := [(0, .ref b), (1, .ref (G.1 + a1)), (2, .ref (G.1 + a2)), (3, .int v85)]) [1, 2, 3, 0] rfl ?_
          exact I6 (v85, s82) b4 s5 K3
        · refine R_iconst C (0) dL_law_379 (by decide) ?_
          exact R_inr (VX := (fun (o : ((Int32) ⊕ Int32)) (s : Sg) => sm o (fun o => V κ G (lw_Z (kB κ) (kA κ) (kS κ)) E s (false, u) 1015 [] []) (fun rr => some (rr, s) = some (1, σ')))) (i := .inr) K3 (R_law C hr hA hR hu hGs dL_law_380)
      refine R_if (fun h86 => ?_) (fun h86 => ?_)
      · refine R_tsIn (off := 348) (t := 381) C dL_law_33 h86 (by decide) ?_
        refine R_aload_n C 1 rfl dL_law_381 ?_
        refine R_bd (fun r89 s87 q88 => ?_)
        refine R_callVi [] [] C mlL_45 (kX6_grow q88) (by rw [hR]; exact ⟨rfl, rfl, Nat.le_of_ble_eq_true rfl, Nat.le_of_ble_eq_true rfl, hu.1, hu.2⟩) ha1 rfl rfl (Nat.le_of_ble_eq_true rfl) dL_law_382 ?_
        refine R_aload_n C 2 rfl dL_law_385 ?_
        refine R_bd (fun r92 s90 q91 => ?_)
        refine R_callVi [] [.int r89] C mlL_48 (kX7_grow q91) (by rw [hR]; exact ⟨rfl, rfl, Nat.le_of_ble_eq_true rfl, Nat.le_of_ble_eq_true rfl, hu.1, hu.2⟩) ha2 rfl rfl (Nat.le_of_ble_eq_true rfl) dL_law_386 ?_
        refine B_icmp_eq C dL_law_389 ?_ ?_
        · refine S_iinc (fun v93 => [(3, .int v93), (0, .ref b), (1, .ref (G.1 + a1)), (2, .ref (G.1 + a2))]) 3 C dL_law_1009 rfl (by decide) (by decide) (fun _ => rfl) (fun v93 => ?_)
          refine R_goto C dL_law_1012 ?_
          refine R_loc (lv2 := [(0, .ref b), (1, .ref (G.1 + a1)), (2, .ref (G.1 + a2)), (3, .int v93)]) [1, 2, 3, 0] rfl ?_
          exact I6 (v93, s90) b4 s5 K3
        · refine R_iconst C (0) dL_law_392 (by decide) ?_
          exact R_inr (VX := (fun (o : ((Int32) ⊕ Int32)) (s : Sg) => sm o (fun o => V κ G (lw_Z (kB κ) (kA κ) (kS κ)) E s (false, u) 1015 [] []) (fun rr => some (rr, s) = some (1, σ')))) (i := .inr) K3 (R_law C hr hA hR hu hGs dL_law_393)
      refine R_if (fun h94 => ?_) (fun h94 => ?_)
      · refine R_tsIn (off := 361) (t := 394) C dL_law_33 h94 (by decide) ?_
        refine R_aload_n C 1 rfl dL_law_394 ?_
        refine R_bd (fun r97 s95 q96 => ?_)
        refine R_callVi [] [] C mlL_49 (kX6_spread q96) (by rw [hR]; exact ⟨rfl, rfl, Nat.le_of_ble_eq_true rfl, Nat.le_of_ble_eq_true rfl, hu.1, hu.2⟩) ha1 rfl rfl (Nat.le_of_ble_eq_true rfl) dL_law_395 ?_
        refine R_aload_n C 2 rfl dL_law_398 ?_
        refine R_bd (fun r100 s98 q99 => ?_)
        refine R_callVi [] [.int r97] C mlL_52 (kX7_spread q99) (by rw [hR]; exact ⟨rfl, rfl, Nat.le_of_ble_eq_true rfl, Nat.le_of_ble_eq_true rfl, hu.1, hu.2⟩) ha2 rfl rfl (Nat.le_of_ble_eq_true rfl) dL_law_399 ?_
        refine B_icmp_eq C dL_law_402 ?_ ?_
        · refine S_iinc (fun v101 => [(3, .int v101), (0, .ref b), (1, .ref (G.1 + a1)), (2, .ref (G.1 + a2))]) 3 C dL_law_1009 rfl (by decide) (by decide) (fun _ => rfl) (fun v101 => ?_)
          refine R_goto C dL_law_1012 ?_
          refine R_loc (lv2 := [(0, .ref b), (1, .ref (G.1 + a1)), (2, .ref (G.1 + a2)), (3, .int v101)]) [1, 2, 3, 0] rfl ?_
          exact I6 (v101, s98) b4 s5 K3
        · refine R_iconst C (0) dL_law_405 (by decide) ?_
          exact R_inr (VX := (fun (o : ((Int32) ⊕ Int32)) (s : Sg) => sm o (fun o => V κ G (lw_Z (kB κ) (kA κ) (kS κ)) E s (false, u) 1015 [] []) (fun rr => some (rr, s) = some (1, σ')))) (i := .inr) K3 (R_law C hr hA hR hu hGs dL_law_406)
      refine R_if (fun h102 => ?_) (fun h102 => ?_)
      · refine R_tsIn (off := 374) (t := 407) C dL_law_33 h102 (by decide) ?_
        refine R_aload_n C 1 rfl dL_law_407 ?_
        refine R_bd (fun r105 s103 q104 => ?_)
        refine R_callVi [] [] C mlL_53 (kX6_step q104) (by rw [hR]; exact ⟨rfl, rfl, Nat.le_of_ble_eq_true rfl, Nat.le_of_ble_eq_true rfl, hu.1, hu.2⟩) ha1 rfl rfl (Nat.le_of_ble_eq_true rfl) dL_law_408 ?_
        refine R_aload_n C 2 rfl dL_law_411 ?_
        refine R_bd (fun r108 s106 q107 => ?_)
        refine R_callVi [] [.int r105] C mlL_56 (kX7_step q107) (by rw [hR]; exact ⟨rfl, rfl, Nat.le_of_ble_eq_true rfl, Nat.le_of_ble_eq_true rfl, hu.1, hu.2⟩) ha2 rfl rfl (Nat.le_of_ble_eq_true rfl) dL_law_412 ?_
        refine B_icmp_eq C dL_law_415 ?_ ?_
        · refine S_iinc (fun v109 => [(3, .int v109), (0, .ref b), (1, .ref (G.1 + a1)), (2, .ref (G.1 + a2))]) 3 C dL_law_1009 rfl (by decide) (by decide) (fun _ => rfl) (fun v109 => ?_)
          refine R_goto C dL_law_1012 ?_
          refine R_loc (lv2 := [(0, .ref b), (1, .ref (G.1 + a1)), (2, .ref (G.1 + a2)), (3, .int v109)]) [1, 2, 3, 0] rfl ?_
          exact I6 (v109, s106) b4 s5 K3
        · refine R_iconst C (0) dL_law_418 (by decide) ?_
          exact R_inr (VX := (fun (o : ((Int32) ⊕ Int32)) (s : Sg) => sm o (fun o => V κ G (lw_Z (kB κ) (kA κ) (kS κ)) E s (false, u) 1015 [] []) (fun rr => some (rr, s) = some (1, σ')))) (i := .inr) K3 (R_law C hr hA hR hu hGs dL_law_419)
      refine R_if (fun h110 => ?_) (fun h110 => ?_)
      · refine R_tsIn (off := 387) (t := 420) C dL_law_33 h110 (by decide) ?_
        refine R_aload_n C 1 rfl dL_law_420 ?_
        refine R_bd (fun r113 s111 q112 => ?_)
        refine R_callVi [] [] C mlL_57 (kX6_phase q112) (by rw [hR]; exact ⟨rfl, rfl, Nat.le_of_ble_eq_true rfl, Nat.le_of_ble_eq_true rfl, hu.1, hu.2⟩) ha1 rfl rfl (Nat.le_of_ble_eq_true rfl) dL_law_421 ?_
        refine R_aload_n C 2 rfl dL_law_424 ?_
        refine R_bd (fun r116 s114 q115 => ?_)
        refine R_callVi [] [.int r113] C mlL_60 (kX7_phase q115) (by rw [hR]; exact ⟨rfl, rfl, Nat.le_of_ble_eq_true rfl, Nat.le_of_ble_eq_true rfl, hu.1, hu.2⟩) ha2 rfl rfl (Nat.le_of_ble_eq_true rfl) dL_law_425 ?_
        refine B_icmp_eq C dL_law_428 ?_ ?_
        · refine S_iinc (fun v117 => [(3, .int v117), (0, .ref b), (1, .ref (G.1 + a1)), (2, .ref (G.1 + a2))]) 3 C dL_law_1009 rfl (by decide) (by decide) (fun _ => rfl) (fun v117 => ?_)
          refine R_goto C dL_law_1012 ?_
          refine R_loc (lv2 := [(0, .ref b), (1, .ref (G.1 + a1)), (2, .ref (G.1 + a2)), (3, .int v117)]) [1, 2, 3, 0] rfl ?_
          exact I6 (v117, s114) b4 s5 K3
        · refine R_iconst C (0) dL_law_431 (by decide) ?_
          exact R_inr (VX := (fun (o : ((Int32) ⊕ Int32)) (s : Sg) => sm o (fun o => V κ G (lw_Z (kB κ) (kA κ) (kS κ)) E s (false, u) 1015 [] []) (fun rr => some (rr, s) = some (1, σ')))) (i := .inr) K3 (R_law C hr hA hR hu hGs dL_law_432)
      refine R_if (fun h118 => ?_) (fun h118 => ?_)
      · refine R_tsIn (off := 400) (t := 433) C dL_law_33 h118 (by decide) ?_
        refine R_aload_n C 1 rfl dL_law_433 ?_
        refine R_bd (fun r121 s119 q120 => ?_)
        refine R_callVi [] [] C mlL_61 (kX6_all q120) (by rw [hR]; exact ⟨rfl, rfl, Nat.le_of_ble_eq_true rfl, Nat.le_of_ble_eq_true rfl, hu.1, hu.2⟩) ha1 rfl rfl (Nat.le_of_ble_eq_true rfl) dL_law_434 ?_
        refine R_aload_n C 2 rfl dL_law_437 ?_
        refine R_bd (fun r124 s122 q123 => ?_)
        refine R_callVi [] [.int r121] C mlL_64 (kX7_all q123) (by rw [hR]; exact ⟨rfl, rfl, Nat.le_of_ble_eq_true rfl, Nat.le_of_ble_eq_true rfl, hu.1, hu.2⟩) ha2 rfl rfl (Nat.le_of_ble_eq_true rfl) dL_law_438 ?_
        refine B_icmp_eq C dL_law_441 ?_ ?_
        · refine S_iinc (fun v125 => [(3, .int v125), (0, .ref b), (1, .ref (G.1 + a1)), (2, .ref (G.1 + a2))]) 3 C dL_law_1009 rfl (by decide) (by decide) (fun _ => rfl) (fun v125 => ?_)
          refine R_goto C dL_law_1012 ?_
          refine R_loc (lv2 := [(0, .ref b), (1, .ref (G.1 + a1)), (2, .ref (G.1 + a2)), (3, .int v125)]) [1, 2, 3, 0] rfl ?_
          exact I6 (v125, s122) b4 s5 K3
        · refine R_iconst C (0) dL_law_444 (by decide) ?_
          exact R_inr (VX := (fun (o : ((Int32) ⊕ Int32)) (s : Sg) => sm o (fun o => V κ G (lw_Z (kB κ) (kA κ) (kS κ)) E s (false, u) 1015 [] []) (fun rr => some (rr, s) = some (1, σ')))) (i := .inr) K3 (R_law C hr hA hR hu hGs dL_law_445)
      refine R_if (fun h126 => ?_) (fun h126 => ?_)
      · refine R_tsIn (off := 413) (t := 446) C dL_law_33 h126 (by decide) ?_
        refine R_aload_n C 1 rfl dL_law_446 ?_
        refine R_aload_n C 0 rfl dL_law_447 ?_
        refine R_iload_n C 3 rfl dL_law_448 ?_
        refine R_iconst C (1) dL_law_449 (by decide) ?_
        refine R_iadd C dL_law_450 ?_
        refine R_ck (fun h127 => ?_)
        refine R_sld C hX h127 dL_law_451 ?_
        refine R_aload_n C 0 rfl dL_law_452 ?_
        refine R_iload_n C 3 rfl dL_law_453 ?_
        refine R_iconst C (2) dL_law_454 (by decide) ?_
        refine R_iadd C dL_law_455 ?_
        refine R_ck (fun h128 => ?_)
        refine R_sld C hX h128 dL_law_456 ?_
        refine R_bd (fun r131 s129 q130 => ?_)
        refine R_callVi [.int (xs (v1 + (1 : Int32)).toNatClampNeg), .int (xs (v1 + (2 : Int32)).toNatClampNeg)] [] C mlL_65 (kX6_record q130) (by rw [hR]; exact ⟨rfl, rfl, Nat.le_of_ble_eq_true rfl, Nat.le_of_ble_eq_true rfl, hu.1, hu.2⟩) ha1 rfl rfl (Nat.le_of_ble_eq_true rfl) dL_law_457 ?_
        refine R_aload_n C 2 rfl dL_law_460 ?_
        refine R_aload_n C 0 rfl dL_law_461 ?_
        refine R_iload_n C 3 rfl dL_law_462 ?_
        refine R_iconst C (1) dL_law_463 (by decide) ?_
        refine R_iadd C dL_law_464 ?_
        refine R_ck (fun h132 => ?_)
        refine R_sld C hX h132 dL_law_465 ?_
        refine R_aload_n C 0 rfl dL_law_466 ?_
        refine R_iload_n C 3 rfl dL_law_467 ?_
        refine R_iconst C (2) dL_law_468 (by decide) ?_
        refine R_iadd C dL_law_469 ?_
        refine R_ck (fun h133 => ?_)
        refine R_sld C hX h133 dL_law_470 ?_
        refine R_bd (fun r136 s134 q135 => ?_)
        refine R_callVi [.int (xs (v1 + (1 : Int32)).toNatClampNeg), .int (xs (v1 + (2 : Int32)).toNatClampNeg)] [.int r131] C mlL_68 (kX7_record q135) (by rw [hR]; exact ⟨rfl, rfl, Nat.le_of_ble_eq_true rfl, Nat.le_of_ble_eq_true rfl, hu.1, hu.2⟩) ha2 rfl rfl (Nat.le_of_ble_eq_true rfl) dL_law_471 ?_
        refine B_icmp_eq C dL_law_474 ?_ ?_
        · refine S_iinc (fun v137 => [(3, .int v137), (0, .ref b), (1, .ref (G.1 + a1)), (2, .ref (G.1 + a2))]) 3 C dL_law_1009 rfl (by decide) (by decide) (fun _ => rfl) (fun v137 => ?_)
          refine R_goto C dL_law_1012 ?_
          refine R_loc (lv2 := [(0, .ref b), (1, .ref (G.1 + a1)), (2, .ref (G.1 + a2)), (3, .int v137)]) [1, 2, 3, 0] rfl ?_
          exact I6 (v137, s134) b4 s5 K3
        · refine R_iconst C (0) dL_law_477 (by decide) ?_
          exact R_inr (VX := (fun (o : ((Int32) ⊕ Int32)) (s : Sg) => sm o (fun o => V κ G (lw_Z (kB κ) (kA κ) (kS κ)) E s (false, u) 1015 [] []) (fun rr => some (rr, s) = some (1, σ')))) (i := .inr) K3 (R_law C hr hA hR hu hGs dL_law_478)
      refine R_if (fun h138 => ?_) (fun h138 => ?_)
      · refine R_tsIn (off := 446) (t := 479) C dL_law_33 h138 (by decide) ?_
        refine R_aload_n C 1 rfl dL_law_479 ?_
        refine R_aload_n C 0 rfl dL_law_480 ?_
        refine R_iload_n C 3 rfl dL_law_481 ?_
        refine R_iconst C (1) dL_law_482 (by decide) ?_
        refine R_iadd C dL_law_483 ?_
        refine R_ck (fun h139 => ?_)
        refine R_sld C hX h139 dL_law_484 ?_
        refine R_aload_n C 0 rfl dL_law_485 ?_
        refine R_iload_n C 3 rfl dL_law_486 ?_
        refine R_iconst C (2) dL_law_487 (by decide) ?_
        refine R_iadd C dL_law_488 ?_
        refine R_ck (fun h140 => ?_)
        refine R_sld C hX h140 dL_law_489 ?_
        refine R_bd (fun r143 s141 q142 => ?_)
        refine R_callVi [.int (xs (v1 + (1 : Int32)).toNatClampNeg), .int (xs (v1 + (2 : Int32)).toNatClampNeg)] [] C mlL_69 (kX6_run q142) (by rw [hR]; exact ⟨rfl, rfl, Nat.le_of_ble_eq_true rfl, Nat.le_of_ble_eq_true rfl, hu.1, hu.2⟩) ha1 rfl rfl (Nat.le_of_ble_eq_true rfl) dL_law_490 ?_
        refine R_aload_n C 2 rfl dL_law_493 ?_
        refine R_aload_n C 0 rfl dL_law_494 ?_
        refine R_iload_n C 3 rfl dL_law_495 ?_
        refine R_iconst C (1) dL_law_496 (by decide) ?_
        refine R_iadd C dL_law_497 ?_
        refine R_ck (fun h144 => ?_)
        refine R_sld C hX h144 dL_law_498 ?_
        refine R_aload_n C 0 rfl dL_law_499 ?_
        refine R_iload_n C 3 rfl dL_law_500 ?_
        refine R_iconst C (2) dL_law_501 (by decide) ?_
        refine R_iadd C dL_law_502 ?_
        refine R_ck (fun h145 => ?_)
        refine R_sld C hX h145 dL_law_503 ?_
        refine R_bd (fun r148 s146 q147 => ?_)
        refine R_callVi [.int (xs (v1 + (1 : Int32)).toNatClampNeg), .int (xs (v1 + (2 : Int32)).toNatClampNeg)] [.int r143] C mlL_72 (kX7_run q147) (by rw [hR]; exact ⟨rfl, rfl, Nat.le_of_ble_eq_true rfl, Nat.le_of_ble_eq_true rfl, hu.1, hu.2⟩) ha2 rfl rfl (Nat.le_of_ble_eq_true rfl) dL_law_504 ?_
        refine B_icmp_eq C dL_law_507 ?_ ?_
        · refine S_iinc (fun v149 => [(3, .int v149), (0, .ref b), (1, .ref (G.1 + a1)), (2, .ref (G.1 + a2))]) 3 C dL_law_1009 rfl (by decide) (by decide) (fun _ => rfl) (fun v149 => ?_)
          refine R_goto C dL_law_1012 ?_
          refine R_loc (lv2 := [(0, .ref b), (1, .ref (G.1 + a1)), (2, .ref (G.1 + a2)), (3, .int v149)]) [1, 2, 3, 0] rfl ?_
          exact I6 (v149, s146) b4 s5 K3
        · refine R_iconst C (0) dL_law_510 (by decide) ?_
          exact R_inr (VX := (fun (o : ((Int32) ⊕ Int32)) (s : Sg) => sm o (fun o => V κ G (lw_Z (kB κ) (kA κ) (kS κ)) E s (false, u) 1015 [] []) (fun rr => some (rr, s) = some (1, σ')))) (i := .inr) K3 (R_law C hr hA hR hu hGs dL_law_511)
      refine R_if (fun h150 => ?_) (fun h150 => ?_)
      · refine R_tsIn (off := 479) (t := 512) C dL_law_33 h150 (by decide) ?_
        refine R_aload_n C 1 rfl dL_law_512 ?_
        refine R_aload_n C 0 rfl dL_law_513 ?_
        refine R_iload_n C 3 rfl dL_law_514 ?_
        refine R_iconst C (1) dL_law_515 (by decide) ?_
        refine R_iadd C dL_law_516 ?_
        refine R_ck (fun h151 => ?_)
        refine R_sld C hX h151 dL_law_517 ?_
        refine R_aload_n C 0 rfl dL_law_518 ?_
        refine R_iload_n C 3 rfl dL_law_519 ?_
        refine R_iconst C (2) dL_law_520 (by decide) ?_
        refine R_iadd C dL_law_521 ?_
        refine R_ck (fun h152 => ?_)
        refine R_sld C hX h152 dL_law_522 ?_
        refine R_bd (fun r155 s153 q154 => ?_)
        refine R_callVi [.int (xs (v1 + (1 : Int32)).toNatClampNeg), .int (xs (v1 + (2 : Int32)).toNatClampNeg)] [] C mlL_73 (kX6_tape q154) (by rw [hR]; exact ⟨rfl, rfl, Nat.le_of_ble_eq_true rfl, Nat.le_of_ble_eq_true rfl, hu.1, hu.2⟩) ha1 rfl rfl (Nat.le_of_ble_eq_true rfl) dL_law_523 ?_
        refine R_aload_n C 2 rfl dL_law_526 ?_
        refine R_aload_n C 0 rfl dL_law_527 ?_
        refine R_iload_n C 3 rfl dL_law_528 ?_
        refine R_iconst C (1) dL_law_529 (by decide) ?_
        refine R_iadd C dL_law_530 ?_
        refine R_ck (fun h156 => ?_)
        refine R_sld C hX h156 dL_law_531 ?_
        refine R_aload_n C 0 rfl dL_law_532 ?_
        refine R_iload_n C 3 rfl dL_law_533 ?_
        refine R_iconst C (2) dL_law_534 (by decide) ?_
        refine R_iadd C dL_law_535 ?_
        refine R_ck (fun h157 => ?_)
        refine R_sld C hX h157 dL_law_536 ?_
        refine R_bd (fun r160 s158 q159 => ?_)
        refine R_callVi [.int (xs (v1 + (1 : Int32)).toNatClampNeg), .int (xs (v1 + (2 : Int32)).toNatClampNeg)] [.int r155] C mlL_76 (kX7_tape q159) (by rw [hR]; exact ⟨rfl, rfl, Nat.le_of_ble_eq_true rfl, Nat.le_of_ble_eq_true rfl, hu.1, hu.2⟩) ha2 rfl rfl (Nat.le_of_ble_eq_true rfl) dL_law_537 ?_
        refine B_icmp_eq C dL_law_540 ?_ ?_
        · refine S_iinc (fun v161 => [(3, .int v161), (0, .ref b), (1, .ref (G.1 + a1)), (2, .ref (G.1 + a2))]) 3 C dL_law_1009 rfl (by decide) (by decide) (fun _ => rfl) (fun v161 => ?_)
          refine R_goto C dL_law_1012 ?_
          refine R_loc (lv2 := [(0, .ref b), (1, .ref (G.1 + a1)), (2, .ref (G.1 + a2)), (3, .int v161)]) [1, 2, 3, 0] rfl ?_
          exact I6 (v161, s158) b4 s5 K3
        · refine R_iconst C (0) dL_law_543 (by decide) ?_
          exact R_inr (VX := (fun (o : ((Int32) ⊕ Int32)) (s : Sg) => sm o (fun o => V κ G (lw_Z (kB κ) (kA κ) (kS κ)) E s (false, u) 1015 [] []) (fun rr => some (rr, s) = some (1, σ')))) (i := .inr) K3 (R_law C hr hA hR hu hGs dL_law_544)
      refine R_if (fun h162 => ?_) (fun h162 => ?_)
      · refine R_tsIn (off := 512) (t := 545) C dL_law_33 h162 (by decide) ?_
        refine R_aload_n C 1 rfl dL_law_545 ?_
        refine R_aload_n C 0 rfl dL_law_546 ?_
        refine R_iload_n C 3 rfl dL_law_547 ?_
        refine R_iconst C (1) dL_law_548 (by decide) ?_
        refine R_iadd C dL_law_549 ?_
        refine R_ck (fun h163 => ?_)
        refine R_sld C hX h163 dL_law_550 ?_
        refine R_aload_n C 0 rfl dL_law_551 ?_
        refine R_iload_n C 3 rfl dL_law_552 ?_
        refine R_iconst C (2) dL_law_553 (by decide) ?_
        refine R_iadd C dL_law_554 ?_
        refine R_ck (fun h164 => ?_)
        refine R_sld C hX h164 dL_law_555 ?_
        refine R_aload_n C 0 rfl dL_law_556 ?_
        refine R_iload_n C 3 rfl dL_law_557 ?_
        refine R_iconst C (3) dL_law_558 (by decide) ?_
        refine R_iadd C dL_law_559 ?_
        refine R_ck (fun h165 => ?_)
        refine R_sld C hX h165 dL_law_560 ?_
        refine R_bd (fun r168 s166 q167 => ?_)
        refine R_callVi [.int (xs (v1 + (1 : Int32)).toNatClampNeg), .int (xs (v1 + (2 : Int32)).toNatClampNeg), .int (xs (v1 + (3 : Int32)).toNatClampNeg)] [] C mlL_77 (kX6_on q167) (by rw [hR]; exact ⟨rfl, rfl, Nat.le_of_ble_eq_true rfl, Nat.le_of_ble_eq_true rfl, hu.1, hu.2⟩) ha1 rfl rfl (Nat.le_of_ble_eq_true rfl) dL_law_561 ?_
        refine R_aload_n C 2 rfl dL_law_564 ?_
        refine R_aload_n C 0 rfl dL_law_565 ?_
        refine R_iload_n C 3 rfl dL_law_566 ?_
        refine R_iconst C (1) dL_law_567 (by decide) ?_
        refine R_iadd C dL_law_568 ?_
        refine R_ck (fun h169 => ?_)
        refine R_sld C hX h169 dL_law_569 ?_
        refine R_aload_n C 0 rfl dL_law_570 ?_
        refine R_iload_n C 3 rfl dL_law_571 ?_
        refine R_iconst C (2) dL_law_572 (by decide) ?_
        refine R_iadd C dL_law_573 ?_
        refine R_ck (fun h170 => ?_)
        refine R_sld C hX h170 dL_law_574 ?_
        refine R_aload_n C 0 rfl dL_law_575 ?_
        refine R_iload_n C 3 rfl dL_law_576 ?_
        refine R_iconst C (3) dL_law_577 (by decide) ?_
        refine R_iadd C dL_law_578 ?_
        refine R_ck (fun h171 => ?_)
        refine R_sld C hX h171 dL_law_579 ?_
        refine R_bd (fun r174 s172 q173 => ?_)
        refine R_callVi [.int (xs (v1 + (1 : Int32)).toNatClampNeg), .int (xs (v1 + (2 : Int32)).toNatClampNeg), .int (xs (v1 + (3 : Int32)).toNatClampNeg)] [.int r168] C mlL_81 (kX7_on q173) (by rw [hR]; exact ⟨rfl, rfl, Nat.le_of_ble_eq_true rfl, Nat.le_of_ble_eq_true rfl, hu.1, hu.2⟩) ha2 rfl rfl (Nat.le_of_ble_eq_true rfl) dL_law_580 ?_
        refine B_icmp_eq C dL_law_583 ?_ ?_
        · refine S_iinc (fun v175 => [(3, .int v175), (0, .ref b), (1, .ref (G.1 + a1)), (2, .ref (G.1 + a2))]) 3 C dL_law_1009 rfl (by decide) (by decide) (fun _ => rfl) (fun v175 => ?_)
          refine R_goto C dL_law_1012 ?_
          refine R_loc (lv2 := [(0, .ref b), (1, .ref (G.1 + a1)), (2, .ref (G.1 + a2)), (3, .int v175)]) [1, 2, 3, 0] rfl ?_
          exact I6 (v175, s172) b4 s5 K3
        · refine R_iconst C (0) dL_law_586 (by decide) ?_
          exact R_inr (VX := (fun (o : ((Int32) ⊕ Int32)) (s : Sg) => sm o (fun o => V κ G (lw_Z (kB κ) (kA κ) (kS κ)) E s (false, u) 1015 [] []) (fun rr => some (rr, s) = some (1, σ')))) (i := .inr) K3 (R_law C hr hA hR hu hGs dL_law_587)
      refine R_if (fun h176 => ?_) (fun h176 => ?_)
      · refine R_tsIn (off := 555) (t := 588) C dL_law_33 h176 (by decide) ?_
        refine R_aload_n C 1 rfl dL_law_588 ?_
        refine R_aload_n C 0 rfl dL_law_589 ?_
        refine R_iload_n C 3 rfl dL_law_590 ?_
        refine R_iconst C (1) dL_law_591 (by decide) ?_
        refine R_iadd C dL_law_592 ?_
        refine R_ck (fun h177 => ?_)
        refine R_sld C hX h177 dL_law_593 ?_
        refine R_bd (fun r180 s178 q179 => ?_)
        refine R_callVi [.int (xs (v1 + (1 : Int32)).toNatClampNeg)] [] C mlL_82 (kX6_sorted q179) (by rw [hR]; exact ⟨rfl, rfl, Nat.le_of_ble_eq_true rfl, Nat.le_of_ble_eq_true rfl, hu.1, hu.2⟩) ha1 rfl rfl (Nat.le_of_ble_eq_true rfl) dL_law_594 ?_
        refine R_aload_n C 2 rfl dL_law_597 ?_
        refine R_aload_n C 0 rfl dL_law_598 ?_
        refine R_iload_n C 3 rfl dL_law_599 ?_
        refine R_iconst C (1) dL_law_600 (by decide) ?_
        refine R_iadd C dL_law_601 ?_
        refine R_ck (fun h181 => ?_)
        refine R_sld C hX h181 dL_law_602 ?_
        refine R_bd (fun r184 s182 q183 => ?_)
        refine R_callVi [.int (xs (v1 + (1 : Int32)).toNatClampNeg)] [.int r180] C mlL_85 (kX7_sorted q183) (by rw [hR]; exact ⟨rfl, rfl, Nat.le_of_ble_eq_true rfl, Nat.le_of_ble_eq_true rfl, hu.1, hu.2⟩) ha2 rfl rfl (Nat.le_of_ble_eq_true rfl) dL_law_603 ?_
        refine B_icmp_eq C dL_law_606 ?_ ?_
        · refine S_iinc (fun v185 => [(3, .int v185), (0, .ref b), (1, .ref (G.1 + a1)), (2, .ref (G.1 + a2))]) 3 C dL_law_1009 rfl (by decide) (by decide) (fun _ => rfl) (fun v185 => ?_)
          refine R_goto C dL_law_1012 ?_
          refine R_loc (lv2 := [(0, .ref b), (1, .ref (G.1 + a1)), (2, .ref (G.1 + a2)), (3, .int v185)]) [1, 2, 3, 0] rfl ?_
          exact I6 (v185, s182) b4 s5 K3
        · refine R_iconst C (0) dL_law_609 (by decide) ?_
          exact R_inr (VX := (fun (o : ((Int32) ⊕ Int32)) (s : Sg) => sm o (fun o => V κ G (lw_Z (kB κ) (kA κ) (kS κ)) E s (false, u) 1015 [] []) (fun rr => some (rr, s) = some (1, σ')))) (i := .inr) K3 (R_law C hr hA hR hu hGs dL_law_610)
      refine R_if (fun h186 => ?_) (fun h186 => ?_)
      · refine R_tsIn (off := 578) (t := 611) C dL_law_33 h186 (by decide) ?_
        refine R_aload_n C 1 rfl dL_law_611 ?_
        refine R_aload_n C 0 rfl dL_law_612 ?_
        refine R_iload_n C 3 rfl dL_law_613 ?_
        refine R_iconst C (1) dL_law_614 (by decide) ?_
        refine R_iadd C dL_law_615 ?_
        refine R_ck (fun h187 => ?_)
        refine R_sld C hX h187 dL_law_616 ?_
        refine R_aload_n C 0 rfl dL_law_617 ?_
        refine R_iload_n C 3 rfl dL_law_618 ?_
        refine R_iconst C (2) dL_law_619 (by decide) ?_
        refine R_iadd C dL_law_620 ?_
        refine R_ck (fun h188 => ?_)
        refine R_sld C hX h188 dL_law_621 ?_
        refine R_bd (fun r191 s189 q190 => ?_)
        refine R_callVi [.int (xs (v1 + (1 : Int32)).toNatClampNeg), .int (xs (v1 + (2 : Int32)).toNatClampNeg)] [] C mlL_86 (kX6_perfect q190) (by rw [hR]; exact ⟨rfl, rfl, Nat.le_of_ble_eq_true rfl, Nat.le_of_ble_eq_true rfl, hu.1, hu.2⟩) ha1 rfl rfl (Nat.le_of_ble_eq_true rfl) dL_law_622 ?_
        refine R_aload_n C 2 rfl dL_law_625 ?_
        refine R_aload_n C 0 rfl dL_law_626 ?_
        refine R_iload_n C 3 rfl dL_law_627 ?_
        refine R_iconst C (1) dL_law_628 (by decide) ?_
        refine R_iadd C dL_law_629 ?_
        refine R_ck (fun h192 => ?_)
        refine R_sld C hX h192 dL_law_630 ?_
        refine R_aload_n C 0 rfl dL_law_631 ?_
        refine R_iload_n C 3 rfl dL_law_632 ?_
        refine R_iconst C (2) dL_law_633 (by decide) ?_
        refine R_iadd C dL_law_634 ?_
        refine R_ck (fun h193 => ?_)
        refine R_sld C hX h193 dL_law_635 ?_
        refine R_bd (fun r196 s194 q195 => ?_)
        refine R_callVi [.int (xs (v1 + (1 : Int32)).toNatClampNeg), .int (xs (v1 + (2 : Int32)).toNatClampNeg)] [.int r191] C mlL_89 (kX7_perfect q195) (by rw [hR]; exact ⟨rfl, rfl, Nat.le_of_ble_eq_true rfl, Nat.le_of_ble_eq_true rfl, hu.1, hu.2⟩) ha2 rfl rfl (Nat.le_of_ble_eq_true rfl) dL_law_636 ?_
        refine B_icmp_eq C dL_law_639 ?_ ?_
        · refine S_iinc (fun v197 => [(3, .int v197), (0, .ref b), (1, .ref (G.1 + a1)), (2, .ref (G.1 + a2))]) 3 C dL_law_1009 rfl (by decide) (by decide) (fun _ => rfl) (fun v197 => ?_)
          refine R_goto C dL_law_1012 ?_
          refine R_loc (lv2 := [(0, .ref b), (1, .ref (G.1 + a1)), (2, .ref (G.1 + a2)), (3, .int v197)]) [1, 2, 3, 0] rfl ?_
          exact I6 (v197, s194) b4 s5 K3
        · refine R_iconst C (0) dL_law_642 (by decide) ?_
          exact R_inr (VX := (fun (o : ((Int32) ⊕ Int32)) (s : Sg) => sm o (fun o => V κ G (lw_Z (kB κ) (kA κ) (kS κ)) E s (false, u) 1015 [] []) (fun rr => some (rr, s) = some (1, σ')))) (i := .inr) K3 (R_law C hr hA hR hu hGs dL_law_643)
      refine R_if (fun h198 => ?_) (fun h198 => ?_)
      · refine R_tsIn (off := 611) (t := 644) C dL_law_33 h198 (by decide) ?_
        refine R_aload_n C 1 rfl dL_law_644 ?_
        refine R_aload_n C 0 rfl dL_law_645 ?_
        refine R_iload_n C 3 rfl dL_law_646 ?_
        refine R_iconst C (1) dL_law_647 (by decide) ?_
        refine R_iadd C dL_law_648 ?_
        refine R_ck (fun h199 => ?_)
        refine R_sld C hX h199 dL_law_649 ?_
        refine R_bd (fun r202 s200 q201 => ?_)
        refine R_callVi [.int (xs (v1 + (1 : Int32)).toNatClampNeg)] [] C mlL_90 (kX6_plan q201) (by rw [hR]; exact ⟨rfl, rfl, Nat.le_of_ble_eq_true rfl, Nat.le_of_ble_eq_true rfl, hu.1, hu.2⟩) ha1 rfl rfl (Nat.le_of_ble_eq_true rfl) dL_law_650 ?_
        refine R_aload_n C 2 rfl dL_law_653 ?_
        refine R_aload_n C 0 rfl dL_law_654 ?_
        refine R_iload_n C 3 rfl dL_law_655 ?_
        refine R_iconst C (1) dL_law_656 (by decide) ?_
        refine R_iadd C dL_law_657 ?_
        refine R_ck (fun h203 => ?_)
        refine R_sld C hX h203 dL_law_658 ?_
        refine R_bd (fun r206 s204 q205 => ?_)
        refine R_callVi [.int (xs (v1 + (1 : Int32)).toNatClampNeg)] [.int r202] C mlL_93 (kX7_plan q205) (by rw [hR]; exact ⟨rfl, rfl, Nat.le_of_ble_eq_true rfl, Nat.le_of_ble_eq_true rfl, hu.1, hu.2⟩) ha2 rfl rfl (Nat.le_of_ble_eq_true rfl) dL_law_659 ?_
        refine B_icmp_eq C dL_law_662 ?_ ?_
        · refine S_iinc (fun v207 => [(3, .int v207), (0, .ref b), (1, .ref (G.1 + a1)), (2, .ref (G.1 + a2))]) 3 C dL_law_1009 rfl (by decide) (by decide) (fun _ => rfl) (fun v207 => ?_)
          refine R_goto C dL_law_1012 ?_
          refine R_loc (lv2 := [(0, .ref b), (1, .ref (G.1 + a1)), (2, .ref (G.1 + a2)), (3, .int v207)]) [1, 2, 3, 0] rfl ?_
          exact I6 (v207, s204) b4 s5 K3
        · refine R_iconst C (0) dL_law_665 (by decide) ?_
          exact R_inr (VX := (fun (o : ((Int32) ⊕ Int32)) (s : Sg) => sm o (fun o => V κ G (lw_Z (kB κ) (kA κ) (kS κ)) E s (false, u) 1015 [] []) (fun rr => some (rr, s) = some (1, σ')))) (i := .inr) K3 (R_law C hr hA hR hu hGs dL_law_666)
      refine R_if (fun h208 => ?_) (fun h208 => ?_)
      · refine R_tsIn (off := 634) (t := 667) C dL_law_33 h208 (by decide) ?_
        refine R_aload_n C 1 rfl dL_law_667 ?_
        refine R_aload_n C 0 rfl dL_law_668 ?_
        refine R_iload_n C 3 rfl dL_law_669 ?_
        refine R_iconst C (1) dL_law_670 (by decide) ?_
        refine R_iadd C dL_law_671 ?_
        refine R_ck (fun h209 => ?_)
        refine R_sld C hX h209 dL_law_672 ?_
        refine R_aload_n C 0 rfl dL_law_673 ?_
        refine R_iload_n C 3 rfl dL_law_674 ?_
        refine R_iconst C (2) dL_law_675 (by decide) ?_
        refine R_iadd C dL_law_676 ?_
        refine R_ck (fun h210 => ?_)
        refine R_sld C hX h210 dL_law_677 ?_
        refine R_aload_n C 0 rfl dL_law_678 ?_
        refine R_iload_n C 3 rfl dL_law_679 ?_
        refine R_iconst C (3) dL_law_680 (by decide) ?_
        refine R_iadd C dL_law_681 ?_
        refine R_ck (fun h211 => ?_)
        refine R_sld C hX h211 dL_law_682 ?_
        refine R_bd (fun r214 s212 q213 => ?_)
        refine R_callVi [.int (xs (v1 + (1 : Int32)).toNatClampNeg), .int (xs (v1 + (2 : Int32)).toNatClampNeg), .int (xs (v1 + (3 : Int32)).toNatClampNeg)] [] C mlL_94 (kX6_planned q213) (by rw [hR]; exact ⟨rfl, rfl, Nat.le_of_ble_eq_true rfl, Nat.le_of_ble_eq_true rfl, hu.1, hu.2⟩) ha1 rfl rfl (Nat.le_of_ble_eq_true rfl) dL_law_683 ?_
        refine R_aload_n C 2 rfl dL_law_686 ?_
        refine R_aload_n C 0 rfl dL_law_687 ?_
        refine R_iload_n C 3 rfl dL_law_688 ?_
        refine R_iconst C (1) dL_law_689 (by decide) ?_
        refine R_iadd C dL_law_690 ?_
        refine R_ck (fun h215 => ?_)
        refine R_sld C hX h215 dL_law_691 ?_
        refine R_aload_n C 0 rfl dL_law_692 ?_
        refine R_iload_n C 3 rfl dL_law_693 ?_
        refine R_iconst C (2) dL_law_694 (by decide) ?_
        refine R_iadd C dL_law_695 ?_
        refine R_ck (fun h216 => ?_)
        refine R_sld C hX h216 dL_law_696 ?_
        refine R_aload_n C 0 rfl dL_law_697 ?_
        refine R_iload_n C 3 rfl dL_law_698 ?_
        refine R_iconst C (3) dL_law_699 (by decide) ?_
        refine R_iadd C dL_law_700 ?_
        refine R_ck (fun h217 => ?_)
        refine R_sld C hX h217 dL_law_701 ?_
        refine R_bd (fun r220 s218 q219 => ?_)
        refine R_callVi [.int (xs (v1 + (1 : Int32)).toNatClampNeg), .int (xs (v1 + (2 : Int32)).toNatClampNeg), .int (xs (v1 + (3 : Int32)).toNatClampNeg)] [.int r214] C mlL_97 (kX7_planned q219) (by rw [hR]; exact ⟨rfl, rfl, Nat.le_of_ble_eq_true rfl, Nat.le_of_ble_eq_true rfl, hu.1, hu.2⟩) ha2 rfl rfl (Nat.le_of_ble_eq_true rfl) dL_law_702 ?_
        refine B_icmp_eq C dL_law_705 ?_ ?_
        · refine S_iinc (fun v221 => [(3, .int v221), (0, .ref b), (1, .ref (G.1 + a1)), (2, .ref (G.1 + a2))]) 3 C dL_law_1009 rfl (by decide) (by decide) (fun _ => rfl) (fun v221 => ?_)
          refine R_goto C dL_law_1012 ?_
          refine R_loc (lv2 := [(0, .ref b), (1, .ref (G.1 + a1)), (2, .ref (G.1 + a2)), (3, .int v221)]) [1, 2, 3, 0] rfl ?_
          exact I6 (v221, s218) b4 s5 K3
        · refine R_iconst C (0) dL_law_708 (by decide) ?_
          exact R_inr (VX := (fun (o : ((Int32) ⊕ Int32)) (s : Sg) => sm o (fun o => V κ G (lw_Z (kB κ) (kA κ) (kS κ)) E s (false, u) 1015 [] []) (fun rr => some (rr, s) = some (1, σ')))) (i := .inr) K3 (R_law C hr hA hR hu hGs dL_law_709)
      refine R_if (fun h222 => ?_) (fun h222 => ?_)
      · refine R_tsIn (off := 677) (t := 710) C dL_law_33 h222 (by decide) ?_
        refine R_aload_n C 1 rfl dL_law_710 ?_
        refine R_aload_n C 0 rfl dL_law_711 ?_
        refine R_iload_n C 3 rfl dL_law_712 ?_
        refine R_iconst C (1) dL_law_713 (by decide) ?_
        refine R_iadd C dL_law_714 ?_
        refine R_ck (fun h223 => ?_)
        refine R_sld C hX h223 dL_law_715 ?_
        refine R_bd (fun r226 s224 q225 => ?_)
        refine R_callVi [.int (xs (v1 + (1 : Int32)).toNatClampNeg)] [] C mlL_98 (kX6_least q225) (by rw [hR]; exact ⟨rfl, rfl, Nat.le_of_ble_eq_true rfl, Nat.le_of_ble_eq_true rfl, hu.1, hu.2⟩) ha1 rfl rfl (Nat.le_of_ble_eq_true rfl) dL_law_716 ?_
        refine R_aload_n C 2 rfl dL_law_719 ?_
        refine R_aload_n C 0 rfl dL_law_720 ?_
        refine R_iload_n C 3 rfl dL_law_721 ?_
        refine R_iconst C (1) dL_law_722 (by decide) ?_
        refine R_iadd C dL_law_723 ?_
        refine R_ck (fun h227 => ?_)
        refine R_sld C hX h227 dL_law_724 ?_
        refine R_bd (fun r230 s228 q229 => ?_)
        refine R_callVi [.int (xs (v1 + (1 : Int32)).toNatClampNeg)] [.int r226] C mlL_101 (kX7_least q229) (by rw [hR]; exact ⟨rfl, rfl, Nat.le_of_ble_eq_true rfl, Nat.le_of_ble_eq_true rfl, hu.1, hu.2⟩) ha2 rfl rfl (Nat.le_of_ble_eq_true rfl) dL_law_725 ?_
        refine B_icmp_eq C dL_law_728 ?_ ?_
        · refine S_iinc (fun v231 => [(3, .int v231), (0, .ref b), (1, .ref (G.1 + a1)), (2, .ref (G.1 + a2))]) 3 C dL_law_1009 rfl (by decide) (by decide) (fun _ => rfl) (fun v231 => ?_)
          refine R_goto C dL_law_1012 ?_
          refine R_loc (lv2 := [(0, .ref b), (1, .ref (G.1 + a1)), (2, .ref (G.1 + a2)), (3, .int v231)]) [1, 2, 3, 0] rfl ?_
          exact I6 (v231, s228) b4 s5 K3
        · refine R_iconst C (0) dL_law_731 (by decide) ?_
          exact R_inr (VX := (fun (o : ((Int32) ⊕ Int32)) (s : Sg) => sm o (fun o => V κ G (lw_Z (kB κ) (kA κ) (kS κ)) E s (false, u) 1015 [] []) (fun rr => some (rr, s) = some (1, σ')))) (i := .inr) K3 (R_law C hr hA hR hu hGs dL_law_732)
      refine R_if (fun h232 => ?_) (fun h232 => ?_)
      · refine R_tsIn (off := 700) (t := 733) C dL_law_33 h232 (by decide) ?_
        refine R_aload_n C 1 rfl dL_law_733 ?_
        refine R_aload_n C 0 rfl dL_law_734 ?_
        refine R_iload_n C 3 rfl dL_law_735 ?_
        refine R_iconst C (1) dL_law_736 (by decide) ?_
        refine R_iadd C dL_law_737 ?_
        refine R_ck (fun h233 => ?_)
        refine R_sld C hX h233 dL_law_738 ?_
        refine R_bd (fun r236 s234 q235 => ?_)
        refine R_callVi [.int (xs (v1 + (1 : Int32)).toNatClampNeg)] [] C mlL_102 (kX6_depth q235) (by rw [hR]; exact ⟨rfl, rfl, Nat.le_of_ble_eq_true rfl, Nat.le_of_ble_eq_true rfl, hu.1, hu.2⟩) ha1 rfl rfl (Nat.le_of_ble_eq_true rfl) dL_law_739 ?_
        refine R_aload_n C 2 rfl dL_law_742 ?_
        refine R_aload_n C 0 rfl dL_law_743 ?_
        refine R_iload_n C 3 rfl dL_law_744 ?_
        refine R_iconst C (1) dL_law_745 (by decide) ?_
        refine R_iadd C dL_law_746 ?_
        refine R_ck (fun h237 => ?_)
        refine R_sld C hX h237 dL_law_747 ?_
        refine R_bd (fun r240 s238 q239 => ?_)
        refine R_callVi [.int (xs (v1 + (1 : Int32)).toNatClampNeg)] [.int r236] C mlL_105 (kX7_depth q239) (by rw [hR]; exact ⟨rfl, rfl, Nat.le_of_ble_eq_true rfl, Nat.le_of_ble_eq_true rfl, hu.1, hu.2⟩) ha2 rfl rfl (Nat.le_of_ble_eq_true rfl) dL_law_748 ?_
        refine B_icmp_eq C dL_law_751 ?_ ?_
        · refine S_iinc (fun v241 => [(3, .int v241), (0, .ref b), (1, .ref (G.1 + a1)), (2, .ref (G.1 + a2))]) 3 C dL_law_1009 rfl (by decide) (by decide) (fun _ => rfl) (fun v241 => ?_)
          refine R_goto C dL_law_1012 ?_
          refine R_loc (lv2 := [(0, .ref b), (1, .ref (G.1 + a1)), (2, .ref (G.1 + a2)), (3, .int v241)]) [1, 2, 3, 0] rfl ?_
          exact I6 (v241, s238) b4 s5 K3
        · refine R_iconst C (0) dL_law_754 (by decide) ?_
          exact R_inr (VX := (fun (o : ((Int32) ⊕ Int32)) (s : Sg) => sm o (fun o => V κ G (lw_Z (kB κ) (kA κ) (kS κ)) E s (false, u) 1015 [] []) (fun rr => some (rr, s) = some (1, σ')))) (i := .inr) K3 (R_law C hr hA hR hu hGs dL_law_755)
      refine R_if (fun h242 => ?_) (fun h242 => ?_)
      · refine R_tsIn (off := 723) (t := 756) C dL_law_33 h242 (by decide) ?_
        refine R_aload_n C 1 rfl dL_law_756 ?_
        refine R_aload_n C 0 rfl dL_law_757 ?_
        refine R_iload_n C 3 rfl dL_law_758 ?_
        refine R_iconst C (1) dL_law_759 (by decide) ?_
        refine R_iadd C dL_law_760 ?_
        refine R_ck (fun h243 => ?_)
        refine R_sld C hX h243 dL_law_761 ?_
        refine R_bd (fun r246 s244 q245 => ?_)
        refine R_callVi [.int (xs (v1 + (1 : Int32)).toNatClampNeg)] [] C mlL_106 (kX6_units q245) (by rw [hR]; exact ⟨rfl, rfl, Nat.le_of_ble_eq_true rfl, Nat.le_of_ble_eq_true rfl, hu.1, hu.2⟩) ha1 rfl rfl (Nat.le_of_ble_eq_true rfl) dL_law_762 ?_
        refine R_aload_n C 2 rfl dL_law_765 ?_
        refine R_aload_n C 0 rfl dL_law_766 ?_
        refine R_iload_n C 3 rfl dL_law_767 ?_
        refine R_iconst C (1) dL_law_768 (by decide) ?_
        refine R_iadd C dL_law_769 ?_
        refine R_ck (fun h247 => ?_)
        refine R_sld C hX h247 dL_law_770 ?_
        refine R_bd (fun r250 s248 q249 => ?_)
        refine R_callVi [.int (xs (v1 + (1 : Int32)).toNatClampNeg)] [.int r246] C mlL_109 (kX7_units q249) (by rw [hR]; exact ⟨rfl, rfl, Nat.le_of_ble_eq_true rfl, Nat.le_of_ble_eq_true rfl, hu.1, hu.2⟩) ha2 rfl rfl (Nat.le_of_ble_eq_true rfl) dL_law_771 ?_
        refine B_icmp_eq C dL_law_774 ?_ ?_
        · refine S_iinc (fun v251 => [(3, .int v251), (0, .ref b), (1, .ref (G.1 + a1)), (2, .ref (G.1 + a2))]) 3 C dL_law_1009 rfl (by decide) (by decide) (fun _ => rfl) (fun v251 => ?_)
          refine R_goto C dL_law_1012 ?_
          refine R_loc (lv2 := [(0, .ref b), (1, .ref (G.1 + a1)), (2, .ref (G.1 + a2)), (3, .int v251)]) [1, 2, 3, 0] rfl ?_
          exact I6 (v251, s248) b4 s5 K3
        · refine R_iconst C (0) dL_law_777 (by decide) ?_
          exact R_inr (VX := (fun (o : ((Int32) ⊕ Int32)) (s : Sg) => sm o (fun o => V κ G (lw_Z (kB κ) (kA κ) (kS κ)) E s (false, u) 1015 [] []) (fun rr => some (rr, s) = some (1, σ')))) (i := .inr) K3 (R_law C hr hA hR hu hGs dL_law_778)
      refine R_if (fun h252 => ?_) (fun h252 => ?_)
      · refine R_tsIn (off := 746) (t := 779) C dL_law_33 h252 (by decide) ?_
        refine R_aload_n C 1 rfl dL_law_779 ?_
        refine R_bd (fun r255 s253 q254 => ?_)
        refine R_callVi [] [] C mlL_110 (kX6_stands q254) (by rw [hR]; exact ⟨rfl, rfl, Nat.le_of_ble_eq_true rfl, Nat.le_of_ble_eq_true rfl, hu.1, hu.2⟩) ha1 rfl rfl (Nat.le_of_ble_eq_true rfl) dL_law_780 ?_
        refine R_aload_n C 2 rfl dL_law_783 ?_
        refine R_bd (fun r258 s256 q257 => ?_)
        refine R_callVi [] [.int r255] C mlL_113 (kX7_stands q257) (by rw [hR]; exact ⟨rfl, rfl, Nat.le_of_ble_eq_true rfl, Nat.le_of_ble_eq_true rfl, hu.1, hu.2⟩) ha2 rfl rfl (Nat.le_of_ble_eq_true rfl) dL_law_784 ?_
        refine B_icmp_eq C dL_law_787 ?_ ?_
        · refine S_iinc (fun v259 => [(3, .int v259), (0, .ref b), (1, .ref (G.1 + a1)), (2, .ref (G.1 + a2))]) 3 C dL_law_1009 rfl (by decide) (by decide) (fun _ => rfl) (fun v259 => ?_)
          refine R_goto C dL_law_1012 ?_
          refine R_loc (lv2 := [(0, .ref b), (1, .ref (G.1 + a1)), (2, .ref (G.1 + a2)), (3, .int v259)]) [1, 2, 3, 0] rfl ?_
          exact I6 (v259, s256) b4 s5 K3
        · refine R_iconst C (0) dL_law_790 (by decide) ?_
          exact R_inr (VX := (fun (o : ((Int32) ⊕ Int32)) (s : Sg) => sm o (fun o => V κ G (lw_Z (kB κ) (kA κ) (kS κ)) E s (false, u) 1015 [] []) (fun rr => some (rr, s) = some (1, σ')))) (i := .inr) K3 (R_law C hr hA hR hu hGs dL_law_791)
      refine R_if (fun h260 => ?_) (fun h260 => ?_)
      · refine R_tsIn (off := 759) (t := 792) C dL_law_33 h260 (by decide) ?_
        refine R_aload_n C 1 rfl dL_law_792 ?_
        refine R_aload_n C 0 rfl dL_law_793 ?_
        refine R_iload_n C 3 rfl dL_law_794 ?_
        refine R_iconst C (1) dL_law_795 (by decide) ?_
        refine R_iadd C dL_law_796 ?_
        refine R_ck (fun h261 => ?_)
        refine R_sld C hX h261 dL_law_797 ?_
        refine R_aload_n C 0 rfl dL_law_798 ?_
        refine R_iload_n C 3 rfl dL_law_799 ?_
        refine R_iconst C (2) dL_law_800 (by decide) ?_
        refine R_iadd C dL_law_801 ?_
        refine R_ck (fun h262 => ?_)
        refine R_sld C hX h262 dL_law_802 ?_
        refine R_bd (fun r265 s263 q264 => ?_)
        refine R_callVi [.int (xs (v1 + (1 : Int32)).toNatClampNeg), .int (xs (v1 + (2 : Int32)).toNatClampNeg)] [] C mlL_114 (kX6_key q264) (by rw [hR]; exact ⟨rfl, rfl, Nat.le_of_ble_eq_true rfl, Nat.le_of_ble_eq_true rfl, hu.1, hu.2⟩) ha1 rfl rfl (Nat.le_of_ble_eq_true rfl) dL_law_803 ?_
        refine R_aload_n C 2 rfl dL_law_806 ?_
        refine R_aload_n C 0 rfl dL_law_807 ?_
        refine R_iload_n C 3 rfl dL_law_808 ?_
        refine R_iconst C (1) dL_law_809 (by decide) ?_
        refine R_iadd C dL_law_810 ?_
        refine R_ck (fun h266 => ?_)
        refine R_sld C hX h266 dL_law_811 ?_
        refine R_aload_n C 0 rfl dL_law_812 ?_
        refine R_iload_n C 3 rfl dL_law_813 ?_
        refine R_iconst C (2) dL_law_814 (by decide) ?_
        refine R_iadd C dL_law_815 ?_
        refine R_ck (fun h267 => ?_)
        refine R_sld C hX h267 dL_law_816 ?_
        refine R_bd (fun r270 s268 q269 => ?_)
        refine R_callVi [.int (xs (v1 + (1 : Int32)).toNatClampNeg), .int (xs (v1 + (2 : Int32)).toNatClampNeg)] [.int r265] C mlL_117 (kX7_key q269) (by rw [hR]; exact ⟨rfl, rfl, Nat.le_of_ble_eq_true rfl, Nat.le_of_ble_eq_true rfl, hu.1, hu.2⟩) ha2 rfl rfl (Nat.le_of_ble_eq_true rfl) dL_law_817 ?_
        refine B_icmp_eq C dL_law_820 ?_ ?_
        · refine S_iinc (fun v271 => [(3, .int v271), (0, .ref b), (1, .ref (G.1 + a1)), (2, .ref (G.1 + a2))]) 3 C dL_law_1009 rfl (by decide) (by decide) (fun _ => rfl) (fun v271 => ?_)
          refine R_goto C dL_law_1012 ?_
          refine R_loc (lv2 := [(0, .ref b), (1, .ref (G.1 + a1)), (2, .ref (G.1 + a2)), (3, .int v271)]) [1, 2, 3, 0] rfl ?_
          exact I6 (v271, s268) b4 s5 K3
        · refine R_iconst C (0) dL_law_823 (by decide) ?_
          exact R_inr (VX := (fun (o : ((Int32) ⊕ Int32)) (s : Sg) => sm o (fun o => V κ G (lw_Z (kB κ) (kA κ) (kS κ)) E s (false, u) 1015 [] []) (fun rr => some (rr, s) = some (1, σ')))) (i := .inr) K3 (R_law C hr hA hR hu hGs dL_law_824)
      refine R_if (fun h272 => ?_) (fun h272 => ?_)
      · refine R_tsIn (off := 792) (t := 825) C dL_law_33 h272 (by decide) ?_
        refine R_aload_n C 1 rfl dL_law_825 ?_
        refine R_aload_n C 0 rfl dL_law_826 ?_
        refine R_iload_n C 3 rfl dL_law_827 ?_
        refine R_iconst C (1) dL_law_828 (by decide) ?_
        refine R_iadd C dL_law_829 ?_
        refine R_ck (fun h273 => ?_)
        refine R_sld C hX h273 dL_law_830 ?_
        refine R_bd (fun r276 s274 q275 => ?_)
        refine R_callVi [.int (xs (v1 + (1 : Int32)).toNatClampNeg)] [] C mlL_118 (kX6_keys q275) (by rw [hR]; exact ⟨rfl, rfl, Nat.le_of_ble_eq_true rfl, Nat.le_of_ble_eq_true rfl, hu.1, hu.2⟩) ha1 rfl rfl (Nat.le_of_ble_eq_true rfl) dL_law_831 ?_
        refine R_aload_n C 2 rfl dL_law_834 ?_
        refine R_aload_n C 0 rfl dL_law_835 ?_
        refine R_iload_n C 3 rfl dL_law_836 ?_
        refine R_iconst C (1) dL_law_837 (by decide) ?_
        refine R_iadd C dL_law_838 ?_
        refine R_ck (fun h277 => ?_)
        refine R_sld C hX h277 dL_law_839 ?_
        refine R_bd (fun r280 s278 q279 => ?_)
        refine R_callVi [.int (xs (v1 + (1 : Int32)).toNatClampNeg)] [.int r276] C mlL_121 (kX7_keys q279) (by rw [hR]; exact ⟨rfl, rfl, Nat.le_of_ble_eq_true rfl, Nat.le_of_ble_eq_true rfl, hu.1, hu.2⟩) ha2 rfl rfl (Nat.le_of_ble_eq_true rfl) dL_law_840 ?_
        refine B_icmp_eq C dL_law_843 ?_ ?_
        · refine S_iinc (fun v281 => [(3, .int v281), (0, .ref b), (1, .ref (G.1 + a1)), (2, .ref (G.1 + a2))]) 3 C dL_law_1009 rfl (by decide) (by decide) (fun _ => rfl) (fun v281 => ?_)
          refine R_goto C dL_law_1012 ?_
          refine R_loc (lv2 := [(0, .ref b), (1, .ref (G.1 + a1)), (2, .ref (G.1 + a2)), (3, .int v281)]) [1, 2, 3, 0] rfl ?_
          exact I6 (v281, s278) b4 s5 K3
        · refine R_iconst C (0) dL_law_846 (by decide) ?_
          exact R_inr (VX := (fun (o : ((Int32) ⊕ Int32)) (s : Sg) => sm o (fun o => V κ G (lw_Z (kB κ) (kA κ) (kS κ)) E s (false, u) 1015 [] []) (fun rr => some (rr, s) = some (1, σ')))) (i := .inr) K3 (R_law C hr hA hR hu hGs dL_law_847)
      refine R_if (fun h282 => ?_) (fun h282 => ?_)
      · refine R_tsIn (off := 815) (t := 848) C dL_law_33 h282 (by decide) ?_
        refine R_aload_n C 1 rfl dL_law_848 ?_
        refine R_aload_n C 0 rfl dL_law_849 ?_
        refine R_iload_n C 3 rfl dL_law_850 ?_
        refine R_iconst C (1) dL_law_851 (by decide) ?_
        refine R_iadd C dL_law_852 ?_
        refine R_ck (fun h283 => ?_)
        refine R_sld C hX h283 dL_law_853 ?_
        refine R_bd (fun r286 s284 q285 => ?_)
        refine R_callVi [.int (xs (v1 + (1 : Int32)).toNatClampNeg)] [] C mlL_122 (kX6_about q285) (by rw [hR]; exact ⟨rfl, rfl, Nat.le_of_ble_eq_true rfl, Nat.le_of_ble_eq_true rfl, hu.1, hu.2⟩) ha1 rfl rfl (Nat.le_of_ble_eq_true rfl) dL_law_854 ?_
        refine R_aload_n C 2 rfl dL_law_857 ?_
        refine R_aload_n C 0 rfl dL_law_858 ?_
        refine R_iload_n C 3 rfl dL_law_859 ?_
        refine R_iconst C (1) dL_law_860 (by decide) ?_
        refine R_iadd C dL_law_861 ?_
        refine R_ck (fun h287 => ?_)
        refine R_sld C hX h287 dL_law_862 ?_
        refine R_bd (fun r290 s288 q289 => ?_)
        refine R_callVi [.int (xs (v1 + (1 : Int32)).toNatClampNeg)] [.int r286] C mlL_125 (kX7_about q289) (by rw [hR]; exact ⟨rfl, rfl, Nat.le_of_ble_eq_true rfl, Nat.le_of_ble_eq_true rfl, hu.1, hu.2⟩) ha2 rfl rfl (Nat.le_of_ble_eq_true rfl) dL_law_863 ?_
        refine B_icmp_eq C dL_law_866 ?_ ?_
        · refine S_iinc (fun v291 => [(3, .int v291), (0, .ref b), (1, .ref (G.1 + a1)), (2, .ref (G.1 + a2))]) 3 C dL_law_1009 rfl (by decide) (by decide) (fun _ => rfl) (fun v291 => ?_)
          refine R_goto C dL_law_1012 ?_
          refine R_loc (lv2 := [(0, .ref b), (1, .ref (G.1 + a1)), (2, .ref (G.1 + a2)), (3, .int v291)]) [1, 2, 3, 0] rfl ?_
          exact I6 (v291, s288) b4 s5 K3
        · refine R_iconst C (0) dL_law_869 (by decide) ?_
          exact R_inr (VX := (fun (o : ((Int32) ⊕ Int32)) (s : Sg) => sm o (fun o => V κ G (lw_Z (kB κ) (kA κ) (kS κ)) E s (false, u) 1015 [] []) (fun rr => some (rr, s) = some (1, σ')))) (i := .inr) K3 (R_law C hr hA hR hu hGs dL_law_870)
      refine R_if (fun h292 => ?_) (fun h292 => ?_)
      · refine R_tsIn (off := 838) (t := 871) C dL_law_33 h292 (by decide) ?_
        refine R_aload_n C 1 rfl dL_law_871 ?_
        refine R_aload_n C 0 rfl dL_law_872 ?_
        refine R_iload_n C 3 rfl dL_law_873 ?_
        refine R_iconst C (1) dL_law_874 (by decide) ?_
        refine R_iadd C dL_law_875 ?_
        refine R_ck (fun h293 => ?_)
        refine R_sld C hX h293 dL_law_876 ?_
        refine R_aload_n C 0 rfl dL_law_877 ?_
        refine R_iload_n C 3 rfl dL_law_878 ?_
        refine R_iconst C (2) dL_law_879 (by decide) ?_
        refine R_iadd C dL_law_880 ?_
        refine R_ck (fun h294 => ?_)
        refine R_sld C hX h294 dL_law_881 ?_
        refine R_bd (fun r297 s295 q296 => ?_)
        refine R_callVi [.int (xs (v1 + (1 : Int32)).toNatClampNeg), .int (xs (v1 + (2 : Int32)).toNatClampNeg)] [] C mlL_126 (kX6_forecast q296) (by rw [hR]; exact ⟨rfl, rfl, Nat.le_of_ble_eq_true rfl, Nat.le_of_ble_eq_true rfl, hu.1, hu.2⟩) ha1 rfl rfl (Nat.le_of_ble_eq_true rfl) dL_law_882 ?_
        refine R_aload_n C 2 rfl dL_law_885 ?_
        refine R_aload_n C 0 rfl dL_law_886 ?_
        refine R_iload_n C 3 rfl dL_law_887 ?_
        refine R_iconst C (1) dL_law_888 (by decide) ?_
        refine R_iadd C dL_law_889 ?_
        refine R_ck (fun h298 => ?_)
        refine R_sld C hX h298 dL_law_890 ?_
        refine R_aload_n C 0 rfl dL_law_891 ?_
        refine R_iload_n C 3 rfl dL_law_892 ?_
        refine R_iconst C (2) dL_law_893 (by decide) ?_
        refine R_iadd C dL_law_894 ?_
        refine R_ck (fun h299 => ?_)
        refine R_sld C hX h299 dL_law_895 ?_
        refine R_bd (fun r302 s300 q301 => ?_)
        refine R_callVi [.int (xs (v1 + (1 : Int32)).toNatClampNeg), .int (xs (v1 + (2 : Int32)).toNatClampNeg)] [.int r297] C mlL_129 (kX7_forecast q301) (by rw [hR]; exact ⟨rfl, rfl, Nat.le_of_ble_eq_true rfl, Nat.le_of_ble_eq_true rfl, hu.1, hu.2⟩) ha2 rfl rfl (Nat.le_of_ble_eq_true rfl) dL_law_896 ?_
        refine B_icmp_eq C dL_law_899 ?_ ?_
        · refine S_iinc (fun v303 => [(3, .int v303), (0, .ref b), (1, .ref (G.1 + a1)), (2, .ref (G.1 + a2))]) 3 C dL_law_1009 rfl (by decide) (by decide) (fun _ => rfl) (fun v303 => ?_)
          refine R_goto C dL_law_1012 ?_
          refine R_loc (lv2 := [(0, .ref b), (1, .ref (G.1 + a1)), (2, .ref (G.1 + a2)), (3, .int v303)]) [1, 2, 3, 0] rfl ?_
          exact I6 (v303, s300) b4 s5 K3
        · refine R_iconst C (0) dL_law_902 (by decide) ?_
          exact R_inr (VX := (fun (o : ((Int32) ⊕ Int32)) (s : Sg) => sm o (fun o => V κ G (lw_Z (kB κ) (kA κ) (kS κ)) E s (false, u) 1015 [] []) (fun rr => some (rr, s) = some (1, σ')))) (i := .inr) K3 (R_law C hr hA hR hu hGs dL_law_903)
      refine R_if (fun h304 => ?_) (fun h304 => ?_)
      · refine R_tsIn (off := 871) (t := 904) C dL_law_33 h304 (by decide) ?_
        refine R_aload_n C 1 rfl dL_law_904 ?_
        refine R_aload_n C 0 rfl dL_law_905 ?_
        refine R_iload_n C 3 rfl dL_law_906 ?_
        refine R_iconst C (1) dL_law_907 (by decide) ?_
        refine R_iadd C dL_law_908 ?_
        refine R_ck (fun h305 => ?_)
        refine R_sld C hX h305 dL_law_909 ?_
        refine R_bd (fun r308 s306 q307 => ?_)
        refine R_callVi [.int (xs (v1 + (1 : Int32)).toNatClampNeg)] [] C mlL_130 (kX6_needs q307) (by rw [hR]; exact ⟨rfl, rfl, Nat.le_of_ble_eq_true rfl, Nat.le_of_ble_eq_true rfl, hu.1, hu.2⟩) ha1 rfl rfl (Nat.le_of_ble_eq_true rfl) dL_law_910 ?_
        refine R_aload_n C 2 rfl dL_law_913 ?_
        refine R_aload_n C 0 rfl dL_law_914 ?_
        refine R_iload_n C 3 rfl dL_law_915 ?_
        refine R_iconst C (1) dL_law_916 (by decide) ?_
        refine R_iadd C dL_law_917 ?_
        refine R_ck (fun h309 => ?_)
        refine R_sld C hX h309 dL_law_918 ?_
        refine R_bd (fun r312 s310 q311 => ?_)
        refine R_callVi [.int (xs (v1 + (1 : Int32)).toNatClampNeg)] [.int r308] C mlL_133 (kX7_needs q311) (by rw [hR]; exact ⟨rfl, rfl, Nat.le_of_ble_eq_true rfl, Nat.le_of_ble_eq_true rfl, hu.1, hu.2⟩) ha2 rfl rfl (Nat.le_of_ble_eq_true rfl) dL_law_919 ?_
        refine B_icmp_eq C dL_law_922 ?_ ?_
        · refine S_iinc (fun v313 => [(3, .int v313), (0, .ref b), (1, .ref (G.1 + a1)), (2, .ref (G.1 + a2))]) 3 C dL_law_1009 rfl (by decide) (by decide) (fun _ => rfl) (fun v313 => ?_)
          refine R_goto C dL_law_1012 ?_
          refine R_loc (lv2 := [(0, .ref b), (1, .ref (G.1 + a1)), (2, .ref (G.1 + a2)), (3, .int v313)]) [1, 2, 3, 0] rfl ?_
          exact I6 (v313, s310) b4 s5 K3
        · refine R_iconst C (0) dL_law_925 (by decide) ?_
          exact R_inr (VX := (fun (o : ((Int32) ⊕ Int32)) (s : Sg) => sm o (fun o => V κ G (lw_Z (kB κ) (kA κ) (kS κ)) E s (false, u) 1015 [] []) (fun rr => some (rr, s) = some (1, σ')))) (i := .inr) K3 (R_law C hr hA hR hu hGs dL_law_926)
      refine R_if (fun h314 => ?_) (fun h314 => ?_)
      · refine R_tsIn (off := 894) (t := 927) C dL_law_33 h314 (by decide) ?_
        refine R_aload_n C 1 rfl dL_law_927 ?_
        refine R_bd (fun r317 s315 q316 => ?_)
        refine R_callVi [] [] C mlL_134 (kX6_undo q316) (by rw [hR]; exact ⟨rfl, rfl, Nat.le_of_ble_eq_true rfl, Nat.le_of_ble_eq_true rfl, hu.1, hu.2⟩) ha1 rfl rfl (Nat.le_of_ble_eq_true rfl) dL_law_928 ?_
        refine R_aload_n C 2 rfl dL_law_931 ?_
        refine R_bd (fun r320 s318 q319 => ?_)
        refine R_callVi [] [.int r317] C mlL_137 (kX7_undo q319) (by rw [hR]; exact ⟨rfl, rfl, Nat.le_of_ble_eq_true rfl, Nat.le_of_ble_eq_true rfl, hu.1, hu.2⟩) ha2 rfl rfl (Nat.le_of_ble_eq_true rfl) dL_law_932 ?_
        refine B_icmp_eq C dL_law_935 ?_ ?_
        · refine S_iinc (fun v321 => [(3, .int v321), (0, .ref b), (1, .ref (G.1 + a1)), (2, .ref (G.1 + a2))]) 3 C dL_law_1009 rfl (by decide) (by decide) (fun _ => rfl) (fun v321 => ?_)
          refine R_goto C dL_law_1012 ?_
          refine R_loc (lv2 := [(0, .ref b), (1, .ref (G.1 + a1)), (2, .ref (G.1 + a2)), (3, .int v321)]) [1, 2, 3, 0] rfl ?_
          exact I6 (v321, s318) b4 s5 K3
        · refine R_iconst C (0) dL_law_938 (by decide) ?_
          exact R_inr (VX := (fun (o : ((Int32) ⊕ Int32)) (s : Sg) => sm o (fun o => V κ G (lw_Z (kB κ) (kA κ) (kS κ)) E s (false, u) 1015 [] []) (fun rr => some (rr, s) = some (1, σ')))) (i := .inr) K3 (R_law C hr hA hR hu hGs dL_law_939)
      refine R_if (fun h322 => ?_) (fun h322 => ?_)
      · refine R_tsIn (off := 907) (t := 940) C dL_law_33 h322 (by decide) ?_
        refine R_aload_n C 1 rfl dL_law_940 ?_
        refine R_aload_n C 0 rfl dL_law_941 ?_
        refine R_iload_n C 3 rfl dL_law_942 ?_
        refine R_iconst C (1) dL_law_943 (by decide) ?_
        refine R_iadd C dL_law_944 ?_
        refine R_ck (fun h323 => ?_)
        refine R_sld C hX h323 dL_law_945 ?_
        refine R_bd (fun r326 s324 q325 => ?_)
        refine R_callVi [.int (xs (v1 + (1 : Int32)).toNatClampNeg)] [] C mlL_138 (kX6_keep q325) (by rw [hR]; exact ⟨rfl, rfl, Nat.le_of_ble_eq_true rfl, Nat.le_of_ble_eq_true rfl, hu.1, hu.2⟩) ha1 rfl rfl (Nat.le_of_ble_eq_true rfl) dL_law_946 ?_
        refine R_aload_n C 2 rfl dL_law_949 ?_
        refine R_aload_n C 0 rfl dL_law_950 ?_
        refine R_iload_n C 3 rfl dL_law_951 ?_
        refine R_iconst C (1) dL_law_952 (by decide) ?_
        refine R_iadd C dL_law_953 ?_
        refine R_ck (fun h327 => ?_)
        refine R_sld C hX h327 dL_law_954 ?_
        refine R_bd (fun r330 s328 q329 => ?_)
        refine R_callVi [.int (xs (v1 + (1 : Int32)).toNatClampNeg)] [.int r326] C mlL_141 (kX7_keep q329) (by rw [hR]; exact ⟨rfl, rfl, Nat.le_of_ble_eq_true rfl, Nat.le_of_ble_eq_true rfl, hu.1, hu.2⟩) ha2 rfl rfl (Nat.le_of_ble_eq_true rfl) dL_law_955 ?_
        refine B_icmp_eq C dL_law_958 ?_ ?_
        · refine S_iinc (fun v331 => [(3, .int v331), (0, .ref b), (1, .ref (G.1 + a1)), (2, .ref (G.1 + a2))]) 3 C dL_law_1009 rfl (by decide) (by decide) (fun _ => rfl) (fun v331 => ?_)
          refine R_goto C dL_law_1012 ?_
          refine R_loc (lv2 := [(0, .ref b), (1, .ref (G.1 + a1)), (2, .ref (G.1 + a2)), (3, .int v331)]) [1, 2, 3, 0] rfl ?_
          exact I6 (v331, s328) b4 s5 K3
        · refine R_iconst C (0) dL_law_961 (by decide) ?_
          exact R_inr (VX := (fun (o : ((Int32) ⊕ Int32)) (s : Sg) => sm o (fun o => V κ G (lw_Z (kB κ) (kA κ) (kS κ)) E s (false, u) 1015 [] []) (fun rr => some (rr, s) = some (1, σ')))) (i := .inr) K3 (R_law C hr hA hR hu hGs dL_law_962)
      refine R_if (fun h332 => ?_) (fun h332 => ?_)
      · refine R_tsIn (off := 930) (t := 963) C dL_law_33 h332 (by decide) ?_
        refine R_aload_n C 1 rfl dL_law_963 ?_
        refine R_aload_n C 0 rfl dL_law_964 ?_
        refine R_iload_n C 3 rfl dL_law_965 ?_
        refine R_iconst C (1) dL_law_966 (by decide) ?_
        refine R_iadd C dL_law_967 ?_
        refine R_ck (fun h333 => ?_)
        refine R_sld C hX h333 dL_law_968 ?_
        refine R_bd (fun r336 s334 q335 => ?_)
        refine R_callVi [.int (xs (v1 + (1 : Int32)).toNatClampNeg)] [] C mlL_142 (kX6_back q335) (by rw [hR]; exact ⟨rfl, rfl, Nat.le_of_ble_eq_true rfl, Nat.le_of_ble_eq_true rfl, hu.1, hu.2⟩) ha1 rfl rfl (Nat.le_of_ble_eq_true rfl) dL_law_969 ?_
        refine R_aload_n C 2 rfl dL_law_972 ?_
        refine R_aload_n C 0 rfl dL_law_973 ?_
        refine R_iload_n C 3 rfl dL_law_974 ?_
        refine R_iconst C (1) dL_law_975 (by decide) ?_
        refine R_iadd C dL_law_976 ?_
        refine R_ck (fun h337 => ?_)
        refine R_sld C hX h337 dL_law_977 ?_
        refine R_bd (fun r340 s338 q339 => ?_)
        refine R_callVi [.int (xs (v1 + (1 : Int32)).toNatClampNeg)] [.int r336] C mlL_145 (kX7_back q339) (by rw [hR]; exact ⟨rfl, rfl, Nat.le_of_ble_eq_true rfl, Nat.le_of_ble_eq_true rfl, hu.1, hu.2⟩) ha2 rfl rfl (Nat.le_of_ble_eq_true rfl) dL_law_978 ?_
        refine B_icmp_eq C dL_law_981 ?_ ?_
        · refine S_iinc (fun v341 => [(3, .int v341), (0, .ref b), (1, .ref (G.1 + a1)), (2, .ref (G.1 + a2))]) 3 C dL_law_1009 rfl (by decide) (by decide) (fun _ => rfl) (fun v341 => ?_)
          refine R_goto C dL_law_1012 ?_
          refine R_loc (lv2 := [(0, .ref b), (1, .ref (G.1 + a1)), (2, .ref (G.1 + a2)), (3, .int v341)]) [1, 2, 3, 0] rfl ?_
          exact I6 (v341, s338) b4 s5 K3
        · refine R_iconst C (0) dL_law_984 (by decide) ?_
          exact R_inr (VX := (fun (o : ((Int32) ⊕ Int32)) (s : Sg) => sm o (fun o => V κ G (lw_Z (kB κ) (kA κ) (kS κ)) E s (false, u) 1015 [] []) (fun rr => some (rr, s) = some (1, σ')))) (i := .inr) K3 (R_law C hr hA hR hu hGs dL_law_985)
      refine R_if (fun h342 => ?_) (fun h342 => ?_)
      · refine R_tsIn (off := 953) (t := 986) C dL_law_33 h342 (by decide) ?_
        refine R_aload_n C 1 rfl dL_law_986 ?_
        refine R_aload_n C 0 rfl dL_law_987 ?_
        refine R_iload_n C 3 rfl dL_law_988 ?_
        refine R_iconst C (1) dL_law_989 (by decide) ?_
        refine R_iadd C dL_law_990 ?_
        refine R_ck (fun h343 => ?_)
        refine R_sld C hX h343 dL_law_991 ?_
        refine R_bd (fun r346 s344 q345 => ?_)
        refine R_callVi [.int (xs (v1 + (1 : Int32)).toNatClampNeg)] [] C mlL_146 (kX6_count q345) (by rw [hR]; exact ⟨rfl, rfl, Nat.le_of_ble_eq_true rfl, Nat.le_of_ble_eq_true rfl, hu.1, hu.2⟩) ha1 rfl rfl (Nat.le_of_ble_eq_true rfl) dL_law_992 ?_
        refine R_aload_n C 2 rfl dL_law_995 ?_
        refine R_aload_n C 0 rfl dL_law_996 ?_
        refine R_iload_n C 3 rfl dL_law_997 ?_
        refine R_iconst C (1) dL_law_998 (by decide) ?_
        refine R_iadd C dL_law_999 ?_
        refine R_ck (fun h347 => ?_)
        refine R_sld C hX h347 dL_law_1000 ?_
        refine R_bd (fun r350 s348 q349 => ?_)
        refine R_callVi [.int (xs (v1 + (1 : Int32)).toNatClampNeg)] [.int r346] C mlL_149 (kX7_count q349) (by rw [hR]; exact ⟨rfl, rfl, Nat.le_of_ble_eq_true rfl, Nat.le_of_ble_eq_true rfl, hu.1, hu.2⟩) ha2 rfl rfl (Nat.le_of_ble_eq_true rfl) dL_law_1001 ?_
        refine B_icmp_eq C dL_law_1004 ?_ ?_
        · refine S_iinc (fun v351 => [(3, .int v351), (0, .ref b), (1, .ref (G.1 + a1)), (2, .ref (G.1 + a2))]) 3 C dL_law_1009 rfl (by decide) (by decide) (fun _ => rfl) (fun v351 => ?_)
          refine R_goto C dL_law_1012 ?_
          refine R_loc (lv2 := [(0, .ref b), (1, .ref (G.1 + a1)), (2, .ref (G.1 + a2)), (3, .int v351)]) [1, 2, 3, 0] rfl ?_
          exact I6 (v351, s348) b4 s5 K3
        · refine R_iconst C (0) dL_law_1007 (by decide) ?_
          exact R_inr (VX := (fun (o : ((Int32) ⊕ Int32)) (s : Sg) => sm o (fun o => V κ G (lw_Z (kB κ) (kA κ) (kS κ)) E s (false, u) 1015 [] []) (fun rr => some (rr, s) = some (1, σ')))) (i := .inr) K3 (R_law C hr hA hR hu hGs dL_law_1008)
      · refine R_tsOut (t := 1009) C dL_law_33 (by have ah8 := lv_neT (a := 0) h8 (by decide); have ah26 := lv_neT (a := 1) h26 (by decide); have ah36 := lv_neT (a := 2) h36 (by decide); have ah44 := lv_neT (a := 3) h44 (by decide); have ah56 := lv_neT (a := 4) h56 (by decide); have ah66 := lv_neT (a := 5) h66 (by decide); have ah74 := lv_neT (a := 6) h74 (by decide); have ah86 := lv_neT (a := 7) h86 (by decide); have ah94 := lv_neT (a := 8) h94 (by decide); have ah102 := lv_neT (a := 9) h102 (by decide); have ah110 := lv_neT (a := 10) h110 (by decide); have ah118 := lv_neT (a := 11) h118 (by decide); have ah126 := lv_neT (a := 12) h126 (by decide); have ah138 := lv_neT (a := 13) h138 (by decide); have ah150 := lv_neT (a := 14) h150 (by decide); have ah162 := lv_neT (a := 15) h162 (by decide); have ah176 := lv_neT (a := 16) h176 (by decide); have ah186 := lv_neT (a := 17) h186 (by decide); have ah198 := lv_neT (a := 18) h198 (by decide); have ah208 := lv_neT (a := 19) h208 (by decide); have ah222 := lv_neT (a := 20) h222 (by decide); have ah232 := lv_neT (a := 21) h232 (by decide); have ah242 := lv_neT (a := 22) h242 (by decide); have ah252 := lv_neT (a := 23) h252 (by decide); have ah260 := lv_neT (a := 24) h260 (by decide); have ah272 := lv_neT (a := 25) h272 (by decide); have ah282 := lv_neT (a := 26) h282 (by decide); have ah292 := lv_neT (a := 27) h292 (by decide); have ah304 := lv_neT (a := 28) h304 (by decide); have ah314 := lv_neT (a := 29) h314 (by decide); have ah322 := lv_neT (a := 30) h322 (by decide); have ah332 := lv_neT (a := 31) h332 (by decide); have ah342 := lv_neT (a := 32) h342 (by decide); omega) (by decide) ?_
        refine S_iinc (fun v352 => [(3, .int v352), (0, .ref b), (1, .ref (G.1 + a1)), (2, .ref (G.1 + a2))]) 3 C dL_law_1009 rfl (by decide) (by decide) (fun _ => rfl) (fun v352 => ?_)
        refine R_goto C dL_law_1012 ?_
        refine R_loc (lv2 := [(0, .ref b), (1, .ref (G.1 + a1)), (2, .ref (G.1 + a2)), (3, .int v352)]) [1, 2, 3, 0] rfl ?_
        exact I6 (v352, s2) b4 s5 K3
