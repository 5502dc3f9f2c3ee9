abbrev M_L_law_ : MR := (x, (code, (maxLocals, (ret, none))))
-- L_law_ law([I)Z
theorem dL_law__0 : decode cL_law_ 0 = .ok (.new 8, 3) := by decide +kernel
theorem dL_law__3 : decode cL_law_ 3 = .ok (.dup, 1) := by decide +kernel
theorem dL_law__4 : decode cL_law_ 4 = .ok (.invokespecial 114, 3) := by decide +kernel
theorem dL_law__7 : decode cL_law_ 7 = .ok (.astore_n 1, 1) := by decide +kernel
theorem dL_law__8 : decode cL_law_ 8 = .ok (.new 115, 3) := by decide +kernel
theorem dL_law__11 : decode cL_law_ 11 = .ok (.dup, 1) := by decide +kernel
theorem dL_law__12 : decode cL_law_ 12 = .ok (.invokespecial 117, 3) := by decide +kernel
theorem dL_law__15 : decode cL_law_ 15 = .ok (.astore_n 2, 1) := by decide +kernel
theorem dL_law__16 : decode cL_law_ 16 = .ok (.iconst 1, 1) := by decide +kernel
theorem dL_law__17 : decode cL_law_ 17 = .ok (.newarray .long, 2) := by decide +kernel
theorem dL_law__19 : decode cL_law_ 19 = .ok (.astore_n 3, 1) := by decide +kernel
theorem dL_law__20 : decode cL_law_ 20 = .ok (.iconst 0, 1) := by decide +kernel
theorem dL_law__21 : decode cL_law_ 21 = .ok (.istore 4, 2) := by decide +kernel
theorem dL_law__23 : decode cL_law_ 23 = .ok (.iload 4, 2) := by decide +kernel
theorem dL_law__25 : decode cL_law_ 25 = .ok (.aload_n 0, 1) := by decide +kernel
theorem dL_law__26 : decode cL_law_ 26 = .ok (.arraylength, 1) := by decide +kernel
theorem dL_law__27 : decode cL_law_ 27 = .ok (.bipush 10, 2) := by decide +kernel
theorem dL_law__29 : decode cL_law_ 29 = .ok (.isub, 1) := by decide +kernel
theorem dL_law__30 : decode cL_law_ 30 = .ok (.if_icmp .gt 2562, 3) := by decide +kernel
theorem dL_law__33 : decode cL_law_ 33 = .ok (.aload_n 0, 1) := by decide +kernel
theorem dL_law__34 : decode cL_law_ 34 = .ok (.iload 4, 2) := by decide +kernel
theorem dL_law__36 : decode cL_law_ 36 = .ok (.iaload, 1) := by decide +kernel
theorem dL_law__37 : decode cL_law_ 37 = .ok (.bipush 63, 2) := by decide +kernel
theorem dL_law__39 : decode cL_law_ 39 = .ok (.iand, 1) := by decide +kernel
theorem dL_law__40 : decode cL_law_ 40 = .ok (.tableswitch 2546 0 41 #[184, 257, 313, 369, 425, 481, 494, 507, 563, 631, 699, 767, 823, 983, 1039, 1107, 1163, 1219, 1275, 1343, 1411, 1424, 1437, 1493, 1561, 1629, 1721, 1801, 1881, 1937, 1993, 2049, 2105, 2173, 2229, 2242, 2298, 2378, 2470, 2483, 2496, 2521], 184) := by decide +kernel
theorem dL_law__224 : decode cL_law_ 224 = .ok (.aload_n 1, 1) := by decide +kernel
theorem dL_law__225 : decode cL_law_ 225 = .ok (.aload_n 0, 1) := by decide +kernel
theorem dL_law__226 : decode cL_law_ 226 = .ok (.iload 4, 2) := by decide +kernel
theorem dL_law__228 : decode cL_law_ 228 = .ok (.iconst 1, 1) := by decide +kernel
theorem dL_law__229 : decode cL_law_ 229 = .ok (.iadd, 1) := by decide +kernel
theorem dL_law__230 : decode cL_law_ 230 = .ok (.iaload, 1) := by decide +kernel
theorem dL_law__231 : decode cL_law_ 231 = .ok (.aload_n 0, 1) := by decide +kernel
theorem dL_law__232 : decode cL_law_ 232 = .ok (.iload 4, 2) := by decide +kernel
theorem dL_law__234 : decode cL_law_ 234 = .ok (.iconst 2, 1) := by decide +kernel
theorem dL_law__235 : decode cL_law_ 235 = .ok (.iadd, 1) := by decide +kernel
theorem dL_law__236 : decode cL_law_ 236 = .ok (.iaload, 1) := by decide +kernel
theorem dL_law__237 : decode cL_law_ 237 = .ok (.aload_n 0, 1) := by decide +kernel
theorem dL_law__238 : decode cL_law_ 238 = .ok (.iload 4, 2) := by decide +kernel
theorem dL_law__240 : decode cL_law_ 240 = .ok (.iconst 3, 1) := by decide +kernel
theorem dL_law__241 : decode cL_law_ 241 = .ok (.iadd, 1) := by decide +kernel
theorem dL_law__242 : decode cL_law_ 242 = .ok (.iaload, 1) := by decide +kernel
theorem dL_law__243 : decode cL_law_ 243 = .ok (.aload_n 0, 1) := by decide +kernel
theorem dL_law__244 : decode cL_law_ 244 = .ok (.iload 4, 2) := by decide +kernel
theorem dL_law__246 : decode cL_law_ 246 = .ok (.iconst 4, 1) := by decide +kernel
theorem dL_law__247 : decode cL_law_ 247 = .ok (.iadd, 1) := by decide +kernel
theorem dL_law__248 : decode cL_law_ 248 = .ok (.iaload, 1) := by decide +kernel
theorem dL_law__249 : decode cL_law_ 249 = .ok (.aload_n 0, 1) := by decide +kernel
theorem dL_law__250 : decode cL_law_ 250 = .ok (.iload 4, 2) := by decide +kernel
theorem dL_law__252 : decode cL_law_ 252 = .ok (.iconst 5, 1) := by decide +kernel
theorem dL_law__253 : decode cL_law_ 253 = .ok (.iadd, 1) := by decide +kernel
theorem dL_law__254 : decode cL_law_ 254 = .ok (.iaload, 1) := by decide +kernel
theorem dL_law__255 : decode cL_law_ 255 = .ok (.invokevirtual 118, 3) := by decide +kernel
theorem dL_law__258 : decode cL_law_ 258 = .ok (.aload_n 2, 1) := by decide +kernel
theorem dL_law__259 : decode cL_law_ 259 = .ok (.aload_n 0, 1) := by decide +kernel
theorem dL_law__260 : decode cL_law_ 260 = .ok (.iload 4, 2) := by decide +kernel
theorem dL_law__262 : decode cL_law_ 262 = .ok (.iconst 1, 1) := by decide +kernel
theorem dL_law__263 : decode cL_law_ 263 = .ok (.iadd, 1) := by decide +kernel
theorem dL_law__264 : decode cL_law_ 264 = .ok (.iaload, 1) := by decide +kernel
theorem dL_law__265 : decode cL_law_ 265 = .ok (.aload_n 0, 1) := by decide +kernel
theorem dL_law__266 : decode cL_law_ 266 = .ok (.iload 4, 2) := by decide +kernel
theorem dL_law__268 : decode cL_law_ 268 = .ok (.iconst 2, 1) := by decide +kernel
theorem dL_law__269 : decode cL_law_ 269 = .ok (.iadd, 1) := by decide +kernel
theorem dL_law__270 : decode cL_law_ 270 = .ok (.iaload, 1) := by decide +kernel
theorem dL_law__271 : decode cL_law_ 271 = .ok (.aload_n 0, 1) := by decide +kernel
theorem dL_law__272 : decode cL_law_ 272 = .ok (.iload 4, 2) := by decide +kernel
theorem dL_law__274 : decode cL_law_ 274 = .ok (.iconst 3, 1) := by decide +kernel
theorem dL_law__275 : decode cL_law_ 275 = .ok (.iadd, 1) := by decide +kernel
theorem dL_law__276 : decode cL_law_ 276 = .ok (.iaload, 1) := by decide +kernel
theorem dL_law__277 : decode cL_law_ 277 = .ok (.aload_n 0, 1) := by decide +kernel
theorem dL_law__278 : decode cL_law_ 278 = .ok (.iload 4, 2) := by decide +kernel
theorem dL_law__280 : decode cL_law_ 280 = .ok (.iconst 4, 1) := by decide +kernel
theorem dL_law__281 : decode cL_law_ 281 = .ok (.iadd, 1) := by decide +kernel
theorem dL_law__282 : decode cL_law_ 282 = .ok (.iaload, 1) := by decide +kernel
theorem dL_law__283 : decode cL_law_ 283 = .ok (.aload_n 0, 1) := by decide +kernel
theorem dL_law__284 : decode cL_law_ 284 = .ok (.iload 4, 2) := by decide +kernel
theorem dL_law__286 : decode cL_law_ 286 = .ok (.iconst 5, 1) := by decide +kernel
theorem dL_law__287 : decode cL_law_ 287 = .ok (.iadd, 1) := by decide +kernel
theorem dL_law__288 : decode cL_law_ 288 = .ok (.iaload, 1) := by decide +kernel
theorem dL_law__289 : decode cL_law_ 289 = .ok (.invokevirtual 122, 3) := by decide +kernel
theorem dL_law__292 : decode cL_law_ 292 = .ok (.if_icmp .eq 2294, 3) := by decide +kernel
theorem dL_law__295 : decode cL_law_ 295 = .ok (.iconst 0, 1) := by decide +kernel
theorem dL_law__296 : decode cL_law_ 296 = .ok (.ireturn, 1) := by decide +kernel
theorem dL_law__297 : decode cL_law_ 297 = .ok (.aload_n 1, 1) := by decide +kernel
theorem dL_law__298 : decode cL_law_ 298 = .ok (.aload_n 0, 1) := by decide +kernel
theorem dL_law__299 : decode cL_law_ 299 = .ok (.iload 4, 2) := by decide +kernel
theorem dL_law__301 : decode cL_law_ 301 = .ok (.iconst 1, 1) := by decide +kernel
theorem dL_law__302 : decode cL_law_ 302 = .ok (.iadd, 1) := by decide +kernel
theorem dL_law__303 : decode cL_law_ 303 = .ok (.iaload, 1) := by decide +kernel
theorem dL_law__304 : decode cL_law_ 304 = .ok (.aload_n 3, 1) := by decide +kernel
theorem dL_law__305 : decode cL_law_ 305 = .ok (.invokestatic 123, 3) := by decide +kernel
theorem dL_law__308 : decode cL_law_ 308 = .ok (.istore 5, 2) := by decide +kernel
theorem dL_law__310 : decode cL_law_ 310 = .ok (.aload_n 2, 1) := by decide +kernel
theorem dL_law__311 : decode cL_law_ 311 = .ok (.aload_n 0, 1) := by decide +kernel
theorem dL_law__312 : decode cL_law_ 312 = .ok (.iload 4, 2) := by decide +kernel
theorem dL_law__314 : decode cL_law_ 314 = .ok (.iconst 1, 1) := by decide +kernel
theorem dL_law__315 : decode cL_law_ 315 = .ok (.iadd, 1) := by decide +kernel
theorem dL_law__316 : decode cL_law_ 316 = .ok (.iaload, 1) := by decide +kernel
theorem dL_law__317 : decode cL_law_ 317 = .ok (.invokevirtual 128, 3) := by decide +kernel
theorem dL_law__320 : decode cL_law_ 320 = .ok (.istore 6, 2) := by decide +kernel
theorem dL_law__322 : decode cL_law_ 322 = .ok (.aload_n 2, 1) := by decide +kernel
theorem dL_law__323 : decode cL_law_ 323 = .ok (.invokevirtual 129, 3) := by decide +kernel
theorem dL_law__326 : decode cL_law_ 326 = .ok (.iload 5, 2) := by decide +kernel
theorem dL_law__328 : decode cL_law_ 328 = .ok (.if_icmp .eq 5, 3) := by decide +kernel
theorem dL_law__331 : decode cL_law_ 331 = .ok (.iconst 0, 1) := by decide +kernel
theorem dL_law__332 : decode cL_law_ 332 = .ok (.ireturn, 1) := by decide +kernel
theorem dL_law__333 : decode cL_law_ 333 = .ok (.iload 5, 2) := by decide +kernel
theorem dL_law__335 : decode cL_law_ 335 = .ok (.ifCond .ne 15, 3) := by decide +kernel
theorem dL_law__338 : decode cL_law_ 338 = .ok (.aload_n 3, 1) := by decide +kernel
theorem dL_law__339 : decode cL_law_ 339 = .ok (.iconst 0, 1) := by decide +kernel
theorem dL_law__340 : decode cL_law_ 340 = .ok (.laload, 1) := by decide +kernel
theorem dL_law__341 : decode cL_law_ 341 = .ok (.iload 6, 2) := by decide +kernel
theorem dL_law__343 : decode cL_law_ 343 = .ok (.i2l, 1) := by decide +kernel
theorem dL_law__344 : decode cL_law_ 344 = .ok (.lcmp, 1) := by decide +kernel
theorem dL_law__345 : decode cL_law_ 345 = .ok (.ifCond .eq 5, 3) := by decide +kernel
theorem dL_law__348 : decode cL_law_ 348 = .ok (.iconst 0, 1) := by decide +kernel
theorem dL_law__349 : decode cL_law_ 349 = .ok (.ireturn, 1) := by decide +kernel
theorem dL_law__350 : decode cL_law_ 350 = .ok (.goto 2236, 3) := by decide +kernel
theorem dL_law__353 : decode cL_law_ 353 = .ok (.aload_n 1, 1) := by decide +kernel
theorem dL_law__354 : decode cL_law_ 354 = .ok (.aload_n 0, 1) := by decide +kernel
theorem dL_law__355 : decode cL_law_ 355 = .ok (.iload 4, 2) := by decide +kernel
theorem dL_law__357 : decode cL_law_ 357 = .ok (.iconst 1, 1) := by decide +kernel
theorem dL_law__358 : decode cL_law_ 358 = .ok (.iadd, 1) := by decide +kernel
theorem dL_law__359 : decode cL_law_ 359 = .ok (.iaload, 1) := by decide +kernel
theorem dL_law__360 : decode cL_law_ 360 = .ok (.aload_n 3, 1) := by decide +kernel
theorem dL_law__361 : decode cL_law_ 361 = .ok (.invokestatic 133, 3) := by decide +kernel
theorem dL_law__364 : decode cL_law_ 364 = .ok (.istore 5, 2) := by decide +kernel
theorem dL_law__366 : decode cL_law_ 366 = .ok (.aload_n 2, 1) := by decide +kernel
theorem dL_law__367 : decode cL_law_ 367 = .ok (.aload_n 0, 1) := by decide +kernel
theorem dL_law__368 : decode cL_law_ 368 = .ok (.iload 4, 2) := by decide +kernel
theorem dL_law__370 : decode cL_law_ 370 = .ok (.iconst 1, 1) := by decide +kernel
theorem dL_law__371 : decode cL_law_ 371 = .ok (.iadd, 1) := by decide +kernel
theorem dL_law__372 : decode cL_law_ 372 = .ok (.iaload, 1) := by decide +kernel
theorem dL_law__373 : decode cL_law_ 373 = .ok (.invokevirtual 135, 3) := by decide +kernel
theorem dL_law__376 : decode cL_law_ 376 = .ok (.istore 6, 2) := by decide +kernel
theorem dL_law__378 : decode cL_law_ 378 = .ok (.aload_n 2, 1) := by decide +kernel
theorem dL_law__379 : decode cL_law_ 379 = .ok (.invokevirtual 129, 3) := by decide +kernel
theorem dL_law__382 : decode cL_law_ 382 = .ok (.iload 5, 2) := by decide +kernel
theorem dL_law__384 : decode cL_law_ 384 = .ok (.if_icmp .eq 5, 3) := by decide +kernel
theorem dL_law__387 : decode cL_law_ 387 = .ok (.iconst 0, 1) := by decide +kernel
theorem dL_law__388 : decode cL_law_ 388 = .ok (.ireturn, 1) := by decide +kernel
theorem dL_law__389 : decode cL_law_ 389 = .ok (.iload 5, 2) := by decide +kernel
theorem dL_law__391 : decode cL_law_ 391 = .ok (.ifCond .ne 15, 3) := by decide +kernel
theorem dL_law__394 : decode cL_law_ 394 = .ok (.aload_n 3, 1) := by decide +kernel
theorem dL_law__395 : decode cL_law_ 395 = .ok (.iconst 0, 1) := by decide +kernel
theorem dL_law__396 : decode cL_law_ 396 = .ok (.laload, 1) := by decide +kernel
theorem dL_law__397 : decode cL_law_ 397 = .ok (.iload 6, 2) := by decide +kernel
theorem dL_law__399 : decode cL_law_ 399 = .ok (.i2l, 1) := by decide +kernel
theorem dL_law__400 : decode cL_law_ 400 = .ok (.lcmp, 1) := by decide +kernel
theorem dL_law__401 : decode cL_law_ 401 = .ok (.ifCond .eq 5, 3) := by decide +kernel
theorem dL_law__404 : decode cL_law_ 404 = .ok (.iconst 0, 1) := by decide +kernel
theorem dL_law__405 : decode cL_law_ 405 = .ok (.ireturn, 1) := by decide +kernel
theorem dL_law__406 : decode cL_law_ 406 = .ok (.goto 2180, 3) := by decide +kernel
theorem dL_law__409 : decode cL_law_ 409 = .ok (.aload_n 1, 1) := by decide +kernel
theorem dL_law__410 : decode cL_law_ 410 = .ok (.aload_n 0, 1) := by decide +kernel
theorem dL_law__411 : decode cL_law_ 411 = .ok (.iload 4, 2) := by decide +kernel
theorem dL_law__413 : decode cL_law_ 413 = .ok (.iconst 1, 1) := by decide +kernel
theorem dL_law__414 : decode cL_law_ 414 = .ok (.iadd, 1) := by decide +kernel
theorem dL_law__415 : decode cL_law_ 415 = .ok (.iaload, 1) := by decide +kernel
theorem dL_law__416 : decode cL_law_ 416 = .ok (.aload_n 3, 1) := by decide +kernel
theorem dL_law__417 : decode cL_law_ 417 = .ok (.invokestatic 136, 3) := by decide +kernel
theorem dL_law__420 : decode cL_law_ 420 = .ok (.istore 5, 2) := by decide +kernel
theorem dL_law__422 : decode cL_law_ 422 = .ok (.aload_n 2, 1) := by decide +kernel
theorem dL_law__423 : decode cL_law_ 423 = .ok (.aload_n 0, 1) := by decide +kernel
theorem dL_law__424 : decode cL_law_ 424 = .ok (.iload 4, 2) := by decide +kernel
theorem dL_law__426 : decode cL_law_ 426 = .ok (.iconst 1, 1) := by decide +kernel
theorem dL_law__427 : decode cL_law_ 427 = .ok (.iadd, 1) := by decide +kernel
theorem dL_law__428 : decode cL_law_ 428 = .ok (.iaload, 1) := by decide +kernel
theorem dL_law__429 : decode cL_law_ 429 = .ok (.invokevirtual 138, 3) := by decide +kernel
theorem dL_law__432 : decode cL_law_ 432 = .ok (.istore 6, 2) := by decide +kernel
theorem dL_law__434 : decode cL_law_ 434 = .ok (.aload_n 2, 1) := by decide +kernel
theorem dL_law__435 : decode cL_law_ 435 = .ok (.invokevirtual 129, 3) := by decide +kernel
theorem dL_law__438 : decode cL_law_ 438 = .ok (.iload 5, 2) := by decide +kernel
theorem dL_law__440 : decode cL_law_ 440 = .ok (.if_icmp .eq 5, 3) := by decide +kernel
theorem dL_law__443 : decode cL_law_ 443 = .ok (.iconst 0, 1) := by decide +kernel
theorem dL_law__444 : decode cL_law_ 444 = .ok (.ireturn, 1) := by decide +kernel
theorem dL_law__445 : decode cL_law_ 445 = .ok (.iload 5, 2) := by decide +kernel
theorem dL_law__447 : decode cL_law_ 447 = .ok (.ifCond .ne 15, 3) := by decide +kernel
theorem dL_law__450 : decode cL_law_ 450 = .ok (.aload_n 3, 1) := by decide +kernel
theorem dL_law__451 : decode cL_law_ 451 = .ok (.iconst 0, 1) := by decide +kernel
theorem dL_law__452 : decode cL_law_ 452 = .ok (.laload, 1) := by decide +kernel
theorem dL_law__453 : decode cL_law_ 453 = .ok (.iload 6, 2) := by decide +kernel
theorem dL_law__455 : decode cL_law_ 455 = .ok (.i2l, 1) := by decide +kernel
theorem dL_law__456 : decode cL_law_ 456 = .ok (.lcmp, 1) := by decide +kernel
theorem dL_law__457 : decode cL_law_ 457 = .ok (.ifCond .eq 5, 3) := by decide +kernel
theorem dL_law__460 : decode cL_law_ 460 = .ok (.iconst 0, 1) := by decide +kernel
theorem dL_law__461 : decode cL_law_ 461 = .ok (.ireturn, 1) := by decide +kernel
theorem dL_law__462 : decode cL_law_ 462 = .ok (.goto 2124, 3) := by decide +kernel
theorem dL_law__465 : decode cL_law_ 465 = .ok (.aload_n 1, 1) := by decide +kernel
theorem dL_law__466 : decode cL_law_ 466 = .ok (.aload_n 0, 1) := by decide +kernel
theorem dL_law__467 : decode cL_law_ 467 = .ok (.iload 4, 2) := by decide +kernel
theorem dL_law__469 : decode cL_law_ 469 = .ok (.iconst 1, 1) := by decide +kernel
theorem dL_law__470 : decode cL_law_ 470 = .ok (.iadd, 1) := by decide +kernel
theorem dL_law__471 : decode cL_law_ 471 = .ok (.iaload, 1) := by decide +kernel
theorem dL_law__472 : decode cL_law_ 472 = .ok (.aload_n 3, 1) := by decide +kernel
theorem dL_law__473 : decode cL_law_ 473 = .ok (.invokestatic 139, 3) := by decide +kernel
theorem dL_law__476 : decode cL_law_ 476 = .ok (.istore 5, 2) := by decide +kernel
theorem dL_law__478 : decode cL_law_ 478 = .ok (.aload_n 2, 1) := by decide +kernel
theorem dL_law__479 : decode cL_law_ 479 = .ok (.aload_n 0, 1) := by decide +kernel
theorem dL_law__480 : decode cL_law_ 480 = .ok (.iload 4, 2) := by decide +kernel
theorem dL_law__482 : decode cL_law_ 482 = .ok (.iconst 1, 1) := by decide +kernel
theorem dL_law__483 : decode cL_law_ 483 = .ok (.iadd, 1) := by decide +kernel
theorem dL_law__484 : decode cL_law_ 484 = .ok (.iaload, 1) := by decide +kernel
theorem dL_law__485 : decode cL_law_ 485 = .ok (.invokevirtual 141, 3) := by decide +kernel
theorem dL_law__488 : decode cL_law_ 488 = .ok (.istore 6, 2) := by decide +kernel
theorem dL_law__490 : decode cL_law_ 490 = .ok (.aload_n 2, 1) := by decide +kernel
theorem dL_law__491 : decode cL_law_ 491 = .ok (.invokevirtual 129, 3) := by decide +kernel
theorem dL_law__494 : decode cL_law_ 494 = .ok (.iload 5, 2) := by decide +kernel
theorem dL_law__496 : decode cL_law_ 496 = .ok (.if_icmp .eq 5, 3) := by decide +kernel
theorem dL_law__499 : decode cL_law_ 499 = .ok (.iconst 0, 1) := by decide +kernel
theorem dL_law__500 : decode cL_law_ 500 = .ok (.ireturn, 1) := by decide +kernel
theorem dL_law__501 : decode cL_law_ 501 = .ok (.iload 5, 2) := by decide +kernel
theorem dL_law__503 : decode cL_law_ 503 = .ok (.ifCond .ne 15, 3) := by decide +kernel
theorem dL_law__506 : decode cL_law_ 506 = .ok (.aload_n 3, 1) := by decide +kernel
theorem dL_law__507 : decode cL_law_ 507 = .ok (.iconst 0, 1) := by decide +kernel
theorem dL_law__508 : decode cL_law_ 508 = .ok (.laload, 1) := by decide +kernel
theorem dL_law__509 : decode cL_law_ 509 = .ok (.iload 6, 2) := by decide +kernel
theorem dL_law__511 : decode cL_law_ 511 = .ok (.i2l, 1) := by decide +kernel
theorem dL_law__512 : decode cL_law_ 512 = .ok (.lcmp, 1) := by decide +kernel
theorem dL_law__513 : decode cL_law_ 513 = .ok (.ifCond .eq 5, 3) := by decide +kernel
theorem dL_law__516 : decode cL_law_ 516 = .ok (.iconst 0, 1) := by decide +kernel
theorem dL_law__517 : decode cL_law_ 517 = .ok (.ireturn, 1) := by decide +kernel
theorem dL_law__518 : decode cL_law_ 518 = .ok (.goto 2068, 3) := by decide +kernel
theorem dL_law__521 : decode cL_law_ 521 = .ok (.aload_n 1, 1) := by decide +kernel
theorem dL_law__522 : decode cL_law_ 522 = .ok (.invokevirtual 142, 3) := by decide +kernel
theorem dL_law__525 : decode cL_law_ 525 = .ok (.aload_n 2, 1) := by decide +kernel
theorem dL_law__526 : decode cL_law_ 526 = .ok (.invokevirtual 145, 3) := by decide +kernel
theorem dL_law__529 : decode cL_law_ 529 = .ok (.if_icmp .eq 2057, 3) := by decide +kernel
theorem dL_law__532 : decode cL_law_ 532 = .ok (.iconst 0, 1) := by decide +kernel
theorem dL_law__533 : decode cL_law_ 533 = .ok (.ireturn, 1) := by decide +kernel
theorem dL_law__534 : decode cL_law_ 534 = .ok (.aload_n 1, 1) := by decide +kernel
theorem dL_law__535 : decode cL_law_ 535 = .ok (.invokevirtual 146, 3) := by decide +kernel
theorem dL_law__538 : decode cL_law_ 538 = .ok (.aload_n 2, 1) := by decide +kernel
theorem dL_law__539 : decode cL_law_ 539 = .ok (.invokevirtual 149, 3) := by decide +kernel
theorem dL_law__542 : decode cL_law_ 542 = .ok (.if_icmp .eq 2044, 3) := by decide +kernel
theorem dL_law__545 : decode cL_law_ 545 = .ok (.iconst 0, 1) := by decide +kernel
theorem dL_law__546 : decode cL_law_ 546 = .ok (.ireturn, 1) := by decide +kernel
theorem dL_law__547 : decode cL_law_ 547 = .ok (.aload_n 1, 1) := by decide +kernel
theorem dL_law__548 : decode cL_law_ 548 = .ok (.aload_n 0, 1) := by decide +kernel
theorem dL_law__549 : decode cL_law_ 549 = .ok (.iload 4, 2) := by decide +kernel
theorem dL_law__551 : decode cL_law_ 551 = .ok (.iconst 1, 1) := by decide +kernel
theorem dL_law__552 : decode cL_law_ 552 = .ok (.iadd, 1) := by decide +kernel
theorem dL_law__553 : decode cL_law_ 553 = .ok (.iaload, 1) := by decide +kernel
theorem dL_law__554 : decode cL_law_ 554 = .ok (.aload_n 3, 1) := by decide +kernel
theorem dL_law__555 : decode cL_law_ 555 = .ok (.invokestatic 150, 3) := by decide +kernel
theorem dL_law__558 : decode cL_law_ 558 = .ok (.istore 5, 2) := by decide +kernel
theorem dL_law__560 : decode cL_law_ 560 = .ok (.aload_n 2, 1) := by decide +kernel
theorem dL_law__561 : decode cL_law_ 561 = .ok (.aload_n 0, 1) := by decide +kernel
theorem dL_law__562 : decode cL_law_ 562 = .ok (.iload 4, 2) := by decide +kernel
theorem dL_law__564 : decode cL_law_ 564 = .ok (.iconst 1, 1) := by decide +kernel
theorem dL_law__565 : decode cL_law_ 565 = .ok (.iadd, 1) := by decide +kernel
theorem dL_law__566 : decode cL_law_ 566 = .ok (.iaload, 1) := by decide +kernel
theorem dL_law__567 : decode cL_law_ 567 = .ok (.invokevirtual 152, 3) := by decide +kernel
theorem dL_law__570 : decode cL_law_ 570 = .ok (.istore 6, 2) := by decide +kernel
theorem dL_law__572 : decode cL_law_ 572 = .ok (.aload_n 2, 1) := by decide +kernel
theorem dL_law__573 : decode cL_law_ 573 = .ok (.invokevirtual 129, 3) := by decide +kernel
theorem dL_law__576 : decode cL_law_ 576 = .ok (.iload 5, 2) := by decide +kernel
theorem dL_law__578 : decode cL_law_ 578 = .ok (.if_icmp .eq 5, 3) := by decide +kernel
theorem dL_law__581 : decode cL_law_ 581 = .ok (.iconst 0, 1) := by decide +kernel
theorem dL_law__582 : decode cL_law_ 582 = .ok (.ireturn, 1) := by decide +kernel
theorem dL_law__583 : decode cL_law_ 583 = .ok (.iload 5, 2) := by decide +kernel
theorem dL_law__585 : decode cL_law_ 585 = .ok (.ifCond .ne 15, 3) := by decide +kernel
theorem dL_law__588 : decode cL_law_ 588 = .ok (.aload_n 3, 1) := by decide +kernel
theorem dL_law__589 : decode cL_law_ 589 = .ok (.iconst 0, 1) := by decide +kernel
theorem dL_law__590 : decode cL_law_ 590 = .ok (.laload, 1) := by decide +kernel
theorem dL_law__591 : decode cL_law_ 591 = .ok (.iload 6, 2) := by decide +kernel
theorem dL_law__593 : decode cL_law_ 593 = .ok (.i2l, 1) := by decide +kernel
theorem dL_law__594 : decode cL_law_ 594 = .ok (.lcmp, 1) := by decide +kernel
theorem dL_law__595 : decode cL_law_ 595 = .ok (.ifCond .eq 5, 3) := by decide +kernel
theorem dL_law__598 : decode cL_law_ 598 = .ok (.iconst 0, 1) := by decide +kernel
theorem dL_law__599 : decode cL_law_ 599 = .ok (.ireturn, 1) := by decide +kernel
theorem dL_law__600 : decode cL_law_ 600 = .ok (.goto 1986, 3) := by decide +kernel
theorem dL_law__603 : decode cL_law_ 603 = .ok (.aload_n 1, 1) := by decide +kernel
theorem dL_law__604 : decode cL_law_ 604 = .ok (.aload_n 0, 1) := by decide +kernel
theorem dL_law__605 : decode cL_law_ 605 = .ok (.iload 4, 2) := by decide +kernel
theorem dL_law__607 : decode cL_law_ 607 = .ok (.iconst 1, 1) := by decide +kernel
theorem dL_law__608 : decode cL_law_ 608 = .ok (.iadd, 1) := by decide +kernel
theorem dL_law__609 : decode cL_law_ 609 = .ok (.iaload, 1) := by decide +kernel
theorem dL_law__610 : decode cL_law_ 610 = .ok (.aload_n 0, 1) := by decide +kernel
theorem dL_law__611 : decode cL_law_ 611 = .ok (.iload 4, 2) := by decide +kernel
theorem dL_law__613 : decode cL_law_ 613 = .ok (.iconst 2, 1) := by decide +kernel
theorem dL_law__614 : decode cL_law_ 614 = .ok (.iadd, 1) := by decide +kernel
theorem dL_law__615 : decode cL_law_ 615 = .ok (.iaload, 1) := by decide +kernel
theorem dL_law__616 : decode cL_law_ 616 = .ok (.aload_n 3, 1) := by decide +kernel
theorem dL_law__617 : decode cL_law_ 617 = .ok (.invokestatic 153, 3) := by decide +kernel
theorem dL_law__620 : decode cL_law_ 620 = .ok (.istore 5, 2) := by decide +kernel
theorem dL_law__622 : decode cL_law_ 622 = .ok (.aload_n 2, 1) := by decide +kernel
theorem dL_law__623 : decode cL_law_ 623 = .ok (.aload_n 0, 1) := by decide +kernel
theorem dL_law__624 : decode cL_law_ 624 = .ok (.iload 4, 2) := by decide +kernel
theorem dL_law__626 : decode cL_law_ 626 = .ok (.iconst 1, 1) := by decide +kernel
theorem dL_law__627 : decode cL_law_ 627 = .ok (.iadd, 1) := by decide +kernel
theorem dL_law__628 : decode cL_law_ 628 = .ok (.iaload, 1) := by decide +kernel
theorem dL_law__629 : decode cL_law_ 629 = .ok (.aload_n 0, 1) := by decide +kernel
theorem dL_law__630 : decode cL_law_ 630 = .ok (.iload 4, 2) := by decide +kernel
theorem dL_law__632 : decode cL_law_ 632 = .ok (.iconst 2, 1) := by decide +kernel
theorem dL_law__633 : decode cL_law_ 633 = .ok (.iadd, 1) := by decide +kernel
theorem dL_law__634 : decode cL_law_ 634 = .ok (.iaload, 1) := by decide +kernel
theorem dL_law__635 : decode cL_law_ 635 = .ok (.invokevirtual 156, 3) := by decide +kernel
theorem dL_law__638 : decode cL_law_ 638 = .ok (.istore 6, 2) := by decide +kernel
theorem dL_law__640 : decode cL_law_ 640 = .ok (.aload_n 2, 1) := by decide +kernel
theorem dL_law__641 : decode cL_law_ 641 = .ok (.invokevirtual 129, 3) := by decide +kernel
theorem dL_law__644 : decode cL_law_ 644 = .ok (.iload 5, 2) := by decide +kernel
theorem dL_law__646 : decode cL_law_ 646 = .ok (.if_icmp .eq 5, 3) := by decide +kernel
theorem dL_law__649 : decode cL_law_ 649 = .ok (.iconst 0, 1) := by decide +kernel
theorem dL_law__650 : decode cL_law_ 650 = .ok (.ireturn, 1) := by decide +kernel
theorem dL_law__651 : decode cL_law_ 651 = .ok (.iload 5, 2) := by decide +kernel
theorem dL_law__653 : decode cL_law_ 653 = .ok (.ifCond .ne 15, 3) := by decide +kernel
theorem dL_law__656 : decode cL_law_ 656 = .ok (.aload_n 3, 1) := by decide +kernel
theorem dL_law__657 : decode cL_law_ 657 = .ok (.iconst 0, 1) := by decide +kernel
theorem dL_law__658 : decode cL_law_ 658 = .ok (.laload, 1) := by decide +kernel
theorem dL_law__659 : decode cL_law_ 659 = .ok (.iload 6, 2) := by decide +kernel
theorem dL_law__661 : decode cL_law_ 661 = .ok (.i2l, 1) := by decide +kernel
theorem dL_law__662 : decode cL_law_ 662 = .ok (.lcmp, 1) := by decide +kernel
theorem dL_law__663 : decode cL_law_ 663 = .ok (.ifCond .eq 5, 3) := by decide +kernel
theorem dL_law__666 : decode cL_law_ 666 = .ok (.iconst 0, 1) := by decide +kernel
theorem dL_law__667 : decode cL_law_ 667 = .ok (.ireturn, 1) := by decide +kernel
theorem dL_law__668 : decode cL_law_ 668 = .ok (.goto 1918, 3) := by decide +kernel
theorem dL_law__671 : decode cL_law_ 671 = .ok (.aload_n 1, 1) := by decide +kernel
theorem dL_law__672 : decode cL_law_ 672 = .ok (.aload_n 0, 1) := by decide +kernel
theorem dL_law__673 : decode cL_law_ 673 = .ok (.iload 4, 2) := by decide +kernel
theorem dL_law__675 : decode cL_law_ 675 = .ok (.iconst 1, 1) := by decide +kernel
theorem dL_law__676 : decode cL_law_ 676 = .ok (.iadd, 1) := by decide +kernel
theorem dL_law__677 : decode cL_law_ 677 = .ok (.iaload, 1) := by decide +kernel
theorem dL_law__678 : decode cL_law_ 678 = .ok (.aload_n 0, 1) := by decide +kernel
theorem dL_law__679 : decode cL_law_ 679 = .ok (.iload 4, 2) := by decide +kernel
theorem dL_law__681 : decode cL_law_ 681 = .ok (.iconst 2, 1) := by decide +kernel
theorem dL_law__682 : decode cL_law_ 682 = .ok (.iadd, 1) := by decide +kernel
theorem dL_law__683 : decode cL_law_ 683 = .ok (.iaload, 1) := by decide +kernel
theorem dL_law__684 : decode cL_law_ 684 = .ok (.aload_n 3, 1) := by decide +kernel
theorem dL_law__685 : decode cL_law_ 685 = .ok (.invokestatic 157, 3) := by decide +kernel
theorem dL_law__688 : decode cL_law_ 688 = .ok (.istore 5, 2) := by decide +kernel
theorem dL_law__690 : decode cL_law_ 690 = .ok (.aload_n 2, 1) := by decide +kernel
theorem dL_law__691 : decode cL_law_ 691 = .ok (.aload_n 0, 1) := by decide +kernel
theorem dL_law__692 : decode cL_law_ 692 = .ok (.iload 4, 2) := by decide +kernel
theorem dL_law__694 : decode cL_law_ 694 = .ok (.iconst 1, 1) := by decide +kernel
theorem dL_law__695 : decode cL_law_ 695 = .ok (.iadd, 1) := by decide +kernel
theorem dL_law__696 : decode cL_law_ 696 = .ok (.iaload, 1) := by decide +kernel
theorem dL_law__697 : decode cL_law_ 697 = .ok (.aload_n 0, 1) := by decide +kernel
theorem dL_law__698 : decode cL_law_ 698 = .ok (.iload 4, 2) := by decide +kernel
theorem dL_law__700 : decode cL_law_ 700 = .ok (.iconst 2, 1) := by decide +kernel
theorem dL_law__701 : decode cL_law_ 701 = .ok (.iadd, 1) := by decide +kernel
theorem dL_law__702 : decode cL_law_ 702 = .ok (.iaload, 1) := by decide +kernel
theorem dL_law__703 : decode cL_law_ 703 = .ok (.invokevirtual 159, 3) := by decide +kernel
theorem dL_law__706 : decode cL_law_ 706 = .ok (.istore 6, 2) := by decide +kernel
theorem dL_law__708 : decode cL_law_ 708 = .ok (.aload_n 2, 1) := by decide +kernel
theorem dL_law__709 : decode cL_law_ 709 = .ok (.invokevirtual 129, 3) := by decide +kernel
theorem dL_law__712 : decode cL_law_ 712 = .ok (.iload 5, 2) := by decide +kernel
theorem dL_law__714 : decode cL_law_ 714 = .ok (.if_icmp .eq 5, 3) := by decide +kernel
theorem dL_law__717 : decode cL_law_ 717 = .ok (.iconst 0, 1) := by decide +kernel
theorem dL_law__718 : decode cL_law_ 718 = .ok (.ireturn, 1) := by decide +kernel
theorem dL_law__719 : decode cL_law_ 719 = .ok (.iload 5, 2) := by decide +kernel
theorem dL_law__721 : decode cL_law_ 721 = .ok (.ifCond .ne 15, 3) := by decide +kernel
theorem dL_law__724 : decode cL_law_ 724 = .ok (.aload_n 3, 1) := by decide +kernel
theorem dL_law__725 : decode cL_law_ 725 = .ok (.iconst 0, 1) := by decide +kernel
theorem dL_law__726 : decode cL_law_ 726 = .ok (.laload, 1) := by decide +kernel
theorem dL_law__727 : decode cL_law_ 727 = .ok (.iload 6, 2) := by decide +kernel
theorem dL_law__729 : decode cL_law_ 729 = .ok (.i2l, 1) := by decide +kernel
theorem dL_law__730 : decode cL_law_ 730 = .ok (.lcmp, 1) := by decide +kernel
theorem dL_law__731 : decode cL_law_ 731 = .ok (.ifCond .eq 5, 3) := by decide +kernel
theorem dL_law__734 : decode cL_law_ 734 = .ok (.iconst 0, 1) := by decide +kernel
theorem dL_law__735 : decode cL_law_ 735 = .ok (.ireturn, 1) := by decide +kernel
theorem dL_law__736 : decode cL_law_ 736 = .ok (.goto 1850, 3) := by decide +kernel
theorem dL_law__739 : decode cL_law_ 739 = .ok (.aload_n 1, 1) := by decide +kernel
theorem dL_law__740 : decode cL_law_ 740 = .ok (.aload_n 0, 1) := by decide +kernel
theorem dL_law__741 : decode cL_law_ 741 = .ok (.iload 4, 2) := by decide +kernel
theorem dL_law__743 : decode cL_law_ 743 = .ok (.iconst 1, 1) := by decide +kernel
theorem dL_law__744 : decode cL_law_ 744 = .ok (.iadd, 1) := by decide +kernel
theorem dL_law__745 : decode cL_law_ 745 = .ok (.iaload, 1) := by decide +kernel
theorem dL_law__746 : decode cL_law_ 746 = .ok (.aload_n 0, 1) := by decide +kernel
theorem dL_law__747 : decode cL_law_ 747 = .ok (.iload 4, 2) := by decide +kernel
theorem dL_law__749 : decode cL_law_ 749 = .ok (.iconst 2, 1) := by decide +kernel
theorem dL_law__750 : decode cL_law_ 750 = .ok (.iadd, 1) := by decide +kernel
theorem dL_law__751 : decode cL_law_ 751 = .ok (.iaload, 1) := by decide +kernel
theorem dL_law__752 : decode cL_law_ 752 = .ok (.aload_n 3, 1) := by decide +kernel
theorem dL_law__753 : decode cL_law_ 753 = .ok (.invokestatic 160, 3) := by decide +kernel
theorem dL_law__756 : decode cL_law_ 756 = .ok (.istore 5, 2) := by decide +kernel
theorem dL_law__758 : decode cL_law_ 758 = .ok (.aload_n 2, 1) := by decide +kernel
theorem dL_law__759 : decode cL_law_ 759 = .ok (.aload_n 0, 1) := by decide +kernel
theorem dL_law__760 : decode cL_law_ 760 = .ok (.iload 4, 2) := by decide +kernel
theorem dL_law__762 : decode cL_law_ 762 = .ok (.iconst 1, 1) := by decide +kernel
theorem dL_law__763 : decode cL_law_ 763 = .ok (.iadd, 1) := by decide +kernel
theorem dL_law__764 : decode cL_law_ 764 = .ok (.iaload, 1) := by decide +kernel
theorem dL_law__765 : decode cL_law_ 765 = .ok (.aload_n 0, 1) := by decide +kernel
theorem dL_law__766 : decode cL_law_ 766 = .ok (.iload 4, 2) := by decide +kernel
theorem dL_law__768 : decode cL_law_ 768 = .ok (.iconst 2, 1) := by decide +kernel
theorem dL_law__769 : decode cL_law_ 769 = .ok (.iadd, 1) := by decide +kernel
theorem dL_law__770 : decode cL_law_ 770 = .ok (.iaload, 1) := by decide +kernel
theorem dL_law__771 : decode cL_law_ 771 = .ok (.invokevirtual 162, 3) := by decide +kernel
theorem dL_law__774 : decode cL_law_ 774 = .ok (.istore 6, 2) := by decide +kernel
theorem dL_law__776 : decode cL_law_ 776 = .ok (.aload_n 2, 1) := by decide +kernel
theorem dL_law__777 : decode cL_law_ 777 = .ok (.invokevirtual 129, 3) := by decide +kernel
theorem dL_law__780 : decode cL_law_ 780 = .ok (.iload 5, 2) := by decide +kernel
theorem dL_law__782 : decode cL_law_ 782 = .ok (.if_icmp .eq 5, 3) := by decide +kernel
theorem dL_law__785 : decode cL_law_ 785 = .ok (.iconst 0, 1) := by decide +kernel
theorem dL_law__786 : decode cL_law_ 786 = .ok (.ireturn, 1) := by decide +kernel
theorem dL_law__787 : decode cL_law_ 787 = .ok (.iload 5, 2) := by decide +kernel
theorem dL_law__789 : decode cL_law_ 789 = .ok (.ifCond .ne 15, 3) := by decide +kernel
theorem dL_law__792 : decode cL_law_ 792 = .ok (.aload_n 3, 1) := by decide +kernel
theorem dL_law__793 : decode cL_law_ 793 = .ok (.iconst 0, 1) := by decide +kernel
theorem dL_law__794 : decode cL_law_ 794 = .ok (.laload, 1) := by decide +kernel
theorem dL_law__795 : decode cL_law_ 795 = .ok (.iload 6, 2) := by decide +kernel
theorem dL_law__797 : decode cL_law_ 797 = .ok (.i2l, 1) := by decide +kernel
theorem dL_law__798 : decode cL_law_ 798 = .ok (.lcmp, 1) := by decide +kernel
theorem dL_law__799 : decode cL_law_ 799 = .ok (.ifCond .eq 5, 3) := by decide +kernel
theorem dL_law__802 : decode cL_law_ 802 = .ok (.iconst 0, 1) := by decide +kernel
theorem dL_law__803 : decode cL_law_ 803 = .ok (.ireturn, 1) := by decide +kernel
theorem dL_law__804 : decode cL_law_ 804 = .ok (.goto 1782, 3) := by decide +kernel
theorem dL_law__807 : decode cL_law_ 807 = .ok (.aload_n 1, 1) := by decide +kernel
theorem dL_law__808 : decode cL_law_ 808 = .ok (.aload_n 0, 1) := by decide +kernel
theorem dL_law__809 : decode cL_law_ 809 = .ok (.iload 4, 2) := by decide +kernel
theorem dL_law__811 : decode cL_law_ 811 = .ok (.iconst 1, 1) := by decide +kernel
theorem dL_law__812 : decode cL_law_ 812 = .ok (.iadd, 1) := by decide +kernel
theorem dL_law__813 : decode cL_law_ 813 = .ok (.iaload, 1) := by decide +kernel
theorem dL_law__814 : decode cL_law_ 814 = .ok (.aload_n 3, 1) := by decide +kernel
theorem dL_law__815 : decode cL_law_ 815 = .ok (.invokestatic 163, 3) := by decide +kernel
theorem dL_law__818 : decode cL_law_ 818 = .ok (.istore 5, 2) := by decide +kernel
theorem dL_law__820 : decode cL_law_ 820 = .ok (.aload_n 2, 1) := by decide +kernel
theorem dL_law__821 : decode cL_law_ 821 = .ok (.aload_n 0, 1) := by decide +kernel
theorem dL_law__822 : decode cL_law_ 822 = .ok (.iload 4, 2) := by decide +kernel
theorem dL_law__824 : decode cL_law_ 824 = .ok (.iconst 1, 1) := by decide +kernel
theorem dL_law__825 : decode cL_law_ 825 = .ok (.iadd, 1) := by decide +kernel
theorem dL_law__826 : decode cL_law_ 826 = .ok (.iaload, 1) := by decide +kernel
theorem dL_law__827 : decode cL_law_ 827 = .ok (.invokevirtual 165, 3) := by decide +kernel
theorem dL_law__830 : decode cL_law_ 830 = .ok (.istore 6, 2) := by decide +kernel
theorem dL_law__832 : decode cL_law_ 832 = .ok (.aload_n 2, 1) := by decide +kernel
theorem dL_law__833 : decode cL_law_ 833 = .ok (.invokevirtual 129, 3) := by decide +kernel
theorem dL_law__836 : decode cL_law_ 836 = .ok (.iload 5, 2) := by decide +kernel
theorem dL_law__838 : decode cL_law_ 838 = .ok (.if_icmp .eq 5, 3) := by decide +kernel
theorem dL_law__841 : decode cL_law_ 841 = .ok (.iconst 0, 1) := by decide +kernel
theorem dL_law__842 : decode cL_law_ 842 = .ok (.ireturn, 1) := by decide +kernel
theorem dL_law__843 : decode cL_law_ 843 = .ok (.iload 5, 2) := by decide +kernel
theorem dL_law__845 : decode cL_law_ 845 = .ok (.ifCond .ne 15, 3) := by decide +kernel
theorem dL_law__848 : decode cL_law_ 848 = .ok (.aload_n 3, 1) := by decide +kernel
theorem dL_law__849 : decode cL_law_ 849 = .ok (.iconst 0, 1) := by decide +kernel
theorem dL_law__850 : decode cL_law_ 850 = .ok (.laload, 1) := by decide +kernel
theorem dL_law__851 : decode cL_law_ 851 = .ok (.iload 6, 2) := by decide +kernel
theorem dL_law__853 : decode cL_law_ 853 = .ok (.i2l, 1) := by decide +kernel
theorem dL_law__854 : decode cL_law_ 854 = .ok (.lcmp, 1) := by decide +kernel
theorem dL_law__855 : decode cL_law_ 855 = .ok (.ifCond .eq 5, 3) := by decide +kernel
theorem dL_law__858 : decode cL_law_ 858 = .ok (.iconst 0, 1) := by decide +kernel
theorem dL_law__859 : decode cL_law_ 859 = .ok (.ireturn, 1) := by decide +kernel
theorem dL_law__860 : decode cL_law_ 860 = .ok (.goto 1726, 3) := by decide +kernel
theorem dL_law__863 : decode cL_law_ 863 = .ok (.aload_n 1, 1) := by decide +kernel
theorem dL_law__864 : decode cL_law_ 864 = .ok (.aload_n 0, 1) := by decide +kernel
theorem dL_law__865 : decode cL_law_ 865 = .ok (.iload 4, 2) := by decide +kernel
theorem dL_law__867 : decode cL_law_ 867 = .ok (.iconst 1, 1) := by decide +kernel
theorem dL_law__868 : decode cL_law_ 868 = .ok (.iadd, 1) := by decide +kernel
theorem dL_law__869 : decode cL_law_ 869 = .ok (.iaload, 1) := by decide +kernel
theorem dL_law__870 : decode cL_law_ 870 = .ok (.aload_n 0, 1) := by decide +kernel
theorem dL_law__871 : decode cL_law_ 871 = .ok (.iload 4, 2) := by decide +kernel
theorem dL_law__873 : decode cL_law_ 873 = .ok (.iconst 2, 1) := by decide +kernel
theorem dL_law__874 : decode cL_law_ 874 = .ok (.iadd, 1) := by decide +kernel
theorem dL_law__875 : decode cL_law_ 875 = .ok (.iaload, 1) := by decide +kernel
theorem dL_law__876 : decode cL_law_ 876 = .ok (.aload_n 0, 1) := by decide +kernel
theorem dL_law__877 : decode cL_law_ 877 = .ok (.iload 4, 2) := by decide +kernel
theorem dL_law__879 : decode cL_law_ 879 = .ok (.iconst 3, 1) := by decide +kernel
theorem dL_law__880 : decode cL_law_ 880 = .ok (.iadd, 1) := by decide +kernel
theorem dL_law__881 : decode cL_law_ 881 = .ok (.iaload, 1) := by decide +kernel
theorem dL_law__882 : decode cL_law_ 882 = .ok (.aload_n 0, 1) := by decide +kernel
theorem dL_law__883 : decode cL_law_ 883 = .ok (.iload 4, 2) := by decide +kernel
theorem dL_law__885 : decode cL_law_ 885 = .ok (.iconst 4, 1) := by decide +kernel
theorem dL_law__886 : decode cL_law_ 886 = .ok (.iadd, 1) := by decide +kernel
theorem dL_law__887 : decode cL_law_ 887 = .ok (.iaload, 1) := by decide +kernel
theorem dL_law__888 : decode cL_law_ 888 = .ok (.aload_n 0, 1) := by decide +kernel
theorem dL_law__889 : decode cL_law_ 889 = .ok (.iload 4, 2) := by decide +kernel
theorem dL_law__891 : decode cL_law_ 891 = .ok (.iconst 5, 1) := by decide +kernel
theorem dL_law__892 : decode cL_law_ 892 = .ok (.iadd, 1) := by decide +kernel
theorem dL_law__893 : decode cL_law_ 893 = .ok (.iaload, 1) := by decide +kernel
theorem dL_law__894 : decode cL_law_ 894 = .ok (.aload_n 0, 1) := by decide +kernel
theorem dL_law__895 : decode cL_law_ 895 = .ok (.iload 4, 2) := by decide +kernel
theorem dL_law__897 : decode cL_law_ 897 = .ok (.bipush 6, 2) := by decide +kernel
theorem dL_law__899 : decode cL_law_ 899 = .ok (.iadd, 1) := by decide +kernel
theorem dL_law__900 : decode cL_law_ 900 = .ok (.iaload, 1) := by decide +kernel
theorem dL_law__901 : decode cL_law_ 901 = .ok (.aload_n 0, 1) := by decide +kernel
theorem dL_law__902 : decode cL_law_ 902 = .ok (.iload 4, 2) := by decide +kernel
theorem dL_law__904 : decode cL_law_ 904 = .ok (.bipush 7, 2) := by decide +kernel
theorem dL_law__906 : decode cL_law_ 906 = .ok (.iadd, 1) := by decide +kernel
theorem dL_law__907 : decode cL_law_ 907 = .ok (.iaload, 1) := by decide +kernel
theorem dL_law__908 : decode cL_law_ 908 = .ok (.aload_n 0, 1) := by decide +kernel
theorem dL_law__909 : decode cL_law_ 909 = .ok (.iload 4, 2) := by decide +kernel
theorem dL_law__911 : decode cL_law_ 911 = .ok (.bipush 8, 2) := by decide +kernel
theorem dL_law__913 : decode cL_law_ 913 = .ok (.iadd, 1) := by decide +kernel
theorem dL_law__914 : decode cL_law_ 914 = .ok (.iaload, 1) := by decide +kernel
theorem dL_law__915 : decode cL_law_ 915 = .ok (.aload_n 0, 1) := by decide +kernel
theorem dL_law__916 : decode cL_law_ 916 = .ok (.iload 4, 2) := by decide +kernel
theorem dL_law__918 : decode cL_law_ 918 = .ok (.bipush 9, 2) := by decide +kernel
theorem dL_law__920 : decode cL_law_ 920 = .ok (.iadd, 1) := by decide +kernel
theorem dL_law__921 : decode cL_law_ 921 = .ok (.iaload, 1) := by decide +kernel
theorem dL_law__922 : decode cL_law_ 922 = .ok (.aload_n 3, 1) := by decide +kernel
theorem dL_law__923 : decode cL_law_ 923 = .ok (.invokestatic 166, 3) := by decide +kernel
theorem dL_law__926 : decode cL_law_ 926 = .ok (.istore 5, 2) := by decide +kernel
theorem dL_law__928 : decode cL_law_ 928 = .ok (.aload_n 2, 1) := by decide +kernel
theorem dL_law__929 : decode cL_law_ 929 = .ok (.aload_n 0, 1) := by decide +kernel
theorem dL_law__930 : decode cL_law_ 930 = .ok (.iload 4, 2) := by decide +kernel
theorem dL_law__932 : decode cL_law_ 932 = .ok (.iconst 1, 1) := by decide +kernel
theorem dL_law__933 : decode cL_law_ 933 = .ok (.iadd, 1) := by decide +kernel
theorem dL_law__934 : decode cL_law_ 934 = .ok (.iaload, 1) := by decide +kernel
theorem dL_law__935 : decode cL_law_ 935 = .ok (.aload_n 0, 1) := by decide +kernel
theorem dL_law__936 : decode cL_law_ 936 = .ok (.iload 4, 2) := by decide +kernel
theorem dL_law__938 : decode cL_law_ 938 = .ok (.iconst 2, 1) := by decide +kernel
theorem dL_law__939 : decode cL_law_ 939 = .ok (.iadd, 1) := by decide +kernel
theorem dL_law__940 : decode cL_law_ 940 = .ok (.iaload, 1) := by decide +kernel
theorem dL_law__941 : decode cL_law_ 941 = .ok (.aload_n 0, 1) := by decide +kernel
theorem dL_law__942 : decode cL_law_ 942 = .ok (.iload 4, 2) := by decide +kernel
theorem dL_law__944 : decode cL_law_ 944 = .ok (.iconst 3, 1) := by decide +kernel
theorem dL_law__945 : decode cL_law_ 945 = .ok (.iadd, 1) := by decide +kernel
theorem dL_law__946 : decode cL_law_ 946 = .ok (.iaload, 1) := by decide +kernel
theorem dL_law__947 : decode cL_law_ 947 = .ok (.aload_n 0, 1) := by decide +kernel
theorem dL_law__948 : decode cL_law_ 948 = .ok (.iload 4, 2) := by decide +kernel
theorem dL_law__950 : decode cL_law_ 950 = .ok (.iconst 4, 1) := by decide +kernel
theorem dL_law__951 : decode cL_law_ 951 = .ok (.iadd, 1) := by decide +kernel
theorem dL_law__952 : decode cL_law_ 952 = .ok (.iaload, 1) := by decide +kernel
theorem dL_law__953 : decode cL_law_ 953 = .ok (.aload_n 0, 1) := by decide +kernel
theorem dL_law__954 : decode cL_law_ 954 = .ok (.iload 4, 2) := by decide +kernel
theorem dL_law__956 : decode cL_law_ 956 = .ok (.iconst 5, 1) := by decide +kernel
theorem dL_law__957 : decode cL_law_ 957 = .ok (.iadd, 1) := by decide +kernel
theorem dL_law__958 : decode cL_law_ 958 = .ok (.iaload, 1) := by decide +kernel
theorem dL_law__959 : decode cL_law_ 959 = .ok (.aload_n 0, 1) := by decide +kernel
theorem dL_law__960 : decode cL_law_ 960 = .ok (.iload 4, 2) := by decide +kernel
theorem dL_law__962 : decode cL_law_ 962 = .ok (.bipush 6, 2) := by decide +kernel
theorem dL_law__964 : decode cL_law_ 964 = .ok (.iadd, 1) := by decide +kernel
theorem dL_law__965 : decode cL_law_ 965 = .ok (.iaload, 1) := by decide +kernel
theorem dL_law__966 : decode cL_law_ 966 = .ok (.aload_n 0, 1) := by decide +kernel
theorem dL_law__967 : decode cL_law_ 967 = .ok (.iload 4, 2) := by decide +kernel
theorem dL_law__969 : decode cL_law_ 969 = .ok (.bipush 7, 2) := by decide +kernel
theorem dL_law__971 : decode cL_law_ 971 = .ok (.iadd, 1) := by decide +kernel
theorem dL_law__972 : decode cL_law_ 972 = .ok (.iaload, 1) := by decide +kernel
theorem dL_law__973 : decode cL_law_ 973 = .ok (.aload_n 0, 1) := by decide +kernel
theorem dL_law__974 : decode cL_law_ 974 = .ok (.iload 4, 2) := by decide +kernel
theorem dL_law__976 : decode cL_law_ 976 = .ok (.bipush 8, 2) := by decide +kernel
theorem dL_law__978 : decode cL_law_ 978 = .ok (.iadd, 1) := by decide +kernel
theorem dL_law__979 : decode cL_law_ 979 = .ok (.iaload, 1) := by decide +kernel
theorem dL_law__980 : decode cL_law_ 980 = .ok (.aload_n 0, 1) := by decide +kernel
theorem dL_law__981 : decode cL_law_ 981 = .ok (.iload 4, 2) := by decide +kernel
theorem dL_law__983 : decode cL_law_ 983 = .ok (.bipush 9, 2) := by decide +kernel
theorem dL_law__985 : decode cL_law_ 985 = .ok (.iadd, 1) := by decide +kernel
theorem dL_law__986 : decode cL_law_ 986 = .ok (.iaload, 1) := by decide +kernel
theorem dL_law__987 : decode cL_law_ 987 = .ok (.invokevirtual 169, 3) := by decide +kernel
theorem dL_law__990 : decode cL_law_ 990 = .ok (.istore 6, 2) := by decide +kernel
theorem dL_law__992 : decode cL_law_ 992 = .ok (.aload_n 2, 1) := by decide +kernel
theorem dL_law__993 : decode cL_law_ 993 = .ok (.invokevirtual 129, 3) := by decide +kernel
theorem dL_law__996 : decode cL_law_ 996 = .ok (.iload 5, 2) := by decide +kernel
theorem dL_law__998 : decode cL_law_ 998 = .ok (.if_icmp .eq 5, 3) := by decide +kernel
theorem dL_law__1001 : decode cL_law_ 1001 = .ok (.iconst 0, 1) := by decide +kernel
theorem dL_law__1002 : decode cL_law_ 1002 = .ok (.ireturn, 1) := by decide +kernel
theorem dL_law__1003 : decode cL_law_ 1003 = .ok (.iload 5, 2) := by decide +kernel
theorem dL_law__1005 : decode cL_law_ 1005 = .ok (.ifCond .ne 15, 3) := by decide +kernel
theorem dL_law__1008 : decode cL_law_ 1008 = .ok (.aload_n 3, 1) := by decide +kernel
theorem dL_law__1009 : decode cL_law_ 1009 = .ok (.iconst 0, 1) := by decide +kernel
theorem dL_law__1010 : decode cL_law_ 1010 = .ok (.laload, 1) := by decide +kernel
theorem dL_law__1011 : decode cL_law_ 1011 = .ok (.iload 6, 2) := by decide +kernel
theorem dL_law__1013 : decode cL_law_ 1013 = .ok (.i2l, 1) := by decide +kernel
theorem dL_law__1014 : decode cL_law_ 1014 = .ok (.lcmp, 1) := by decide +kernel
theorem dL_law__1015 : decode cL_law_ 1015 = .ok (.ifCond .eq 5, 3) := by decide +kernel
theorem dL_law__1018 : decode cL_law_ 1018 = .ok (.iconst 0, 1) := by decide +kernel
theorem dL_law__1019 : decode cL_law_ 1019 = .ok (.ireturn, 1) := by decide +kernel
theorem dL_law__1020 : decode cL_law_ 1020 = .ok (.goto 1566, 3) := by decide +kernel
theorem dL_law__1023 : decode cL_law_ 1023 = .ok (.aload_n 1, 1) := by decide +kernel
theorem dL_law__1024 : decode cL_law_ 1024 = .ok (.aload_n 0, 1) := by decide +kernel
theorem dL_law__1025 : decode cL_law_ 1025 = .ok (.iload 4, 2) := by decide +kernel
theorem dL_law__1027 : decode cL_law_ 1027 = .ok (.iconst 1, 1) := by decide +kernel
theorem dL_law__1028 : decode cL_law_ 1028 = .ok (.iadd, 1) := by decide +kernel
theorem dL_law__1029 : decode cL_law_ 1029 = .ok (.iaload, 1) := by decide +kernel
theorem dL_law__1030 : decode cL_law_ 1030 = .ok (.aload_n 3, 1) := by decide +kernel
theorem dL_law__1031 : decode cL_law_ 1031 = .ok (.invokestatic 170, 3) := by decide +kernel
theorem dL_law__1034 : decode cL_law_ 1034 = .ok (.istore 5, 2) := by decide +kernel
theorem dL_law__1036 : decode cL_law_ 1036 = .ok (.aload_n 2, 1) := by decide +kernel
theorem dL_law__1037 : decode cL_law_ 1037 = .ok (.aload_n 0, 1) := by decide +kernel
theorem dL_law__1038 : decode cL_law_ 1038 = .ok (.iload 4, 2) := by decide +kernel
theorem dL_law__1040 : decode cL_law_ 1040 = .ok (.iconst 1, 1) := by decide +kernel
theorem dL_law__1041 : decode cL_law_ 1041 = .ok (.iadd, 1) := by decide +kernel
theorem dL_law__1042 : decode cL_law_ 1042 = .ok (.iaload, 1) := by decide +kernel
theorem dL_law__1043 : decode cL_law_ 1043 = .ok (.invokevirtual 172, 3) := by decide +kernel
theorem dL_law__1046 : decode cL_law_ 1046 = .ok (.istore 6, 2) := by decide +kernel
theorem dL_law__1048 : decode cL_law_ 1048 = .ok (.aload_n 2, 1) := by decide +kernel
theorem dL_law__1049 : decode cL_law_ 1049 = .ok (.invokevirtual 129, 3) := by decide +kernel
theorem dL_law__1052 : decode cL_law_ 1052 = .ok (.iload 5, 2) := by decide +kernel
theorem dL_law__1054 : decode cL_law_ 1054 = .ok (.if_icmp .eq 5, 3) := by decide +kernel
theorem dL_law__1057 : decode cL_law_ 1057 = .ok (.iconst 0, 1) := by decide +kernel
theorem dL_law__1058 : decode cL_law_ 1058 = .ok (.ireturn, 1) := by decide +kernel
theorem dL_law__1059 : decode cL_law_ 1059 = .ok (.iload 5, 2) := by decide +kernel
theorem dL_law__1061 : decode cL_law_ 1061 = .ok (.ifCond .ne 15, 3) := by decide +kernel
theorem dL_law__1064 : decode cL_law_ 1064 = .ok (.aload_n 3, 1) := by decide +kernel
theorem dL_law__1065 : decode cL_law_ 1065 = .ok (.iconst 0, 1) := by decide +kernel
theorem dL_law__1066 : decode cL_law_ 1066 = .ok (.laload, 1) := by decide +kernel
theorem dL_law__1067 : decode cL_law_ 1067 = .ok (.iload 6, 2) := by decide +kernel
theorem dL_law__1069 : decode cL_law_ 1069 = .ok (.i2l, 1) := by decide +kernel
theorem dL_law__1070 : decode cL_law_ 1070 = .ok (.lcmp, 1) := by decide +kernel
theorem dL_law__1071 : decode cL_law_ 1071 = .ok (.ifCond .eq 5, 3) := by decide +kernel
theorem dL_law__1074 : decode cL_law_ 1074 = .ok (.iconst 0, 1) := by decide +kernel
theorem dL_law__1075 : decode cL_law_ 1075 = .ok (.ireturn, 1) := by decide +kernel
theorem dL_law__1076 : decode cL_law_ 1076 = .ok (.goto 1510, 3) := by decide +kernel
theorem dL_law__1079 : decode cL_law_ 1079 = .ok (.aload_n 1, 1) := by decide +kernel
theorem dL_law__1080 : decode cL_law_ 1080 = .ok (.aload_n 0, 1) := by decide +kernel
theorem dL_law__1081 : decode cL_law_ 1081 = .ok (.iload 4, 2) := by decide +kernel
theorem dL_law__1083 : decode cL_law_ 1083 = .ok (.iconst 1, 1) := by decide +kernel
theorem dL_law__1084 : decode cL_law_ 1084 = .ok (.iadd, 1) := by decide +kernel
theorem dL_law__1085 : decode cL_law_ 1085 = .ok (.iaload, 1) := by decide +kernel
theorem dL_law__1086 : decode cL_law_ 1086 = .ok (.aload_n 0, 1) := by decide +kernel
theorem dL_law__1087 : decode cL_law_ 1087 = .ok (.iload 4, 2) := by decide +kernel
theorem dL_law__1089 : decode cL_law_ 1089 = .ok (.iconst 2, 1) := by decide +kernel
theorem dL_law__1090 : decode cL_law_ 1090 = .ok (.iadd, 1) := by decide +kernel
theorem dL_law__1091 : decode cL_law_ 1091 = .ok (.iaload, 1) := by decide +kernel
theorem dL_law__1092 : decode cL_law_ 1092 = .ok (.aload_n 3, 1) := by decide +kernel
theorem dL_law__1093 : decode cL_law_ 1093 = .ok (.invokestatic 173, 3) := by decide +kernel
theorem dL_law__1096 : decode cL_law_ 1096 = .ok (.istore 5, 2) := by decide +kernel
theorem dL_law__1098 : decode cL_law_ 1098 = .ok (.aload_n 2, 1) := by decide +kernel
theorem dL_law__1099 : decode cL_law_ 1099 = .ok (.aload_n 0, 1) := by decide +kernel
theorem dL_law__1100 : decode cL_law_ 1100 = .ok (.iload 4, 2) := by decide +kernel
theorem dL_law__1102 : decode cL_law_ 1102 = .ok (.iconst 1, 1) := by decide +kernel
theorem dL_law__1103 : decode cL_law_ 1103 = .ok (.iadd, 1) := by decide +kernel
theorem dL_law__1104 : decode cL_law_ 1104 = .ok (.iaload, 1) := by decide +kernel
theorem dL_law__1105 : decode cL_law_ 1105 = .ok (.aload_n 0, 1) := by decide +kernel
theorem dL_law__1106 : decode cL_law_ 1106 = .ok (.iload 4, 2) := by decide +kernel
theorem dL_law__1108 : decode cL_law_ 1108 = .ok (.iconst 2, 1) := by decide +kernel
theorem dL_law__1109 : decode cL_law_ 1109 = .ok (.iadd, 1) := by decide +kernel
theorem dL_law__1110 : decode cL_law_ 1110 = .ok (.iaload, 1) := by decide +kernel
theorem dL_law__1111 : decode cL_law_ 1111 = .ok (.invokevirtual 175, 3) := by decide +kernel
theorem dL_law__1114 : decode cL_law_ 1114 = .ok (.istore 6, 2) := by decide +kernel
theorem dL_law__1116 : decode cL_law_ 1116 = .ok (.aload_n 2, 1) := by decide +kernel
theorem dL_law__1117 : decode cL_law_ 1117 = .ok (.invokevirtual 129, 3) := by decide +kernel
theorem dL_law__1120 : decode cL_law_ 1120 = .ok (.iload 5, 2) := by decide +kernel
theorem dL_law__1122 : decode cL_law_ 1122 = .ok (.if_icmp .eq 5, 3) := by decide +kernel
theorem dL_law__1125 : decode cL_law_ 1125 = .ok (.iconst 0, 1) := by decide +kernel
theorem dL_law__1126 : decode cL_law_ 1126 = .ok (.ireturn, 1) := by decide +kernel
theorem dL_law__1127 : decode cL_law_ 1127 = .ok (.iload 5, 2) := by decide +kernel
theorem dL_law__1129 : decode cL_law_ 1129 = .ok (.ifCond .ne 15, 3) := by decide +kernel
theorem dL_law__1132 : decode cL_law_ 1132 = .ok (.aload_n 3, 1) := by decide +kernel
theorem dL_law__1133 : decode cL_law_ 1133 = .ok (.iconst 0, 1) := by decide +kernel
theorem dL_law__1134 : decode cL_law_ 1134 = .ok (.laload, 1) := by decide +kernel
theorem dL_law__1135 : decode cL_law_ 1135 = .ok (.iload 6, 2) := by decide +kernel
theorem dL_law__1137 : decode cL_law_ 1137 = .ok (.i2l, 1) := by decide +kernel
theorem dL_law__1138 : decode cL_law_ 1138 = .ok (.lcmp, 1) := by decide +kernel
theorem dL_law__1139 : decode cL_law_ 1139 = .ok (.ifCond .eq 5, 3) := by decide +kernel
theorem dL_law__1142 : decode cL_law_ 1142 = .ok (.iconst 0, 1) := by decide +kernel
theorem dL_law__1143 : decode cL_law_ 1143 = .ok (.ireturn, 1) := by decide +kernel
theorem dL_law__1144 : decode cL_law_ 1144 = .ok (.goto 1442, 3) := by decide +kernel
theorem dL_law__1147 : decode cL_law_ 1147 = .ok (.aload_n 1, 1) := by decide +kernel
theorem dL_law__1148 : decode cL_law_ 1148 = .ok (.aload_n 0, 1) := by decide +kernel
theorem dL_law__1149 : decode cL_law_ 1149 = .ok (.iload 4, 2) := by decide +kernel
theorem dL_law__1151 : decode cL_law_ 1151 = .ok (.iconst 1, 1) := by decide +kernel
theorem dL_law__1152 : decode cL_law_ 1152 = .ok (.iadd, 1) := by decide +kernel
theorem dL_law__1153 : decode cL_law_ 1153 = .ok (.iaload, 1) := by decide +kernel
theorem dL_law__1154 : decode cL_law_ 1154 = .ok (.aload_n 3, 1) := by decide +kernel
theorem dL_law__1155 : decode cL_law_ 1155 = .ok (.invokestatic 176, 3) := by decide +kernel
theorem dL_law__1158 : decode cL_law_ 1158 = .ok (.istore 5, 2) := by decide +kernel
theorem dL_law__1160 : decode cL_law_ 1160 = .ok (.aload_n 2, 1) := by decide +kernel
theorem dL_law__1161 : decode cL_law_ 1161 = .ok (.aload_n 0, 1) := by decide +kernel
theorem dL_law__1162 : decode cL_law_ 1162 = .ok (.iload 4, 2) := by decide +kernel
theorem dL_law__1164 : decode cL_law_ 1164 = .ok (.iconst 1, 1) := by decide +kernel
theorem dL_law__1165 : decode cL_law_ 1165 = .ok (.iadd, 1) := by decide +kernel
theorem dL_law__1166 : decode cL_law_ 1166 = .ok (.iaload, 1) := by decide +kernel
theorem dL_law__1167 : decode cL_law_ 1167 = .ok (.invokevirtual 178, 3) := by decide +kernel
theorem dL_law__1170 : decode cL_law_ 1170 = .ok (.istore 6, 2) := by decide +kernel
theorem dL_law__1172 : decode cL_law_ 1172 = .ok (.aload_n 2, 1) := by decide +kernel
theorem dL_law__1173 : decode cL_law_ 1173 = .ok (.invokevirtual 129, 3) := by decide +kernel
theorem dL_law__1176 : decode cL_law_ 1176 = .ok (.iload 5, 2) := by decide +kernel
theorem dL_law__1178 : decode cL_law_ 1178 = .ok (.if_icmp .eq 5, 3) := by decide +kernel
theorem dL_law__1181 : decode cL_law_ 1181 = .ok (.iconst 0, 1) := by decide +kernel
theorem dL_law__1182 : decode cL_law_ 1182 = .ok (.ireturn, 1) := by decide +kernel
theorem dL_law__1183 : decode cL_law_ 1183 = .ok (.iload 5, 2) := by decide +kernel
theorem dL_law__1185 : decode cL_law_ 1185 = .ok (.ifCond .ne 15, 3) := by decide +kernel
theorem dL_law__1188 : decode cL_law_ 1188 = .ok (.aload_n 3, 1) := by decide +kernel
theorem dL_law__1189 : decode cL_law_ 1189 = .ok (.iconst 0, 1) := by decide +kernel
theorem dL_law__1190 : decode cL_law_ 1190 = .ok (.laload, 1) := by decide +kernel
theorem dL_law__1191 : decode cL_law_ 1191 = .ok (.iload 6, 2) := by decide +kernel
theorem dL_law__1193 : decode cL_law_ 1193 = .ok (.i2l, 1) := by decide +kernel
theorem dL_law__1194 : decode cL_law_ 1194 = .ok (.lcmp, 1) := by decide +kernel
theorem dL_law__1195 : decode cL_law_ 1195 = .ok (.ifCond .eq 5, 3) := by decide +kernel
theorem dL_law__1198 : decode cL_law_ 1198 = .ok (.iconst 0, 1) := by decide +kernel
theorem dL_law__1199 : decode cL_law_ 1199 = .ok (.ireturn, 1) := by decide +kernel
theorem dL_law__1200 : decode cL_law_ 1200 = .ok (.goto 1386, 3) := by decide +kernel
theorem dL_law__1203 : decode cL_law_ 1203 = .ok (.aload_n 1, 1) := by decide +kernel
theorem dL_law__1204 : decode cL_law_ 1204 = .ok (.aload_n 0, 1) := by decide +kernel
theorem dL_law__1205 : decode cL_law_ 1205 = .ok (.iload 4, 2) := by decide +kernel
theorem dL_law__1207 : decode cL_law_ 1207 = .ok (.iconst 1, 1) := by decide +kernel
theorem dL_law__1208 : decode cL_law_ 1208 = .ok (.iadd, 1) := by decide +kernel
theorem dL_law__1209 : decode cL_law_ 1209 = .ok (.iaload, 1) := by decide +kernel
theorem dL_law__1210 : decode cL_law_ 1210 = .ok (.aload_n 3, 1) := by decide +kernel
theorem dL_law__1211 : decode cL_law_ 1211 = .ok (.invokestatic 179, 3) := by decide +kernel
theorem dL_law__1214 : decode cL_law_ 1214 = .ok (.istore 5, 2) := by decide +kernel
theorem dL_law__1216 : decode cL_law_ 1216 = .ok (.aload_n 2, 1) := by decide +kernel
theorem dL_law__1217 : decode cL_law_ 1217 = .ok (.aload_n 0, 1) := by decide +kernel
theorem dL_law__1218 : decode cL_law_ 1218 = .ok (.iload 4, 2) := by decide +kernel
theorem dL_law__1220 : decode cL_law_ 1220 = .ok (.iconst 1, 1) := by decide +kernel
theorem dL_law__1221 : decode cL_law_ 1221 = .ok (.iadd, 1) := by decide +kernel
theorem dL_law__1222 : decode cL_law_ 1222 = .ok (.iaload, 1) := by decide +kernel
theorem dL_law__1223 : decode cL_law_ 1223 = .ok (.invokevirtual 181, 3) := by decide +kernel
theorem dL_law__1226 : decode cL_law_ 1226 = .ok (.istore 6, 2) := by decide +kernel
theorem dL_law__1228 : decode cL_law_ 1228 = .ok (.aload_n 2, 1) := by decide +kernel
theorem dL_law__1229 : decode cL_law_ 1229 = .ok (.invokevirtual 129, 3) := by decide +kernel
theorem dL_law__1232 : decode cL_law_ 1232 = .ok (.iload 5, 2) := by decide +kernel
theorem dL_law__1234 : decode cL_law_ 1234 = .ok (.if_icmp .eq 5, 3) := by decide +kernel
theorem dL_law__1237 : decode cL_law_ 1237 = .ok (.iconst 0, 1) := by decide +kernel
theorem dL_law__1238 : decode cL_law_ 1238 = .ok (.ireturn, 1) := by decide +kernel
theorem dL_law__1239 : decode cL_law_ 1239 = .ok (.iload 5, 2) := by decide +kernel
theorem dL_law__1241 : decode cL_law_ 1241 = .ok (.ifCond .ne 15, 3) := by decide +kernel
theorem dL_law__1244 : decode cL_law_ 1244 = .ok (.aload_n 3, 1) := by decide +kernel
theorem dL_law__1245 : decode cL_law_ 1245 = .ok (.iconst 0, 1) := by decide +kernel
theorem dL_law__1246 : decode cL_law_ 1246 = .ok (.laload, 1) := by decide +kernel
theorem dL_law__1247 : decode cL_law_ 1247 = .ok (.iload 6, 2) := by decide +kernel
theorem dL_law__1249 : decode cL_law_ 1249 = .ok (.i2l, 1) := by decide +kernel
theorem dL_law__1250 : decode cL_law_ 1250 = .ok (.lcmp, 1) := by decide +kernel
theorem dL_law__1251 : decode cL_law_ 1251 = .ok (.ifCond .eq 5, 3) := by decide +kernel
theorem dL_law__1254 : decode cL_law_ 1254 = .ok (.iconst 0, 1) := by decide +kernel
theorem dL_law__1255 : decode cL_law_ 1255 = .ok (.ireturn, 1) := by decide +kernel
theorem dL_law__1256 : decode cL_law_ 1256 = .ok (.goto 1330, 3) := by decide +kernel
theorem dL_law__1259 : decode cL_law_ 1259 = .ok (.aload_n 1, 1) := by decide +kernel
theorem dL_law__1260 : decode cL_law_ 1260 = .ok (.aload_n 0, 1) := by decide +kernel
theorem dL_law__1261 : decode cL_law_ 1261 = .ok (.iload 4, 2) := by decide +kernel
theorem dL_law__1263 : decode cL_law_ 1263 = .ok (.iconst 1, 1) := by decide +kernel
theorem dL_law__1264 : decode cL_law_ 1264 = .ok (.iadd, 1) := by decide +kernel
theorem dL_law__1265 : decode cL_law_ 1265 = .ok (.iaload, 1) := by decide +kernel
theorem dL_law__1266 : decode cL_law_ 1266 = .ok (.aload_n 3, 1) := by decide +kernel
theorem dL_law__1267 : decode cL_law_ 1267 = .ok (.invokestatic 182, 3) := by decide +kernel
theorem dL_law__1270 : decode cL_law_ 1270 = .ok (.istore 5, 2) := by decide +kernel
theorem dL_law__1272 : decode cL_law_ 1272 = .ok (.aload_n 2, 1) := by decide +kernel
theorem dL_law__1273 : decode cL_law_ 1273 = .ok (.aload_n 0, 1) := by decide +kernel
theorem dL_law__1274 : decode cL_law_ 1274 = .ok (.iload 4, 2) := by decide +kernel
theorem dL_law__1276 : decode cL_law_ 1276 = .ok (.iconst 1, 1) := by decide +kernel
theorem dL_law__1277 : decode cL_law_ 1277 = .ok (.iadd, 1) := by decide +kernel
theorem dL_law__1278 : decode cL_law_ 1278 = .ok (.iaload, 1) := by decide +kernel
theorem dL_law__1279 : decode cL_law_ 1279 = .ok (.invokevirtual 184, 3) := by decide +kernel
theorem dL_law__1282 : decode cL_law_ 1282 = .ok (.istore 6, 2) := by decide +kernel
theorem dL_law__1284 : decode cL_law_ 1284 = .ok (.aload_n 2, 1) := by decide +kernel
theorem dL_law__1285 : decode cL_law_ 1285 = .ok (.invokevirtual 129, 3) := by decide +kernel
theorem dL_law__1288 : decode cL_law_ 1288 = .ok (.iload 5, 2) := by decide +kernel
theorem dL_law__1290 : decode cL_law_ 1290 = .ok (.if_icmp .eq 5, 3) := by decide +kernel
theorem dL_law__1293 : decode cL_law_ 1293 = .ok (.iconst 0, 1) := by decide +kernel
theorem dL_law__1294 : decode cL_law_ 1294 = .ok (.ireturn, 1) := by decide +kernel
theorem dL_law__1295 : decode cL_law_ 1295 = .ok (.iload 5, 2) := by decide +kernel
theorem dL_law__1297 : decode cL_law_ 1297 = .ok (.ifCond .ne 15, 3) := by decide +kernel
theorem dL_law__1300 : decode cL_law_ 1300 = .ok (.aload_n 3, 1) := by decide +kernel
theorem dL_law__1301 : decode cL_law_ 1301 = .ok (.iconst 0, 1) := by decide +kernel
theorem dL_law__1302 : decode cL_law_ 1302 = .ok (.laload, 1) := by decide +kernel
theorem dL_law__1303 : decode cL_law_ 1303 = .ok (.iload 6, 2) := by decide +kernel
theorem dL_law__1305 : decode cL_law_ 1305 = .ok (.i2l, 1) := by decide +kernel
theorem dL_law__1306 : decode cL_law_ 1306 = .ok (.lcmp, 1) := by decide +kernel
theorem dL_law__1307 : decode cL_law_ 1307 = .ok (.ifCond .eq 5, 3) := by decide +kernel
theorem dL_law__1310 : decode cL_law_ 1310 = .ok (.iconst 0, 1) := by decide +kernel
theorem dL_law__1311 : decode cL_law_ 1311 = .ok (.ireturn, 1) := by decide +kernel
theorem dL_law__1312 : decode cL_law_ 1312 = .ok (.goto 1274, 3) := by decide +kernel
theorem dL_law__1315 : decode cL_law_ 1315 = .ok (.aload_n 1, 1) := by decide +kernel
theorem dL_law__1316 : decode cL_law_ 1316 = .ok (.aload_n 0, 1) := by decide +kernel
theorem dL_law__1317 : decode cL_law_ 1317 = .ok (.iload 4, 2) := by decide +kernel
theorem dL_law__1319 : decode cL_law_ 1319 = .ok (.iconst 1, 1) := by decide +kernel
theorem dL_law__1320 : decode cL_law_ 1320 = .ok (.iadd, 1) := by decide +kernel
theorem dL_law__1321 : decode cL_law_ 1321 = .ok (.iaload, 1) := by decide +kernel
theorem dL_law__1322 : decode cL_law_ 1322 = .ok (.aload_n 0, 1) := by decide +kernel
theorem dL_law__1323 : decode cL_law_ 1323 = .ok (.iload 4, 2) := by decide +kernel
theorem dL_law__1325 : decode cL_law_ 1325 = .ok (.iconst 2, 1) := by decide +kernel
theorem dL_law__1326 : decode cL_law_ 1326 = .ok (.iadd, 1) := by decide +kernel
theorem dL_law__1327 : decode cL_law_ 1327 = .ok (.iaload, 1) := by decide +kernel
theorem dL_law__1328 : decode cL_law_ 1328 = .ok (.aload_n 3, 1) := by decide +kernel
theorem dL_law__1329 : decode cL_law_ 1329 = .ok (.invokestatic 185, 3) := by decide +kernel
theorem dL_law__1332 : decode cL_law_ 1332 = .ok (.istore 5, 2) := by decide +kernel
theorem dL_law__1334 : decode cL_law_ 1334 = .ok (.aload_n 2, 1) := by decide +kernel
theorem dL_law__1335 : decode cL_law_ 1335 = .ok (.aload_n 0, 1) := by decide +kernel
theorem dL_law__1336 : decode cL_law_ 1336 = .ok (.iload 4, 2) := by decide +kernel
theorem dL_law__1338 : decode cL_law_ 1338 = .ok (.iconst 1, 1) := by decide +kernel
theorem dL_law__1339 : decode cL_law_ 1339 = .ok (.iadd, 1) := by decide +kernel
theorem dL_law__1340 : decode cL_law_ 1340 = .ok (.iaload, 1) := by decide +kernel
theorem dL_law__1341 : decode cL_law_ 1341 = .ok (.aload_n 0, 1) := by decide +kernel
theorem dL_law__1342 : decode cL_law_ 1342 = .ok (.iload 4, 2) := by decide +kernel
theorem dL_law__1344 : decode cL_law_ 1344 = .ok (.iconst 2, 1) := by decide +kernel
theorem dL_law__1345 : decode cL_law_ 1345 = .ok (.iadd, 1) := by decide +kernel
theorem dL_law__1346 : decode cL_law_ 1346 = .ok (.iaload, 1) := by decide +kernel
theorem dL_law__1347 : decode cL_law_ 1347 = .ok (.invokevirtual 187, 3) := by decide +kernel
theorem dL_law__1350 : decode cL_law_ 1350 = .ok (.istore 6, 2) := by decide +kernel
theorem dL_law__1352 : decode cL_law_ 1352 = .ok (.aload_n 2, 1) := by decide +kernel
theorem dL_law__1353 : decode cL_law_ 1353 = .ok (.invokevirtual 129, 3) := by decide +kernel
theorem dL_law__1356 : decode cL_law_ 1356 = .ok (.iload 5, 2) := by decide +kernel
theorem dL_law__1358 : decode cL_law_ 1358 = .ok (.if_icmp .eq 5, 3) := by decide +kernel
theorem dL_law__1361 : decode cL_law_ 1361 = .ok (.iconst 0, 1) := by decide +kernel
theorem dL_law__1362 : decode cL_law_ 1362 = .ok (.ireturn, 1) := by decide +kernel
theorem dL_law__1363 : decode cL_law_ 1363 = .ok (.iload 5, 2) := by decide +kernel
theorem dL_law__1365 : decode cL_law_ 1365 = .ok (.ifCond .ne 15, 3) := by decide +kernel
theorem dL_law__1368 : decode cL_law_ 1368 = .ok (.aload_n 3, 1) := by decide +kernel
theorem dL_law__1369 : decode cL_law_ 1369 = .ok (.iconst 0, 1) := by decide +kernel
theorem dL_law__1370 : decode cL_law_ 1370 = .ok (.laload, 1) := by decide +kernel
theorem dL_law__1371 : decode cL_law_ 1371 = .ok (.iload 6, 2) := by decide +kernel
theorem dL_law__1373 : decode cL_law_ 1373 = .ok (.i2l, 1) := by decide +kernel
theorem dL_law__1374 : decode cL_law_ 1374 = .ok (.lcmp, 1) := by decide +kernel
theorem dL_law__1375 : decode cL_law_ 1375 = .ok (.ifCond .eq 5, 3) := by decide +kernel
theorem dL_law__1378 : decode cL_law_ 1378 = .ok (.iconst 0, 1) := by decide +kernel
theorem dL_law__1379 : decode cL_law_ 1379 = .ok (.ireturn, 1) := by decide +kernel
theorem dL_law__1380 : decode cL_law_ 1380 = .ok (.goto 1206, 3) := by decide +kernel
theorem dL_law__1383 : decode cL_law_ 1383 = .ok (.aload_n 1, 1) := by decide +kernel
theorem dL_law__1384 : decode cL_law_ 1384 = .ok (.aload_n 0, 1) := by decide +kernel
theorem dL_law__1385 : decode cL_law_ 1385 = .ok (.iload 4, 2) := by decide +kernel
theorem dL_law__1387 : decode cL_law_ 1387 = .ok (.iconst 1, 1) := by decide +kernel
theorem dL_law__1388 : decode cL_law_ 1388 = .ok (.iadd, 1) := by decide +kernel
theorem dL_law__1389 : decode cL_law_ 1389 = .ok (.iaload, 1) := by decide +kernel
theorem dL_law__1390 : decode cL_law_ 1390 = .ok (.aload_n 0, 1) := by decide +kernel
theorem dL_law__1391 : decode cL_law_ 1391 = .ok (.iload 4, 2) := by decide +kernel
theorem dL_law__1393 : decode cL_law_ 1393 = .ok (.iconst 2, 1) := by decide +kernel
theorem dL_law__1394 : decode cL_law_ 1394 = .ok (.iadd, 1) := by decide +kernel
theorem dL_law__1395 : decode cL_law_ 1395 = .ok (.iaload, 1) := by decide +kernel
theorem dL_law__1396 : decode cL_law_ 1396 = .ok (.aload_n 3, 1) := by decide +kernel
theorem dL_law__1397 : decode cL_law_ 1397 = .ok (.invokestatic 188, 3) := by decide +kernel
theorem dL_law__1400 : decode cL_law_ 1400 = .ok (.istore 5, 2) := by decide +kernel
theorem dL_law__1402 : decode cL_law_ 1402 = .ok (.aload_n 2, 1) := by decide +kernel
theorem dL_law__1403 : decode cL_law_ 1403 = .ok (.aload_n 0, 1) := by decide +kernel
theorem dL_law__1404 : decode cL_law_ 1404 = .ok (.iload 4, 2) := by decide +kernel
theorem dL_law__1406 : decode cL_law_ 1406 = .ok (.iconst 1, 1) := by decide +kernel
theorem dL_law__1407 : decode cL_law_ 1407 = .ok (.iadd, 1) := by decide +kernel
theorem dL_law__1408 : decode cL_law_ 1408 = .ok (.iaload, 1) := by decide +kernel
theorem dL_law__1409 : decode cL_law_ 1409 = .ok (.aload_n 0, 1) := by decide +kernel
theorem dL_law__1410 : decode cL_law_ 1410 = .ok (.iload 4, 2) := by decide +kernel
theorem dL_law__1412 : decode cL_law_ 1412 = .ok (.iconst 2, 1) := by decide +kernel
theorem dL_law__1413 : decode cL_law_ 1413 = .ok (.iadd, 1) := by decide +kernel
theorem dL_law__1414 : decode cL_law_ 1414 = .ok (.iaload, 1) := by decide +kernel
theorem dL_law__1415 : decode cL_law_ 1415 = .ok (.invokevirtual 190, 3) := by decide +kernel
theorem dL_law__1418 : decode cL_law_ 1418 = .ok (.istore 6, 2) := by decide +kernel
theorem dL_law__1420 : decode cL_law_ 1420 = .ok (.aload_n 2, 1) := by decide +kernel
theorem dL_law__1421 : decode cL_law_ 1421 = .ok (.invokevirtual 129, 3) := by decide +kernel
theorem dL_law__1424 : decode cL_law_ 1424 = .ok (.iload 5, 2) := by decide +kernel
theorem dL_law__1426 : decode cL_law_ 1426 = .ok (.if_icmp .eq 5, 3) := by decide +kernel
theorem dL_law__1429 : decode cL_law_ 1429 = .ok (.iconst 0, 1) := by decide +kernel
theorem dL_law__1430 : decode cL_law_ 1430 = .ok (.ireturn, 1) := by decide +kernel
theorem dL_law__1431 : decode cL_law_ 1431 = .ok (.iload 5, 2) := by decide +kernel
theorem dL_law__1433 : decode cL_law_ 1433 = .ok (.ifCond .ne 15, 3) := by decide +kernel
theorem dL_law__1436 : decode cL_law_ 1436 = .ok (.aload_n 3, 1) := by decide +kernel
theorem dL_law__1437 : decode cL_law_ 1437 = .ok (.iconst 0, 1) := by decide +kernel
theorem dL_law__1438 : decode cL_law_ 1438 = .ok (.laload, 1) := by decide +kernel
theorem dL_law__1439 : decode cL_law_ 1439 = .ok (.iload 6, 2) := by decide +kernel
theorem dL_law__1441 : decode cL_law_ 1441 = .ok (.i2l, 1) := by decide +kernel
theorem dL_law__1442 : decode cL_law_ 1442 = .ok (.lcmp, 1) := by decide +kernel
theorem dL_law__1443 : decode cL_law_ 1443 = .ok (.ifCond .eq 5, 3) := by decide +kernel
theorem dL_law__1446 : decode cL_law_ 1446 = .ok (.iconst 0, 1) := by decide +kernel
theorem dL_law__1447 : decode cL_law_ 1447 = .ok (.ireturn, 1) := by decide +kernel
theorem dL_law__1448 : decode cL_law_ 1448 = .ok (.goto 1138, 3) := by decide +kernel
theorem dL_law__1451 : decode cL_law_ 1451 = .ok (.aload_n 1, 1) := by decide +kernel
theorem dL_law__1452 : decode cL_law_ 1452 = .ok (.invokevirtual 191, 3) := by decide +kernel
theorem dL_law__1455 : decode cL_law_ 1455 = .ok (.aload_n 2, 1) := by decide +kernel
theorem dL_law__1456 : decode cL_law_ 1456 = .ok (.invokevirtual 194, 3) := by decide +kernel
theorem dL_law__1459 : decode cL_law_ 1459 = .ok (.if_icmp .eq 1127, 3) := by decide +kernel
theorem dL_law__1462 : decode cL_law_ 1462 = .ok (.iconst 0, 1) := by decide +kernel
theorem dL_law__1463 : decode cL_law_ 1463 = .ok (.ireturn, 1) := by decide +kernel
theorem dL_law__1464 : decode cL_law_ 1464 = .ok (.aload_n 1, 1) := by decide +kernel
theorem dL_law__1465 : decode cL_law_ 1465 = .ok (.invokevirtual 195, 3) := by decide +kernel
theorem dL_law__1468 : decode cL_law_ 1468 = .ok (.aload_n 2, 1) := by decide +kernel
theorem dL_law__1469 : decode cL_law_ 1469 = .ok (.invokevirtual 198, 3) := by decide +kernel
theorem dL_law__1472 : decode cL_law_ 1472 = .ok (.if_icmp .eq 1114, 3) := by decide +kernel
theorem dL_law__1475 : decode cL_law_ 1475 = .ok (.iconst 0, 1) := by decide +kernel
theorem dL_law__1476 : decode cL_law_ 1476 = .ok (.ireturn, 1) := by decide +kernel
theorem dL_law__1477 : decode cL_law_ 1477 = .ok (.aload_n 1, 1) := by decide +kernel
theorem dL_law__1478 : decode cL_law_ 1478 = .ok (.aload_n 0, 1) := by decide +kernel
theorem dL_law__1479 : decode cL_law_ 1479 = .ok (.iload 4, 2) := by decide +kernel
theorem dL_law__1481 : decode cL_law_ 1481 = .ok (.iconst 1, 1) := by decide +kernel
theorem dL_law__1482 : decode cL_law_ 1482 = .ok (.iadd, 1) := by decide +kernel
theorem dL_law__1483 : decode cL_law_ 1483 = .ok (.iaload, 1) := by decide +kernel
theorem dL_law__1484 : decode cL_law_ 1484 = .ok (.aload_n 3, 1) := by decide +kernel
theorem dL_law__1485 : decode cL_law_ 1485 = .ok (.invokestatic 199, 3) := by decide +kernel
theorem dL_law__1488 : decode cL_law_ 1488 = .ok (.istore 5, 2) := by decide +kernel
theorem dL_law__1490 : decode cL_law_ 1490 = .ok (.aload_n 2, 1) := by decide +kernel
theorem dL_law__1491 : decode cL_law_ 1491 = .ok (.aload_n 0, 1) := by decide +kernel
theorem dL_law__1492 : decode cL_law_ 1492 = .ok (.iload 4, 2) := by decide +kernel
theorem dL_law__1494 : decode cL_law_ 1494 = .ok (.iconst 1, 1) := by decide +kernel
theorem dL_law__1495 : decode cL_law_ 1495 = .ok (.iadd, 1) := by decide +kernel
theorem dL_law__1496 : decode cL_law_ 1496 = .ok (.iaload, 1) := by decide +kernel
theorem dL_law__1497 : decode cL_law_ 1497 = .ok (.invokevirtual 201, 3) := by decide +kernel
theorem dL_law__1500 : decode cL_law_ 1500 = .ok (.istore 6, 2) := by decide +kernel
theorem dL_law__1502 : decode cL_law_ 1502 = .ok (.aload_n 2, 1) := by decide +kernel
theorem dL_law__1503 : decode cL_law_ 1503 = .ok (.invokevirtual 129, 3) := by decide +kernel
theorem dL_law__1506 : decode cL_law_ 1506 = .ok (.iload 5, 2) := by decide +kernel
theorem dL_law__1508 : decode cL_law_ 1508 = .ok (.if_icmp .eq 5, 3) := by decide +kernel
theorem dL_law__1511 : decode cL_law_ 1511 = .ok (.iconst 0, 1) := by decide +kernel
theorem dL_law__1512 : decode cL_law_ 1512 = .ok (.ireturn, 1) := by decide +kernel
theorem dL_law__1513 : decode cL_law_ 1513 = .ok (.iload 5, 2) := by decide +kernel
theorem dL_law__1515 : decode cL_law_ 1515 = .ok (.ifCond .ne 15, 3) := by decide +kernel
theorem dL_law__1518 : decode cL_law_ 1518 = .ok (.aload_n 3, 1) := by decide +kernel
theorem dL_law__1519 : decode cL_law_ 1519 = .ok (.iconst 0, 1) := by decide +kernel
theorem dL_law__1520 : decode cL_law_ 1520 = .ok (.laload, 1) := by decide +kernel
theorem dL_law__1521 : decode cL_law_ 1521 = .ok (.iload 6, 2) := by decide +kernel
theorem dL_law__1523 : decode cL_law_ 1523 = .ok (.i2l, 1) := by decide +kernel
theorem dL_law__1524 : decode cL_law_ 1524 = .ok (.lcmp, 1) := by decide +kernel
theorem dL_law__1525 : decode cL_law_ 1525 = .ok (.ifCond .eq 5, 3) := by decide +kernel
theorem dL_law__1528 : decode cL_law_ 1528 = .ok (.iconst 0, 1) := by decide +kernel
theorem dL_law__1529 : decode cL_law_ 1529 = .ok (.ireturn, 1) := by decide +kernel
theorem dL_law__1530 : decode cL_law_ 1530 = .ok (.goto 1056, 3) := by decide +kernel
theorem dL_law__1533 : decode cL_law_ 1533 = .ok (.aload_n 1, 1) := by decide +kernel
theorem dL_law__1534 : decode cL_law_ 1534 = .ok (.aload_n 0, 1) := by decide +kernel
theorem dL_law__1535 : decode cL_law_ 1535 = .ok (.iload 4, 2) := by decide +kernel
theorem dL_law__1537 : decode cL_law_ 1537 = .ok (.iconst 1, 1) := by decide +kernel
theorem dL_law__1538 : decode cL_law_ 1538 = .ok (.iadd, 1) := by decide +kernel
theorem dL_law__1539 : decode cL_law_ 1539 = .ok (.iaload, 1) := by decide +kernel
theorem dL_law__1540 : decode cL_law_ 1540 = .ok (.aload_n 0, 1) := by decide +kernel
theorem dL_law__1541 : decode cL_law_ 1541 = .ok (.iload 4, 2) := by decide +kernel
theorem dL_law__1543 : decode cL_law_ 1543 = .ok (.iconst 2, 1) := by decide +kernel
theorem dL_law__1544 : decode cL_law_ 1544 = .ok (.iadd, 1) := by decide +kernel
theorem dL_law__1545 : decode cL_law_ 1545 = .ok (.iaload, 1) := by decide +kernel
theorem dL_law__1546 : decode cL_law_ 1546 = .ok (.aload_n 3, 1) := by decide +kernel
theorem dL_law__1547 : decode cL_law_ 1547 = .ok (.invokestatic 202, 3) := by decide +kernel
theorem dL_law__1550 : decode cL_law_ 1550 = .ok (.istore 5, 2) := by decide +kernel
theorem dL_law__1552 : decode cL_law_ 1552 = .ok (.aload_n 2, 1) := by decide +kernel
theorem dL_law__1553 : decode cL_law_ 1553 = .ok (.aload_n 0, 1) := by decide +kernel
theorem dL_law__1554 : decode cL_law_ 1554 = .ok (.iload 4, 2) := by decide +kernel
theorem dL_law__1556 : decode cL_law_ 1556 = .ok (.iconst 1, 1) := by decide +kernel
theorem dL_law__1557 : decode cL_law_ 1557 = .ok (.iadd, 1) := by decide +kernel
theorem dL_law__1558 : decode cL_law_ 1558 = .ok (.iaload, 1) := by decide +kernel
theorem dL_law__1559 : decode cL_law_ 1559 = .ok (.aload_n 0, 1) := by decide +kernel
theorem dL_law__1560 : decode cL_law_ 1560 = .ok (.iload 4, 2) := by decide +kernel
theorem dL_law__1562 : decode cL_law_ 1562 = .ok (.iconst 2, 1) := by decide +kernel
theorem dL_law__1563 : decode cL_law_ 1563 = .ok (.iadd, 1) := by decide +kernel
theorem dL_law__1564 : decode cL_law_ 1564 = .ok (.iaload, 1) := by decide +kernel
theorem dL_law__1565 : decode cL_law_ 1565 = .ok (.invokevirtual 204, 3) := by decide +kernel
theorem dL_law__1568 : decode cL_law_ 1568 = .ok (.istore 6, 2) := by decide +kernel
theorem dL_law__1570 : decode cL_law_ 1570 = .ok (.aload_n 2, 1) := by decide +kernel
theorem dL_law__1571 : decode cL_law_ 1571 = .ok (.invokevirtual 129, 3) := by decide +kernel
theorem dL_law__1574 : decode cL_law_ 1574 = .ok (.iload 5, 2) := by decide +kernel
theorem dL_law__1576 : decode cL_law_ 1576 = .ok (.if_icmp .eq 5, 3) := by decide +kernel
theorem dL_law__1579 : decode cL_law_ 1579 = .ok (.iconst 0, 1) := by decide +kernel
theorem dL_law__1580 : decode cL_law_ 1580 = .ok (.ireturn, 1) := by decide +kernel
theorem dL_law__1581 : decode cL_law_ 1581 = .ok (.iload 5, 2) := by decide +kernel
theorem dL_law__1583 : decode cL_law_ 1583 = .ok (.ifCond .ne 15, 3) := by decide +kernel
theorem dL_law__1586 : decode cL_law_ 1586 = .ok (.aload_n 3, 1) := by decide +kernel
theorem dL_law__1587 : decode cL_law_ 1587 = .ok (.iconst 0, 1) := by decide +kernel
theorem dL_law__1588 : decode cL_law_ 1588 = .ok (.laload, 1) := by decide +kernel
theorem dL_law__1589 : decode cL_law_ 1589 = .ok (.iload 6, 2) := by decide +kernel
theorem dL_law__1591 : decode cL_law_ 1591 = .ok (.i2l, 1) := by decide +kernel
theorem dL_law__1592 : decode cL_law_ 1592 = .ok (.lcmp, 1) := by decide +kernel
theorem dL_law__1593 : decode cL_law_ 1593 = .ok (.ifCond .eq 5, 3) := by decide +kernel
theorem dL_law__1596 : decode cL_law_ 1596 = .ok (.iconst 0, 1) := by decide +kernel
theorem dL_law__1597 : decode cL_law_ 1597 = .ok (.ireturn, 1) := by decide +kernel
theorem dL_law__1598 : decode cL_law_ 1598 = .ok (.goto 988, 3) := by decide +kernel
theorem dL_law__1601 : decode cL_law_ 1601 = .ok (.aload_n 1, 1) := by decide +kernel
theorem dL_law__1602 : decode cL_law_ 1602 = .ok (.aload_n 0, 1) := by decide +kernel
theorem dL_law__1603 : decode cL_law_ 1603 = .ok (.iload 4, 2) := by decide +kernel
theorem dL_law__1605 : decode cL_law_ 1605 = .ok (.iconst 1, 1) := by decide +kernel
theorem dL_law__1606 : decode cL_law_ 1606 = .ok (.iadd, 1) := by decide +kernel
theorem dL_law__1607 : decode cL_law_ 1607 = .ok (.iaload, 1) := by decide +kernel
theorem dL_law__1608 : decode cL_law_ 1608 = .ok (.aload_n 0, 1) := by decide +kernel
theorem dL_law__1609 : decode cL_law_ 1609 = .ok (.iload 4, 2) := by decide +kernel
theorem dL_law__1611 : decode cL_law_ 1611 = .ok (.iconst 2, 1) := by decide +kernel
theorem dL_law__1612 : decode cL_law_ 1612 = .ok (.iadd, 1) := by decide +kernel
theorem dL_law__1613 : decode cL_law_ 1613 = .ok (.iaload, 1) := by decide +kernel
theorem dL_law__1614 : decode cL_law_ 1614 = .ok (.aload_n 3, 1) := by decide +kernel
theorem dL_law__1615 : decode cL_law_ 1615 = .ok (.invokestatic 205, 3) := by decide +kernel
theorem dL_law__1618 : decode cL_law_ 1618 = .ok (.istore 5, 2) := by decide +kernel
theorem dL_law__1620 : decode cL_law_ 1620 = .ok (.aload_n 2, 1) := by decide +kernel
theorem dL_law__1621 : decode cL_law_ 1621 = .ok (.aload_n 0, 1) := by decide +kernel
theorem dL_law__1622 : decode cL_law_ 1622 = .ok (.iload 4, 2) := by decide +kernel
theorem dL_law__1624 : decode cL_law_ 1624 = .ok (.iconst 1, 1) := by decide +kernel
theorem dL_law__1625 : decode cL_law_ 1625 = .ok (.iadd, 1) := by decide +kernel
theorem dL_law__1626 : decode cL_law_ 1626 = .ok (.iaload, 1) := by decide +kernel
theorem dL_law__1627 : decode cL_law_ 1627 = .ok (.aload_n 0, 1) := by decide +kernel
theorem dL_law__1628 : decode cL_law_ 1628 = .ok (.iload 4, 2) := by decide +kernel
theorem dL_law__1630 : decode cL_law_ 1630 = .ok (.iconst 2, 1) := by decide +kernel
theorem dL_law__1631 : decode cL_law_ 1631 = .ok (.iadd, 1) := by decide +kernel
theorem dL_law__1632 : decode cL_law_ 1632 = .ok (.iaload, 1) := by decide +kernel
theorem dL_law__1633 : decode cL_law_ 1633 = .ok (.invokevirtual 207, 3) := by decide +kernel
theorem dL_law__1636 : decode cL_law_ 1636 = .ok (.istore 6, 2) := by decide +kernel
theorem dL_law__1638 : decode cL_law_ 1638 = .ok (.aload_n 2, 1) := by decide +kernel
theorem dL_law__1639 : decode cL_law_ 1639 = .ok (.invokevirtual 129, 3) := by decide +kernel
theorem dL_law__1642 : decode cL_law_ 1642 = .ok (.iload 5, 2) := by decide +kernel
theorem dL_law__1644 : decode cL_law_ 1644 = .ok (.if_icmp .eq 5, 3) := by decide +kernel
theorem dL_law__1647 : decode cL_law_ 1647 = .ok (.iconst 0, 1) := by decide +kernel
theorem dL_law__1648 : decode cL_law_ 1648 = .ok (.ireturn, 1) := by decide +kernel
theorem dL_law__1649 : decode cL_law_ 1649 = .ok (.iload 5, 2) := by decide +kernel
theorem dL_law__1651 : decode cL_law_ 1651 = .ok (.ifCond .ne 15, 3) := by decide +kernel
theorem dL_law__1654 : decode cL_law_ 1654 = .ok (.aload_n 3, 1) := by decide +kernel
theorem dL_law__1655 : decode cL_law_ 1655 = .ok (.iconst 0, 1) := by decide +kernel
theorem dL_law__1656 : decode cL_law_ 1656 = .ok (.laload, 1) := by decide +kernel
theorem dL_law__1657 : decode cL_law_ 1657 = .ok (.iload 6, 2) := by decide +kernel
theorem dL_law__1659 : decode cL_law_ 1659 = .ok (.i2l, 1) := by decide +kernel
theorem dL_law__1660 : decode cL_law_ 1660 = .ok (.lcmp, 1) := by decide +kernel
theorem dL_law__1661 : decode cL_law_ 1661 = .ok (.ifCond .eq 5, 3) := by decide +kernel
theorem dL_law__1664 : decode cL_law_ 1664 = .ok (.iconst 0, 1) := by decide +kernel
theorem dL_law__1665 : decode cL_law_ 1665 = .ok (.ireturn, 1) := by decide +kernel
theorem dL_law__1666 : decode cL_law_ 1666 = .ok (.goto 920, 3) := by decide +kernel
theorem dL_law__1669 : decode cL_law_ 1669 = .ok (.aload_n 1, 1) := by decide +kernel
theorem dL_law__1670 : decode cL_law_ 1670 = .ok (.aload_n 0, 1) := by decide +kernel
theorem dL_law__1671 : decode cL_law_ 1671 = .ok (.iload 4, 2) := by decide +kernel
theorem dL_law__1673 : decode cL_law_ 1673 = .ok (.iconst 1, 1) := by decide +kernel
theorem dL_law__1674 : decode cL_law_ 1674 = .ok (.iadd, 1) := by decide +kernel
theorem dL_law__1675 : decode cL_law_ 1675 = .ok (.iaload, 1) := by decide +kernel
theorem dL_law__1676 : decode cL_law_ 1676 = .ok (.aload_n 0, 1) := by decide +kernel
theorem dL_law__1677 : decode cL_law_ 1677 = .ok (.iload 4, 2) := by decide +kernel
theorem dL_law__1679 : decode cL_law_ 1679 = .ok (.iconst 2, 1) := by decide +kernel
theorem dL_law__1680 : decode cL_law_ 1680 = .ok (.iadd, 1) := by decide +kernel
theorem dL_law__1681 : decode cL_law_ 1681 = .ok (.iaload, 1) := by decide +kernel
theorem dL_law__1682 : decode cL_law_ 1682 = .ok (.aload_n 0, 1) := by decide +kernel
theorem dL_law__1683 : decode cL_law_ 1683 = .ok (.iload 4, 2) := by decide +kernel
theorem dL_law__1685 : decode cL_law_ 1685 = .ok (.iconst 3, 1) := by decide +kernel
theorem dL_law__1686 : decode cL_law_ 1686 = .ok (.iadd, 1) := by decide +kernel
theorem dL_law__1687 : decode cL_law_ 1687 = .ok (.iaload, 1) := by decide +kernel
theorem dL_law__1688 : decode cL_law_ 1688 = .ok (.aload_n 0, 1) := by decide +kernel
theorem dL_law__1689 : decode cL_law_ 1689 = .ok (.iload 4, 2) := by decide +kernel
theorem dL_law__1691 : decode cL_law_ 1691 = .ok (.iconst 4, 1) := by decide +kernel
theorem dL_law__1692 : decode cL_law_ 1692 = .ok (.iadd, 1) := by decide +kernel
theorem dL_law__1693 : decode cL_law_ 1693 = .ok (.iaload, 1) := by decide +kernel
theorem dL_law__1694 : decode cL_law_ 1694 = .ok (.aload_n 3, 1) := by decide +kernel
theorem dL_law__1695 : decode cL_law_ 1695 = .ok (.invokestatic 208, 3) := by decide +kernel
theorem dL_law__1698 : decode cL_law_ 1698 = .ok (.istore 5, 2) := by decide +kernel
theorem dL_law__1700 : decode cL_law_ 1700 = .ok (.aload_n 2, 1) := by decide +kernel
theorem dL_law__1701 : decode cL_law_ 1701 = .ok (.aload_n 0, 1) := by decide +kernel
theorem dL_law__1702 : decode cL_law_ 1702 = .ok (.iload 4, 2) := by decide +kernel
theorem dL_law__1704 : decode cL_law_ 1704 = .ok (.iconst 1, 1) := by decide +kernel
theorem dL_law__1705 : decode cL_law_ 1705 = .ok (.iadd, 1) := by decide +kernel
theorem dL_law__1706 : decode cL_law_ 1706 = .ok (.iaload, 1) := by decide +kernel
theorem dL_law__1707 : decode cL_law_ 1707 = .ok (.aload_n 0, 1) := by decide +kernel
theorem dL_law__1708 : decode cL_law_ 1708 = .ok (.iload 4, 2) := by decide +kernel
theorem dL_law__1710 : decode cL_law_ 1710 = .ok (.iconst 2, 1) := by decide +kernel
theorem dL_law__1711 : decode cL_law_ 1711 = .ok (.iadd, 1) := by decide +kernel
theorem dL_law__1712 : decode cL_law_ 1712 = .ok (.iaload, 1) := by decide +kernel
theorem dL_law__1713 : decode cL_law_ 1713 = .ok (.aload_n 0, 1) := by decide +kernel
theorem dL_law__1714 : decode cL_law_ 1714 = .ok (.iload 4, 2) := by decide +kernel
theorem dL_law__1716 : decode cL_law_ 1716 = .ok (.iconst 3, 1) := by decide +kernel
theorem dL_law__1717 : decode cL_law_ 1717 = .ok (.iadd, 1) := by decide +kernel
theorem dL_law__1718 : decode cL_law_ 1718 = .ok (.iaload, 1) := by decide +kernel
theorem dL_law__1719 : decode cL_law_ 1719 = .ok (.aload_n 0, 1) := by decide +kernel
theorem dL_law__1720 : decode cL_law_ 1720 = .ok (.iload 4, 2) := by decide +kernel
theorem dL_law__1722 : decode cL_law_ 1722 = .ok (.iconst 4, 1) := by decide +kernel
theorem dL_law__1723 : decode cL_law_ 1723 = .ok (.iadd, 1) := by decide +kernel
theorem dL_law__1724 : decode cL_law_ 1724 = .ok (.iaload, 1) := by decide +kernel
theorem dL_law__1725 : decode cL_law_ 1725 = .ok (.invokevirtual 211, 3) := by decide +kernel
theorem dL_law__1728 : decode cL_law_ 1728 = .ok (.istore 6, 2) := by decide +kernel
theorem dL_law__1730 : decode cL_law_ 1730 = .ok (.aload_n 2, 1) := by decide +kernel
theorem dL_law__1731 : decode cL_law_ 1731 = .ok (.invokevirtual 129, 3) := by decide +kernel
theorem dL_law__1734 : decode cL_law_ 1734 = .ok (.iload 5, 2) := by decide +kernel
theorem dL_law__1736 : decode cL_law_ 1736 = .ok (.if_icmp .eq 5, 3) := by decide +kernel
theorem dL_law__1739 : decode cL_law_ 1739 = .ok (.iconst 0, 1) := by decide +kernel
theorem dL_law__1740 : decode cL_law_ 1740 = .ok (.ireturn, 1) := by decide +kernel
theorem dL_law__1741 : decode cL_law_ 1741 = .ok (.iload 5, 2) := by decide +kernel
theorem dL_law__1743 : decode cL_law_ 1743 = .ok (.ifCond .ne 15, 3) := by decide +kernel
theorem dL_law__1746 : decode cL_law_ 1746 = .ok (.aload_n 3, 1) := by decide +kernel
theorem dL_law__1747 : decode cL_law_ 1747 = .ok (.iconst 0, 1) := by decide +kernel
theorem dL_law__1748 : decode cL_law_ 1748 = .ok (.laload, 1) := by decide +kernel
theorem dL_law__1749 : decode cL_law_ 1749 = .ok (.iload 6, 2) := by decide +kernel
theorem dL_law__1751 : decode cL_law_ 1751 = .ok (.i2l, 1) := by decide +kernel
theorem dL_law__1752 : decode cL_law_ 1752 = .ok (.lcmp, 1) := by decide +kernel
theorem dL_law__1753 : decode cL_law_ 1753 = .ok (.ifCond .eq 5, 3) := by decide +kernel
theorem dL_law__1756 : decode cL_law_ 1756 = .ok (.iconst 0, 1) := by decide +kernel
theorem dL_law__1757 : decode cL_law_ 1757 = .ok (.ireturn, 1) := by decide +kernel
theorem dL_law__1758 : decode cL_law_ 1758 = .ok (.goto 828, 3) := by decide +kernel
theorem dL_law__1761 : decode cL_law_ 1761 = .ok (.aload_n 1, 1) := by decide +kernel
theorem dL_law__1762 : decode cL_law_ 1762 = .ok (.aload_n 0, 1) := by decide +kernel
theorem dL_law__1763 : decode cL_law_ 1763 = .ok (.iload 4, 2) := by decide +kernel
theorem dL_law__1765 : decode cL_law_ 1765 = .ok (.iconst 1, 1) := by decide +kernel
theorem dL_law__1766 : decode cL_law_ 1766 = .ok (.iadd, 1) := by decide +kernel
theorem dL_law__1767 : decode cL_law_ 1767 = .ok (.iaload, 1) := by decide +kernel
theorem dL_law__1768 : decode cL_law_ 1768 = .ok (.aload_n 0, 1) := by decide +kernel
theorem dL_law__1769 : decode cL_law_ 1769 = .ok (.iload 4, 2) := by decide +kernel
theorem dL_law__1771 : decode cL_law_ 1771 = .ok (.iconst 2, 1) := by decide +kernel
theorem dL_law__1772 : decode cL_law_ 1772 = .ok (.iadd, 1) := by decide +kernel
theorem dL_law__1773 : decode cL_law_ 1773 = .ok (.iaload, 1) := by decide +kernel
theorem dL_law__1774 : decode cL_law_ 1774 = .ok (.aload_n 0, 1) := by decide +kernel
theorem dL_law__1775 : decode cL_law_ 1775 = .ok (.iload 4, 2) := by decide +kernel
theorem dL_law__1777 : decode cL_law_ 1777 = .ok (.iconst 3, 1) := by decide +kernel
theorem dL_law__1778 : decode cL_law_ 1778 = .ok (.iadd, 1) := by decide +kernel
theorem dL_law__1779 : decode cL_law_ 1779 = .ok (.iaload, 1) := by decide +kernel
theorem dL_law__1780 : decode cL_law_ 1780 = .ok (.aload_n 3, 1) := by decide +kernel
theorem dL_law__1781 : decode cL_law_ 1781 = .ok (.invokestatic 212, 3) := by decide +kernel
theorem dL_law__1784 : decode cL_law_ 1784 = .ok (.istore 5, 2) := by decide +kernel
theorem dL_law__1786 : decode cL_law_ 1786 = .ok (.aload_n 2, 1) := by decide +kernel
theorem dL_law__1787 : decode cL_law_ 1787 = .ok (.aload_n 0, 1) := by decide +kernel
theorem dL_law__1788 : decode cL_law_ 1788 = .ok (.iload 4, 2) := by decide +kernel
theorem dL_law__1790 : decode cL_law_ 1790 = .ok (.iconst 1, 1) := by decide +kernel
theorem dL_law__1791 : decode cL_law_ 1791 = .ok (.iadd, 1) := by decide +kernel
theorem dL_law__1792 : decode cL_law_ 1792 = .ok (.iaload, 1) := by decide +kernel
theorem dL_law__1793 : decode cL_law_ 1793 = .ok (.aload_n 0, 1) := by decide +kernel
theorem dL_law__1794 : decode cL_law_ 1794 = .ok (.iload 4, 2) := by decide +kernel
theorem dL_law__1796 : decode cL_law_ 1796 = .ok (.iconst 2, 1) := by decide +kernel
theorem dL_law__1797 : decode cL_law_ 1797 = .ok (.iadd, 1) := by decide +kernel
theorem dL_law__1798 : decode cL_law_ 1798 = .ok (.iaload, 1) := by decide +kernel
theorem dL_law__1799 : decode cL_law_ 1799 = .ok (.aload_n 0, 1) := by decide +kernel
theorem dL_law__1800 : decode cL_law_ 1800 = .ok (.iload 4, 2) := by decide +kernel
theorem dL_law__1802 : decode cL_law_ 1802 = .ok (.iconst 3, 1) := by decide +kernel
theorem dL_law__1803 : decode cL_law_ 1803 = .ok (.iadd, 1) := by decide +kernel
theorem dL_law__1804 : decode cL_law_ 1804 = .ok (.iaload, 1) := by decide +kernel
theorem dL_law__1805 : decode cL_law_ 1805 = .ok (.invokevirtual 215, 3) := by decide +kernel
theorem dL_law__1808 : decode cL_law_ 1808 = .ok (.istore 6, 2) := by decide +kernel
theorem dL_law__1810 : decode cL_law_ 1810 = .ok (.aload_n 2, 1) := by decide +kernel
theorem dL_law__1811 : decode cL_law_ 1811 = .ok (.invokevirtual 129, 3) := by decide +kernel
theorem dL_law__1814 : decode cL_law_ 1814 = .ok (.iload 5, 2) := by decide +kernel
theorem dL_law__1816 : decode cL_law_ 1816 = .ok (.if_icmp .eq 5, 3) := by decide +kernel
theorem dL_law__1819 : decode cL_law_ 1819 = .ok (.iconst 0, 1) := by decide +kernel
theorem dL_law__1820 : decode cL_law_ 1820 = .ok (.ireturn, 1) := by decide +kernel
theorem dL_law__1821 : decode cL_law_ 1821 = .ok (.iload 5, 2) := by decide +kernel
theorem dL_law__1823 : decode cL_law_ 1823 = .ok (.ifCond .ne 15, 3) := by decide +kernel
theorem dL_law__1826 : decode cL_law_ 1826 = .ok (.aload_n 3, 1) := by decide +kernel
theorem dL_law__1827 : decode cL_law_ 1827 = .ok (.iconst 0, 1) := by decide +kernel
theorem dL_law__1828 : decode cL_law_ 1828 = .ok (.laload, 1) := by decide +kernel
theorem dL_law__1829 : decode cL_law_ 1829 = .ok (.iload 6, 2) := by decide +kernel
theorem dL_law__1831 : decode cL_law_ 1831 = .ok (.i2l, 1) := by decide +kernel
theorem dL_law__1832 : decode cL_law_ 1832 = .ok (.lcmp, 1) := by decide +kernel
theorem dL_law__1833 : decode cL_law_ 1833 = .ok (.ifCond .eq 5, 3) := by decide +kernel
theorem dL_law__1836 : decode cL_law_ 1836 = .ok (.iconst 0, 1) := by decide +kernel
theorem dL_law__1837 : decode cL_law_ 1837 = .ok (.ireturn, 1) := by decide +kernel
theorem dL_law__1838 : decode cL_law_ 1838 = .ok (.goto 748, 3) := by decide +kernel
theorem dL_law__1841 : decode cL_law_ 1841 = .ok (.aload_n 1, 1) := by decide +kernel
theorem dL_law__1842 : decode cL_law_ 1842 = .ok (.aload_n 0, 1) := by decide +kernel
theorem dL_law__1843 : decode cL_law_ 1843 = .ok (.iload 4, 2) := by decide +kernel
theorem dL_law__1845 : decode cL_law_ 1845 = .ok (.iconst 1, 1) := by decide +kernel
theorem dL_law__1846 : decode cL_law_ 1846 = .ok (.iadd, 1) := by decide +kernel
theorem dL_law__1847 : decode cL_law_ 1847 = .ok (.iaload, 1) := by decide +kernel
theorem dL_law__1848 : decode cL_law_ 1848 = .ok (.aload_n 0, 1) := by decide +kernel
theorem dL_law__1849 : decode cL_law_ 1849 = .ok (.iload 4, 2) := by decide +kernel
theorem dL_law__1851 : decode cL_law_ 1851 = .ok (.iconst 2, 1) := by decide +kernel
theorem dL_law__1852 : decode cL_law_ 1852 = .ok (.iadd, 1) := by decide +kernel
theorem dL_law__1853 : decode cL_law_ 1853 = .ok (.iaload, 1) := by decide +kernel
theorem dL_law__1854 : decode cL_law_ 1854 = .ok (.aload_n 0, 1) := by decide +kernel
theorem dL_law__1855 : decode cL_law_ 1855 = .ok (.iload 4, 2) := by decide +kernel
theorem dL_law__1857 : decode cL_law_ 1857 = .ok (.iconst 3, 1) := by decide +kernel
theorem dL_law__1858 : decode cL_law_ 1858 = .ok (.iadd, 1) := by decide +kernel
theorem dL_law__1859 : decode cL_law_ 1859 = .ok (.iaload, 1) := by decide +kernel
theorem dL_law__1860 : decode cL_law_ 1860 = .ok (.aload_n 3, 1) := by decide +kernel
theorem dL_law__1861 : decode cL_law_ 1861 = .ok (.invokestatic 216, 3) := by decide +kernel
theorem dL_law__1864 : decode cL_law_ 1864 = .ok (.istore 5, 2) := by decide +kernel
theorem dL_law__1866 : decode cL_law_ 1866 = .ok (.aload_n 2, 1) := by decide +kernel
theorem dL_law__1867 : decode cL_law_ 1867 = .ok (.aload_n 0, 1) := by decide +kernel
theorem dL_law__1868 : decode cL_law_ 1868 = .ok (.iload 4, 2) := by decide +kernel
theorem dL_law__1870 : decode cL_law_ 1870 = .ok (.iconst 1, 1) := by decide +kernel
theorem dL_law__1871 : decode cL_law_ 1871 = .ok (.iadd, 1) := by decide +kernel
theorem dL_law__1872 : decode cL_law_ 1872 = .ok (.iaload, 1) := by decide +kernel
theorem dL_law__1873 : decode cL_law_ 1873 = .ok (.aload_n 0, 1) := by decide +kernel
theorem dL_law__1874 : decode cL_law_ 1874 = .ok (.iload 4, 2) := by decide +kernel
theorem dL_law__1876 : decode cL_law_ 1876 = .ok (.iconst 2, 1) := by decide +kernel
theorem dL_law__1877 : decode cL_law_ 1877 = .ok (.iadd, 1) := by decide +kernel
theorem dL_law__1878 : decode cL_law_ 1878 = .ok (.iaload, 1) := by decide +kernel
theorem dL_law__1879 : decode cL_law_ 1879 = .ok (.aload_n 0, 1) := by decide +kernel
theorem dL_law__1880 : decode cL_law_ 1880 = .ok (.iload 4, 2) := by decide +kernel
theorem dL_law__1882 : decode cL_law_ 1882 = .ok (.iconst 3, 1) := by decide +kernel
theorem dL_law__1883 : decode cL_law_ 1883 = .ok (.iadd, 1) := by decide +kernel
theorem dL_law__1884 : decode cL_law_ 1884 = .ok (.iaload, 1) := by decide +kernel
theorem dL_law__1885 : decode cL_law_ 1885 = .ok (.invokevirtual 218, 3) := by decide +kernel
theorem dL_law__1888 : decode cL_law_ 1888 = .ok (.istore 6, 2) := by decide +kernel
theorem dL_law__1890 : decode cL_law_ 1890 = .ok (.aload_n 2, 1) := by decide +kernel
theorem dL_law__1891 : decode cL_law_ 1891 = .ok (.invokevirtual 129, 3) := by decide +kernel
theorem dL_law__1894 : decode cL_law_ 1894 = .ok (.iload 5, 2) := by decide +kernel
theorem dL_law__1896 : decode cL_law_ 1896 = .ok (.if_icmp .eq 5, 3) := by decide +kernel
theorem dL_law__1899 : decode cL_law_ 1899 = .ok (.iconst 0, 1) := by decide +kernel
theorem dL_law__1900 : decode cL_law_ 1900 = .ok (.ireturn, 1) := by decide +kernel
theorem dL_law__1901 : decode cL_law_ 1901 = .ok (.iload 5, 2) := by decide +kernel
theorem dL_law__1903 : decode cL_law_ 1903 = .ok (.ifCond .ne 15, 3) := by decide +kernel
theorem dL_law__1906 : decode cL_law_ 1906 = .ok (.aload_n 3, 1) := by decide +kernel
theorem dL_law__1907 : decode cL_law_ 1907 = .ok (.iconst 0, 1) := by decide +kernel
theorem dL_law__1908 : decode cL_law_ 1908 = .ok (.laload, 1) := by decide +kernel
theorem dL_law__1909 : decode cL_law_ 1909 = .ok (.iload 6, 2) := by decide +kernel
theorem dL_law__1911 : decode cL_law_ 1911 = .ok (.i2l, 1) := by decide +kernel
theorem dL_law__1912 : decode cL_law_ 1912 = .ok (.lcmp, 1) := by decide +kernel
theorem dL_law__1913 : decode cL_law_ 1913 = .ok (.ifCond .eq 5, 3) := by decide +kernel
theorem dL_law__1916 : decode cL_law_ 1916 = .ok (.iconst 0, 1) := by decide +kernel
theorem dL_law__1917 : decode cL_law_ 1917 = .ok (.ireturn, 1) := by decide +kernel
theorem dL_law__1918 : decode cL_law_ 1918 = .ok (.goto 668, 3) := by decide +kernel
theorem dL_law__1921 : decode cL_law_ 1921 = .ok (.aload_n 1, 1) := by decide +kernel
theorem dL_law__1922 : decode cL_law_ 1922 = .ok (.aload_n 0, 1) := by decide +kernel
theorem dL_law__1923 : decode cL_law_ 1923 = .ok (.iload 4, 2) := by decide +kernel
theorem dL_law__1925 : decode cL_law_ 1925 = .ok (.iconst 1, 1) := by decide +kernel
theorem dL_law__1926 : decode cL_law_ 1926 = .ok (.iadd, 1) := by decide +kernel
theorem dL_law__1927 : decode cL_law_ 1927 = .ok (.iaload, 1) := by decide +kernel
theorem dL_law__1928 : decode cL_law_ 1928 = .ok (.aload_n 3, 1) := by decide +kernel
theorem dL_law__1929 : decode cL_law_ 1929 = .ok (.invokestatic 219, 3) := by decide +kernel
theorem dL_law__1932 : decode cL_law_ 1932 = .ok (.istore 5, 2) := by decide +kernel
theorem dL_law__1934 : decode cL_law_ 1934 = .ok (.aload_n 2, 1) := by decide +kernel
theorem dL_law__1935 : decode cL_law_ 1935 = .ok (.aload_n 0, 1) := by decide +kernel
theorem dL_law__1936 : decode cL_law_ 1936 = .ok (.iload 4, 2) := by decide +kernel
theorem dL_law__1938 : decode cL_law_ 1938 = .ok (.iconst 1, 1) := by decide +kernel
theorem dL_law__1939 : decode cL_law_ 1939 = .ok (.iadd, 1) := by decide +kernel
theorem dL_law__1940 : decode cL_law_ 1940 = .ok (.iaload, 1) := by decide +kernel
theorem dL_law__1941 : decode cL_law_ 1941 = .ok (.invokevirtual 221, 3) := by decide +kernel
theorem dL_law__1944 : decode cL_law_ 1944 = .ok (.istore 6, 2) := by decide +kernel
theorem dL_law__1946 : decode cL_law_ 1946 = .ok (.aload_n 2, 1) := by decide +kernel
theorem dL_law__1947 : decode cL_law_ 1947 = .ok (.invokevirtual 129, 3) := by decide +kernel
theorem dL_law__1950 : decode cL_law_ 1950 = .ok (.iload 5, 2) := by decide +kernel
theorem dL_law__1952 : decode cL_law_ 1952 = .ok (.if_icmp .eq 5, 3) := by decide +kernel
theorem dL_law__1955 : decode cL_law_ 1955 = .ok (.iconst 0, 1) := by decide +kernel
theorem dL_law__1956 : decode cL_law_ 1956 = .ok (.ireturn, 1) := by decide +kernel
theorem dL_law__1957 : decode cL_law_ 1957 = .ok (.iload 5, 2) := by decide +kernel
theorem dL_law__1959 : decode cL_law_ 1959 = .ok (.ifCond .ne 15, 3) := by decide +kernel
theorem dL_law__1962 : decode cL_law_ 1962 = .ok (.aload_n 3, 1) := by decide +kernel
theorem dL_law__1963 : decode cL_law_ 1963 = .ok (.iconst 0, 1) := by decide +kernel
theorem dL_law__1964 : decode cL_law_ 1964 = .ok (.laload, 1) := by decide +kernel
theorem dL_law__1965 : decode cL_law_ 1965 = .ok (.iload 6, 2) := by decide +kernel
theorem dL_law__1967 : decode cL_law_ 1967 = .ok (.i2l, 1) := by decide +kernel
theorem dL_law__1968 : decode cL_law_ 1968 = .ok (.lcmp, 1) := by decide +kernel
theorem dL_law__1969 : decode cL_law_ 1969 = .ok (.ifCond .eq 5, 3) := by decide +kernel
theorem dL_law__1972 : decode cL_law_ 1972 = .ok (.iconst 0, 1) := by decide +kernel
theorem dL_law__1973 : decode cL_law_ 1973 = .ok (.ireturn, 1) := by decide +kernel
theorem dL_law__1974 : decode cL_law_ 1974 = .ok (.goto 612, 3) := by decide +kernel
theorem dL_law__1977 : decode cL_law_ 1977 = .ok (.aload_n 1, 1) := by decide +kernel
theorem dL_law__1978 : decode cL_law_ 1978 = .ok (.aload_n 0, 1) := by decide +kernel
theorem dL_law__1979 : decode cL_law_ 1979 = .ok (.iload 4, 2) := by decide +kernel
theorem dL_law__1981 : decode cL_law_ 1981 = .ok (.iconst 1, 1) := by decide +kernel
theorem dL_law__1982 : decode cL_law_ 1982 = .ok (.iadd, 1) := by decide +kernel
theorem dL_law__1983 : decode cL_law_ 1983 = .ok (.iaload, 1) := by decide +kernel
theorem dL_law__1984 : decode cL_law_ 1984 = .ok (.aload_n 3, 1) := by decide +kernel
theorem dL_law__1985 : decode cL_law_ 1985 = .ok (.invokestatic 222, 3) := by decide +kernel
theorem dL_law__1988 : decode cL_law_ 1988 = .ok (.istore 5, 2) := by decide +kernel
theorem dL_law__1990 : decode cL_law_ 1990 = .ok (.aload_n 2, 1) := by decide +kernel
theorem dL_law__1991 : decode cL_law_ 1991 = .ok (.aload_n 0, 1) := by decide +kernel
theorem dL_law__1992 : decode cL_law_ 1992 = .ok (.iload 4, 2) := by decide +kernel
theorem dL_law__1994 : decode cL_law_ 1994 = .ok (.iconst 1, 1) := by decide +kernel
theorem dL_law__1995 : decode cL_law_ 1995 = .ok (.iadd, 1) := by decide +kernel
theorem dL_law__1996 : decode cL_law_ 1996 = .ok (.iaload, 1) := by decide +kernel
theorem dL_law__1997 : decode cL_law_ 1997 = .ok (.invokevirtual 224, 3) := by decide +kernel
theorem dL_law__2000 : decode cL_law_ 2000 = .ok (.istore 6, 2) := by decide +kernel
theorem dL_law__2002 : decode cL_law_ 2002 = .ok (.aload_n 2, 1) := by decide +kernel
theorem dL_law__2003 : decode cL_law_ 2003 = .ok (.invokevirtual 129, 3) := by decide +kernel
theorem dL_law__2006 : decode cL_law_ 2006 = .ok (.iload 5, 2) := by decide +kernel
theorem dL_law__2008 : decode cL_law_ 2008 = .ok (.if_icmp .eq 5, 3) := by decide +kernel
theorem dL_law__2011 : decode cL_law_ 2011 = .ok (.iconst 0, 1) := by decide +kernel
theorem dL_law__2012 : decode cL_law_ 2012 = .ok (.ireturn, 1) := by decide +kernel
theorem dL_law__2013 : decode cL_law_ 2013 = .ok (.iload 5, 2) := by decide +kernel
theorem dL_law__2015 : decode cL_law_ 2015 = .ok (.ifCond .ne 15, 3) := by decide +kernel
theorem dL_law__2018 : decode cL_law_ 2018 = .ok (.aload_n 3, 1) := by decide +kernel
theorem dL_law__2019 : decode cL_law_ 2019 = .ok (.iconst 0, 1) := by decide +kernel
theorem dL_law__2020 : decode cL_law_ 2020 = .ok (.laload, 1) := by decide +kernel
theorem dL_law__2021 : decode cL_law_ 2021 = .ok (.iload 6, 2) := by decide +kernel
theorem dL_law__2023 : decode cL_law_ 2023 = .ok (.i2l, 1) := by decide +kernel
theorem dL_law__2024 : decode cL_law_ 2024 = .ok (.lcmp, 1) := by decide +kernel
theorem dL_law__2025 : decode cL_law_ 2025 = .ok (.ifCond .eq 5, 3) := by decide +kernel
theorem dL_law__2028 : decode cL_law_ 2028 = .ok (.iconst 0, 1) := by decide +kernel
theorem dL_law__2029 : decode cL_law_ 2029 = .ok (.ireturn, 1) := by decide +kernel
theorem dL_law__2030 : decode cL_law_ 2030 = .ok (.goto 556, 3) := by decide +kernel
theorem dL_law__2033 : decode cL_law_ 2033 = .ok (.aload_n 1, 1) := by decide +kernel
theorem dL_law__2034 : decode cL_law_ 2034 = .ok (.aload_n 0, 1) := by decide +kernel
theorem dL_law__2035 : decode cL_law_ 2035 = .ok (.iload 4, 2) := by decide +kernel
theorem dL_law__2037 : decode cL_law_ 2037 = .ok (.iconst 1, 1) := by decide +kernel
theorem dL_law__2038 : decode cL_law_ 2038 = .ok (.iadd, 1) := by decide +kernel
theorem dL_law__2039 : decode cL_law_ 2039 = .ok (.iaload, 1) := by decide +kernel
theorem dL_law__2040 : decode cL_law_ 2040 = .ok (.aload_n 3, 1) := by decide +kernel
theorem dL_law__2041 : decode cL_law_ 2041 = .ok (.invokestatic 225, 3) := by decide +kernel
theorem dL_law__2044 : decode cL_law_ 2044 = .ok (.istore 5, 2) := by decide +kernel
theorem dL_law__2046 : decode cL_law_ 2046 = .ok (.aload_n 2, 1) := by decide +kernel
theorem dL_law__2047 : decode cL_law_ 2047 = .ok (.aload_n 0, 1) := by decide +kernel
theorem dL_law__2048 : decode cL_law_ 2048 = .ok (.iload 4, 2) := by decide +kernel
theorem dL_law__2050 : decode cL_law_ 2050 = .ok (.iconst 1, 1) := by decide +kernel
theorem dL_law__2051 : decode cL_law_ 2051 = .ok (.iadd, 1) := by decide +kernel
theorem dL_law__2052 : decode cL_law_ 2052 = .ok (.iaload, 1) := by decide +kernel
theorem dL_law__2053 : decode cL_law_ 2053 = .ok (.invokevirtual 227, 3) := by decide +kernel
theorem dL_law__2056 : decode cL_law_ 2056 = .ok (.istore 6, 2) := by decide +kernel
theorem dL_law__2058 : decode cL_law_ 2058 = .ok (.aload_n 2, 1) := by decide +kernel
theorem dL_law__2059 : decode cL_law_ 2059 = .ok (.invokevirtual 129, 3) := by decide +kernel
theorem dL_law__2062 : decode cL_law_ 2062 = .ok (.iload 5, 2) := by decide +kernel
theorem dL_law__2064 : decode cL_law_ 2064 = .ok (.if_icmp .eq 5, 3) := by decide +kernel
theorem dL_law__2067 : decode cL_law_ 2067 = .ok (.iconst 0, 1) := by decide +kernel
theorem dL_law__2068 : decode cL_law_ 2068 = .ok (.ireturn, 1) := by decide +kernel
theorem dL_law__2069 : decode cL_law_ 2069 = .ok (.iload 5, 2) := by decide +kernel
theorem dL_law__2071 : decode cL_law_ 2071 = .ok (.ifCond .ne 15, 3) := by decide +kernel
theorem dL_law__2074 : decode cL_law_ 2074 = .ok (.aload_n 3, 1) := by decide +kernel
theorem dL_law__2075 : decode cL_law_ 2075 = .ok (.iconst 0, 1) := by decide +kernel
theorem dL_law__2076 : decode cL_law_ 2076 = .ok (.laload, 1) := by decide +kernel
theorem dL_law__2077 : decode cL_law_ 2077 = .ok (.iload 6, 2) := by decide +kernel
theorem dL_law__2079 : decode cL_law_ 2079 = .ok (.i2l, 1) := by decide +kernel
theorem dL_law__2080 : decode cL_law_ 2080 = .ok (.lcmp, 1) := by decide +kernel
theorem dL_law__2081 : decode cL_law_ 2081 = .ok (.ifCond .eq 5, 3) := by decide +kernel
theorem dL_law__2084 : decode cL_law_ 2084 = .ok (.iconst 0, 1) := by decide +kernel
theorem dL_law__2085 : decode cL_law_ 2085 = .ok (.ireturn, 1) := by decide +kernel
theorem dL_law__2086 : decode cL_law_ 2086 = .ok (.goto 500, 3) := by decide +kernel
theorem dL_law__2089 : decode cL_law_ 2089 = .ok (.aload_n 1, 1) := by decide +kernel
theorem dL_law__2090 : decode cL_law_ 2090 = .ok (.aload_n 0, 1) := by decide +kernel
theorem dL_law__2091 : decode cL_law_ 2091 = .ok (.iload 4, 2) := by decide +kernel
theorem dL_law__2093 : decode cL_law_ 2093 = .ok (.iconst 1, 1) := by decide +kernel
theorem dL_law__2094 : decode cL_law_ 2094 = .ok (.iadd, 1) := by decide +kernel
theorem dL_law__2095 : decode cL_law_ 2095 = .ok (.iaload, 1) := by decide +kernel
theorem dL_law__2096 : decode cL_law_ 2096 = .ok (.aload_n 3, 1) := by decide +kernel
theorem dL_law__2097 : decode cL_law_ 2097 = .ok (.invokestatic 228, 3) := by decide +kernel
theorem dL_law__2100 : decode cL_law_ 2100 = .ok (.istore 5, 2) := by decide +kernel
theorem dL_law__2102 : decode cL_law_ 2102 = .ok (.aload_n 2, 1) := by decide +kernel
theorem dL_law__2103 : decode cL_law_ 2103 = .ok (.aload_n 0, 1) := by decide +kernel
theorem dL_law__2104 : decode cL_law_ 2104 = .ok (.iload 4, 2) := by decide +kernel
theorem dL_law__2106 : decode cL_law_ 2106 = .ok (.iconst 1, 1) := by decide +kernel
theorem dL_law__2107 : decode cL_law_ 2107 = .ok (.iadd, 1) := by decide +kernel
theorem dL_law__2108 : decode cL_law_ 2108 = .ok (.iaload, 1) := by decide +kernel
theorem dL_law__2109 : decode cL_law_ 2109 = .ok (.invokevirtual 230, 3) := by decide +kernel
theorem dL_law__2112 : decode cL_law_ 2112 = .ok (.istore 6, 2) := by decide +kernel
theorem dL_law__2114 : decode cL_law_ 2114 = .ok (.aload_n 2, 1) := by decide +kernel
theorem dL_law__2115 : decode cL_law_ 2115 = .ok (.invokevirtual 129, 3) := by decide +kernel
theorem dL_law__2118 : decode cL_law_ 2118 = .ok (.iload 5, 2) := by decide +kernel
theorem dL_law__2120 : decode cL_law_ 2120 = .ok (.if_icmp .eq 5, 3) := by decide +kernel
theorem dL_law__2123 : decode cL_law_ 2123 = .ok (.iconst 0, 1) := by decide +kernel
theorem dL_law__2124 : decode cL_law_ 2124 = .ok (.ireturn, 1) := by decide +kernel
theorem dL_law__2125 : decode cL_law_ 2125 = .ok (.iload 5, 2) := by decide +kernel
theorem dL_law__2127 : decode cL_law_ 2127 = .ok (.ifCond .ne 15, 3) := by decide +kernel
theorem dL_law__2130 : decode cL_law_ 2130 = .ok (.aload_n 3, 1) := by decide +kernel
theorem dL_law__2131 : decode cL_law_ 2131 = .ok (.iconst 0, 1) := by decide +kernel
theorem dL_law__2132 : decode cL_law_ 2132 = .ok (.laload, 1) := by decide +kernel
theorem dL_law__2133 : decode cL_law_ 2133 = .ok (.iload 6, 2) := by decide +kernel
theorem dL_law__2135 : decode cL_law_ 2135 = .ok (.i2l, 1) := by decide +kernel
theorem dL_law__2136 : decode cL_law_ 2136 = .ok (.lcmp, 1) := by decide +kernel
theorem dL_law__2137 : decode cL_law_ 2137 = .ok (.ifCond .eq 5, 3) := by decide +kernel
theorem dL_law__2140 : decode cL_law_ 2140 = .ok (.iconst 0, 1) := by decide +kernel
theorem dL_law__2141 : decode cL_law_ 2141 = .ok (.ireturn, 1) := by decide +kernel
theorem dL_law__2142 : decode cL_law_ 2142 = .ok (.goto 444, 3) := by decide +kernel
theorem dL_law__2145 : decode cL_law_ 2145 = .ok (.aload_n 1, 1) := by decide +kernel
theorem dL_law__2146 : decode cL_law_ 2146 = .ok (.aload_n 0, 1) := by decide +kernel
theorem dL_law__2147 : decode cL_law_ 2147 = .ok (.iload 4, 2) := by decide +kernel
theorem dL_law__2149 : decode cL_law_ 2149 = .ok (.iconst 1, 1) := by decide +kernel
theorem dL_law__2150 : decode cL_law_ 2150 = .ok (.iadd, 1) := by decide +kernel
theorem dL_law__2151 : decode cL_law_ 2151 = .ok (.iaload, 1) := by decide +kernel
theorem dL_law__2152 : decode cL_law_ 2152 = .ok (.aload_n 0, 1) := by decide +kernel
theorem dL_law__2153 : decode cL_law_ 2153 = .ok (.iload 4, 2) := by decide +kernel
theorem dL_law__2155 : decode cL_law_ 2155 = .ok (.iconst 2, 1) := by decide +kernel
theorem dL_law__2156 : decode cL_law_ 2156 = .ok (.iadd, 1) := by decide +kernel
theorem dL_law__2157 : decode cL_law_ 2157 = .ok (.iaload, 1) := by decide +kernel
theorem dL_law__2158 : decode cL_law_ 2158 = .ok (.aload_n 3, 1) := by decide +kernel
theorem dL_law__2159 : decode cL_law_ 2159 = .ok (.invokestatic 231, 3) := by decide +kernel
theorem dL_law__2162 : decode cL_law_ 2162 = .ok (.istore 5, 2) := by decide +kernel
theorem dL_law__2164 : decode cL_law_ 2164 = .ok (.aload_n 2, 1) := by decide +kernel
theorem dL_law__2165 : decode cL_law_ 2165 = .ok (.aload_n 0, 1) := by decide +kernel
theorem dL_law__2166 : decode cL_law_ 2166 = .ok (.iload 4, 2) := by decide +kernel
theorem dL_law__2168 : decode cL_law_ 2168 = .ok (.iconst 1, 1) := by decide +kernel
theorem dL_law__2169 : decode cL_law_ 2169 = .ok (.iadd, 1) := by decide +kernel
theorem dL_law__2170 : decode cL_law_ 2170 = .ok (.iaload, 1) := by decide +kernel
theorem dL_law__2171 : decode cL_law_ 2171 = .ok (.aload_n 0, 1) := by decide +kernel
theorem dL_law__2172 : decode cL_law_ 2172 = .ok (.iload 4, 2) := by decide +kernel
theorem dL_law__2174 : decode cL_law_ 2174 = .ok (.iconst 2, 1) := by decide +kernel
theorem dL_law__2175 : decode cL_law_ 2175 = .ok (.iadd, 1) := by decide +kernel
theorem dL_law__2176 : decode cL_law_ 2176 = .ok (.iaload, 1) := by decide +kernel
theorem dL_law__2177 : decode cL_law_ 2177 = .ok (.invokevirtual 233, 3) := by decide +kernel
theorem dL_law__2180 : decode cL_law_ 2180 = .ok (.istore 6, 2) := by decide +kernel
theorem dL_law__2182 : decode cL_law_ 2182 = .ok (.aload_n 2, 1) := by decide +kernel
theorem dL_law__2183 : decode cL_law_ 2183 = .ok (.invokevirtual 129, 3) := by decide +kernel
theorem dL_law__2186 : decode cL_law_ 2186 = .ok (.iload 5, 2) := by decide +kernel
theorem dL_law__2188 : decode cL_law_ 2188 = .ok (.if_icmp .eq 5, 3) := by decide +kernel
theorem dL_law__2191 : decode cL_law_ 2191 = .ok (.iconst 0, 1) := by decide +kernel
theorem dL_law__2192 : decode cL_law_ 2192 = .ok (.ireturn, 1) := by decide +kernel
theorem dL_law__2193 : decode cL_law_ 2193 = .ok (.iload 5, 2) := by decide +kernel
theorem dL_law__2195 : decode cL_law_ 2195 = .ok (.ifCond .ne 15, 3) := by decide +kernel
theorem dL_law__2198 : decode cL_law_ 2198 = .ok (.aload_n 3, 1) := by decide +kernel
theorem dL_law__2199 : decode cL_law_ 2199 = .ok (.iconst 0, 1) := by decide +kernel
theorem dL_law__2200 : decode cL_law_ 2200 = .ok (.laload, 1) := by decide +kernel
theorem dL_law__2201 : decode cL_law_ 2201 = .ok (.iload 6, 2) := by decide +kernel
theorem dL_law__2203 : decode cL_law_ 2203 = .ok (.i2l, 1) := by decide +kernel
theorem dL_law__2204 : decode cL_law_ 2204 = .ok (.lcmp, 1) := by decide +kernel
theorem dL_law__2205 : decode cL_law_ 2205 = .ok (.ifCond .eq 5, 3) := by decide +kernel
theorem dL_law__2208 : decode cL_law_ 2208 = .ok (.iconst 0, 1) := by decide +kernel
theorem dL_law__2209 : decode cL_law_ 2209 = .ok (.ireturn, 1) := by decide +kernel
theorem dL_law__2210 : decode cL_law_ 2210 = .ok (.goto 376, 3) := by decide +kernel
theorem dL_law__2213 : decode cL_law_ 2213 = .ok (.aload_n 1, 1) := by decide +kernel
theorem dL_law__2214 : decode cL_law_ 2214 = .ok (.aload_n 0, 1) := by decide +kernel
theorem dL_law__2215 : decode cL_law_ 2215 = .ok (.iload 4, 2) := by decide +kernel
theorem dL_law__2217 : decode cL_law_ 2217 = .ok (.iconst 1, 1) := by decide +kernel
theorem dL_law__2218 : decode cL_law_ 2218 = .ok (.iadd, 1) := by decide +kernel
theorem dL_law__2219 : decode cL_law_ 2219 = .ok (.iaload, 1) := by decide +kernel
theorem dL_law__2220 : decode cL_law_ 2220 = .ok (.aload_n 3, 1) := by decide +kernel
theorem dL_law__2221 : decode cL_law_ 2221 = .ok (.invokestatic 234, 3) := by decide +kernel
theorem dL_law__2224 : decode cL_law_ 2224 = .ok (.istore 5, 2) := by decide +kernel
theorem dL_law__2226 : decode cL_law_ 2226 = .ok (.aload_n 2, 1) := by decide +kernel
theorem dL_law__2227 : decode cL_law_ 2227 = .ok (.aload_n 0, 1) := by decide +kernel
theorem dL_law__2228 : decode cL_law_ 2228 = .ok (.iload 4, 2) := by decide +kernel
theorem dL_law__2230 : decode cL_law_ 2230 = .ok (.iconst 1, 1) := by decide +kernel
theorem dL_law__2231 : decode cL_law_ 2231 = .ok (.iadd, 1) := by decide +kernel
theorem dL_law__2232 : decode cL_law_ 2232 = .ok (.iaload, 1) := by decide +kernel
theorem dL_law__2233 : decode cL_law_ 2233 = .ok (.invokevirtual 236, 3) := by decide +kernel
theorem dL_law__2236 : decode cL_law_ 2236 = .ok (.istore 6, 2) := by decide +kernel
theorem dL_law__2238 : decode cL_law_ 2238 = .ok (.aload_n 2, 1) := by decide +kernel
theorem dL_law__2239 : decode cL_law_ 2239 = .ok (.invokevirtual 129, 3) := by decide +kernel
theorem dL_law__2242 : decode cL_law_ 2242 = .ok (.iload 5, 2) := by decide +kernel
theorem dL_law__2244 : decode cL_law_ 2244 = .ok (.if_icmp .eq 5, 3) := by decide +kernel
theorem dL_law__2247 : decode cL_law_ 2247 = .ok (.iconst 0, 1) := by decide +kernel
theorem dL_law__2248 : decode cL_law_ 2248 = .ok (.ireturn, 1) := by decide +kernel
theorem dL_law__2249 : decode cL_law_ 2249 = .ok (.iload 5, 2) := by decide +kernel
theorem dL_law__2251 : decode cL_law_ 2251 = .ok (.ifCond .ne 15, 3) := by decide +kernel
theorem dL_law__2254 : decode cL_law_ 2254 = .ok (.aload_n 3, 1) := by decide +kernel
theorem dL_law__2255 : decode cL_law_ 2255 = .ok (.iconst 0, 1) := by decide +kernel
theorem dL_law__2256 : decode cL_law_ 2256 = .ok (.laload, 1) := by decide +kernel
theorem dL_law__2257 : decode cL_law_ 2257 = .ok (.iload 6, 2) := by decide +kernel
theorem dL_law__2259 : decode cL_law_ 2259 = .ok (.i2l, 1) := by decide +kernel
theorem dL_law__2260 : decode cL_law_ 2260 = .ok (.lcmp, 1) := by decide +kernel
theorem dL_law__2261 : decode cL_law_ 2261 = .ok (.ifCond .eq 5, 3) := by decide +kernel
theorem dL_law__2264 : decode cL_law_ 2264 = .ok (.iconst 0, 1) := by decide +kernel
theorem dL_law__2265 : decode cL_law_ 2265 = .ok (.ireturn, 1) := by decide +kernel
theorem dL_law__2266 : decode cL_law_ 2266 = .ok (.goto 320, 3) := by decide +kernel
theorem dL_law__2269 : decode cL_law_ 2269 = .ok (.aload_n 1, 1) := by decide +kernel
theorem dL_law__2270 : decode cL_law_ 2270 = .ok (.invokevirtual 237, 3) := by decide +kernel
theorem dL_law__2273 : decode cL_law_ 2273 = .ok (.aload_n 2, 1) := by decide +kernel
theorem dL_law__2274 : decode cL_law_ 2274 = .ok (.invokevirtual 240, 3) := by decide +kernel
theorem dL_law__2277 : decode cL_law_ 2277 = .ok (.if_icmp .eq 309, 3) := by decide +kernel
theorem dL_law__2280 : decode cL_law_ 2280 = .ok (.iconst 0, 1) := by decide +kernel
theorem dL_law__2281 : decode cL_law_ 2281 = .ok (.ireturn, 1) := by decide +kernel
theorem dL_law__2282 : decode cL_law_ 2282 = .ok (.aload_n 1, 1) := by decide +kernel
theorem dL_law__2283 : decode cL_law_ 2283 = .ok (.aload_n 0, 1) := by decide +kernel
theorem dL_law__2284 : decode cL_law_ 2284 = .ok (.iload 4, 2) := by decide +kernel
theorem dL_law__2286 : decode cL_law_ 2286 = .ok (.iconst 1, 1) := by decide +kernel
theorem dL_law__2287 : decode cL_law_ 2287 = .ok (.iadd, 1) := by decide +kernel
theorem dL_law__2288 : decode cL_law_ 2288 = .ok (.iaload, 1) := by decide +kernel
theorem dL_law__2289 : decode cL_law_ 2289 = .ok (.aload_n 3, 1) := by decide +kernel
theorem dL_law__2290 : decode cL_law_ 2290 = .ok (.invokestatic 241, 3) := by decide +kernel
theorem dL_law__2293 : decode cL_law_ 2293 = .ok (.istore 5, 2) := by decide +kernel
theorem dL_law__2295 : decode cL_law_ 2295 = .ok (.aload_n 2, 1) := by decide +kernel
theorem dL_law__2296 : decode cL_law_ 2296 = .ok (.aload_n 0, 1) := by decide +kernel
theorem dL_law__2297 : decode cL_law_ 2297 = .ok (.iload 4, 2) := by decide +kernel
theorem dL_law__2299 : decode cL_law_ 2299 = .ok (.iconst 1, 1) := by decide +kernel
theorem dL_law__2300 : decode cL_law_ 2300 = .ok (.iadd, 1) := by decide +kernel
theorem dL_law__2301 : decode cL_law_ 2301 = .ok (.iaload, 1) := by decide +kernel
theorem dL_law__2302 : decode cL_law_ 2302 = .ok (.invokevirtual 243, 3) := by decide +kernel
theorem dL_law__2305 : decode cL_law_ 2305 = .ok (.istore 6, 2) := by decide +kernel
theorem dL_law__2307 : decode cL_law_ 2307 = .ok (.aload_n 2, 1) := by decide +kernel
theorem dL_law__2308 : decode cL_law_ 2308 = .ok (.invokevirtual 129, 3) := by decide +kernel
theorem dL_law__2311 : decode cL_law_ 2311 = .ok (.iload 5, 2) := by decide +kernel
theorem dL_law__2313 : decode cL_law_ 2313 = .ok (.if_icmp .eq 5, 3) := by decide +kernel
theorem dL_law__2316 : decode cL_law_ 2316 = .ok (.iconst 0, 1) := by decide +kernel
theorem dL_law__2317 : decode cL_law_ 2317 = .ok (.ireturn, 1) := by decide +kernel
theorem dL_law__2318 : decode cL_law_ 2318 = .ok (.iload 5, 2) := by decide +kernel
theorem dL_law__2320 : decode cL_law_ 2320 = .ok (.ifCond .ne 15, 3) := by decide +kernel
theorem dL_law__2323 : decode cL_law_ 2323 = .ok (.aload_n 3, 1) := by decide +kernel
theorem dL_law__2324 : decode cL_law_ 2324 = .ok (.iconst 0, 1) := by decide +kernel
theorem dL_law__2325 : decode cL_law_ 2325 = .ok (.laload, 1) := by decide +kernel
theorem dL_law__2326 : decode cL_law_ 2326 = .ok (.iload 6, 2) := by decide +kernel
theorem dL_law__2328 : decode cL_law_ 2328 = .ok (.i2l, 1) := by decide +kernel
theorem dL_law__2329 : decode cL_law_ 2329 = .ok (.lcmp, 1) := by decide +kernel
theorem dL_law__2330 : decode cL_law_ 2330 = .ok (.ifCond .eq 5, 3) := by decide +kernel
theorem dL_law__2333 : decode cL_law_ 2333 = .ok (.iconst 0, 1) := by decide +kernel
theorem dL_law__2334 : decode cL_law_ 2334 = .ok (.ireturn, 1) := by decide +kernel
theorem dL_law__2335 : decode cL_law_ 2335 = .ok (.goto 251, 3) := by decide +kernel
theorem dL_law__2338 : decode cL_law_ 2338 = .ok (.aload_n 1, 1) := by decide +kernel
theorem dL_law__2339 : decode cL_law_ 2339 = .ok (.aload_n 0, 1) := by decide +kernel
theorem dL_law__2340 : decode cL_law_ 2340 = .ok (.iload 4, 2) := by decide +kernel
theorem dL_law__2342 : decode cL_law_ 2342 = .ok (.iconst 1, 1) := by decide +kernel
theorem dL_law__2343 : decode cL_law_ 2343 = .ok (.iadd, 1) := by decide +kernel
theorem dL_law__2344 : decode cL_law_ 2344 = .ok (.iaload, 1) := by decide +kernel
theorem dL_law__2345 : decode cL_law_ 2345 = .ok (.aload_n 0, 1) := by decide +kernel
theorem dL_law__2346 : decode cL_law_ 2346 = .ok (.iload 4, 2) := by decide +kernel
theorem dL_law__2348 : decode cL_law_ 2348 = .ok (.iconst 2, 1) := by decide +kernel
theorem dL_law__2349 : decode cL_law_ 2349 = .ok (.iadd, 1) := by decide +kernel
theorem dL_law__2350 : decode cL_law_ 2350 = .ok (.iaload, 1) := by decide +kernel
theorem dL_law__2351 : decode cL_law_ 2351 = .ok (.aload_n 0, 1) := by decide +kernel
theorem dL_law__2352 : decode cL_law_ 2352 = .ok (.iload 4, 2) := by decide +kernel
theorem dL_law__2354 : decode cL_law_ 2354 = .ok (.iconst 3, 1) := by decide +kernel
theorem dL_law__2355 : decode cL_law_ 2355 = .ok (.iadd, 1) := by decide +kernel
theorem dL_law__2356 : decode cL_law_ 2356 = .ok (.iaload, 1) := by decide +kernel
theorem dL_law__2357 : decode cL_law_ 2357 = .ok (.aload_n 3, 1) := by decide +kernel
theorem dL_law__2358 : decode cL_law_ 2358 = .ok (.invokestatic 244, 3) := by decide +kernel
theorem dL_law__2361 : decode cL_law_ 2361 = .ok (.istore 5, 2) := by decide +kernel
theorem dL_law__2363 : decode cL_law_ 2363 = .ok (.aload_n 2, 1) := by decide +kernel
theorem dL_law__2364 : decode cL_law_ 2364 = .ok (.aload_n 0, 1) := by decide +kernel
theorem dL_law__2365 : decode cL_law_ 2365 = .ok (.iload 4, 2) := by decide +kernel
theorem dL_law__2367 : decode cL_law_ 2367 = .ok (.iconst 1, 1) := by decide +kernel
theorem dL_law__2368 : decode cL_law_ 2368 = .ok (.iadd, 1) := by decide +kernel
theorem dL_law__2369 : decode cL_law_ 2369 = .ok (.iaload, 1) := by decide +kernel
theorem dL_law__2370 : decode cL_law_ 2370 = .ok (.aload_n 0, 1) := by decide +kernel
theorem dL_law__2371 : decode cL_law_ 2371 = .ok (.iload 4, 2) := by decide +kernel
theorem dL_law__2373 : decode cL_law_ 2373 = .ok (.iconst 2, 1) := by decide +kernel
theorem dL_law__2374 : decode cL_law_ 2374 = .ok (.iadd, 1) := by decide +kernel
theorem dL_law__2375 : decode cL_law_ 2375 = .ok (.iaload, 1) := by decide +kernel
theorem dL_law__2376 : decode cL_law_ 2376 = .ok (.aload_n 0, 1) := by decide +kernel
theorem dL_law__2377 : decode cL_law_ 2377 = .ok (.iload 4, 2) := by decide +kernel
theorem dL_law__2379 : decode cL_law_ 2379 = .ok (.iconst 3, 1) := by decide +kernel
theorem dL_law__2380 : decode cL_law_ 2380 = .ok (.iadd, 1) := by decide +kernel
theorem dL_law__2381 : decode cL_law_ 2381 = .ok (.iaload, 1) := by decide +kernel
theorem dL_law__2382 : decode cL_law_ 2382 = .ok (.invokevirtual 246, 3) := by decide +kernel
theorem dL_law__2385 : decode cL_law_ 2385 = .ok (.istore 6, 2) := by decide +kernel
theorem dL_law__2387 : decode cL_law_ 2387 = .ok (.aload_n 2, 1) := by decide +kernel
theorem dL_law__2388 : decode cL_law_ 2388 = .ok (.invokevirtual 129, 3) := by decide +kernel
theorem dL_law__2391 : decode cL_law_ 2391 = .ok (.iload 5, 2) := by decide +kernel
theorem dL_law__2393 : decode cL_law_ 2393 = .ok (.if_icmp .eq 5, 3) := by decide +kernel
theorem dL_law__2396 : decode cL_law_ 2396 = .ok (.iconst 0, 1) := by decide +kernel
theorem dL_law__2397 : decode cL_law_ 2397 = .ok (.ireturn, 1) := by decide +kernel
theorem dL_law__2398 : decode cL_law_ 2398 = .ok (.iload 5, 2) := by decide +kernel
theorem dL_law__2400 : decode cL_law_ 2400 = .ok (.ifCond .ne 15, 3) := by decide +kernel
theorem dL_law__2403 : decode cL_law_ 2403 = .ok (.aload_n 3, 1) := by decide +kernel
theorem dL_law__2404 : decode cL_law_ 2404 = .ok (.iconst 0, 1) := by decide +kernel
theorem dL_law__2405 : decode cL_law_ 2405 = .ok (.laload, 1) := by decide +kernel
theorem dL_law__2406 : decode cL_law_ 2406 = .ok (.iload 6, 2) := by decide +kernel
theorem dL_law__2408 : decode cL_law_ 2408 = .ok (.i2l, 1) := by decide +kernel
theorem dL_law__2409 : decode cL_law_ 2409 = .ok (.lcmp, 1) := by decide +kernel
theorem dL_law__2410 : decode cL_law_ 2410 = .ok (.ifCond .eq 5, 3) := by decide +kernel
theorem dL_law__2413 : decode cL_law_ 2413 = .ok (.iconst 0, 1) := by decide +kernel
theorem dL_law__2414 : decode cL_law_ 2414 = .ok (.ireturn, 1) := by decide +kernel
theorem dL_law__2415 : decode cL_law_ 2415 = .ok (.goto 171, 3) := by decide +kernel
theorem dL_law__2418 : decode cL_law_ 2418 = .ok (.aload_n 1, 1) := by decide +kernel
theorem dL_law__2419 : decode cL_law_ 2419 = .ok (.aload_n 0, 1) := by decide +kernel
theorem dL_law__2420 : decode cL_law_ 2420 = .ok (.iload 4, 2) := by decide +kernel
theorem dL_law__2422 : decode cL_law_ 2422 = .ok (.iconst 1, 1) := by decide +kernel
theorem dL_law__2423 : decode cL_law_ 2423 = .ok (.iadd, 1) := by decide +kernel
theorem dL_law__2424 : decode cL_law_ 2424 = .ok (.iaload, 1) := by decide +kernel
theorem dL_law__2425 : decode cL_law_ 2425 = .ok (.aload_n 0, 1) := by decide +kernel
theorem dL_law__2426 : decode cL_law_ 2426 = .ok (.iload 4, 2) := by decide +kernel
theorem dL_law__2428 : decode cL_law_ 2428 = .ok (.iconst 2, 1) := by decide +kernel
theorem dL_law__2429 : decode cL_law_ 2429 = .ok (.iadd, 1) := by decide +kernel
theorem dL_law__2430 : decode cL_law_ 2430 = .ok (.iaload, 1) := by decide +kernel
theorem dL_law__2431 : decode cL_law_ 2431 = .ok (.aload_n 0, 1) := by decide +kernel
theorem dL_law__2432 : decode cL_law_ 2432 = .ok (.iload 4, 2) := by decide +kernel
theorem dL_law__2434 : decode cL_law_ 2434 = .ok (.iconst 3, 1) := by decide +kernel
theorem dL_law__2435 : decode cL_law_ 2435 = .ok (.iadd, 1) := by decide +kernel
theorem dL_law__2436 : decode cL_law_ 2436 = .ok (.iaload, 1) := by decide +kernel
theorem dL_law__2437 : decode cL_law_ 2437 = .ok (.aload_n 0, 1) := by decide +kernel
theorem dL_law__2438 : decode cL_law_ 2438 = .ok (.iload 4, 2) := by decide +kernel
theorem dL_law__2440 : decode cL_law_ 2440 = .ok (.iconst 4, 1) := by decide +kernel
theorem dL_law__2441 : decode cL_law_ 2441 = .ok (.iadd, 1) := by decide +kernel
theorem dL_law__2442 : decode cL_law_ 2442 = .ok (.iaload, 1) := by decide +kernel
theorem dL_law__2443 : decode cL_law_ 2443 = .ok (.aload_n 3, 1) := by decide +kernel
theorem dL_law__2444 : decode cL_law_ 2444 = .ok (.invokestatic 247, 3) := by decide +kernel
theorem dL_law__2447 : decode cL_law_ 2447 = .ok (.istore 5, 2) := by decide +kernel
theorem dL_law__2449 : decode cL_law_ 2449 = .ok (.aload_n 2, 1) := by decide +kernel
theorem dL_law__2450 : decode cL_law_ 2450 = .ok (.aload_n 0, 1) := by decide +kernel
theorem dL_law__2451 : decode cL_law_ 2451 = .ok (.iload 4, 2) := by decide +kernel
theorem dL_law__2453 : decode cL_law_ 2453 = .ok (.iconst 1, 1) := by decide +kernel
theorem dL_law__2454 : decode cL_law_ 2454 = .ok (.iadd, 1) := by decide +kernel
theorem dL_law__2455 : decode cL_law_ 2455 = .ok (.iaload, 1) := by decide +kernel
theorem dL_law__2456 : decode cL_law_ 2456 = .ok (.aload_n 0, 1) := by decide +kernel
theorem dL_law__2457 : decode cL_law_ 2457 = .ok (.iload 4, 2) := by decide +kernel
theorem dL_law__2459 : decode cL_law_ 2459 = .ok (.iconst 2, 1) := by decide +kernel
theorem dL_law__2460 : decode cL_law_ 2460 = .ok (.iadd, 1) := by decide +kernel
theorem dL_law__2461 : decode cL_law_ 2461 = .ok (.iaload, 1) := by decide +kernel
theorem dL_law__2462 : decode cL_law_ 2462 = .ok (.aload_n 0, 1) := by decide +kernel
theorem dL_law__2463 : decode cL_law_ 2463 = .ok (.iload 4, 2) := by decide +kernel
theorem dL_law__2465 : decode cL_law_ 2465 = .ok (.iconst 3, 1) := by decide +kernel
theorem dL_law__2466 : decode cL_law_ 2466 = .ok (.iadd, 1) := by decide +kernel
theorem dL_law__2467 : decode cL_law_ 2467 = .ok (.iaload, 1) := by decide +kernel
theorem dL_law__2468 : decode cL_law_ 2468 = .ok (.aload_n 0, 1) := by decide +kernel
theorem dL_law__2469 : decode cL_law_ 2469 = .ok (.iload 4, 2) := by decide +kernel
theorem dL_law__2471 : decode cL_law_ 2471 = .ok (.iconst 4, 1) := by decide +kernel
theorem dL_law__2472 : decode cL_law_ 2472 = .ok (.iadd, 1) := by decide +kernel
theorem dL_law__2473 : decode cL_law_ 2473 = .ok (.iaload, 1) := by decide +kernel
theorem dL_law__2474 : decode cL_law_ 2474 = .ok (.invokevirtual 249, 3) := by decide +kernel
theorem dL_law__2477 : decode cL_law_ 2477 = .ok (.istore 6, 2) := by decide +kernel
theorem dL_law__2479 : decode cL_law_ 2479 = .ok (.aload_n 2, 1) := by decide +kernel
theorem dL_law__2480 : decode cL_law_ 2480 = .ok (.invokevirtual 129, 3) := by decide +kernel
theorem dL_law__2483 : decode cL_law_ 2483 = .ok (.iload 5, 2) := by decide +kernel
theorem dL_law__2485 : decode cL_law_ 2485 = .ok (.if_icmp .eq 5, 3) := by decide +kernel
theorem dL_law__2488 : decode cL_law_ 2488 = .ok (.iconst 0, 1) := by decide +kernel
theorem dL_law__2489 : decode cL_law_ 2489 = .ok (.ireturn, 1) := by decide +kernel
theorem dL_law__2490 : decode cL_law_ 2490 = .ok (.iload 5, 2) := by decide +kernel
theorem dL_law__2492 : decode cL_law_ 2492 = .ok (.ifCond .ne 15, 3) := by decide +kernel
theorem dL_law__2495 : decode cL_law_ 2495 = .ok (.aload_n 3, 1) := by decide +kernel
theorem dL_law__2496 : decode cL_law_ 2496 = .ok (.iconst 0, 1) := by decide +kernel
theorem dL_law__2497 : decode cL_law_ 2497 = .ok (.laload, 1) := by decide +kernel
theorem dL_law__2498 : decode cL_law_ 2498 = .ok (.iload 6, 2) := by decide +kernel
theorem dL_law__2500 : decode cL_law_ 2500 = .ok (.i2l, 1) := by decide +kernel
theorem dL_law__2501 : decode cL_law_ 2501 = .ok (.lcmp, 1) := by decide +kernel
theorem dL_law__2502 : decode cL_law_ 2502 = .ok (.ifCond .eq 5, 3) := by decide +kernel
theorem dL_law__2505 : decode cL_law_ 2505 = .ok (.iconst 0, 1) := by decide +kernel
theorem dL_law__2506 : decode cL_law_ 2506 = .ok (.ireturn, 1) := by decide +kernel
theorem dL_law__2507 : decode cL_law_ 2507 = .ok (.goto 79, 3) := by decide +kernel
theorem dL_law__2510 : decode cL_law_ 2510 = .ok (.aload_n 1, 1) := by decide +kernel
theorem dL_law__2511 : decode cL_law_ 2511 = .ok (.invokevirtual 250, 3) := by decide +kernel
theorem dL_law__2514 : decode cL_law_ 2514 = .ok (.aload_n 2, 1) := by decide +kernel
theorem dL_law__2515 : decode cL_law_ 2515 = .ok (.invokevirtual 253, 3) := by decide +kernel
theorem dL_law__2518 : decode cL_law_ 2518 = .ok (.if_icmp .eq 68, 3) := by decide +kernel
theorem dL_law__2521 : decode cL_law_ 2521 = .ok (.iconst 0, 1) := by decide +kernel
theorem dL_law__2522 : decode cL_law_ 2522 = .ok (.ireturn, 1) := by decide +kernel
theorem dL_law__2523 : decode cL_law_ 2523 = .ok (.aload_n 1, 1) := by decide +kernel
theorem dL_law__2524 : decode cL_law_ 2524 = .ok (.invokevirtual 254, 3) := by decide +kernel
theorem dL_law__2527 : decode cL_law_ 2527 = .ok (.aload_n 2, 1) := by decide +kernel
theorem dL_law__2528 : decode cL_law_ 2528 = .ok (.invokevirtual 257, 3) := by decide +kernel
theorem dL_law__2531 : decode cL_law_ 2531 = .ok (.if_icmp .eq 55, 3) := by decide +kernel
theorem dL_law__2534 : decode cL_law_ 2534 = .ok (.iconst 0, 1) := by decide +kernel
theorem dL_law__2535 : decode cL_law_ 2535 = .ok (.ireturn, 1) := by decide +kernel
theorem dL_law__2536 : decode cL_law_ 2536 = .ok (.aload_n 1, 1) := by decide +kernel
theorem dL_law__2537 : decode cL_law_ 2537 = .ok (.aload_n 0, 1) := by decide +kernel
theorem dL_law__2538 : decode cL_law_ 2538 = .ok (.iload 4, 2) := by decide +kernel
theorem dL_law__2540 : decode cL_law_ 2540 = .ok (.iconst 1, 1) := by decide +kernel
theorem dL_law__2541 : decode cL_law_ 2541 = .ok (.iadd, 1) := by decide +kernel
theorem dL_law__2542 : decode cL_law_ 2542 = .ok (.iaload, 1) := by decide +kernel
theorem dL_law__2543 : decode cL_law_ 2543 = .ok (.invokevirtual 258, 3) := by decide +kernel
theorem dL_law__2546 : decode cL_law_ 2546 = .ok (.aload_n 2, 1) := by decide +kernel
theorem dL_law__2547 : decode cL_law_ 2547 = .ok (.aload_n 0, 1) := by decide +kernel
theorem dL_law__2548 : decode cL_law_ 2548 = .ok (.iload 4, 2) := by decide +kernel
theorem dL_law__2550 : decode cL_law_ 2550 = .ok (.iconst 1, 1) := by decide +kernel
theorem dL_law__2551 : decode cL_law_ 2551 = .ok (.iadd, 1) := by decide +kernel
theorem dL_law__2552 : decode cL_law_ 2552 = .ok (.iaload, 1) := by decide +kernel
theorem dL_law__2553 : decode cL_law_ 2553 = .ok (.invokevirtual 261, 3) := by decide +kernel
theorem dL_law__2556 : decode cL_law_ 2556 = .ok (.if_icmp .eq 30, 3) := by decide +kernel
theorem dL_law__2559 : decode cL_law_ 2559 = .ok (.iconst 0, 1) := by decide +kernel
theorem dL_law__2560 : decode cL_law_ 2560 = .ok (.ireturn, 1) := by decide +kernel
theorem dL_law__2561 : decode cL_law_ 2561 = .ok (.aload_n 1, 1) := by decide +kernel
theorem dL_law__2562 : decode cL_law_ 2562 = .ok (.aload_n 0, 1) := by decide +kernel
theorem dL_law__2563 : decode cL_law_ 2563 = .ok (.iload 4, 2) := by decide +kernel
theorem dL_law__2565 : decode cL_law_ 2565 = .ok (.iconst 1, 1) := by decide +kernel
theorem dL_law__2566 : decode cL_law_ 2566 = .ok (.iadd, 1) := by decide +kernel
theorem dL_law__2567 : decode cL_law_ 2567 = .ok (.iaload, 1) := by decide +kernel
theorem dL_law__2568 : decode cL_law_ 2568 = .ok (.invokevirtual 262, 3) := by decide +kernel
theorem dL_law__2571 : decode cL_law_ 2571 = .ok (.aload_n 2, 1) := by decide +kernel
theorem dL_law__2572 : decode cL_law_ 2572 = .ok (.aload_n 0, 1) := by decide +kernel
theorem dL_law__2573 : decode cL_law_ 2573 = .ok (.iload 4, 2) := by decide +kernel
theorem dL_law__2575 : decode cL_law_ 2575 = .ok (.iconst 1, 1) := by decide +kernel
theorem dL_law__2576 : decode cL_law_ 2576 = .ok (.iadd, 1) := by decide +kernel
theorem dL_law__2577 : decode cL_law_ 2577 = .ok (.iaload, 1) := by decide +kernel
theorem dL_law__2578 : decode cL_law_ 2578 = .ok (.invokevirtual 265, 3) := by decide +kernel
theorem dL_law__2581 : decode cL_law_ 2581 = .ok (.if_icmp .eq 5, 3) := by decide +kernel
theorem dL_law__2584 : decode cL_law_ 2584 = .ok (.iconst 0, 1) := by decide +kernel
theorem dL_law__2585 : decode cL_law_ 2585 = .ok (.ireturn, 1) := by decide +kernel
theorem dL_law__2586 : decode cL_law_ 2586 = .ok (.iinc 4 10, 3) := by decide +kernel
theorem dL_law__2589 : decode cL_law_ 2589 = .ok (.goto (-2566), 3) := by decide +kernel
theorem dL_law__2592 : decode cL_law_ 2592 = .ok (.iconst 1, 1) := by decide +kernel
theorem dL_law__2593 : decode cL_law_ 2593 = .ok (.ireturn, 1) := by decide +kernel
theorem r_L_law__0 {d rc rs : Nat} {Q : PO → PH → Prop} {h : PH}
    (k : nwO h 9 18 rc rs (dvT tyX9) fun o1 h2 rc3 rs4 => cl d rc3 rs4 M_X9_init [vR (900, o1)] h2 (kV fun h5 rc6 rs7 => nwO h5 10 55 rc6 rs7 (dvT tyX10) fun o8 h9 rc10 rs11 => cl d rc10 rs11 M_X10_init [vR (1000, o8)] h9 (kV fun h12 rc13 rs14 => nwA h12 3 (1 : Int32) (.inr (.inl (fun _ => 0))) rc13 rs14 fun a15 h16 rc17 rs18 => PW d M_L_law_ Q rc17 rs18 23 [vR (1201, 0), vR (900, o1), vR (1000, o8), vR a15, vI (0 : Int32), vU, vU] [] h16) (fun E h12 rc13 rs14 => Q (.inr E) h12)) (fun E h5 rc6 rs7 => Q (.inr E) h5)) :
    PW d M_L_law_ Q rc rs 0 [vR (1201, 0), vU, vU, vU, vU, vU, vU] [] h := by
  obtain ⟨o1, g9, rc3, rs4, rfl, rfl, b3, k⟩ := k
  refine P_new (ci := 9) (q := (RX9, TX9, 18)) (pc := 0) dL_law__0 rfl l_L_8 ins_X9 ini_X9 inT9 tyX9_ok dv9 b3 ?_
  refine P_dup (pc := 3) dL_law__3 (fun _ => rfl) ?_
  obtain ⟨d2, nc, ns, rc6, rs7, Qc, g1, rfl, rfl, g2, kk, kx⟩ := k
  refine P_callI (As := []) (st := [vR (900, o1)]) (pc := 4) dL_law__4 mk_X9_init l_L_114 im_X9_init rfl ini_X9 rfl g1 (Nat.le_of_ble_eq_true rfl) rfl g2 (fun v9 h9 q9 => ?_) (fun E h9 q9 => PX_out rfl (kx E h9 q9))
  obtain ⟨rfl, k⟩ := kk v9 h9 q9
  clear kk kx g1 g2 q9
  refine P_astore_n (pc := 7) dL_law__7 (by decide) (Or.inr (by intro z e9; cases e9)) rfl ?_
  obtain ⟨o8, g9, rc10, rs11, rfl, rfl, b3, k⟩ := k
  refine P_new (ci := 10) (q := (RX10, TX10, 55)) (pc := 8) dL_law__8 rfl l_L_115 ins_X10 ini_X10 inT10 tyX10_ok dv10 b3 ?_
  refine P_dup (pc := 11) dL_law__11 (fun _ => rfl) ?_
  obtain ⟨d2, nc, ns, rc13, rs14, Qc, g1, rfl, rfl, g2, kk, kx⟩ := k
  refine P_callI (As := []) (st := [vR (1000, o8)]) (pc := 12) dL_law__12 mk_X10_init l_L_117 im_X10_init rfl ini_X10 rfl g1 (Nat.le_of_ble_eq_true rfl) rfl g2 (fun v9 h9 q9 => ?_) (fun E h9 q9 => PX_out rfl (kx E h9 q9))
  obtain ⟨rfl, k⟩ := kk v9 h9 q9
  clear kk kx g1 g2 q9
  refine P_astore_n (pc := 15) dL_law__15 (by decide) (Or.inr (by intro z e9; cases e9)) rfl ?_
  refine P_iconst (v := (1 : Int32)) (pc := 16) dL_law__16 (by decide) ?_
  obtain ⟨a15, n9, m9, g9, rc17, rs18, b1, b2, b3, b4, b5, b6, rfl, rfl, k⟩ := k
  refine P_newaL (pc := 17) dL_law__17 ac_long b1 b2 b3 b4 b5 b6 ?_
  refine P_astore_n (pc := 19) dL_law__19 (by decide) (Or.inr (by intro z e9; cases e9)) rfl ?_
  refine P_iconst (v := (0 : Int32)) (pc := 20) dL_law__20 (by decide) ?_
  refine P_istore (pc := 21) dL_law__21 (by decide) (Or.inr (by intro z e9; cases e9)) rfl ?_
  exact k
theorem r_L_law__23 {d rc rs : Nat} {Q : PO → PH → Prop} {h : PH} {l1 : Nat} {l2 : Nat} {l3 : LA} {l4 : Int32}
    (k : scL h fun x1 => br ((x1 - (10 : Int32)) < l4) (Q (.inl (some (vI (1 : Int32)))) h) (scI h l4 fun x2 => ((x2 &&& (63 : Int32)) = (0 : Int32) → scI h (l4 + (1 : Int32)) fun x3 => scI h (l4 + (2 : Int32)) fun x4 => scI h (l4 + (3 : Int32)) fun x5 => scI h (l4 + (4 : Int32)) fun x6 => scI h (l4 + (5 : Int32)) fun x7 => isO h 10900 l1 ∧ cl d rc rs M_X9_feed [vR (900, l1), vI x3, vI x4, vI x5, vI x6, vI x7] h (kI fun x11 h8 rc9 rs10 => scI h8 (l4 + (1 : Int32)) fun x12 => scI h8 (l4 + (2 : Int32)) fun x13 => scI h8 (l4 + (3 : Int32)) fun x14 => scI h8 (l4 + (4 : Int32)) fun x15 => scI h8 (l4 + (5 : Int32)) fun x16 => isO h8 11000 l2 ∧ cl d rc9 rs10 M_X10_feed [vR (1000, l2), vI x12, vI x13, vI x14, vI x15, vI x16] h8 (kI fun x20 h17 rc18 rs19 => br (x11 = x20) (PW d M_L_law_ Q rc18 rs19 23 [vR (1201, 0), vR (900, l1), vR (1000, l2), vR l3, vI (l4 + (10 : Int32)), vU, vU] [] h17) (Q (.inl (some (vI (0 : Int32)))) h17)) (fun E h17 rc18 rs19 => Q (.inr E) h17)) (fun E h8 rc9 rs10 => Q (.inr E) h8)) ∧ ((x2 &&& (63 : Int32)) = (1 : Int32) → scI h (l4 + (1 : Int32)) fun x21 => cl d rc rs M_L_court [vR (900, l1), vI x21, vR l3] h (kI fun x25 h22 rc23 rs24 => scI h22 (l4 + (1 : Int32)) fun x26 => isO h22 11000 l2 ∧ cl d rc23 rs24 M_X10_court [vR (1000, l2), vI x26] h22 (kI fun x30 h27 rc28 rs29 => isO h27 11000 l2 ∧ cl d rc28 rs29 M_X10_thrown [vR (1000, l2)] h27 (kI fun x34 h31 rc32 rs33 => br (x34 = x25) (br (x25 = 0) (xL h31 l3 (0 : Int32) fun x35 => br ((lg_cmp x35 x30.toInt64) = 0) (PW d M_L_law_ Q rc32 rs33 23 [vR (1201, 0), vR (900, l1), vR (1000, l2), vR l3, vI (l4 + (10 : Int32)), vU, vU] [] h31) (Q (.inl (some (vI (0 : Int32)))) h31)) (PW d M_L_law_ Q rc32 rs33 23 [vR (1201, 0), vR (900, l1), vR (1000, l2), vR l3, vI (l4 + (10 : Int32)), vU, vU] [] h31)) (Q (.inl (some (vI (0 : Int32)))) h31)) (fun E h31 rc32 rs33 => Q (.inr E) h31)) (fun E h27 rc28 rs29 => Q (.inr E) h27)) (fun E h22 rc23 rs24 => Q (.inr E) h22)) ∧ ((x2 &&& (63 : Int32)) = (2 : Int32) → scI h (l4 + (1 : Int32)) fun x36 => cl d rc rs M_L_law [vR (900, l1), vI x36, vR l3] h (kI fun x40 h37 rc38 rs39 => scI h37 (l4 + (1 : Int32)) fun x41 => isO h37 11000 l2 ∧ cl d rc38 rs39 M_X10_law [vR (1000, l2), vI x41] h37 (kI fun x45 h42 rc43 rs44 => isO h42 11000 l2 ∧ cl d rc43 rs44 M_X10_thrown [vR (1000, l2)] h42 (kI fun x49 h46 rc47 rs48 => br (x49 = x40) (br (x40 = 0) (xL h46 l3 (0 : Int32) fun x50 => br ((lg_cmp x50 x45.toInt64) = 0) (PW d M_L_law_ Q rc47 rs48 23 [vR (1201, 0), vR (900, l1), vR (1000, l2), vR l3, vI (l4 + (10 : Int32)), vU, vU] [] h46) (Q (.inl (some (vI (0 : Int32)))) h46)) (PW d M_L_law_ Q rc47 rs48 23 [vR (1201, 0), vR (900, l1), vR (1000, l2), vR l3, vI (l4 + (10 : Int32)), vU, vU] [] h46)) (Q (.inl (some (vI (0 : Int32)))) h46)) (fun E h46 rc47 rs48 => Q (.inr E) h46)) (fun E h42 rc43 rs44 => Q (.inr E) h42)) (fun E h37 rc38 rs39 => Q (.inr E) h37)) ∧ ((x2 &&& (63 : Int32)) = (3 : Int32) → scI h (l4 + (1 : Int32)) fun x51 => cl d rc rs M_L_work [vR (900, l1), vI x51, vR l3] h (kI fun x55 h52 rc53 rs54 => scI h52 (l4 + (1 : Int32)) fun x56 => isO h52 11000 l2 ∧ cl d rc53 rs54 M_X10_work [vR (1000, l2), vI x56] h52 (kI fun x60 h57 rc58 rs59 => isO h57 11000 l2 ∧ cl d rc58 rs59 M_X10_thrown [vR (1000, l2)] h57 (kI fun x64 h61 rc62 rs63 => br (x64 = x55) (br (x55 = 0) (xL h61 l3 (0 : Int32) fun x65 => br ((lg_cmp x65 x60.toInt64) = 0) (PW d M_L_law_ Q rc62 rs63 23 [vR (1201, 0), vR (900, l1), vR (1000, l2), vR l3, vI (l4 + (10 : Int32)), vU, vU] [] h61) (Q (.inl (some (vI (0 : Int32)))) h61)) (PW d M_L_law_ Q rc62 rs63 23 [vR (1201, 0), vR (900, l1), vR (1000, l2), vR l3, vI (l4 + (10 : Int32)), vU, vU] [] h61)) (Q (.inl (some (vI (0 : Int32)))) h61)) (fun E h61 rc62 rs63 => Q (.inr E) h61)) (fun E h57 rc58 rs59 => Q (.inr E) h57)) (fun E h52 rc53 rs54 => Q (.inr E) h52)) ∧ ((x2 &&& (63 : Int32)) = (4 : Int32) → scI h (l4 + (1 : Int32)) fun x66 => cl d rc rs M_L_book [vR (900, l1), vI x66, vR l3] h (kI fun x70 h67 rc68 rs69 => scI h67 (l4 + (1 : Int32)) fun x71 => isO h67 11000 l2 ∧ cl d rc68 rs69 M_X10_book [vR (1000, l2), vI x71] h67 (kI fun x75 h72 rc73 rs74 => isO h72 11000 l2 ∧ cl d rc73 rs74 M_X10_thrown [vR (1000, l2)] h72 (kI fun x79 h76 rc77 rs78 => br (x79 = x70) (br (x70 = 0) (xL h76 l3 (0 : Int32) fun x80 => br ((lg_cmp x80 x75.toInt64) = 0) (PW d M_L_law_ Q rc77 rs78 23 [vR (1201, 0), vR (900, l1), vR (1000, l2), vR l3, vI (l4 + (10 : Int32)), vU, vU] [] h76) (Q (.inl (some (vI (0 : Int32)))) h76)) (PW d M_L_law_ Q rc77 rs78 23 [vR (1201, 0), vR (900, l1), vR (1000, l2), vR l3, vI (l4 + (10 : Int32)), vU, vU] [] h76)) (Q (.inl (some (vI (0 : Int32)))) h76)) (fun E h76 rc77 rs78 => Q (.inr E) h76)) (fun E h72 rc73 rs74 => Q (.inr E) h72)) (fun E h67 rc68 rs69 => Q (.inr E) h67)) ∧ ((x2 &&& (63 : Int32)) = (5 : Int32) → isO h 10900 l1 ∧ cl d rc rs M_X9_fault [vR (900, l1)] h (kI fun x84 h81 rc82 rs83 => isO h81 11000 l2 ∧ cl d rc82 rs83 M_X10_fault [vR (1000, l2)] h81 (kI fun x88 h85 rc86 rs87 => br (x84 = x88) (PW d M_L_law_ Q rc86 rs87 23 [vR (1201, 0), vR (900, l1), vR (1000, l2), vR l3, vI (l4 + (10 : Int32)), vU, vU] [] h85) (Q (.inl (some (vI (0 : Int32)))) h85)) (fun E h85 rc86 rs87 => Q (.inr E) h85)) (fun E h81 rc82 rs83 => Q (.inr E) h81)) ∧ ((x2 &&& (63 : Int32)) = (6 : Int32) → isO h 10900 l1 ∧ cl d rc rs M_X9_undo [vR (900, l1)] h (kI fun x92 h89 rc90 rs91 => isO h89 11000 l2 ∧ cl d rc90 rs91 M_X10_undo [vR (1000, l2)] h89 (kI fun x96 h93 rc94 rs95 => br (x92 = x96) (PW d M_L_law_ Q rc94 rs95 23 [vR (1201, 0), vR (900, l1), vR (1000, l2), vR l3, vI (l4 + (10 : Int32)), vU, vU] [] h93) (Q (.inl (some (vI (0 : Int32)))) h93)) (fun E h93 rc94 rs95 => Q (.inr E) h93)) (fun E h89 rc90 rs91 => Q (.inr E) h89)) ∧ ((x2 &&& (63 : Int32)) = (7 : Int32) → scI h (l4 + (1 : Int32)) fun x97 => cl d rc rs M_L_told [vR (900, l1), vI x97, vR l3] h (kI fun x101 h98 rc99 rs100 => scI h98 (l4 + (1 : Int32)) fun x102 => isO h98 11000 l2 ∧ cl d rc99 rs100 M_X10_told [vR (1000, l2), vI x102] h98 (kI fun x106 h103 rc104 rs105 => isO h103 11000 l2 ∧ cl d rc104 rs105 M_X10_thrown [vR (1000, l2)] h103 (kI fun x110 h107 rc108 rs109 => br (x110 = x101) (br (x101 = 0) (xL h107 l3 (0 : Int32) fun x111 => br ((lg_cmp x111 x106.toInt64) = 0) (PW d M_L_law_ Q rc108 rs109 23 [vR (1201, 0), vR (900, l1), vR (1000, l2), vR l3, vI (l4 + (10 : Int32)), vU, vU] [] h107) (Q (.inl (some (vI (0 : Int32)))) h107)) (PW d M_L_law_ Q rc108 rs109 23 [vR (1201, 0), vR (900, l1), vR (1000, l2), vR l3, vI (l4 + (10 : Int32)), vU, vU] [] h107)) (Q (.inl (some (vI (0 : Int32)))) h107)) (fun E h107 rc108 rs109 => Q (.inr E) h107)) (fun E h103 rc104 rs105 => Q (.inr E) h103)) (fun E h98 rc99 rs100 => Q (.inr E) h98)) ∧ ((x2 &&& (63 : Int32)) = (8 : Int32) → scI h (l4 + (1 : Int32)) fun x112 => scI h (l4 + (2 : Int32)) fun x113 => cl d rc rs M_L_heir [vR (900, l1), vI x112, vI x113, vR l3] h (kI fun x117 h114 rc115 rs116 => scI h114 (l4 + (1 : Int32)) fun x118 => scI h114 (l4 + (2 : Int32)) fun x119 => isO h114 11000 l2 ∧ cl d rc115 rs116 M_X10_heir [vR (1000, l2), vI x118, vI x119] h114 (kI fun x123 h120 rc121 rs122 => isO h120 11000 l2 ∧ cl d rc121 rs122 M_X10_thrown [vR (1000, l2)] h120 (kI fun x127 h124 rc125 rs126 => br (x127 = x117) (br (x117 = 0) (xL h124 l3 (0 : Int32) fun x128 => br ((lg_cmp x128 x123.toInt64) = 0) (PW d M_L_law_ Q rc125 rs126 23 [vR (1201, 0), vR (900, l1), vR (1000, l2), vR l3, vI (l4 + (10 : Int32)), vU, vU] [] h124) (Q (.inl (some (vI (0 : Int32)))) h124)) (PW d M_L_law_ Q rc125 rs126 23 [vR (1201, 0), vR (900, l1), vR (1000, l2), vR l3, vI (l4 + (10 : Int32)), vU, vU] [] h124)) (Q (.inl (some (vI (0 : Int32)))) h124)) (fun E h124 rc125 rs126 => Q (.inr E) h124)) (fun E h120 rc121 rs122 => Q (.inr E) h120)) (fun E h114 rc115 rs116 => Q (.inr E) h114)) ∧ ((x2 &&& (63 : Int32)) = (9 : Int32) → scI h (l4 + (1 : Int32)) fun x129 => scI h (l4 + (2 : Int32)) fun x130 => cl d rc rs M_L_two [vR (900, l1), vI x129, vI x130, vR l3] h (kI fun x134 h131 rc132 rs133 => scI h131 (l4 + (1 : Int32)) fun x135 => scI h131 (l4 + (2 : Int32)) fun x136 => isO h131 11000 l2 ∧ cl d rc132 rs133 M_X10_two [vR (1000, l2), vI x135, vI x136] h131 (kI fun x140 h137 rc138 rs139 => isO h137 11000 l2 ∧ cl d rc138 rs139 M_X10_thrown [vR (1000, l2)] h137 (kI fun x144 h141 rc142 rs143 => br (x144 = x134) (br (x134 = 0) (xL h141 l3 (0 : Int32) fun x145 => br ((lg_cmp x145 x140.toInt64) = 0) (PW d M_L_law_ Q rc142 rs143 23 [vR (1201, 0), vR (900, l1), vR (1000, l2), vR l3, vI (l4 + (10 : Int32)), vU, vU] [] h141) (Q (.inl (some (vI (0 : Int32)))) h141)) (PW d M_L_law_ Q rc142 rs143 23 [vR (1201, 0), vR (900, l1), vR (1000, l2), vR l3, vI (l4 + (10 : Int32)), vU, vU] [] h141)) (Q (.inl (some (vI (0 : Int32)))) h141)) (fun E h141 rc142 rs143 => Q (.inr E) h141)) (fun E h137 rc138 rs139 => Q (.inr E) h137)) (fun E h131 rc132 rs133 => Q (.inr E) h131)) ∧ ((x2 &&& (63 : Int32)) = (10 : Int32) → scI h (l4 + (1 : Int32)) fun x146 => scI h (l4 + (2 : Int32)) fun x147 => cl d rc rs M_L_keeper [vR (900, l1), vI x146, vI x147, vR l3] h (kI fun x151 h148 rc149 rs150 => scI h148 (l4 + (1 : Int32)) fun x152 => scI h148 (l4 + (2 : Int32)) fun x153 => isO h148 11000 l2 ∧ cl d rc149 rs150 M_X10_keeper [vR (1000, l2), vI x152, vI x153] h148 (kI fun x157 h154 rc155 rs156 => isO h154 11000 l2 ∧ cl d rc155 rs156 M_X10_thrown [vR (1000, l2)] h154 (kI fun x161 h158 rc159 rs160 => br (x161 = x151) (br (x151 = 0) (xL h158 l3 (0 : Int32) fun x162 => br ((lg_cmp x162 x157.toInt64) = 0) (PW d M_L_law_ Q rc159 rs160 23 [vR (1201, 0), vR (900, l1), vR (1000, l2), vR l3, vI (l4 + (10 : Int32)), vU, vU] [] h158) (Q (.inl (some (vI (0 : Int32)))) h158)) (PW d M_L_law_ Q rc159 rs160 23 [vR (1201, 0), vR (900, l1), vR (1000, l2), vR l3, vI (l4 + (10 : Int32)), vU, vU] [] h158)) (Q (.inl (some (vI (0 : Int32)))) h158)) (fun E h158 rc159 rs160 => Q (.inr E) h158)) (fun E h154 rc155 rs156 => Q (.inr E) h154)) (fun E h148 rc149 rs150 => Q (.inr E) h148)) ∧ ((x2 &&& (63 : Int32)) = (11 : Int32) → scI h (l4 + (1 : Int32)) fun x163 => cl d rc rs M_L_cloud [vR (900, l1), vI x163, vR l3] h (kI fun x167 h164 rc165 rs166 => scI h164 (l4 + (1 : Int32)) fun x168 => isO h164 11000 l2 ∧ cl d rc165 rs166 M_X10_cloud [vR (1000, l2), vI x168] h164 (kI fun x172 h169 rc170 rs171 => isO h169 11000 l2 ∧ cl d rc170 rs171 M_X10_thrown [vR (1000, l2)] h169 (kI fun x176 h173 rc174 rs175 => br (x176 = x167) (br (x167 = 0) (xL h173 l3 (0 : Int32) fun x177 => br ((lg_cmp x177 x172.toInt64) = 0) (PW d M_L_law_ Q rc174 rs175 23 [vR (1201, 0), vR (900, l1), vR (1000, l2), vR l3, vI (l4 + (10 : Int32)), vU, vU] [] h173) (Q (.inl (some (vI (0 : Int32)))) h173)) (PW d M_L_law_ Q rc174 rs175 23 [vR (1201, 0), vR (900, l1), vR (1000, l2), vR l3, vI (l4 + (10 : Int32)), vU, vU] [] h173)) (Q (.inl (some (vI (0 : Int32)))) h173)) (fun E h173 rc174 rs175 => Q (.inr E) h173)) (fun E h169 rc170 rs171 => Q (.inr E) h169)) (fun E h164 rc165 rs166 => Q (.inr E) h164)) ∧ ((x2 &&& (63 : Int32)) = (12 : Int32) → scI h (l4 + (1 : Int32)) fun x178 => scI h (l4 + (2 : Int32)) fun x179 => scI h (l4 + (3 : Int32)) fun x180 => scI h (l4 + (4 : Int32)) fun x181 => scI h (l4 + (5 : Int32)) fun x182 => scI h (l4 + (6 : Int32)) fun x183 => scI h (l4 + (7 : Int32)) fun x184 => scI h (l4 + (8 : Int32)) fun x185 => scI h (l4 + (9 : Int32)) fun x186 => cl d rc rs M_L_would [vR (900, l1), vI x178, vI x179, vI x180, vI x181, vI x182, vI x183, vI x184, vI x185, vI x186, vR l3] h (kI fun x190 h187 rc188 rs189 => scI h187 (l4 + (1 : Int32)) fun x191 => scI h187 (l4 + (2 : Int32)) fun x192 => scI h187 (l4 + (3 : Int32)) fun x193 => scI h187 (l4 + (4 : Int32)) fun x194 => scI h187 (l4 + (5 : Int32)) fun x195 => scI h187 (l4 + (6 : Int32)) fun x196 => scI h187 (l4 + (7 : Int32)) fun x197 => scI h187 (l4 + (8 : Int32)) fun x198 => scI h187 (l4 + (9 : Int32)) fun x199 => isO h187 11000 l2 ∧ cl d rc188 rs189 M_X10_would [vR (1000, l2), vI x191, vI x192, vI x193, vI x194, vI x195, vI x196, vI x197, vI x198, vI x199] h187 (kI fun x203 h200 rc201 rs202 => isO h200 11000 l2 ∧ cl d rc201 rs202 M_X10_thrown [vR (1000, l2)] h200 (kI fun x207 h204 rc205 rs206 => br (x207 = x190) (br (x190 = 0) (xL h204 l3 (0 : Int32) fun x208 => br ((lg_cmp x208 x203.toInt64) = 0) (PW d M_L_law_ Q rc205 rs206 23 [vR (1201, 0), vR (900, l1), vR (1000, l2), vR l3, vI (l4 + (10 : Int32)), vU, vU] [] h204) (Q (.inl (some (vI (0 : Int32)))) h204)) (PW d M_L_law_ Q rc205 rs206 23 [vR (1201, 0), vR (900, l1), vR (1000, l2), vR l3, vI (l4 + (10 : Int32)), vU, vU] [] h204)) (Q (.inl (some (vI (0 : Int32)))) h204)) (fun E h204 rc205 rs206 => Q (.inr E) h204)) (fun E h200 rc201 rs202 => Q (.inr E) h200)) (fun E h187 rc188 rs189 => Q (.inr E) h187)) ∧ ((x2 &&& (63 : Int32)) = (13 : Int32) → scI h (l4 + (1 : Int32)) fun x209 => cl d rc rs M_L_rank [vR (900, l1), vI x209, vR l3] h (kI fun x213 h210 rc211 rs212 => scI h210 (l4 + (1 : Int32)) fun x214 => isO h210 11000 l2 ∧ cl d rc211 rs212 M_X10_rank [vR (1000, l2), vI x214] h210 (kI fun x218 h215 rc216 rs217 => isO h215 11000 l2 ∧ cl d rc216 rs217 M_X10_thrown [vR (1000, l2)] h215 (kI fun x222 h219 rc220 rs221 => br (x222 = x213) (br (x213 = 0) (xL h219 l3 (0 : Int32) fun x223 => br ((lg_cmp x223 x218.toInt64) = 0) (PW d M_L_law_ Q rc220 rs221 23 [vR (1201, 0), vR (900, l1), vR (1000, l2), vR l3, vI (l4 + (10 : Int32)), vU, vU] [] h219) (Q (.inl (some (vI (0 : Int32)))) h219)) (PW d M_L_law_ Q rc220 rs221 23 [vR (1201, 0), vR (900, l1), vR (1000, l2), vR l3, vI (l4 + (10 : Int32)), vU, vU] [] h219)) (Q (.inl (some (vI (0 : Int32)))) h219)) (fun E h219 rc220 rs221 => Q (.inr E) h219)) (fun E h215 rc216 rs217 => Q (.inr E) h215)) (fun E h210 rc211 rs212 => Q (.inr E) h210)) ∧ ((x2 &&& (63 : Int32)) = (14 : Int32) → scI h (l4 + (1 : Int32)) fun x224 => scI h (l4 + (2 : Int32)) fun x225 => cl d rc rs M_L_ahead [vR (900, l1), vI x224, vI x225, vR l3] h (kI fun x229 h226 rc227 rs228 => scI h226 (l4 + (1 : Int32)) fun x230 => scI h226 (l4 + (2 : Int32)) fun x231 => isO h226 11000 l2 ∧ cl d rc227 rs228 M_X10_ahead [vR (1000, l2), vI x230, vI x231] h226 (kI fun x235 h232 rc233 rs234 => isO h232 11000 l2 ∧ cl d rc233 rs234 M_X10_thrown [vR (1000, l2)] h232 (kI fun x239 h236 rc237 rs238 => br (x239 = x229) (br (x229 = 0) (xL h236 l3 (0 : Int32) fun x240 => br ((lg_cmp x240 x235.toInt64) = 0) (PW d M_L_law_ Q rc237 rs238 23 [vR (1201, 0), vR (900, l1), vR (1000, l2), vR l3, vI (l4 + (10 : Int32)), vU, vU] [] h236) (Q (.inl (some (vI (0 : Int32)))) h236)) (PW d M_L_law_ Q rc237 rs238 23 [vR (1201, 0), vR (900, l1), vR (1000, l2), vR l3, vI (l4 + (10 : Int32)), vU, vU] [] h236)) (Q (.inl (some (vI (0 : Int32)))) h236)) (fun E h236 rc237 rs238 => Q (.inr E) h236)) (fun E h232 rc233 rs234 => Q (.inr E) h232)) (fun E h226 rc227 rs228 => Q (.inr E) h226)) ∧ ((x2 &&& (63 : Int32)) = (15 : Int32) → scI h (l4 + (1 : Int32)) fun x241 => cl d rc rs M_L_clouds [vR (900, l1), vI x241, vR l3] h (kI fun x245 h242 rc243 rs244 => scI h242 (l4 + (1 : Int32)) fun x246 => isO h242 11000 l2 ∧ cl d rc243 rs244 M_X10_clouds [vR (1000, l2), vI x246] h242 (kI fun x250 h247 rc248 rs249 => isO h247 11000 l2 ∧ cl d rc248 rs249 M_X10_thrown [vR (1000, l2)] h247 (kI fun x254 h251 rc252 rs253 => br (x254 = x245) (br (x245 = 0) (xL h251 l3 (0 : Int32) fun x255 => br ((lg_cmp x255 x250.toInt64) = 0) (PW d M_L_law_ Q rc252 rs253 23 [vR (1201, 0), vR (900, l1), vR (1000, l2), vR l3, vI (l4 + (10 : Int32)), vU, vU] [] h251) (Q (.inl (some (vI (0 : Int32)))) h251)) (PW d M_L_law_ Q rc252 rs253 23 [vR (1201, 0), vR (900, l1), vR (1000, l2), vR l3, vI (l4 + (10 : Int32)), vU, vU] [] h251)) (Q (.inl (some (vI (0 : Int32)))) h251)) (fun E h251 rc252 rs253 => Q (.inr E) h251)) (fun E h247 rc248 rs249 => Q (.inr E) h247)) (fun E h242 rc243 rs244 => Q (.inr E) h242)) ∧ ((x2 &&& (63 : Int32)) = (16 : Int32) → scI h (l4 + (1 : Int32)) fun x256 => cl d rc rs M_L_wipes [vR (900, l1), vI x256, vR l3] h (kI fun x260 h257 rc258 rs259 => scI h257 (l4 + (1 : Int32)) fun x261 => isO h257 11000 l2 ∧ cl d rc258 rs259 M_X10_wipes [vR (1000, l2), vI x261] h257 (kI fun x265 h262 rc263 rs264 => isO h262 11000 l2 ∧ cl d rc263 rs264 M_X10_thrown [vR (1000, l2)] h262 (kI fun x269 h266 rc267 rs268 => br (x269 = x260) (br (x260 = 0) (xL h266 l3 (0 : Int32) fun x270 => br ((lg_cmp x270 x265.toInt64) = 0) (PW d M_L_law_ Q rc267 rs268 23 [vR (1201, 0), vR (900, l1), vR (1000, l2), vR l3, vI (l4 + (10 : Int32)), vU, vU] [] h266) (Q (.inl (some (vI (0 : Int32)))) h266)) (PW d M_L_law_ Q rc267 rs268 23 [vR (1201, 0), vR (900, l1), vR (1000, l2), vR l3, vI (l4 + (10 : Int32)), vU, vU] [] h266)) (Q (.inl (some (vI (0 : Int32)))) h266)) (fun E h266 rc267 rs268 => Q (.inr E) h266)) (fun E h262 rc263 rs264 => Q (.inr E) h262)) (fun E h257 rc258 rs259 => Q (.inr E) h257)) ∧ ((x2 &&& (63 : Int32)) = (17 : Int32) → scI h (l4 + (1 : Int32)) fun x271 => cl d rc rs M_L_gasp [vR (900, l1), vI x271, vR l3] h (kI fun x275 h272 rc273 rs274 => scI h272 (l4 + (1 : Int32)) fun x276 => isO h272 11000 l2 ∧ cl d rc273 rs274 M_X10_gasp [vR (1000, l2), vI x276] h272 (kI fun x280 h277 rc278 rs279 => isO h277 11000 l2 ∧ cl d rc278 rs279 M_X10_thrown [vR (1000, l2)] h277 (kI fun x284 h281 rc282 rs283 => br (x284 = x275) (br (x275 = 0) (xL h281 l3 (0 : Int32) fun x285 => br ((lg_cmp x285 x280.toInt64) = 0) (PW d M_L_law_ Q rc282 rs283 23 [vR (1201, 0), vR (900, l1), vR (1000, l2), vR l3, vI (l4 + (10 : Int32)), vU, vU] [] h281) (Q (.inl (some (vI (0 : Int32)))) h281)) (PW d M_L_law_ Q rc282 rs283 23 [vR (1201, 0), vR (900, l1), vR (1000, l2), vR l3, vI (l4 + (10 : Int32)), vU, vU] [] h281)) (Q (.inl (some (vI (0 : Int32)))) h281)) (fun E h281 rc282 rs283 => Q (.inr E) h281)) (fun E h277 rc278 rs279 => Q (.inr E) h277)) (fun E h272 rc273 rs274 => Q (.inr E) h272)) ∧ ((x2 &&& (63 : Int32)) = (18 : Int32) → scI h (l4 + (1 : Int32)) fun x286 => scI h (l4 + (2 : Int32)) fun x287 => cl d rc rs M_L_way [vR (900, l1), vI x286, vI x287, vR l3] h (kI fun x291 h288 rc289 rs290 => scI h288 (l4 + (1 : Int32)) fun x292 => scI h288 (l4 + (2 : Int32)) fun x293 => isO h288 11000 l2 ∧ cl d rc289 rs290 M_X10_way [vR (1000, l2), vI x292, vI x293] h288 (kI fun x297 h294 rc295 rs296 => isO h294 11000 l2 ∧ cl d rc295 rs296 M_X10_thrown [vR (1000, l2)] h294 (kI fun x301 h298 rc299 rs300 => br (x301 = x291) (br (x291 = 0) (xL h298 l3 (0 : Int32) fun x302 => br ((lg_cmp x302 x297.toInt64) = 0) (PW d M_L_law_ Q rc299 rs300 23 [vR (1201, 0), vR (900, l1), vR (1000, l2), vR l3, vI (l4 + (10 : Int32)), vU, vU] [] h298) (Q (.inl (some (vI (0 : Int32)))) h298)) (PW d M_L_law_ Q rc299 rs300 23 [vR (1201, 0), vR (900, l1), vR (1000, l2), vR l3, vI (l4 + (10 : Int32)), vU, vU] [] h298)) (Q (.inl (some (vI (0 : Int32)))) h298)) (fun E h298 rc299 rs300 => Q (.inr E) h298)) (fun E h294 rc295 rs296 => Q (.inr E) h294)) (fun E h288 rc289 rs290 => Q (.inr E) h288)) ∧ ((x2 &&& (63 : Int32)) = (19 : Int32) → scI h (l4 + (1 : Int32)) fun x303 => scI h (l4 + (2 : Int32)) fun x304 => cl d rc rs M_L_hush [vR (900, l1), vI x303, vI x304, vR l3] h (kI fun x308 h305 rc306 rs307 => scI h305 (l4 + (1 : Int32)) fun x309 => scI h305 (l4 + (2 : Int32)) fun x310 => isO h305 11000 l2 ∧ cl d rc306 rs307 M_X10_hush [vR (1000, l2), vI x309, vI x310] h305 (kI fun x314 h311 rc312 rs313 => isO h311 11000 l2 ∧ cl d rc312 rs313 M_X10_thrown [vR (1000, l2)] h311 (kI fun x318 h315 rc316 rs317 => br (x318 = x308) (br (x308 = 0) (xL h315 l3 (0 : Int32) fun x319 => br ((lg_cmp x319 x314.toInt64) = 0) (PW d M_L_law_ Q rc316 rs317 23 [vR (1201, 0), vR (900, l1), vR (1000, l2), vR l3, vI (l4 + (10 : Int32)), vU, vU] [] h315) (Q (.inl (some (vI (0 : Int32)))) h315)) (PW d M_L_law_ Q rc316 rs317 23 [vR (1201, 0), vR (900, l1), vR (1000, l2), vR l3, vI (l4 + (10 : Int32)), vU, vU] [] h315)) (Q (.inl (some (vI (0 : Int32)))) h315)) (fun E h315 rc316 rs317 => Q (.inr E) h315)) (fun E h311 rc312 rs313 => Q (.inr E) h311)) (fun E h305 rc306 rs307 => Q (.inr E) h305)) ∧ ((x2 &&& (63 : Int32)) = (20 : Int32) → isO h 10900 l1 ∧ cl d rc rs M_X9_still [vR (900, l1)] h (kI fun x323 h320 rc321 rs322 => isO h320 11000 l2 ∧ cl d rc321 rs322 M_X10_still [vR (1000, l2)] h320 (kI fun x327 h324 rc325 rs326 => br (x323 = x327) (PW d M_L_law_ Q rc325 rs326 23 [vR (1201, 0), vR (900, l1), vR (1000, l2), vR l3, vI (l4 + (10 : Int32)), vU, vU] [] h324) (Q (.inl (some (vI (0 : Int32)))) h324)) (fun E h324 rc325 rs326 => Q (.inr E) h324)) (fun E h320 rc321 rs322 => Q (.inr E) h320)) ∧ ((x2 &&& (63 : Int32)) = (21 : Int32) → isO h 10900 l1 ∧ cl d rc rs M_X9_seats [vR (900, l1)] h (kI fun x331 h328 rc329 rs330 => isO h328 11000 l2 ∧ cl d rc329 rs330 M_X10_seats [vR (1000, l2)] h328 (kI fun x335 h332 rc333 rs334 => br (x331 = x335) (PW d M_L_law_ Q rc333 rs334 23 [vR (1201, 0), vR (900, l1), vR (1000, l2), vR l3, vI (l4 + (10 : Int32)), vU, vU] [] h332) (Q (.inl (some (vI (0 : Int32)))) h332)) (fun E h332 rc333 rs334 => Q (.inr E) h332)) (fun E h328 rc329 rs330 => Q (.inr E) h328)) ∧ ((x2 &&& (63 : Int32)) = (22 : Int32) → scI h (l4 + (1 : Int32)) fun x336 => cl d rc rs M_L_seat [vR (900, l1), vI x336, vR l3] h (kI fun x340 h337 rc338 rs339 => scI h337 (l4 + (1 : Int32)) fun x341 => isO h337 11000 l2 ∧ cl d rc338 rs339 M_X10_seat [vR (1000, l2), vI x341] h337 (kI fun x345 h342 rc343 rs344 => isO h342 11000 l2 ∧ cl d rc343 rs344 M_X10_thrown [vR (1000, l2)] h342 (kI fun x349 h346 rc347 rs348 => br (x349 = x340) (br (x340 = 0) (xL h346 l3 (0 : Int32) fun x350 => br ((lg_cmp x350 x345.toInt64) = 0) (PW d M_L_law_ Q rc347 rs348 23 [vR (1201, 0), vR (900, l1), vR (1000, l2), vR l3, vI (l4 + (10 : Int32)), vU, vU] [] h346) (Q (.inl (some (vI (0 : Int32)))) h346)) (PW d M_L_law_ Q rc347 rs348 23 [vR (1201, 0), vR (900, l1), vR (1000, l2), vR l3, vI (l4 + (10 : Int32)), vU, vU] [] h346)) (Q (.inl (some (vI (0 : Int32)))) h346)) (fun E h346 rc347 rs348 => Q (.inr E) h346)) (fun E h342 rc343 rs344 => Q (.inr E) h342)) (fun E h337 rc338 rs339 => Q (.inr E) h337)) ∧ ((x2 &&& (63 : Int32)) = (23 : Int32) → scI h (l4 + (1 : Int32)) fun x351 => scI h (l4 + (2 : Int32)) fun x352 => cl d rc rs M_L_fits [vR (900, l1), vI x351, vI x352, vR l3] h (kI fun x356 h353 rc354 rs355 => scI h353 (l4 + (1 : Int32)) fun x357 => scI h353 (l4 + (2 : Int32)) fun x358 => isO h353 11000 l2 ∧ cl d rc354 rs355 M_X10_fits [vR (1000, l2), vI x357, vI x358] h353 (kI fun x362 h359 rc360 rs361 => isO h359 11000 l2 ∧ cl d rc360 rs361 M_X10_thrown [vR (1000, l2)] h359 (kI fun x366 h363 rc364 rs365 => br (x366 = x356) (br (x356 = 0) (xL h363 l3 (0 : Int32) fun x367 => br ((lg_cmp x367 x362.toInt64) = 0) (PW d M_L_law_ Q rc364 rs365 23 [vR (1201, 0), vR (900, l1), vR (1000, l2), vR l3, vI (l4 + (10 : Int32)), vU, vU] [] h363) (Q (.inl (some (vI (0 : Int32)))) h363)) (PW d M_L_law_ Q rc364 rs365 23 [vR (1201, 0), vR (900, l1), vR (1000, l2), vR l3, vI (l4 + (10 : Int32)), vU, vU] [] h363)) (Q (.inl (some (vI (0 : Int32)))) h363)) (fun E h363 rc364 rs365 => Q (.inr E) h363)) (fun E h359 rc360 rs361 => Q (.inr E) h359)) (fun E h353 rc354 rs355 => Q (.inr E) h353)) ∧ ((x2 &&& (63 : Int32)) = (24 : Int32) → scI h (l4 + (1 : Int32)) fun x368 => scI h (l4 + (2 : Int32)) fun x369 => cl d rc rs M_L_look [vR (900, l1), vI x368, vI x369, vR l3] h (kI fun x373 h370 rc371 rs372 => scI h370 (l4 + (1 : Int32)) fun x374 => scI h370 (l4 + (2 : Int32)) fun x375 => isO h370 11000 l2 ∧ cl d rc371 rs372 M_X10_look [vR (1000, l2), vI x374, vI x375] h370 (kI fun x379 h376 rc377 rs378 => isO h376 11000 l2 ∧ cl d rc377 rs378 M_X10_thrown [vR (1000, l2)] h376 (kI fun x383 h380 rc381 rs382 => br (x383 = x373) (br (x373 = 0) (xL h380 l3 (0 : Int32) fun x384 => br ((lg_cmp x384 x379.toInt64) = 0) (PW d M_L_law_ Q rc381 rs382 23 [vR (1201, 0), vR (900, l1), vR (1000, l2), vR l3, vI (l4 + (10 : Int32)), vU, vU] [] h380) (Q (.inl (some (vI (0 : Int32)))) h380)) (PW d M_L_law_ Q rc381 rs382 23 [vR (1201, 0), vR (900, l1), vR (1000, l2), vR l3, vI (l4 + (10 : Int32)), vU, vU] [] h380)) (Q (.inl (some (vI (0 : Int32)))) h380)) (fun E h380 rc381 rs382 => Q (.inr E) h380)) (fun E h376 rc377 rs378 => Q (.inr E) h376)) (fun E h370 rc371 rs372 => Q (.inr E) h370)) ∧ ((x2 &&& (63 : Int32)) = (25 : Int32) → scI h (l4 + (1 : Int32)) fun x385 => scI h (l4 + (2 : Int32)) fun x386 => scI h (l4 + (3 : Int32)) fun x387 => scI h (l4 + (4 : Int32)) fun x388 => cl d rc rs M_L_lots [vR (900, l1), vI x385, vI x386, vI x387, vI x388, vR l3] h (kI fun x392 h389 rc390 rs391 => scI h389 (l4 + (1 : Int32)) fun x393 => scI h389 (l4 + (2 : Int32)) fun x394 => scI h389 (l4 + (3 : Int32)) fun x395 => scI h389 (l4 + (4 : Int32)) fun x396 => isO h389 11000 l2 ∧ cl d rc390 rs391 M_X10_lots [vR (1000, l2), vI x393, vI x394, vI x395, vI x396] h389 (kI fun x400 h397 rc398 rs399 => isO h397 11000 l2 ∧ cl d rc398 rs399 M_X10_thrown [vR (1000, l2)] h397 (kI fun x404 h401 rc402 rs403 => br (x404 = x392) (br (x392 = 0) (xL h401 l3 (0 : Int32) fun x405 => br ((lg_cmp x405 x400.toInt64) = 0) (PW d M_L_law_ Q rc402 rs403 23 [vR (1201, 0), vR (900, l1), vR (1000, l2), vR l3, vI (l4 + (10 : Int32)), vU, vU] [] h401) (Q (.inl (some (vI (0 : Int32)))) h401)) (PW d M_L_law_ Q rc402 rs403 23 [vR (1201, 0), vR (900, l1), vR (1000, l2), vR l3, vI (l4 + (10 : Int32)), vU, vU] [] h401)) (Q (.inl (some (vI (0 : Int32)))) h401)) (fun E h401 rc402 rs403 => Q (.inr E) h401)) (fun E h397 rc398 rs399 => Q (.inr E) h397)) (fun E h389 rc390 rs391 => Q (.inr E) h389)) ∧ ((x2 &&& (63 : Int32)) = (26 : Int32) → scI h (l4 + (1 : Int32)) fun x406 => scI h (l4 + (2 : Int32)) fun x407 => scI h (l4 + (3 : Int32)) fun x408 => cl d rc rs M_L_regents [vR (900, l1), vI x406, vI x407, vI x408, vR l3] h (kI fun x412 h409 rc410 rs411 => scI h409 (l4 + (1 : Int32)) fun x413 => scI h409 (l4 + (2 : Int32)) fun x414 => scI h409 (l4 + (3 : Int32)) fun x415 => isO h409 11000 l2 ∧ cl d rc410 rs411 M_X10_regents [vR (1000, l2), vI x413, vI x414, vI x415] h409 (kI fun x419 h416 rc417 rs418 => isO h416 11000 l2 ∧ cl d rc417 rs418 M_X10_thrown [vR (1000, l2)] h416 (kI fun x423 h420 rc421 rs422 => br (x423 = x412) (br (x412 = 0) (xL h420 l3 (0 : Int32) fun x424 => br ((lg_cmp x424 x419.toInt64) = 0) (PW d M_L_law_ Q rc421 rs422 23 [vR (1201, 0), vR (900, l1), vR (1000, l2), vR l3, vI (l4 + (10 : Int32)), vU, vU] [] h420) (Q (.inl (some (vI (0 : Int32)))) h420)) (PW d M_L_law_ Q rc421 rs422 23 [vR (1201, 0), vR (900, l1), vR (1000, l2), vR l3, vI (l4 + (10 : Int32)), vU, vU] [] h420)) (Q (.inl (some (vI (0 : Int32)))) h420)) (fun E h420 rc421 rs422 => Q (.inr E) h420)) (fun E h416 rc417 rs418 => Q (.inr E) h416)) (fun E h409 rc410 rs411 => Q (.inr E) h409)) ∧ ((x2 &&& (63 : Int32)) = (27 : Int32) → scI h (l4 + (1 : Int32)) fun x425 => scI h (l4 + (2 : Int32)) fun x426 => scI h (l4 + (3 : Int32)) fun x427 => cl d rc rs M_L_moss [vR (900, l1), vI x425, vI x426, vI x427, vR l3] h (kI fun x431 h428 rc429 rs430 => scI h428 (l4 + (1 : Int32)) fun x432 => scI h428 (l4 + (2 : Int32)) fun x433 => scI h428 (l4 + (3 : Int32)) fun x434 => isO h428 11000 l2 ∧ cl d rc429 rs430 M_X10_moss [vR (1000, l2), vI x432, vI x433, vI x434] h428 (kI fun x438 h435 rc436 rs437 => isO h435 11000 l2 ∧ cl d rc436 rs437 M_X10_thrown [vR (1000, l2)] h435 (kI fun x442 h439 rc440 rs441 => br (x442 = x431) (br (x431 = 0) (xL h439 l3 (0 : Int32) fun x443 => br ((lg_cmp x443 x438.toInt64) = 0) (PW d M_L_law_ Q rc440 rs441 23 [vR (1201, 0), vR (900, l1), vR (1000, l2), vR l3, vI (l4 + (10 : Int32)), vU, vU] [] h439) (Q (.inl (some (vI (0 : Int32)))) h439)) (PW d M_L_law_ Q rc440 rs441 23 [vR (1201, 0), vR (900, l1), vR (1000, l2), vR l3, vI (l4 + (10 : Int32)), vU, vU] [] h439)) (Q (.inl (some (vI (0 : Int32)))) h439)) (fun E h439 rc440 rs441 => Q (.inr E) h439)) (fun E h435 rc436 rs437 => Q (.inr E) h435)) (fun E h428 rc429 rs430 => Q (.inr E) h428)) ∧ ((x2 &&& (63 : Int32)) = (28 : Int32) → scI h (l4 + (1 : Int32)) fun x444 => cl d rc rs M_L_backward [vR (900, l1), vI x444, vR l3] h (kI fun x448 h445 rc446 rs447 => scI h445 (l4 + (1 : Int32)) fun x449 => isO h445 11000 l2 ∧ cl d rc446 rs447 M_X10_backward [vR (1000, l2), vI x449] h445 (kI fun x453 h450 rc451 rs452 => isO h450 11000 l2 ∧ cl d rc451 rs452 M_X10_thrown [vR (1000, l2)] h450 (kI fun x457 h454 rc455 rs456 => br (x457 = x448) (br (x448 = 0) (xL h454 l3 (0 : Int32) fun x458 => br ((lg_cmp x458 x453.toInt64) = 0) (PW d M_L_law_ Q rc455 rs456 23 [vR (1201, 0), vR (900, l1), vR (1000, l2), vR l3, vI (l4 + (10 : Int32)), vU, vU] [] h454) (Q (.inl (some (vI (0 : Int32)))) h454)) (PW d M_L_law_ Q rc455 rs456 23 [vR (1201, 0), vR (900, l1), vR (1000, l2), vR l3, vI (l4 + (10 : Int32)), vU, vU] [] h454)) (Q (.inl (some (vI (0 : Int32)))) h454)) (fun E h454 rc455 rs456 => Q (.inr E) h454)) (fun E h450 rc451 rs452 => Q (.inr E) h450)) (fun E h445 rc446 rs447 => Q (.inr E) h445)) ∧ ((x2 &&& (63 : Int32)) = (29 : Int32) → scI h (l4 + (1 : Int32)) fun x459 => cl d rc rs M_L_greenest [vR (900, l1), vI x459, vR l3] h (kI fun x463 h460 rc461 rs462 => scI h460 (l4 + (1 : Int32)) fun x464 => isO h460 11000 l2 ∧ cl d rc461 rs462 M_X10_greenest [vR (1000, l2), vI x464] h460 (kI fun x468 h465 rc466 rs467 => isO h465 11000 l2 ∧ cl d rc466 rs467 M_X10_thrown [vR (1000, l2)] h465 (kI fun x472 h469 rc470 rs471 => br (x472 = x463) (br (x463 = 0) (xL h469 l3 (0 : Int32) fun x473 => br ((lg_cmp x473 x468.toInt64) = 0) (PW d M_L_law_ Q rc470 rs471 23 [vR (1201, 0), vR (900, l1), vR (1000, l2), vR l3, vI (l4 + (10 : Int32)), vU, vU] [] h469) (Q (.inl (some (vI (0 : Int32)))) h469)) (PW d M_L_law_ Q rc470 rs471 23 [vR (1201, 0), vR (900, l1), vR (1000, l2), vR l3, vI (l4 + (10 : Int32)), vU, vU] [] h469)) (Q (.inl (some (vI (0 : Int32)))) h469)) (fun E h469 rc470 rs471 => Q (.inr E) h469)) (fun E h465 rc466 rs467 => Q (.inr E) h465)) (fun E h460 rc461 rs462 => Q (.inr E) h460)) ∧ ((x2 &&& (63 : Int32)) = (30 : Int32) → scI h (l4 + (1 : Int32)) fun x474 => cl d rc rs M_L_ear [vR (900, l1), vI x474, vR l3] h (kI fun x478 h475 rc476 rs477 => scI h475 (l4 + (1 : Int32)) fun x479 => isO h475 11000 l2 ∧ cl d rc476 rs477 M_X10_ear [vR (1000, l2), vI x479] h475 (kI fun x483 h480 rc481 rs482 => isO h480 11000 l2 ∧ cl d rc481 rs482 M_X10_thrown [vR (1000, l2)] h480 (kI fun x487 h484 rc485 rs486 => br (x487 = x478) (br (x478 = 0) (xL h484 l3 (0 : Int32) fun x488 => br ((lg_cmp x488 x483.toInt64) = 0) (PW d M_L_law_ Q rc485 rs486 23 [vR (1201, 0), vR (900, l1), vR (1000, l2), vR l3, vI (l4 + (10 : Int32)), vU, vU] [] h484) (Q (.inl (some (vI (0 : Int32)))) h484)) (PW d M_L_law_ Q rc485 rs486 23 [vR (1201, 0), vR (900, l1), vR (1000, l2), vR l3, vI (l4 + (10 : Int32)), vU, vU] [] h484)) (Q (.inl (some (vI (0 : Int32)))) h484)) (fun E h484 rc485 rs486 => Q (.inr E) h484)) (fun E h480 rc481 rs482 => Q (.inr E) h480)) (fun E h475 rc476 rs477 => Q (.inr E) h475)) ∧ ((x2 &&& (63 : Int32)) = (31 : Int32) → scI h (l4 + (1 : Int32)) fun x489 => cl d rc rs M_L_stalest [vR (900, l1), vI x489, vR l3] h (kI fun x493 h490 rc491 rs492 => scI h490 (l4 + (1 : Int32)) fun x494 => isO h490 11000 l2 ∧ cl d rc491 rs492 M_X10_stalest [vR (1000, l2), vI x494] h490 (kI fun x498 h495 rc496 rs497 => isO h495 11000 l2 ∧ cl d rc496 rs497 M_X10_thrown [vR (1000, l2)] h495 (kI fun x502 h499 rc500 rs501 => br (x502 = x493) (br (x493 = 0) (xL h499 l3 (0 : Int32) fun x503 => br ((lg_cmp x503 x498.toInt64) = 0) (PW d M_L_law_ Q rc500 rs501 23 [vR (1201, 0), vR (900, l1), vR (1000, l2), vR l3, vI (l4 + (10 : Int32)), vU, vU] [] h499) (Q (.inl (some (vI (0 : Int32)))) h499)) (PW d M_L_law_ Q rc500 rs501 23 [vR (1201, 0), vR (900, l1), vR (1000, l2), vR l3, vI (l4 + (10 : Int32)), vU, vU] [] h499)) (Q (.inl (some (vI (0 : Int32)))) h499)) (fun E h499 rc500 rs501 => Q (.inr E) h499)) (fun E h495 rc496 rs497 => Q (.inr E) h495)) (fun E h490 rc491 rs492 => Q (.inr E) h490)) ∧ ((x2 &&& (63 : Int32)) = (32 : Int32) → scI h (l4 + (1 : Int32)) fun x504 => scI h (l4 + (2 : Int32)) fun x505 => cl d rc rs M_L_coughs [vR (900, l1), vI x504, vI x505, vR l3] h (kI fun x509 h506 rc507 rs508 => scI h506 (l4 + (1 : Int32)) fun x510 => scI h506 (l4 + (2 : Int32)) fun x511 => isO h506 11000 l2 ∧ cl d rc507 rs508 M_X10_coughs [vR (1000, l2), vI x510, vI x511] h506 (kI fun x515 h512 rc513 rs514 => isO h512 11000 l2 ∧ cl d rc513 rs514 M_X10_thrown [vR (1000, l2)] h512 (kI fun x519 h516 rc517 rs518 => br (x519 = x509) (br (x509 = 0) (xL h516 l3 (0 : Int32) fun x520 => br ((lg_cmp x520 x515.toInt64) = 0) (PW d M_L_law_ Q rc517 rs518 23 [vR (1201, 0), vR (900, l1), vR (1000, l2), vR l3, vI (l4 + (10 : Int32)), vU, vU] [] h516) (Q (.inl (some (vI (0 : Int32)))) h516)) (PW d M_L_law_ Q rc517 rs518 23 [vR (1201, 0), vR (900, l1), vR (1000, l2), vR l3, vI (l4 + (10 : Int32)), vU, vU] [] h516)) (Q (.inl (some (vI (0 : Int32)))) h516)) (fun E h516 rc517 rs518 => Q (.inr E) h516)) (fun E h512 rc513 rs514 => Q (.inr E) h512)) (fun E h506 rc507 rs508 => Q (.inr E) h506)) ∧ ((x2 &&& (63 : Int32)) = (33 : Int32) → scI h (l4 + (1 : Int32)) fun x521 => cl d rc rs M_L_twins [vR (900, l1), vI x521, vR l3] h (kI fun x525 h522 rc523 rs524 => scI h522 (l4 + (1 : Int32)) fun x526 => isO h522 11000 l2 ∧ cl d rc523 rs524 M_X10_twins [vR (1000, l2), vI x526] h522 (kI fun x530 h527 rc528 rs529 => isO h527 11000 l2 ∧ cl d rc528 rs529 M_X10_thrown [vR (1000, l2)] h527 (kI fun x534 h531 rc532 rs533 => br (x534 = x525) (br (x525 = 0) (xL h531 l3 (0 : Int32) fun x535 => br ((lg_cmp x535 x530.toInt64) = 0) (PW d M_L_law_ Q rc532 rs533 23 [vR (1201, 0), vR (900, l1), vR (1000, l2), vR l3, vI (l4 + (10 : Int32)), vU, vU] [] h531) (Q (.inl (some (vI (0 : Int32)))) h531)) (PW d M_L_law_ Q rc532 rs533 23 [vR (1201, 0), vR (900, l1), vR (1000, l2), vR l3, vI (l4 + (10 : Int32)), vU, vU] [] h531)) (Q (.inl (some (vI (0 : Int32)))) h531)) (fun E h531 rc532 rs533 => Q (.inr E) h531)) (fun E h527 rc528 rs529 => Q (.inr E) h527)) (fun E h522 rc523 rs524 => Q (.inr E) h522)) ∧ ((x2 &&& (63 : Int32)) = (34 : Int32) → isO h 10900 l1 ∧ cl d rc rs M_X9_sunny [vR (900, l1)] h (kI fun x539 h536 rc537 rs538 => isO h536 11000 l2 ∧ cl d rc537 rs538 M_X10_sunny [vR (1000, l2)] h536 (kI fun x543 h540 rc541 rs542 => br (x539 = x543) (PW d M_L_law_ Q rc541 rs542 23 [vR (1201, 0), vR (900, l1), vR (1000, l2), vR l3, vI (l4 + (10 : Int32)), vU, vU] [] h540) (Q (.inl (some (vI (0 : Int32)))) h540)) (fun E h540 rc541 rs542 => Q (.inr E) h540)) (fun E h536 rc537 rs538 => Q (.inr E) h536)) ∧ ((x2 &&& (63 : Int32)) = (35 : Int32) → scI h (l4 + (1 : Int32)) fun x544 => cl d rc rs M_L_gossip [vR (900, l1), vI x544, vR l3] h (kI fun x548 h545 rc546 rs547 => scI h545 (l4 + (1 : Int32)) fun x549 => isO h545 11000 l2 ∧ cl d rc546 rs547 M_X10_gossip [vR (1000, l2), vI x549] h545 (kI fun x553 h550 rc551 rs552 => isO h550 11000 l2 ∧ cl d rc551 rs552 M_X10_thrown [vR (1000, l2)] h550 (kI fun x557 h554 rc555 rs556 => br (x557 = x548) (br (x548 = 0) (xL h554 l3 (0 : Int32) fun x558 => br ((lg_cmp x558 x553.toInt64) = 0) (PW d M_L_law_ Q rc555 rs556 23 [vR (1201, 0), vR (900, l1), vR (1000, l2), vR l3, vI (l4 + (10 : Int32)), vU, vU] [] h554) (Q (.inl (some (vI (0 : Int32)))) h554)) (PW d M_L_law_ Q rc555 rs556 23 [vR (1201, 0), vR (900, l1), vR (1000, l2), vR l3, vI (l4 + (10 : Int32)), vU, vU] [] h554)) (Q (.inl (some (vI (0 : Int32)))) h554)) (fun E h554 rc555 rs556 => Q (.inr E) h554)) (fun E h550 rc551 rs552 => Q (.inr E) h550)) (fun E h545 rc546 rs547 => Q (.inr E) h545)) ∧ ((x2 &&& (63 : Int32)) = (36 : Int32) → scI h (l4 + (1 : Int32)) fun x559 => scI h (l4 + (2 : Int32)) fun x560 => scI h (l4 + (3 : Int32)) fun x561 => cl d rc rs M_L_year [vR (900, l1), vI x559, vI x560, vI x561, vR l3] h (kI fun x565 h562 rc563 rs564 => scI h562 (l4 + (1 : Int32)) fun x566 => scI h562 (l4 + (2 : Int32)) fun x567 => scI h562 (l4 + (3 : Int32)) fun x568 => isO h562 11000 l2 ∧ cl d rc563 rs564 M_X10_year [vR (1000, l2), vI x566, vI x567, vI x568] h562 (kI fun x572 h569 rc570 rs571 => isO h569 11000 l2 ∧ cl d rc570 rs571 M_X10_thrown [vR (1000, l2)] h569 (kI fun x576 h573 rc574 rs575 => br (x576 = x565) (br (x565 = 0) (xL h573 l3 (0 : Int32) fun x577 => br ((lg_cmp x577 x572.toInt64) = 0) (PW d M_L_law_ Q rc574 rs575 23 [vR (1201, 0), vR (900, l1), vR (1000, l2), vR l3, vI (l4 + (10 : Int32)), vU, vU] [] h573) (Q (.inl (some (vI (0 : Int32)))) h573)) (PW d M_L_law_ Q rc574 rs575 23 [vR (1201, 0), vR (900, l1), vR (1000, l2), vR l3, vI (l4 + (10 : Int32)), vU, vU] [] h573)) (Q (.inl (some (vI (0 : Int32)))) h573)) (fun E h573 rc574 rs575 => Q (.inr E) h573)) (fun E h569 rc570 rs571 => Q (.inr E) h569)) (fun E h562 rc563 rs564 => Q (.inr E) h562)) ∧ ((x2 &&& (63 : Int32)) = (37 : Int32) → scI h (l4 + (1 : Int32)) fun x578 => scI h (l4 + (2 : Int32)) fun x579 => scI h (l4 + (3 : Int32)) fun x580 => scI h (l4 + (4 : Int32)) fun x581 => cl d rc rs M_L_span [vR (900, l1), vI x578, vI x579, vI x580, vI x581, vR l3] h (kI fun x585 h582 rc583 rs584 => scI h582 (l4 + (1 : Int32)) fun x586 => scI h582 (l4 + (2 : Int32)) fun x587 => scI h582 (l4 + (3 : Int32)) fun x588 => scI h582 (l4 + (4 : Int32)) fun x589 => isO h582 11000 l2 ∧ cl d rc583 rs584 M_X10_span [vR (1000, l2), vI x586, vI x587, vI x588, vI x589] h582 (kI fun x593 h590 rc591 rs592 => isO h590 11000 l2 ∧ cl d rc591 rs592 M_X10_thrown [vR (1000, l2)] h590 (kI fun x597 h594 rc595 rs596 => br (x597 = x585) (br (x585 = 0) (xL h594 l3 (0 : Int32) fun x598 => br ((lg_cmp x598 x593.toInt64) = 0) (PW d M_L_law_ Q rc595 rs596 23 [vR (1201, 0), vR (900, l1), vR (1000, l2), vR l3, vI (l4 + (10 : Int32)), vU, vU] [] h594) (Q (.inl (some (vI (0 : Int32)))) h594)) (PW d M_L_law_ Q rc595 rs596 23 [vR (1201, 0), vR (900, l1), vR (1000, l2), vR l3, vI (l4 + (10 : Int32)), vU, vU] [] h594)) (Q (.inl (some (vI (0 : Int32)))) h594)) (fun E h594 rc595 rs596 => Q (.inr E) h594)) (fun E h590 rc591 rs592 => Q (.inr E) h590)) (fun E h582 rc583 rs584 => Q (.inr E) h582)) ∧ ((x2 &&& (63 : Int32)) = (38 : Int32) → isO h 10900 l1 ∧ cl d rc rs M_X9_image [vR (900, l1)] h (kI fun x602 h599 rc600 rs601 => isO h599 11000 l2 ∧ cl d rc600 rs601 M_X10_image [vR (1000, l2)] h599 (kI fun x606 h603 rc604 rs605 => br (x602 = x606) (PW d M_L_law_ Q rc604 rs605 23 [vR (1201, 0), vR (900, l1), vR (1000, l2), vR l3, vI (l4 + (10 : Int32)), vU, vU] [] h603) (Q (.inl (some (vI (0 : Int32)))) h603)) (fun E h603 rc604 rs605 => Q (.inr E) h603)) (fun E h599 rc600 rs601 => Q (.inr E) h599)) ∧ ((x2 &&& (63 : Int32)) = (39 : Int32) → isO h 10900 l1 ∧ cl d rc rs M_X9_restore [vR (900, l1)] h (kI fun x610 h607 rc608 rs609 => isO h607 11000 l2 ∧ cl d rc608 rs609 M_X10_restore [vR (1000, l2)] h607 (kI fun x614 h611 rc612 rs613 => br (x610 = x614) (PW d M_L_law_ Q rc612 rs613 23 [vR (1201, 0), vR (900, l1), vR (1000, l2), vR l3, vI (l4 + (10 : Int32)), vU, vU] [] h611) (Q (.inl (some (vI (0 : Int32)))) h611)) (fun E h611 rc612 rs613 => Q (.inr E) h611)) (fun E h607 rc608 rs609 => Q (.inr E) h607)) ∧ ((x2 &&& (63 : Int32)) = (40 : Int32) → scI h (l4 + (1 : Int32)) fun x615 => isO h 10900 l1 ∧ cl d rc rs M_X9_status [vR (900, l1), vI x615] h (kI fun x619 h616 rc617 rs618 => scI h616 (l4 + (1 : Int32)) fun x620 => isO h616 11000 l2 ∧ cl d rc617 rs618 M_X10_status [vR (1000, l2), vI x620] h616 (kI fun x624 h621 rc622 rs623 => br (x619 = x624) (PW d M_L_law_ Q rc622 rs623 23 [vR (1201, 0), vR (900, l1), vR (1000, l2), vR l3, vI (l4 + (10 : Int32)), vU, vU] [] h621) (Q (.inl (some (vI (0 : Int32)))) h621)) (fun E h621 rc622 rs623 => Q (.inr E) h621)) (fun E h616 rc617 rs618 => Q (.inr E) h616)) ∧ ((x2 &&& (63 : Int32)) = (41 : Int32) → scI h (l4 + (1 : Int32)) fun x625 => isO h 10900 l1 ∧ cl d rc rs M_X9_count [vR (900, l1), vI x625] h (kI fun x629 h626 rc627 rs628 => scI h626 (l4 + (1 : Int32)) fun x630 => isO h626 11000 l2 ∧ cl d rc627 rs628 M_X10_count [vR (1000, l2), vI x630] h626 (kI fun x634 h631 rc632 rs633 => br (x629 = x634) (PW d M_L_law_ Q rc632 rs633 23 [vR (1201, 0), vR (900, l1), vR (1000, l2), vR l3, vI (l4 + (10 : Int32)), vU, vU] [] h631) (Q (.inl (some (vI (0 : Int32)))) h631)) (fun E h631 rc632 rs633 => Q (.inr E) h631)) (fun E h626 rc627 rs628 => Q (.inr E) h626)) ∧ (¬ (x2 &&& (63 : Int32)) = (0 : Int32) ∧ ¬ (x2 &&& (63 : Int32)) = (1 : Int32) ∧ ¬ (x2 &&& (63 : Int32)) = (2 : Int32) ∧ ¬ (x2 &&& (63 : Int32)) = (3 : Int32) ∧ ¬ (x2 &&& (63 : Int32)) = (4 : Int32) ∧ ¬ (x2 &&& (63 : Int32)) = (5 : Int32) ∧ ¬ (x2 &&& (63 : Int32)) = (6 : Int32) ∧ ¬ (x2 &&& (63 : Int32)) = (7 : Int32) ∧ ¬ (x2 &&& (63 : Int32)) = (8 : Int32) ∧ ¬ (x2 &&& (63 : Int32)) = (9 : Int32) ∧ ¬ (x2 &&& (63 : Int32)) = (10 : Int32) ∧ ¬ (x2 &&& (63 : Int32)) = (11 : Int32) ∧ ¬ (x2 &&& (63 : Int32)) = (12 : Int32) ∧ ¬ (x2 &&& (63 : Int32)) = (13 : Int32) ∧ ¬ (x2 &&& (63 : Int32)) = (14 : Int32) ∧ ¬ (x2 &&& (63 : Int32)) = (15 : Int32) ∧ ¬ (x2 &&& (63 : Int32)) = (16 : Int32) ∧ ¬ (x2 &&& (63 : Int32)) = (17 : Int32) ∧ ¬ (x2 &&& (63 : Int32)) = (18 : Int32) ∧ ¬ (x2 &&& (63 : Int32)) = (19 : Int32) ∧ ¬ (x2 &&& (63 : Int32)) = (20 : Int32) ∧ ¬ (x2 &&& (63 : Int32)) = (21 : Int32) ∧ ¬ (x2 &&& (63 : Int32)) = (22 : Int32) ∧ ¬ (x2 &&& (63 : Int32)) = (23 : Int32) ∧ ¬ (x2 &&& (63 : Int32)) = (24 : Int32) ∧ ¬ (x2 &&& (63 : Int32)) = (25 : Int32) ∧ ¬ (x2 &&& (63 : Int32)) = (26 : Int32) ∧ ¬ (x2 &&& (63 : Int32)) = (27 : Int32) ∧ ¬ (x2 &&& (63 : Int32)) = (28 : Int32) ∧ ¬ (x2 &&& (63 : Int32)) = (29 : Int32) ∧ ¬ (x2 &&& (63 : Int32)) = (30 : Int32) ∧ ¬ (x2 &&& (63 : Int32)) = (31 : Int32) ∧ ¬ (x2 &&& (63 : Int32)) = (32 : Int32) ∧ ¬ (x2 &&& (63 : Int32)) = (33 : Int32) ∧ ¬ (x2 &&& (63 : Int32)) = (34 : Int32) ∧ ¬ (x2 &&& (63 : Int32)) = (35 : Int32) ∧ ¬ (x2 &&& (63 : Int32)) = (36 : Int32) ∧ ¬ (x2 &&& (63 : Int32)) = (37 : Int32) ∧ ¬ (x2 &&& (63 : Int32)) = (38 : Int32) ∧ ¬ (x2 &&& (63 : Int32)) = (39 : Int32) ∧ ¬ (x2 &&& (63 : Int32)) = (40 : Int32) ∧ ¬ (x2 &&& (63 : Int32)) = (41 : Int32) → PW d M_L_law_ Q rc rs 23 [vR (1201, 0), vR (900, l1), vR (1000, l2), vR l3, vI (l4 + (10 : Int32)), vU, vU] [] h))) :
    PW d M_L_law_ Q rc rs 23 [vR (1201, 0), vR (900, l1), vR (1000, l2), vR l3, vI l4, vU, vU] [] h := by
  refine P_iload (pc := 23) dL_law__23 rfl ?_
  refine P_aload_n (pc := 25) dL_law__25 rfl ?_
  obtain ⟨n9, f9, e9, k⟩ := k
  refine P_slen (pc := 26) dL_law__26 e9 ?_
  clear e9
  generalize nI n9 = x1 at k ⊢
  refine P_bipush (v := (10 : Int32)) (pc := 27) dL_law__27 (by decide) ?_
  refine P_isub (pc := 29) dL_law__29 ?_
  refine P_icmp_gt (tgt := 2592) (pc := 30) dL_law__30 (by decide) (fun c => ?_) (fun c => ?_)
  · have k := k.1 c
    refine P_iconst (v := (1 : Int32)) (pc := 2592) dL_law__2592 (by decide) ?_
    exact R_ireturn (pc := 2593) dL_law__2593 rfl rfl k
  · have k := k.2 c
    refine P_aload_n (pc := 33) dL_law__33 rfl ?_
    refine P_iload (pc := 34) dL_law__34 rfl ?_
    obtain ⟨n9, f9, e9, i9, k⟩ := k
    refine P_sld (pc := 36) dL_law__36 e9 i9 ?_
    clear e9
    generalize f9 (Int32.toNatClampNeg l4) = x2 at k ⊢
    refine P_bipush (v := (63 : Int32)) (pc := 37) dL_law__37 (by decide) ?_
    refine P_iand (pc := 39) dL_law__39 ?_
    by_cases c0 : (x2 &&& (63 : Int32)) = (0 : Int32)
    · replace k := k.1 c0
      refine P_tableIn (pc := 40) (tgt := 224) dL_law__40 (by rw [c0]; decide) (by rw [c0]; decide) (by rw [c0] <;> rfl) (by decide) ?_
      refine P_aload_n (pc := 224) dL_law__224 rfl ?_
      refine P_aload_n (pc := 225) dL_law__225 rfl ?_
      refine P_iload (pc := 226) dL_law__226 rfl ?_
      refine P_iconst (v := (1 : Int32)) (pc := 228) dL_law__228 (by decide) ?_
      refine P_iadd (pc := 229) dL_law__229 ?_
      obtain ⟨n9, f9, e9, i9, k⟩ := k
      refine P_sld (pc := 230) dL_law__230 e9 i9 ?_
      clear e9
      generalize f9 (Int32.toNatClampNeg (l4 + (1 : Int32))) = x3 at k ⊢
      refine P_aload_n (pc := 231) dL_law__231 rfl ?_
      refine P_iload (pc := 232) dL_law__232 rfl ?_
      refine P_iconst (v := (2 : Int32)) (pc := 234) dL_law__234 (by decide) ?_
      refine P_iadd (pc := 235) dL_law__235 ?_
      obtain ⟨n9, f9, e9, i9, k⟩ := k
      refine P_sld (pc := 236) dL_law__236 e9 i9 ?_
      clear e9
      generalize f9 (Int32.toNatClampNeg (l4 + (2 : Int32))) = x4 at k ⊢
      refine P_aload_n (pc := 237) dL_law__237 rfl ?_
      refine P_iload (pc := 238) dL_law__238 rfl ?_
      refine P_iconst (v := (3 : Int32)) (pc := 240) dL_law__240 (by decide) ?_
      refine P_iadd (pc := 241) dL_law__241 ?_
      obtain ⟨n9, f9, e9, i9, k⟩ := k
      refine P_sld (pc := 242) dL_law__242 e9 i9 ?_
      clear e9
      generalize f9 (Int32.toNatClampNeg (l4 + (3 : Int32))) = x5 at k ⊢
      refine P_aload_n (pc := 243) dL_law__243 rfl ?_
      refine P_iload (pc := 244) dL_law__244 rfl ?_
      refine P_iconst (v := (4 : Int32)) (pc := 246) dL_law__246 (by decide) ?_
      refine P_iadd (pc := 247) dL_law__247 ?_
      obtain ⟨n9, f9, e9, i9, k⟩ := k
      refine P_sld (pc := 248) dL_law__248 e9 i9 ?_
      clear e9
      generalize f9 (Int32.toNatClampNeg (l4 + (4 : Int32))) = x6 at k ⊢
      refine P_aload_n (pc := 249) dL_law__249 rfl ?_
      refine P_iload (pc := 250) dL_law__250 rfl ?_
      refine P_iconst (v := (5 : Int32)) (pc := 252) dL_law__252 (by decide) ?_
      refine P_iadd (pc := 253) dL_law__253 ?_
      obtain ⟨n9, f9, e9, i9, k⟩ := k
      refine P_sld (pc := 254) dL_law__254 e9 i9 ?_
      clear e9
      generalize f9 (Int32.toNatClampNeg (l4 + (5 : Int32))) = x7 at k ⊢
      obtain ⟨⟨w9, e9⟩, d2, nc, ns, rc9, rs10, Qc, g1, rfl, rfl, g2, kk, kx⟩ := k
      refine P_callV (ci := 9) (k := 0) (id := l1) (q := (RX9, TX9, 18)) (As := [vI x3, vI x4, vI x5, vI x6, vI x7]) (st := []) (pc := 255) dL_law__255 mk_X9_feed l_L_118 im_X9_feed se_X9_feed ini_X9 rfl g1 (Nat.le_of_ble_eq_true rfl) rfl rfl (by decide) e9 rfl g2 (fun v9 h9 q9 => ?_) (fun E h9 q9 => PX_out rfl (kx E h9 q9))
      obtain ⟨x11, rfl, k⟩ := kk v9 h9 q9
      clear kk kx g1 g2 q9
      refine P_aload_n (pc := 258) dL_law__258 rfl ?_
      refine P_aload_n (pc := 259) dL_law__259 rfl ?_
      refine P_iload (pc := 260) dL_law__260 rfl ?_
      refine P_iconst (v := (1 : Int32)) (pc := 262) dL_law__262 (by decide) ?_
      refine P_iadd (pc := 263) dL_law__263 ?_
      obtain ⟨n9, f9, e9, i9, k⟩ := k
      refine P_sld (pc := 264) dL_law__264 e9 i9 ?_
      clear e9
      generalize f9 (Int32.toNatClampNeg (l4 + (1 : Int32))) = x12 at k ⊢
      refine P_aload_n (pc := 265) dL_law__265 rfl ?_
      refine P_iload (pc := 266) dL_law__266 rfl ?_
      refine P_iconst (v := (2 : Int32)) (pc := 268) dL_law__268 (by decide) ?_
      refine P_iadd (pc := 269) dL_law__269 ?_
      obtain ⟨n9, f9, e9, i9, k⟩ := k
      refine P_sld (pc := 270) dL_law__270 e9 i9 ?_
      clear e9
      generalize f9 (Int32.toNatClampNeg (l4 + (2 : Int32))) = x13 at k ⊢
      refine P_aload_n (pc := 271) dL_law__271 rfl ?_
      refine P_iload (pc := 272) dL_law__272 rfl ?_
      refine P_iconst (v := (3 : Int32)) (pc := 274) dL_law__274 (by decide) ?_
      refine P_iadd (pc := 275) dL_law__275 ?_
      obtain ⟨n9, f9, e9, i9, k⟩ := k
      refine P_sld (pc := 276) dL_law__276 e9 i9 ?_
      clear e9
      generalize f9 (Int32.toNatClampNeg (l4 + (3 : Int32))) = x14 at k ⊢
      refine P_aload_n (pc := 277) dL_law__277 rfl ?_
      refine P_iload (pc := 278) dL_law__278 rfl ?_
      refine P_iconst (v := (4 : Int32)) (pc := 280) dL_law__280 (by decide) ?_
      refine P_iadd (pc := 281) dL_law__281 ?_
      obtain ⟨n9, f9, e9, i9, k⟩ := k
      refine P_sld (pc := 282) dL_law__282 e9 i9 ?_
      clear e9
      generalize f9 (Int32.toNatClampNeg (l4 + (4 : Int32))) = x15 at k ⊢
      refine P_aload_n (pc := 283) dL_law__283 rfl ?_
      refine P_iload (pc := 284) dL_law__284 rfl ?_
      refine P_iconst (v := (5 : Int32)) (pc := 286) dL_law__286 (by decide) ?_
      refine P_iadd (pc := 287) dL_law__287 ?_
      obtain ⟨n9, f9, e9, i9, k⟩ := k
      refine P_sld (pc := 288) dL_law__288 e9 i9 ?_
      clear e9
      generalize f9 (Int32.toNatClampNeg (l4 + (5 : Int32))) = x16 at k ⊢
      obtain ⟨⟨w9, e9⟩, d2, nc, ns, rc18, rs19, Qc, g1, rfl, rfl, g2, kk, kx⟩ := k
      refine P_callV (ci := 10) (k := 0) (id := l2) (q := (RX10, TX10, 55)) (As := [vI x12, vI x13, vI x14, vI x15, vI x16]) (st := [vI x11]) (pc := 289) dL_law__289 mk_X10_feed l_L_122 im_X10_feed se_X10_feed ini_X10 rfl g1 (Nat.le_of_ble_eq_true rfl) rfl rfl (by decide) e9 rfl g2 (fun v9 h9 q9 => ?_) (fun E h9 q9 => PX_out rfl (kx E h9 q9))
      obtain ⟨x20, rfl, k⟩ := kk v9 h9 q9
      clear kk kx g1 g2 q9
      refine P_icmp_eq (tgt := 2586) (pc := 292) dL_law__292 (by decide) (fun c => ?_) (fun c => ?_)
      · have k := k.1 c
        refine P_iinc (v := l4 + (10 : Int32)) (pc := 2586) dL_law__2586 (by decide) rfl rfl (Or.inr (by intro z e9; cases e9)) rfl ?_
        refine P_goto (tgt := 23) (pc := 2589) dL_law__2589 (by decide) ?_
        exact k
      · have k := k.2 c
        refine P_iconst (v := (0 : Int32)) (pc := 295) dL_law__295 (by decide) ?_
        exact R_ireturn (pc := 296) dL_law__296 rfl rfl k
    replace k := k.2
    by_cases c1 : (x2 &&& (63 : Int32)) = (1 : Int32)
    · replace k := k.1 c1
      refine P_tableIn (pc := 40) (tgt := 297) dL_law__40 (by rw [c1]; decide) (by rw [c1]; decide) (by rw [c1] <;> rfl) (by decide) ?_
      refine P_aload_n (pc := 297) dL_law__297 rfl ?_
      refine P_aload_n (pc := 298) dL_law__298 rfl ?_
      refine P_iload (pc := 299) dL_law__299 rfl ?_
      refine P_iconst (v := (1 : Int32)) (pc := 301) dL_law__301 (by decide) ?_
      refine P_iadd (pc := 302) dL_law__302 ?_
      obtain ⟨n9, f9, e9, i9, k⟩ := k
      refine P_sld (pc := 303) dL_law__303 e9 i9 ?_
      clear e9
      generalize f9 (Int32.toNatClampNeg (l4 + (1 : Int32))) = x21 at k ⊢
      refine P_aload_n (pc := 304) dL_law__304 rfl ?_
      obtain ⟨d2, nc, ns, rc23, rs24, Qc, g1, rfl, rfl, g2, kk, kx⟩ := k
      refine P_callSX (As := [vR (900, l1), vI x21, vR l3]) (st := []) (pc := 305) dL_law__305 mk_L_court l_L_123 st_L_court ini_L rfl g1 (Nat.le_of_ble_eq_true rfl) rfl g2 (fun v9 h9 q9 => ?_) (fun E h9 q9 => PX_out rfl (kx E h9 q9))
      obtain ⟨x25, rfl, k⟩ := kk v9 h9 q9
      clear kk kx g1 g2 q9
      refine P_istore (pc := 308) dL_law__308 (by decide) (Or.inr (by intro z e9; cases e9)) rfl ?_
      refine P_aload_n (pc := 310) dL_law__310 rfl ?_
      refine P_aload_n (pc := 311) dL_law__311 rfl ?_
      refine P_iload (pc := 312) dL_law__312 rfl ?_
      refine P_iconst (v := (1 : Int32)) (pc := 314) dL_law__314 (by decide) ?_
      refine P_iadd (pc := 315) dL_law__315 ?_
      obtain ⟨n9, f9, e9, i9, k⟩ := k
      refine P_sld (pc := 316) dL_law__316 e9 i9 ?_
      clear e9
      generalize f9 (Int32.toNatClampNeg (l4 + (1 : Int32))) = x26 at k ⊢
      obtain ⟨⟨w9, e9⟩, d2, nc, ns, rc28, rs29, Qc, g1, rfl, rfl, g2, kk, kx⟩ := k
      refine P_callV (ci := 10) (k := 0) (id := l2) (q := (RX10, TX10, 55)) (As := [vI x26]) (st := []) (pc := 317) dL_law__317 mk_X10_court l_L_128 im_X10_court se_X10_court ini_X10 rfl g1 (Nat.le_of_ble_eq_true rfl) rfl rfl (by decide) e9 rfl g2 (fun v9 h9 q9 => ?_) (fun E h9 q9 => PX_out rfl (kx E h9 q9))
      obtain ⟨x30, rfl, k⟩ := kk v9 h9 q9
      clear kk kx g1 g2 q9
      refine P_istore (pc := 320) dL_law__320 (by decide) (Or.inr (by intro z e9; cases e9)) rfl ?_
      refine P_aload_n (pc := 322) dL_law__322 rfl ?_
      obtain ⟨⟨w9, e9⟩, d2, nc, ns, rc32, rs33, Qc, g1, rfl, rfl, g2, kk, kx⟩ := k
      refine P_callV (ci := 10) (k := 0) (id := l2) (q := (RX10, TX10, 55)) (As := []) (st := []) (pc := 323) dL_law__323 mk_X10_thrown l_L_129 im_X10_thrown se_X10_thrown ini_X10 rfl g1 (Nat.le_of_ble_eq_true rfl) rfl rfl (by decide) e9 rfl g2 (fun v9 h9 q9 => ?_) (fun E h9 q9 => PX_out rfl (kx E h9 q9))
      obtain ⟨x34, rfl, k⟩ := kk v9 h9 q9
      clear kk kx g1 g2 q9
      refine P_iload (pc := 326) dL_law__326 rfl ?_
      refine P_icmp_eq (tgt := 333) (pc := 328) dL_law__328 (by decide) (fun c => ?_) (fun c => ?_)
      · have k := k.1 c
        refine P_iload (pc := 333) dL_law__333 rfl ?_
        refine P_if_ne (tgt := 350) (pc := 335) dL_law__335 (by decide) (fun c => ?_) (fun c => ?_)
        · have k := k.2 c
          refine P_goto (tgt := 2586) (pc := 350) dL_law__350 (by decide) ?_
          refine P_iinc (v := l4 + (10 : Int32)) (pc := 2586) dL_law__2586 (by decide) rfl rfl (Or.inr (by intro z e9; cases e9)) rfl ?_
          refine P_goto (tgt := 23) (pc := 2589) dL_law__2589 (by decide) ?_
          exact P_drop (ls2 := [vR (1201, 0), vR (900, l1), vR (1000, l2), vR l3, vI (l4 + (10 : Int32)), vU, vU]) (ls := [vR (1201, 0), vR (900, l1), vR (1000, l2), vR l3, vI (l4 + (10 : Int32)), vI x25, vI x30]) ⟨Or.inr rfl, ⟨Or.inr rfl, ⟨Or.inr rfl, ⟨Or.inr rfl, ⟨Or.inr rfl, ⟨Or.inl rfl, ⟨Or.inl rfl, trivial⟩⟩⟩⟩⟩⟩⟩ k
        · have k := k.1 c
          refine P_aload_n (pc := 338) dL_law__338 rfl ?_
          refine P_iconst (v := (0 : Int32)) (pc := 339) dL_law__339 (by decide) ?_
          obtain ⟨n9, f9, e9, i9, k⟩ := k
          refine P_lald (pc := 340) dL_law__340 e9 i9 ?_
          clear e9
          generalize f9 (Int32.toNatClampNeg (0 : Int32)) = x35 at k ⊢
          refine P_iload (pc := 341) dL_law__341 rfl ?_
          refine P_i2l (pc := 343) dL_law__343 ?_
          refine P_lcmp (pc := 344) dL_law__344 ?_
          refine P_if_eq (tgt := 350) (pc := 345) dL_law__345 (by decide) (fun c => ?_) (fun c => ?_)
          · have k := k.1 c
            refine P_goto (tgt := 2586) (pc := 350) dL_law__350 (by decide) ?_
            refine P_iinc (v := l4 + (10 : Int32)) (pc := 2586) dL_law__2586 (by decide) rfl rfl (Or.inr (by intro z e9; cases e9)) rfl ?_
            refine P_goto (tgt := 23) (pc := 2589) dL_law__2589 (by decide) ?_
            exact P_drop (ls2 := [vR (1201, 0), vR (900, l1), vR (1000, l2), vR l3, vI (l4 + (10 : Int32)), vU, vU]) (ls := [vR (1201, 0), vR (900, l1), vR (1000, l2), vR l3, vI (l4 + (10 : Int32)), vI x25, vI x30]) ⟨Or.inr rfl, ⟨Or.inr rfl, ⟨Or.inr rfl, ⟨Or.inr rfl, ⟨Or.inr rfl, ⟨Or.inl rfl, ⟨Or.inl rfl, trivial⟩⟩⟩⟩⟩⟩⟩ k
          · have k := k.2 c
            refine P_iconst (v := (0 : Int32)) (pc := 348) dL_law__348 (by decide) ?_
            exact R_ireturn (pc := 349) dL_law__349 rfl rfl k
      · have k := k.2 c
        refine P_iconst (v := (0 : Int32)) (pc := 331) dL_law__331 (by decide) ?_
        exact R_ireturn (pc := 332) dL_law__332 rfl rfl k
    replace k := k.2
    by_cases c2 : (x2 &&& (63 : Int32)) = (2 : Int32)
    · replace k := k.1 c2
      refine P_tableIn (pc := 40) (tgt := 353) dL_law__40 (by rw [c2]; decide) (by rw [c2]; decide) (by rw [c2] <;> rfl) (by decide) ?_
      refine P_aload_n (pc := 353) dL_law__353 rfl ?_
      refine P_aload_n (pc := 354) dL_law__354 rfl ?_
      refine P_iload (pc := 355) dL_law__355 rfl ?_
      refine P_iconst (v := (1 : Int32)) (pc := 357) dL_law__357 (by decide) ?_
      refine P_iadd (pc := 358) dL_law__358 ?_
      obtain ⟨n9, f9, e9, i9, k⟩ := k
      refine P_sld (pc := 359) dL_law__359 e9 i9 ?_
      clear e9
      generalize f9 (Int32.toNatClampNeg (l4 + (1 : Int32))) = x36 at k ⊢
      refine P_aload_n (pc := 360) dL_law__360 rfl ?_
      obtain ⟨d2, nc, ns, rc38, rs39, Qc, g1, rfl, rfl, g2, kk, kx⟩ := k
      refine P_callSX (As := [vR (900, l1), vI x36, vR l3]) (st := []) (pc := 361) dL_law__361 mk_L_law l_L_133 st_L_law ini_L rfl g1 (Nat.le_of_ble_eq_true rfl) rfl g2 (fun v9 h9 q9 => ?_) (fun E h9 q9 => PX_out rfl (kx E h9 q9))
      obtain ⟨x40, rfl, k⟩ := kk v9 h9 q9
      clear kk kx g1 g2 q9
      refine P_istore (pc := 364) dL_law__364 (by decide) (Or.inr (by intro z e9; cases e9)) rfl ?_
      refine P_aload_n (pc := 366) dL_law__366 rfl ?_
      refine P_aload_n (pc := 367) dL_law__367 rfl ?_
      refine P_iload (pc := 368) dL_law__368 rfl ?_
      refine P_iconst (v := (1 : Int32)) (pc := 370) dL_law__370 (by decide) ?_
      refine P_iadd (pc := 371) dL_law__371 ?_
      obtain ⟨n9, f9, e9, i9, k⟩ := k
      refine P_sld (pc := 372) dL_law__372 e9 i9 ?_
      clear e9
      generalize f9 (Int32.toNatClampNeg (l4 + (1 : Int32))) = x41 at k ⊢
      obtain ⟨⟨w9, e9⟩, d2, nc, ns, rc43, rs44, Qc, g1, rfl, rfl, g2, kk, kx⟩ := k
      refine P_callV (ci := 10) (k := 0) (id := l2) (q := (RX10, TX10, 55)) (As := [vI x41]) (st := []) (pc := 373) dL_law__373 mk_X10_law l_L_135 im_X10_law se_X10_law ini_X10 rfl g1 (Nat.le_of_ble_eq_true rfl) rfl rfl (by decide) e9 rfl g2 (fun v9 h9 q9 => ?_) (fun E h9 q9 => PX_out rfl (kx E h9 q9))
      obtain ⟨x45, rfl, k⟩ := kk v9 h9 q9
      clear kk kx g1 g2 q9
      refine P_istore (pc := 376) dL_law__376 (by decide) (Or.inr (by intro z e9; cases e9)) rfl ?_
      refine P_aload_n (pc := 378) dL_law__378 rfl ?_
      obtain ⟨⟨w9, e9⟩, d2, nc, ns, rc47, rs48, Qc, g1, rfl, rfl, g2, kk, kx⟩ := k
      refine P_callV (ci := 10) (k := 0) (id := l2) (q := (RX10, TX10, 55)) (As := []) (st := []) (pc := 379) dL_law__379 mk_X10_thrown l_L_129 im_X10_thrown se_X10_thrown ini_X10 rfl g1 (Nat.le_of_ble_eq_true rfl) rfl rfl (by decide) e9 rfl g2 (fun v9 h9 q9 => ?_) (fun E h9 q9 => PX_out rfl (kx E h9 q9))
      obtain ⟨x49, rfl, k⟩ := kk v9 h9 q9
      clear kk kx g1 g2 q9
      refine P_iload (pc := 382) dL_law__382 rfl ?_
      refine P_icmp_eq (tgt := 389) (pc := 384) dL_law__384 (by decide) (fun c => ?_) (fun c => ?_)
      · have k := k.1 c
        refine P_iload (pc := 389) dL_law__389 rfl ?_
        refine P_if_ne (tgt := 406) (pc := 391) dL_law__391 (by decide) (fun c => ?_) (fun c => ?_)
        · have k := k.2 c
          refine P_goto (tgt := 2586) (pc := 406) dL_law__406 (by decide) ?_
          refine P_iinc (v := l4 + (10 : Int32)) (pc := 2586) dL_law__2586 (by decide) rfl rfl (Or.inr (by intro z e9; cases e9)) rfl ?_
          refine P_goto (tgt := 23) (pc := 2589) dL_law__2589 (by decide) ?_
          exact P_drop (ls2 := [vR (1201, 0), vR (900, l1), vR (1000, l2), vR l3, vI (l4 + (10 : Int32)), vU, vU]) (ls := [vR (1201, 0), vR (900, l1), vR (1000, l2), vR l3, vI (l4 + (10 : Int32)), vI x40, vI x45]) ⟨Or.inr rfl, ⟨Or.inr rfl, ⟨Or.inr rfl, ⟨Or.inr rfl, ⟨Or.inr rfl, ⟨Or.inl rfl, ⟨Or.inl rfl, trivial⟩⟩⟩⟩⟩⟩⟩ k
        · have k := k.1 c
          refine P_aload_n (pc := 394) dL_law__394 rfl ?_
          refine P_iconst (v := (0 : Int32)) (pc := 395) dL_law__395 (by decide) ?_
          obtain ⟨n9, f9, e9, i9, k⟩ := k
          refine P_lald (pc := 396) dL_law__396 e9 i9 ?_
          clear e9
          generalize f9 (Int32.toNatClampNeg (0 : Int32)) = x50 at k ⊢
          refine P_iload (pc := 397) dL_law__397 rfl ?_
          refine P_i2l (pc := 399) dL_law__399 ?_
          refine P_lcmp (pc := 400) dL_law__400 ?_
          refine P_if_eq (tgt := 406) (pc := 401) dL_law__401 (by decide) (fun c => ?_) (fun c => ?_)
          · have k := k.1 c
            refine P_goto (tgt := 2586) (pc := 406) dL_law__406 (by decide) ?_
            refine P_iinc (v := l4 + (10 : Int32)) (pc := 2586) dL_law__2586 (by decide) rfl rfl (Or.inr (by intro z e9; cases e9)) rfl ?_
            refine P_goto (tgt := 23) (pc := 2589) dL_law__2589 (by decide) ?_
            exact P_drop (ls2 := [vR (1201, 0), vR (900, l1), vR (1000, l2), vR l3, vI (l4 + (10 : Int32)), vU, vU]) (ls := [vR (1201, 0), vR (900, l1), vR (1000, l2), vR l3, vI (l4 + (10 : Int32)), vI x40, vI x45]) ⟨Or.inr rfl, ⟨Or.inr rfl, ⟨Or.inr rfl, ⟨Or.inr rfl, ⟨Or.inr rfl, ⟨Or.inl rfl, ⟨Or.inl rfl, trivial⟩⟩⟩⟩⟩⟩⟩ k
          · have k := k.2 c
            refine P_iconst (v := (0 : Int32)) (pc := 404) dL_law__404 (by decide) ?_
            exact R_ireturn (pc := 405) dL_law__405 rfl rfl k
      · have k := k.2 c
        refine P_iconst (v := (0 : Int32)) (pc := 387) dL_law__387 (by decide) ?_
        exact R_ireturn (pc := 388) dL_law__388 rfl rfl k
    replace k := k.2
    by_cases c3 : (x2 &&& (63 : Int32)) = (3 : Int32)
    · replace k := k.1 c3
      refine P_tableIn (pc := 40) (tgt := 409) dL_law__40 (by rw [c3]; decide) (by rw [c3]; decide) (by rw [c3] <;> rfl) (by decide) ?_
      refine P_aload_n (pc := 409) dL_law__409 rfl ?_
      refine P_aload_n (pc := 410) dL_law__410 rfl ?_
      refine P_iload (pc := 411) dL_law__411 rfl ?_
      refine P_iconst (v := (1 : Int32)) (pc := 413) dL_law__413 (by decide) ?_
      refine P_iadd (pc := 414) dL_law__414 ?_
      obtain ⟨n9, f9, e9, i9, k⟩ := k
      refine P_sld (pc := 415) dL_law__415 e9 i9 ?_
      clear e9
      generalize f9 (Int32.toNatClampNeg (l4 + (1 : Int32))) = x51 at k ⊢
      refine P_aload_n (pc := 416) dL_law__416 rfl ?_
      obtain ⟨d2, nc, ns, rc53, rs54, Qc, g1, rfl, rfl, g2, kk, kx⟩ := k
      refine P_callSX (As := [vR (900, l1), vI x51, vR l3]) (st := []) (pc := 417) dL_law__417 mk_L_work l_L_136 st_L_work ini_L rfl g1 (Nat.le_of_ble_eq_true rfl) rfl g2 (fun v9 h9 q9 => ?_) (fun E h9 q9 => PX_out rfl (kx E h9 q9))
      obtain ⟨x55, rfl, k⟩ := kk v9 h9 q9
      clear kk kx g1 g2 q9
      refine P_istore (pc := 420) dL_law__420 (by decide) (Or.inr (by intro z e9; cases e9)) rfl ?_
      refine P_aload_n (pc := 422) dL_law__422 rfl ?_
      refine P_aload_n (pc := 423) dL_law__423 rfl ?_
      refine P_iload (pc := 424) dL_law__424 rfl ?_
      refine P_iconst (v := (1 : Int32)) (pc := 426) dL_law__426 (by decide) ?_
      refine P_iadd (pc := 427) dL_law__427 ?_
      obtain ⟨n9, f9, e9, i9, k⟩ := k
      refine P_sld (pc := 428) dL_law__428 e9 i9 ?_
      clear e9
      generalize f9 (Int32.toNatClampNeg (l4 + (1 : Int32))) = x56 at k ⊢
      obtain ⟨⟨w9, e9⟩, d2, nc, ns, rc58, rs59, Qc, g1, rfl, rfl, g2, kk, kx⟩ := k
      refine P_callV (ci := 10) (k := 0) (id := l2) (q := (RX10, TX10, 55)) (As := [vI x56]) (st := []) (pc := 429) dL_law__429 mk_X10_work l_L_138 im_X10_work se_X10_work ini_X10 rfl g1 (Nat.le_of_ble_eq_true rfl) rfl rfl (by decide) e9 rfl g2 (fun v9 h9 q9 => ?_) (fun E h9 q9 => PX_out rfl (kx E h9 q9))
      obtain ⟨x60, rfl, k⟩ := kk v9 h9 q9
      clear kk kx g1 g2 q9
      refine P_istore (pc := 432) dL_law__432 (by decide) (Or.inr (by intro z e9; cases e9)) rfl ?_
      refine P_aload_n (pc := 434) dL_law__434 rfl ?_
      obtain ⟨⟨w9, e9⟩, d2, nc, ns, rc62, rs63, Qc, g1, rfl, rfl, g2, kk, kx⟩ := k
      refine P_callV (ci := 10) (k := 0) (id := l2) (q := (RX10, TX10, 55)) (As := []) (st := []) (pc := 435) dL_law__435 mk_X10_thrown l_L_129 im_X10_thrown se_X10_thrown ini_X10 rfl g1 (Nat.le_of_ble_eq_true rfl) rfl rfl (by decide) e9 rfl g2 (fun v9 h9 q9 => ?_) (fun E h9 q9 => PX_out rfl (kx E h9 q9))
      obtain ⟨x64, rfl, k⟩ := kk v9 h9 q9
      clear kk kx g1 g2 q9
      refine P_iload (pc := 438) dL_law__438 rfl ?_
      refine P_icmp_eq (tgt := 445) (pc := 440) dL_law__440 (by decide) (fun c => ?_) (fun c => ?_)
      · have k := k.1 c
        refine P_iload (pc := 445) dL_law__445 rfl ?_
        refine P_if_ne (tgt := 462) (pc := 447) dL_law__447 (by decide) (fun c => ?_) (fun c => ?_)
        · have k := k.2 c
          refine P_goto (tgt := 2586) (pc := 462) dL_law__462 (by decide) ?_
          refine P_iinc (v := l4 + (10 : Int32)) (pc := 2586) dL_law__2586 (by decide) rfl rfl (Or.inr (by intro z e9; cases e9)) rfl ?_
          refine P_goto (tgt := 23) (pc := 2589) dL_law__2589 (by decide) ?_
          exact P_drop (ls2 := [vR (1201, 0), vR (900, l1), vR (1000, l2), vR l3, vI (l4 + (10 : Int32)), vU, vU]) (ls := [vR (1201, 0), vR (900, l1), vR (1000, l2), vR l3, vI (l4 + (10 : Int32)), vI x55, vI x60]) ⟨Or.inr rfl, ⟨Or.inr rfl, ⟨Or.inr rfl, ⟨Or.inr rfl, ⟨Or.inr rfl, ⟨Or.inl rfl, ⟨Or.inl rfl, trivial⟩⟩⟩⟩⟩⟩⟩ k
        · have k := k.1 c
          refine P_aload_n (pc := 450) dL_law__450 rfl ?_
          refine P_iconst (v := (0 : Int32)) (pc := 451) dL_law__451 (by decide) ?_
          obtain ⟨n9, f9, e9, i9, k⟩ := k
          refine P_lald (pc := 452) dL_law__452 e9 i9 ?_
          clear e9
          generalize f9 (Int32.toNatClampNeg (0 : Int32)) = x65 at k ⊢
          refine P_iload (pc := 453) dL_law__453 rfl ?_
          refine P_i2l (pc := 455) dL_law__455 ?_
          refine P_lcmp (pc := 456) dL_law__456 ?_
          refine P_if_eq (tgt := 462) (pc := 457) dL_law__457 (by decide) (fun c => ?_) (fun c => ?_)
          · have k := k.1 c
            refine P_goto (tgt := 2586) (pc := 462) dL_law__462 (by decide) ?_
            refine P_iinc (v := l4 + (10 : Int32)) (pc := 2586) dL_law__2586 (by decide) rfl rfl (Or.inr (by intro z e9; cases e9)) rfl ?_
            refine P_goto (tgt := 23) (pc := 2589) dL_law__2589 (by decide) ?_
            exact P_drop (ls2 := [vR (1201, 0), vR (900, l1), vR (1000, l2), vR l3, vI (l4 + (10 : Int32)), vU, vU]) (ls := [vR (1201, 0), vR (900, l1), vR (1000, l2), vR l3, vI (l4 + (10 : Int32)), vI x55, vI x60]) ⟨Or.inr rfl, ⟨Or.inr rfl, ⟨Or.inr rfl, ⟨Or.inr rfl, ⟨Or.inr rfl, ⟨Or.inl rfl, ⟨Or.inl rfl, trivial⟩⟩⟩⟩⟩⟩⟩ k
          · have k := k.2 c
            refine P_iconst (v := (0 : Int32)) (pc := 460) dL_law__460 (by decide) ?_
            exact R_ireturn (pc := 461) dL_law__461 rfl rfl k
      · have k := k.2 c
        refine P_iconst (v := (0 : Int32)) (pc := 443) dL_law__443 (by decide) ?_
        exact R_ireturn (pc := 444) dL_law__444 rfl rfl k
    replace k := k.2
    by_cases c4 : (x2 &&& (63 : Int32)) = (4 : Int32)
    · replace k := k.1 c4
      refine P_tableIn (pc := 40) (tgt := 465) dL_law__40 (by rw [c4]; decide) (by rw [c4]; decide) (by rw [c4] <;> rfl) (by decide) ?_
      refine P_aload_n (pc := 465) dL_law__465 rfl ?_
      refine P_aload_n (pc := 466) dL_law__466 rfl ?_
      refine P_iload (pc := 467) dL_law__467 rfl ?_
      refine P_iconst (v := (1 : Int32)) (pc := 469) dL_law__469 (by decide) ?_
      refine P_iadd (pc := 470) dL_law__470 ?_
      obtain ⟨n9, f9, e9, i9, k⟩ := k
      refine P_sld (pc := 471) dL_law__471 e9 i9 ?_
      clear e9
      generalize f9 (Int32.toNatClampNeg (l4 + (1 : Int32))) = x66 at k ⊢
      refine P_aload_n (pc := 472) dL_law__472 rfl ?_
      obtain ⟨d2, nc, ns, rc68, rs69, Qc, g1, rfl, rfl, g2, kk, kx⟩ := k
      refine P_callSX (As := [vR (900, l1), vI x66, vR l3]) (st := []) (pc := 473) dL_law__473 mk_L_book l_L_139 st_L_book ini_L rfl g1 (Nat.le_of_ble_eq_true rfl) rfl g2 (fun v9 h9 q9 => ?_) (fun E h9 q9 => PX_out rfl (kx E h9 q9))
      obtain ⟨x70, rfl, k⟩ := kk v9 h9 q9
      clear kk kx g1 g2 q9
      refine P_istore (pc := 476) dL_law__476 (by decide) (Or.inr (by intro z e9; cases e9)) rfl ?_
      refine P_aload_n (pc := 478) dL_law__478 rfl ?_
      refine P_aload_n (pc := 479) dL_law__479 rfl ?_
      refine P_iload (pc := 480) dL_law__480 rfl ?_
      refine P_iconst (v := (1 : Int32)) (pc := 482) dL_law__482 (by decide) ?_
      refine P_iadd (pc := 483) dL_law__483 ?_
      obtain ⟨n9, f9, e9, i9, k⟩ := k
      refine P_sld (pc := 484) dL_law__484 e9 i9 ?_
      clear e9
      generalize f9 (Int32.toNatClampNeg (l4 + (1 : Int32))) = x71 at k ⊢
      obtain ⟨⟨w9, e9⟩, d2, nc, ns, rc73, rs74, Qc, g1, rfl, rfl, g2, kk, kx⟩ := k
      refine P_callV (ci := 10) (k := 0) (id := l2) (q := (RX10, TX10, 55)) (As := [vI x71]) (st := []) (pc := 485) dL_law__485 mk_X10_book l_L_141 im_X10_book se_X10_book ini_X10 rfl g1 (Nat.le_of_ble_eq_true rfl) rfl rfl (by decide) e9 rfl g2 (fun v9 h9 q9 => ?_) (fun E h9 q9 => PX_out rfl (kx E h9 q9))
      obtain ⟨x75, rfl, k⟩ := kk v9 h9 q9
      clear kk kx g1 g2 q9
      refine P_istore (pc := 488) dL_law__488 (by decide) (Or.inr (by intro z e9; cases e9)) rfl ?_
      refine P_aload_n (pc := 490) dL_law__490 rfl ?_
      obtain ⟨⟨w9, e9⟩, d2, nc, ns, rc77, rs78, Qc, g1, rfl, rfl, g2, kk, kx⟩ := k
      refine P_callV (ci := 10) (k := 0) (id := l2) (q := (RX10, TX10, 55)) (As := []) (st := []) (pc := 491) dL_law__491 mk_X10_thrown l_L_129 im_X10_thrown se_X10_thrown ini_X10 rfl g1 (Nat.le_of_ble_eq_true rfl) rfl rfl (by decide) e9 rfl g2 (fun v9 h9 q9 => ?_) (fun E h9 q9 => PX_out rfl (kx E h9 q9))
      obtain ⟨x79, rfl, k⟩ := kk v9 h9 q9
      clear kk kx g1 g2 q9
      refine P_iload (pc := 494) dL_law__494 rfl ?_
      refine P_icmp_eq (tgt := 501) (pc := 496) dL_law__496 (by decide) (fun c => ?_) (fun c => ?_)
      · have k := k.1 c
        refine P_iload (pc := 501) dL_law__501 rfl ?_
        refine P_if_ne (tgt := 518) (pc := 503) dL_law__503 (by decide) (fun c => ?_) (fun c => ?_)
        · have k := k.2 c
          refine P_goto (tgt := 2586) (pc := 518) dL_law__518 (by decide) ?_
          refine P_iinc (v := l4 + (10 : Int32)) (pc := 2586) dL_law__2586 (by decide) rfl rfl (Or.inr (by intro z e9; cases e9)) rfl ?_
          refine P_goto (tgt := 23) (pc := 2589) dL_law__2589 (by decide) ?_
          exact P_drop (ls2 := [vR (1201, 0), vR (900, l1), vR (1000, l2), vR l3, vI (l4 + (10 : Int32)), vU, vU]) (ls := [vR (1201, 0), vR (900, l1), vR (1000, l2), vR l3, vI (l4 + (10 : Int32)), vI x70, vI x75]) ⟨Or.inr rfl, ⟨Or.inr rfl, ⟨Or.inr rfl, ⟨Or.inr rfl, ⟨Or.inr rfl, ⟨Or.inl rfl, ⟨Or.inl rfl, trivial⟩⟩⟩⟩⟩⟩⟩ k
        · have k := k.1 c
          refine P_aload_n (pc := 506) dL_law__506 rfl ?_
          refine P_iconst (v := (0 : Int32)) (pc := 507) dL_law__507 (by decide) ?_
          obtain ⟨n9, f9, e9, i9, k⟩ := k
          refine P_lald (pc := 508) dL_law__508 e9 i9 ?_
          clear e9
          generalize f9 (Int32.toNatClampNeg (0 : Int32)) = x80 at k ⊢
          refine P_iload (pc := 509) dL_law__509 rfl ?_
          refine P_i2l (pc := 511) dL_law__511 ?_
          refine P_lcmp (pc := 512) dL_law__512 ?_
          refine P_if_eq (tgt := 518) (pc := 513) dL_law__513 (by decide) (fun c => ?_) (fun c => ?_)
          · have k := k.1 c
            refine P_goto (tgt := 2586) (pc := 518) dL_law__518 (by decide) ?_
            refine P_iinc (v := l4 + (10 : Int32)) (pc := 2586) dL_law__2586 (by decide) rfl rfl (Or.inr (by intro z e9; cases e9)) rfl ?_
            refine P_goto (tgt := 23) (pc := 2589) dL_law__2589 (by decide) ?_
            exact P_drop (ls2 := [vR (1201, 0), vR (900, l1), vR (1000, l2), vR l3, vI (l4 + (10 : Int32)), vU, vU]) (ls := [vR (1201, 0), vR (900, l1), vR (1000, l2), vR l3, vI (l4 + (10 : Int32)), vI x70, vI x75]) ⟨Or.inr rfl, ⟨Or.inr rfl, ⟨Or.inr rfl, ⟨Or.inr rfl, ⟨Or.inr rfl, ⟨Or.inl rfl, ⟨Or.inl rfl, trivial⟩⟩⟩⟩⟩⟩⟩ k
          · have k := k.2 c
            refine P_iconst (v := (0 : Int32)) (pc := 516) dL_law__516 (by decide) ?_
            exact R_ireturn (pc := 517) dL_law__517 rfl rfl k
      · have k := k.2 c
        refine P_iconst (v := (0 : Int32)) (pc := 499) dL_law__499 (by decide) ?_
        exact R_ireturn (pc := 500) dL_law__500 rfl rfl k
    replace k := k.2
    by_cases c5 : (x2 &&& (63 : Int32)) = (5 : Int32)
    · replace k := k.1 c5
      refine P_tableIn (pc := 40) (tgt := 521) dL_law__40 (by rw [c5]; decide) (by rw [c5]; decide) (by rw [c5] <;> rfl) (by decide) ?_
      refine P_aload_n (pc := 521) dL_law__521 rfl ?_
      obtain ⟨⟨w9, e9⟩, d2, nc, ns, rc82, rs83, Qc, g1, rfl, rfl, g2, kk, kx⟩ := k
      refine P_callV (ci := 9) (k := 0) (id := l1) (q := (RX9, TX9, 18)) (As := []) (st := []) (pc := 522) dL_law__522 mk_X9_fault l_L_142 im_X9_fault se_X9_fault ini_X9 rfl g1 (Nat.le_of_ble_eq_true rfl) rfl rfl (by decide) e9 rfl g2 (fun v9 h9 q9 => ?_) (fun E h9 q9 => PX_out rfl (kx E h9 q9))
      obtain ⟨x84, rfl, k⟩ := kk v9 h9 q9
      clear kk kx g1 g2 q9
      refine P_aload_n (pc := 525) dL_law__525 rfl ?_
      obtain ⟨⟨w9, e9⟩, d2, nc, ns, rc86, rs87, Qc, g1, rfl, rfl, g2, kk, kx⟩ := k
      refine P_callV (ci := 10) (k := 0) (id := l2) (q := (RX10, TX10, 55)) (As := []) (st := [vI x84]) (pc := 526) dL_law__526 mk_X10_fault l_L_145 im_X10_fault se_X10_fault ini_X10 rfl g1 (Nat.le_of_ble_eq_true rfl) rfl rfl (by decide) e9 rfl g2 (fun v9 h9 q9 => ?_) (fun E h9 q9 => PX_out rfl (kx E h9 q9))
      obtain ⟨x88, rfl, k⟩ := kk v9 h9 q9
      clear kk kx g1 g2 q9
      refine P_icmp_eq (tgt := 2586) (pc := 529) dL_law__529 (by decide) (fun c => ?_) (fun c => ?_)
      · have k := k.1 c
        refine P_iinc (v := l4 + (10 : Int32)) (pc := 2586) dL_law__2586 (by decide) rfl rfl (Or.inr (by intro z e9; cases e9)) rfl ?_
        refine P_goto (tgt := 23) (pc := 2589) dL_law__2589 (by decide) ?_
        exact k
      · have k := k.2 c
        refine P_iconst (v := (0 : Int32)) (pc := 532) dL_law__532 (by decide) ?_
        exact R_ireturn (pc := 533) dL_law__533 rfl rfl k
    replace k := k.2
    by_cases c6 : (x2 &&& (63 : Int32)) = (6 : Int32)
    · replace k := k.1 c6
      refine P_tableIn (pc := 40) (tgt := 534) dL_law__40 (by rw [c6]; decide) (by rw [c6]; decide) (by rw [c6] <;> rfl) (by decide) ?_
      refine P_aload_n (pc := 534) dL_law__534 rfl ?_
      obtain ⟨⟨w9, e9⟩, d2, nc, ns, rc90, rs91, Qc, g1, rfl, rfl, g2, kk, kx⟩ := k
      refine P_callV (ci := 9) (k := 0) (id := l1) (q := (RX9, TX9, 18)) (As := []) (st := []) (pc := 535) dL_law__535 mk_X9_undo l_L_146 im_X9_undo se_X9_undo ini_X9 rfl g1 (Nat.le_of_ble_eq_true rfl) rfl rfl (by decide) e9 rfl g2 (fun v9 h9 q9 => ?_) (fun E h9 q9 => PX_out rfl (kx E h9 q9))
      obtain ⟨x92, rfl, k⟩ := kk v9 h9 q9
      clear kk kx g1 g2 q9
      refine P_aload_n (pc := 538) dL_law__538 rfl ?_
      obtain ⟨⟨w9, e9⟩, d2, nc, ns, rc94, rs95, Qc, g1, rfl, rfl, g2, kk, kx⟩ := k
      refine P_callV (ci := 10) (k := 0) (id := l2) (q := (RX10, TX10, 55)) (As := []) (st := [vI x92]) (pc := 539) dL_law__539 mk_X10_undo l_L_149 im_X10_undo se_X10_undo ini_X10 rfl g1 (Nat.le_of_ble_eq_true rfl) rfl rfl (by decide) e9 rfl g2 (fun v9 h9 q9 => ?_) (fun E h9 q9 => PX_out rfl (kx E h9 q9))
      obtain ⟨x96, rfl, k⟩ := kk v9 h9 q9
      clear kk kx g1 g2 q9
      refine P_icmp_eq (tgt := 2586) (pc := 542) dL_law__542 (by decide) (fun c => ?_) (fun c => ?_)
      · have k := k.1 c
        refine P_iinc (v := l4 + (10 : Int32)) (pc := 2586) dL_law__2586 (by decide) rfl rfl (Or.inr (by intro z e9; cases e9)) rfl ?_
        refine P_goto (tgt := 23) (pc := 2589) dL_law__2589 (by decide) ?_
        exact k
      · have k := k.2 c
        refine P_iconst (v := (0 : Int32)) (pc := 545) dL_law__545 (by decide) ?_
        exact R_ireturn (pc := 546) dL_law__546 rfl rfl k
    replace k := k.2
    by_cases c7 : (x2 &&& (63 : Int32)) = (7 : Int32)
    · replace k := k.1 c7
      refine P_tableIn (pc := 40) (tgt := 547) dL_law__40 (by rw [c7]; decide) (by rw [c7]; decide) (by rw [c7] <;> rfl) (by decide) ?_
      refine P_aload_n (pc := 547) dL_law__547 rfl ?_
      refine P_aload_n (pc := 548) dL_law__548 rfl ?_
      refine P_iload (pc := 549) dL_law__549 rfl ?_
      refine P_iconst (v := (1 : Int32)) (pc := 551) dL_law__551 (by decide) ?_
      refine P_iadd (pc := 552) dL_law__552 ?_
      obtain ⟨n9, f9, e9, i9, k⟩ := k
      refine P_sld (pc := 553) dL_law__553 e9 i9 ?_
      clear e9
      generalize f9 (Int32.toNatClampNeg (l4 + (1 : Int32))) = x97 at k ⊢
      refine P_aload_n (pc := 554) dL_law__554 rfl ?_
      obtain ⟨d2, nc, ns, rc99, rs100, Qc, g1, rfl, rfl, g2, kk, kx⟩ := k
      refine P_callSX (As := [vR (900, l1), vI x97, vR l3]) (st := []) (pc := 555) dL_law__555 mk_L_told l_L_150 st_L_told ini_L rfl g1 (Nat.le_of_ble_eq_true rfl) rfl g2 (fun v9 h9 q9 => ?_) (fun E h9 q9 => PX_out rfl (kx E h9 q9))
      obtain ⟨x101, rfl, k⟩ := kk v9 h9 q9
      clear kk kx g1 g2 q9
      refine P_istore (pc := 558) dL_law__558 (by decide) (Or.inr (by intro z e9; cases e9)) rfl ?_
      refine P_aload_n (pc := 560) dL_law__560 rfl ?_
      refine P_aload_n (pc := 561) dL_law__561 rfl ?_
      refine P_iload (pc := 562) dL_law__562 rfl ?_
      refine P_iconst (v := (1 : Int32)) (pc := 564) dL_law__564 (by decide) ?_
      refine P_iadd (pc := 565) dL_law__565 ?_
      obtain ⟨n9, f9, e9, i9, k⟩ := k
      refine P_sld (pc := 566) dL_law__566 e9 i9 ?_
      clear e9
      generalize f9 (Int32.toNatClampNeg (l4 + (1 : Int32))) = x102 at k ⊢
      obtain ⟨⟨w9, e9⟩, d2, nc, ns, rc104, rs105, Qc, g1, rfl, rfl, g2, kk, kx⟩ := k
      refine P_callV (ci := 10) (k := 0) (id := l2) (q := (RX10, TX10, 55)) (As := [vI x102]) (st := []) (pc := 567) dL_law__567 mk_X10_told l_L_152 im_X10_told se_X10_told ini_X10 rfl g1 (Nat.le_of_ble_eq_true rfl) rfl rfl (by decide) e9 rfl g2 (fun v9 h9 q9 => ?_) (fun E h9 q9 => PX_out rfl (kx E h9 q9))
      obtain ⟨x106, rfl, k⟩ := kk v9 h9 q9
      clear kk kx g1 g2 q9
      refine P_istore (pc := 570) dL_law__570 (by decide) (Or.inr (by intro z e9; cases e9)) rfl ?_
      refine P_aload_n (pc := 572) dL_law__572 rfl ?_
      obtain ⟨⟨w9, e9⟩, d2, nc, ns, rc108, rs109, Qc, g1, rfl, rfl, g2, kk, kx⟩ := k
      refine P_callV (ci := 10) (k := 0) (id := l2) (q := (RX10, TX10, 55)) (As := []) (st := []) (pc := 573) dL_law__573 mk_X10_thrown l_L_129 im_X10_thrown se_X10_thrown ini_X10 rfl g1 (Nat.le_of_ble_eq_true rfl) rfl rfl (by decide) e9 rfl g2 (fun v9 h9 q9 => ?_) (fun E h9 q9 => PX_out rfl (kx E h9 q9))
      obtain ⟨x110, rfl, k⟩ := kk v9 h9 q9
      clear kk kx g1 g2 q9
      refine P_iload (pc := 576) dL_law__576 rfl ?_
      refine P_icmp_eq (tgt := 583) (pc := 578) dL_law__578 (by decide) (fun c => ?_) (fun c => ?_)
      · have k := k.1 c
        refine P_iload (pc := 583) dL_law__583 rfl ?_
        refine P_if_ne (tgt := 600) (pc := 585) dL_law__585 (by decide) (fun c => ?_) (fun c => ?_)
        · have k := k.2 c
          refine P_goto (tgt := 2586) (pc := 600) dL_law__600 (by decide) ?_
          refine P_iinc (v := l4 + (10 : Int32)) (pc := 2586) dL_law__2586 (by decide) rfl rfl (Or.inr (by intro z e9; cases e9)) rfl ?_
          refine P_goto (tgt := 23) (pc := 2589) dL_law__2589 (by decide) ?_
          exact P_drop (ls2 := [vR (1201, 0), vR (900, l1), vR (1000, l2), vR l3, vI (l4 + (10 : Int32)), vU, vU]) (ls := [vR (1201, 0), vR (900, l1), vR (1000, l2), vR l3, vI (l4 + (10 : Int32)), vI x101, vI x106]) ⟨Or.inr rfl, ⟨Or.inr rfl, ⟨Or.inr rfl, ⟨Or.inr rfl, ⟨Or.inr rfl, ⟨Or.inl rfl, ⟨Or.inl rfl, trivial⟩⟩⟩⟩⟩⟩⟩ k
        · have k := k.1 c
          refine P_aload_n (pc := 588) dL_law__588 rfl ?_
          refine P_iconst (v := (0 : Int32)) (pc := 589) dL_law__589 (by decide) ?_
          obtain ⟨n9, f9, e9, i9, k⟩ := k
          refine P_lald (pc := 590) dL_law__590 e9 i9 ?_
          clear e9
          generalize f9 (Int32.toNatClampNeg (0 : Int32)) = x111 at k ⊢
          refine P_iload (pc := 591) dL_law__591 rfl ?_
          refine P_i2l (pc := 593) dL_law__593 ?_
          refine P_lcmp (pc := 594) dL_law__594 ?_
          refine P_if_eq (tgt := 600) (pc := 595) dL_law__595 (by decide) (fun c => ?_) (fun c => ?_)
          · have k := k.1 c
            refine P_goto (tgt := 2586) (pc := 600) dL_law__600 (by decide) ?_
            refine P_iinc (v := l4 + (10 : Int32)) (pc := 2586) dL_law__2586 (by decide) rfl rfl (Or.inr (by intro z e9; cases e9)) rfl ?_
            refine P_goto (tgt := 23) (pc := 2589) dL_law__2589 (by decide) ?_
            exact P_drop (ls2 := [vR (1201, 0), vR (900, l1), vR (1000, l2), vR l3, vI (l4 + (10 : Int32)), vU, vU]) (ls := [vR (1201, 0), vR (900, l1), vR (1000, l2), vR l3, vI (l4 + (10 : Int32)), vI x101, vI x106]) ⟨Or.inr rfl, ⟨Or.inr rfl, ⟨Or.inr rfl, ⟨Or.inr rfl, ⟨Or.inr rfl, ⟨Or.inl rfl, ⟨Or.inl rfl, trivial⟩⟩⟩⟩⟩⟩⟩ k
          · have k := k.2 c
            refine P_iconst (v := (0 : Int32)) (pc := 598) dL_law__598 (by decide) ?_
            exact R_ireturn (pc := 599) dL_law__599 rfl rfl k
      · have k := k.2 c
        refine P_iconst (v := (0 : Int32)) (pc := 581) dL_law__581 (by decide) ?_
        exact R_ireturn (pc := 582) dL_law__582 rfl rfl k
    replace k := k.2
    by_cases c8 : (x2 &&& (63 : Int32)) = (8 : Int32)
    · replace k := k.1 c8
      refine P_tableIn (pc := 40) (tgt := 603) dL_law__40 (by rw [c8]; decide) (by rw [c8]; decide) (by rw [c8] <;> rfl) (by decide) ?_
      refine P_aload_n (pc := 603) dL_law__603 rfl ?_
      refine P_aload_n (pc := 604) dL_law__604 rfl ?_
      refine P_iload (pc := 605) dL_law__605 rfl ?_
      refine P_iconst (v := (1 : Int32)) (pc := 607) dL_law__607 (by decide) ?_
      refine P_iadd (pc := 608) dL_law__608 ?_
      obtain ⟨n9, f9, e9, i9, k⟩ := k
      refine P_sld (pc := 609) dL_law__609 e9 i9 ?_
      clear e9
      generalize f9 (Int32.toNatClampNeg (l4 + (1 : Int32))) = x112 at k ⊢
      refine P_aload_n (pc := 610) dL_law__610 rfl ?_
      refine P_iload (pc := 611) dL_law__611 rfl ?_
      refine P_iconst (v := (2 : Int32)) (pc := 613) dL_law__613 (by decide) ?_
      refine P_iadd (pc := 614) dL_law__614 ?_
      obtain ⟨n9, f9, e9, i9, k⟩ := k
      refine P_sld (pc := 615) dL_law__615 e9 i9 ?_
      clear e9
      generalize f9 (Int32.toNatClampNeg (l4 + (2 : Int32))) = x113 at k ⊢
      refine P_aload_n (pc := 616) dL_law__616 rfl ?_
      obtain ⟨d2, nc, ns, rc115, rs116, Qc, g1, rfl, rfl, g2, kk, kx⟩ := k
      refine P_callSX (As := [vR (900, l1), vI x112, vI x113, vR l3]) (st := []) (pc := 617) dL_law__617 mk_L_heir l_L_153 st_L_heir ini_L rfl g1 (Nat.le_of_ble_eq_true rfl) rfl g2 (fun v9 h9 q9 => ?_) (fun E h9 q9 => PX_out rfl (kx E h9 q9))
      obtain ⟨x117, rfl, k⟩ := kk v9 h9 q9
      clear kk kx g1 g2 q9
      refine P_istore (pc := 620) dL_law__620 (by decide) (Or.inr (by intro z e9; cases e9)) rfl ?_
      refine P_aload_n (pc := 622) dL_law__622 rfl ?_
      refine P_aload_n (pc := 623) dL_law__623 rfl ?_
      refine P_iload (pc := 624) dL_law__624 rfl ?_
      refine P_iconst (v := (1 : Int32)) (pc := 626) dL_law__626 (by decide) ?_
      refine P_iadd (pc := 627) dL_law__627 ?_
      obtain ⟨n9, f9, e9, i9, k⟩ := k
      refine P_sld (pc := 628) dL_law__628 e9 i9 ?_
      clear e9
      generalize f9 (Int32.toNatClampNeg (l4 + (1 : Int32))) = x118 at k ⊢
      refine P_aload_n (pc := 629) dL_law__629 rfl ?_
      refine P_iload (pc := 630) dL_law__630 rfl ?_
      refine P_iconst (v := (2 : Int32)) (pc := 632) dL_law__632 (by decide) ?_
      refine P_iadd (pc := 633) dL_law__633 ?_
      obtain ⟨n9, f9, e9, i9, k⟩ := k
      refine P_sld (pc := 634) dL_law__634 e9 i9 ?_
      clear e9
      generalize f9 (Int32.toNatClampNeg (l4 + (2 : Int32))) = x119 at k ⊢
      obtain ⟨⟨w9, e9⟩, d2, nc, ns, rc121, rs122, Qc, g1, rfl, rfl, g2, kk, kx⟩ := k
      refine P_callV (ci := 10) (k := 0) (id := l2) (q := (RX10, TX10, 55)) (As := [vI x118, vI x119]) (st := []) (pc := 635) dL_law__635 mk_X10_heir l_L_156 im_X10_heir se_X10_heir ini_X10 rfl g1 (Nat.le_of_ble_eq_true rfl) rfl rfl (by decide) e9 rfl g2 (fun v9 h9 q9 => ?_) (fun E h9 q9 => PX_out rfl (kx E h9 q9))
      obtain ⟨x123, rfl, k⟩ := kk v9 h9 q9
      clear kk kx g1 g2 q9
      refine P_istore (pc := 638) dL_law__638 (by decide) (Or.inr (by intro z e9; cases e9)) rfl ?_
      refine P_aload_n (pc := 640) dL_law__640 rfl ?_
      obtain ⟨⟨w9, e9⟩, d2, nc, ns, rc125, rs126, Qc, g1, rfl, rfl, g2, kk, kx⟩ := k
      refine P_callV (ci := 10) (k := 0) (id := l2) (q := (RX10, TX10, 55)) (As := []) (st := []) (pc := 641) dL_law__641 mk_X10_thrown l_L_129 im_X10_thrown se_X10_thrown ini_X10 rfl g1 (Nat.le_of_ble_eq_true rfl) rfl rfl (by decide) e9 rfl g2 (fun v9 h9 q9 => ?_) (fun E h9 q9 => PX_out rfl (kx E h9 q9))
      obtain ⟨x127, rfl, k⟩ := kk v9 h9 q9
      clear kk kx g1 g2 q9
      refine P_iload (pc := 644) dL_law__644 rfl ?_
      refine P_icmp_eq (tgt := 651) (pc := 646) dL_law__646 (by decide) (fun c => ?_) (fun c => ?_)
      · have k := k.1 c
        refine P_iload (pc := 651) dL_law__651 rfl ?_
        refine P_if_ne (tgt := 668) (pc := 653) dL_law__653 (by decide) (fun c => ?_) (fun c => ?_)
        · have k := k.2 c
          refine P_goto (tgt := 2586) (pc := 668) dL_law__668 (by decide) ?_
          refine P_iinc (v := l4 + (10 : Int32)) (pc := 2586) dL_law__2586 (by decide) rfl rfl (Or.inr (by intro z e9; cases e9)) rfl ?_
          refine P_goto (tgt := 23) (pc := 2589) dL_law__2589 (by decide) ?_
          exact P_drop (ls2 := [vR (1201, 0), vR (900, l1), vR (1000, l2), vR l3, vI (l4 + (10 : Int32)), vU, vU]) (ls := [vR (1201, 0), vR (900, l1), vR (1000, l2), vR l3, vI (l4 + (10 : Int32)), vI x117, vI x123]) ⟨Or.inr rfl, ⟨Or.inr rfl, ⟨Or.inr rfl, ⟨Or.inr rfl, ⟨Or.inr rfl, ⟨Or.inl rfl, ⟨Or.inl rfl, trivial⟩⟩⟩⟩⟩⟩⟩ k
        · have k := k.1 c
          refine P_aload_n (pc := 656) dL_law__656 rfl ?_
          refine P_iconst (v := (0 : Int32)) (pc := 657) dL_law__657 (by decide) ?_
          obtain ⟨n9, f9, e9, i9, k⟩ := k
          refine P_lald (pc := 658) dL_law__658 e9 i9 ?_
          clear e9
          generalize f9 (Int32.toNatClampNeg (0 : Int32)) = x128 at k ⊢
          refine P_iload (pc := 659) dL_law__659 rfl ?_
          refine P_i2l (pc := 661) dL_law__661 ?_
          refine P_lcmp (pc := 662) dL_law__662 ?_
          refine P_if_eq (tgt := 668) (pc := 663) dL_law__663 (by decide) (fun c => ?_) (fun c => ?_)
          · have k := k.1 c
            refine P_goto (tgt := 2586) (pc := 668) dL_law__668 (by decide) ?_
            refine P_iinc (v := l4 + (10 : Int32)) (pc := 2586) dL_law__2586 (by decide) rfl rfl (Or.inr (by intro z e9; cases e9)) rfl ?_
            refine P_goto (tgt := 23) (pc := 2589) dL_law__2589 (by decide) ?_
            exact P_drop (ls2 := [vR (1201, 0), vR (900, l1), vR (1000, l2), vR l3, vI (l4 + (10 : Int32)), vU, vU]) (ls := [vR (1201, 0), vR (900, l1), vR (1000, l2), vR l3, vI (l4 + (10 : Int32)), vI x117, vI x123]) ⟨Or.inr rfl, ⟨Or.inr rfl, ⟨Or.inr rfl, ⟨Or.inr rfl, ⟨Or.inr rfl, ⟨Or.inl rfl, ⟨Or.inl rfl, trivial⟩⟩⟩⟩⟩⟩⟩ k
          · have k := k.2 c
            refine P_iconst (v := (0 : Int32)) (pc := 666) dL_law__666 (by decide) ?_
            exact R_ireturn (pc := 667) dL_law__667 rfl rfl k
      · have k := k.2 c
        refine P_iconst (v := (0 : Int32)) (pc := 649) dL_law__649 (by decide) ?_
        exact R_ireturn (pc := 650) dL_law__650 rfl rfl k
    replace k := k.2
    by_cases c9 : (x2 &&& (63 : Int32)) = (9 : Int32)
    · replace k := k.1 c9
      refine P_tableIn (pc := 40) (tgt := 671) dL_law__40 (by rw [c9]; decide) (by rw [c9]; decide) (by rw [c9] <;> rfl) (by decide) ?_
      refine P_aload_n (pc := 671) dL_law__671 rfl ?_
      refine P_aload_n (pc := 672) dL_law__672 rfl ?_
      refine P_iload (pc := 673) dL_law__673 rfl ?_
      refine P_iconst (v := (1 : Int32)) (pc := 675) dL_law__675 (by decide) ?_
      refine P_iadd (pc := 676) dL_law__676 ?_
      obtain ⟨n9, f9, e9, i9, k⟩ := k
      refine P_sld (pc := 677) dL_law__677 e9 i9 ?_
      clear e9
      generalize f9 (Int32.toNatClampNeg (l4 + (1 : Int32))) = x129 at k ⊢
      refine P_aload_n (pc := 678) dL_law__678 rfl ?_
      refine P_iload (pc := 679) dL_law__679 rfl ?_
      refine P_iconst (v := (2 : Int32)) (pc := 681) dL_law__681 (by decide) ?_
      refine P_iadd (pc := 682) dL_law__682 ?_
      obtain ⟨n9, f9, e9, i9, k⟩ := k
      refine P_sld (pc := 683) dL_law__683 e9 i9 ?_
      clear e9
      generalize f9 (Int32.toNatClampNeg (l4 + (2 : Int32))) = x130 at k ⊢
      refine P_aload_n (pc := 684) dL_law__684 rfl ?_
      obtain ⟨d2, nc, ns, rc132, rs133, Qc, g1, rfl, rfl, g2, kk, kx⟩ := k
      refine P_callSX (As := [vR (900, l1), vI x129, vI x130, vR l3]) (st := []) (pc := 685) dL_law__685 mk_L_two l_L_157 st_L_two ini_L rfl g1 (Nat.le_of_ble_eq_true rfl) rfl g2 (fun v9 h9 q9 => ?_) (fun E h9 q9 => PX_out rfl (kx E h9 q9))
      obtain ⟨x134, rfl, k⟩ := kk v9 h9 q9
      clear kk kx g1 g2 q9
      refine P_istore (pc := 688) dL_law__688 (by decide) (Or.inr (by intro z e9; cases e9)) rfl ?_
      refine P_aload_n (pc := 690) dL_law__690 rfl ?_
      refine P_aload_n (pc := 691) dL_law__691 rfl ?_
      refine P_iload (pc := 692) dL_law__692 rfl ?_
      refine P_iconst (v := (1 : Int32)) (pc := 694) dL_law__694 (by decide) ?_
      refine P_iadd (pc := 695) dL_law__695 ?_
      obtain ⟨n9, f9, e9, i9, k⟩ := k
      refine P_sld (pc := 696) dL_law__696 e9 i9 ?_
      clear e9
      generalize f9 (Int32.toNatClampNeg (l4 + (1 : Int32))) = x135 at k ⊢
      refine P_aload_n (pc := 697) dL_law__697 rfl ?_
      refine P_iload (pc := 698) dL_law__698 rfl ?_
      refine P_iconst (v := (2 : Int32)) (pc := 700) dL_law__700 (by decide) ?_
      refine P_iadd (pc := 701) dL_law__701 ?_
      obtain ⟨n9, f9, e9, i9, k⟩ := k
      refine P_sld (pc := 702) dL_law__702 e9 i9 ?_
      clear e9
      generalize f9 (Int32.toNatClampNeg (l4 + (2 : Int32))) = x136 at k ⊢
      obtain ⟨⟨w9, e9⟩, d2, nc, ns, rc138, rs139, Qc, g1, rfl, rfl, g2, kk, kx⟩ := k
      refine P_callV (ci := 10) (k := 0) (id := l2) (q := (RX10, TX10, 55)) (As := [vI x135, vI x136]) (st := []) (pc := 703) dL_law__703 mk_X10_two l_L_159 im_X10_two se_X10_two ini_X10 rfl g1 (Nat.le_of_ble_eq_true rfl) rfl rfl (by decide) e9 rfl g2 (fun v9 h9 q9 => ?_) (fun E h9 q9 => PX_out rfl (kx E h9 q9))
      obtain ⟨x140, rfl, k⟩ := kk v9 h9 q9
      clear kk kx g1 g2 q9
      refine P_istore (pc := 706) dL_law__706 (by decide) (Or.inr (by intro z e9; cases e9)) rfl ?_
      refine P_aload_n (pc := 708) dL_law__708 rfl ?_
      obtain ⟨⟨w9, e9⟩, d2, nc, ns, rc142, rs143, Qc, g1, rfl, rfl, g2, kk, kx⟩ := k
      refine P_callV (ci := 10) (k := 0) (id := l2) (q := (RX10, TX10, 55)) (As := []) (st := []) (pc := 709) dL_law__709 mk_X10_thrown l_L_129 im_X10_thrown se_X10_thrown ini_X10 rfl g1 (Nat.le_of_ble_eq_true rfl) rfl rfl (by decide) e9 rfl g2 (fun v9 h9 q9 => ?_) (fun E h9 q9 => PX_out rfl (kx E h9 q9))
      obtain ⟨x144, rfl, k⟩ := kk v9 h9 q9
      clear kk kx g1 g2 q9
      refine P_iload (pc := 712) dL_law__712 rfl ?_
      refine P_icmp_eq (tgt := 719) (pc := 714) dL_law__714 (by decide) (fun c => ?_) (fun c => ?_)
      · have k := k.1 c
        refine P_iload (pc := 719) dL_law__719 rfl ?_
        refine P_if_ne (tgt := 736) (pc := 721) dL_law__721 (by decide) (fun c => ?_) (fun c => ?_)
        · have k := k.2 c
          refine P_goto (tgt := 2586) (pc := 736) dL_law__736 (by decide) ?_
          refine P_iinc (v := l4 + (10 : Int32)) (pc := 2586) dL_law__2586 (by decide) rfl rfl (Or.inr (by intro z e9; cases e9)) rfl ?_
          refine P_goto (tgt := 23) (pc := 2589) dL_law__2589 (by decide) ?_
          exact P_drop (ls2 := [vR (1201, 0), vR (900, l1), vR (1000, l2), vR l3, vI (l4 + (10 : Int32)), vU, vU]) (ls := [vR (1201, 0), vR (900, l1), vR (1000, l2), vR l3, vI (l4 + (10 : Int32)), vI x134, vI x140]) ⟨Or.inr rfl, ⟨Or.inr rfl, ⟨Or.inr rfl, ⟨Or.inr rfl, ⟨Or.inr rfl, ⟨Or.inl rfl, ⟨Or.inl rfl, trivial⟩⟩⟩⟩⟩⟩⟩ k
        · have k := k.1 c
          refine P_aload_n (pc := 724) dL_law__724 rfl ?_
          refine P_iconst (v := (0 : Int32)) (pc := 725) dL_law__725 (by decide) ?_
          obtain ⟨n9, f9, e9, i9, k⟩ := k
          refine P_lald (pc := 726) dL_law__726 e9 i9 ?_
          clear e9
          generalize f9 (Int32.toNatClampNeg (0 : Int32)) = x145 at k ⊢
          refine P_iload (pc := 727) dL_law__727 rfl ?_
          refine P_i2l (pc := 729) dL_law__729 ?_
          refine P_lcmp (pc := 730) dL_law__730 ?_
          refine P_if_eq (tgt := 736) (pc := 731) dL_law__731 (by decide) (fun c => ?_) (fun c => ?_)
          · have k := k.1 c
            refine P_goto (tgt := 2586) (pc := 736) dL_law__736 (by decide) ?_
            refine P_iinc (v := l4 + (10 : Int32)) (pc := 2586) dL_law__2586 (by decide) rfl rfl (Or.inr (by intro z e9; cases e9)) rfl ?_
            refine P_goto (tgt := 23) (pc := 2589) dL_law__2589 (by decide) ?_
            exact P_drop (ls2 := [vR (1201, 0), vR (900, l1), vR (1000, l2), vR l3, vI (l4 + (10 : Int32)), vU, vU]) (ls := [vR (1201, 0), vR (900, l1), vR (1000, l2), vR l3, vI (l4 + (10 : Int32)), vI x134, vI x140]) ⟨Or.inr rfl, ⟨Or.inr rfl, ⟨Or.inr rfl, ⟨Or.inr rfl, ⟨Or.inr rfl, ⟨Or.inl rfl, ⟨Or.inl rfl, trivial⟩⟩⟩⟩⟩⟩⟩ k
          · have k := k.2 c
            refine P_iconst (v := (0 : Int32)) (pc := 734) dL_law__734 (by decide) ?_
            exact R_ireturn (pc := 735) dL_law__735 rfl rfl k
      · have k := k.2 c
        refine P_iconst (v := (0 : Int32)) (pc := 717) dL_law__717 (by decide) ?_
        exact R_ireturn (pc := 718) dL_law__718 rfl rfl k
    replace k := k.2
    by_cases c10 : (x2 &&& (63 : Int32)) = (10 : Int32)
    · replace k := k.1 c10
      refine P_tableIn (pc := 40) (tgt := 739) dL_law__40 (by rw [c10]; decide) (by rw [c10]; decide) (by rw [c10] <;> rfl) (by decide) ?_
      refine P_aload_n (pc := 739) dL_law__739 rfl ?_
      refine P_aload_n (pc := 740) dL_law__740 rfl ?_
      refine P_iload (pc := 741) dL_law__741 rfl ?_
      refine P_iconst (v := (1 : Int32)) (pc := 743) dL_law__743 (by decide) ?_
      refine P_iadd (pc := 744) dL_law__744 ?_
      obtain ⟨n9, f9, e9, i9, k⟩ := k
      refine P_sld (pc := 745) dL_law__745 e9 i9 ?_
      clear e9
      generalize f9 (Int32.toNatClampNeg (l4 + (1 : Int32))) = x146 at k ⊢
      refine P_aload_n (pc := 746) dL_law__746 rfl ?_
      refine P_iload (pc := 747) dL_law__747 rfl ?_
      refine P_iconst (v := (2 : Int32)) (pc := 749) dL_law__749 (by decide) ?_
      refine P_iadd (pc := 750) dL_law__750 ?_
      obtain ⟨n9, f9, e9, i9, k⟩ := k
      refine P_sld (pc := 751) dL_law__751 e9 i9 ?_
      clear e9
      generalize f9 (Int32.toNatClampNeg (l4 + (2 : Int32))) = x147 at k ⊢
      refine P_aload_n (pc := 752) dL_law__752 rfl ?_
      obtain ⟨d2, nc, ns, rc149, rs150, Qc, g1, rfl, rfl, g2, kk, kx⟩ := k
      refine P_callSX (As := [vR (900, l1), vI x146, vI x147, vR l3]) (st := []) (pc := 753) dL_law__753 mk_L_keeper l_L_160 st_L_keeper ini_L rfl g1 (Nat.le_of_ble_eq_true rfl) rfl g2 (fun v9 h9 q9 => ?_) (fun E h9 q9 => PX_out rfl (kx E h9 q9))
      obtain ⟨x151, rfl, k⟩ := kk v9 h9 q9
      clear kk kx g1 g2 q9
      refine P_istore (pc := 756) dL_law__756 (by decide) (Or.inr (by intro z e9; cases e9)) rfl ?_
      refine P_aload_n (pc := 758) dL_law__758 rfl ?_
      refine P_aload_n (pc := 759) dL_law__759 rfl ?_
      refine P_iload (pc := 760) dL_law__760 rfl ?_
      refine P_iconst (v := (1 : Int32)) (pc := 762) dL_law__762 (by decide) ?_
      refine P_iadd (pc := 763) dL_law__763 ?_
      obtain ⟨n9, f9, e9, i9, k⟩ := k
      refine P_sld (pc := 764) dL_law__764 e9 i9 ?_
      clear e9
      generalize f9 (Int32.toNatClampNeg (l4 + (1 : Int32))) = x152 at k ⊢
      refine P_aload_n (pc := 765) dL_law__765 rfl ?_
      refine P_iload (pc := 766) dL_law__766 rfl ?_
      refine P_iconst (v := (2 : Int32)) (pc := 768) dL_law__768 (by decide) ?_
      refine P_iadd (pc := 769) dL_law__769 ?_
      obtain ⟨n9, f9, e9, i9, k⟩ := k
      refine P_sld (pc := 770) dL_law__770 e9 i9 ?_
      clear e9
      generalize f9 (Int32.toNatClampNeg (l4 + (2 : Int32))) = x153 at k ⊢
      obtain ⟨⟨w9, e9⟩, d2, nc, ns, rc155, rs156, Qc, g1, rfl, rfl, g2, kk, kx⟩ := k
      refine P_callV (ci := 10) (k := 0) (id := l2) (q := (RX10, TX10, 55)) (As := [vI x152, vI x153]) (st := []) (pc := 771) dL_law__771 mk_X10_keeper l_L_162 im_X10_keeper se_X10_keeper ini_X10 rfl g1 (Nat.le_of_ble_eq_true rfl) rfl rfl (by decide) e9 rfl g2 (fun v9 h9 q9 => ?_) (fun E h9 q9 => PX_out rfl (kx E h9 q9))
      obtain ⟨x157, rfl, k⟩ := kk v9 h9 q9
      clear kk kx g1 g2 q9
      refine P_istore (pc := 774) dL_law__774 (by decide) (Or.inr (by intro z e9; cases e9)) rfl ?_
      refine P_aload_n (pc := 776) dL_law__776 rfl ?_
      obtain ⟨⟨w9, e9⟩, d2, nc, ns, rc159, rs160, Qc, g1, rfl, rfl, g2, kk, kx⟩ := k
      refine P_callV (ci := 10) (k := 0) (id := l2) (q := (RX10, TX10, 55)) (As := []) (st := []) (pc := 777) dL_law__777 mk_X10_thrown l_L_129 im_X10_thrown se_X10_thrown ini_X10 rfl g1 (Nat.le_of_ble_eq_true rfl) rfl rfl (by decide) e9 rfl g2 (fun v9 h9 q9 => ?_) (fun E h9 q9 => PX_out rfl (kx E h9 q9))
      obtain ⟨x161, rfl, k⟩ := kk v9 h9 q9
      clear kk kx g1 g2 q9
      refine P_iload (pc := 780) dL_law__780 rfl ?_
      refine P_icmp_eq (tgt := 787) (pc := 782) dL_law__782 (by decide) (fun c => ?_) (fun c => ?_)
      · have k := k.1 c
        refine P_iload (pc := 787) dL_law__787 rfl ?_
        refine P_if_ne (tgt := 804) (pc := 789) dL_law__789 (by decide) (fun c => ?_) (fun c => ?_)
        · have k := k.2 c
          refine P_goto (tgt := 2586) (pc := 804) dL_law__804 (by decide) ?_
          refine P_iinc (v := l4 + (10 : Int32)) (pc := 2586) dL_law__2586 (by decide) rfl rfl (Or.inr (by intro z e9; cases e9)) rfl ?_
          refine P_goto (tgt := 23) (pc := 2589) dL_law__2589 (by decide) ?_
          exact P_drop (ls2 := [vR (1201, 0), vR (900, l1), vR (1000, l2), vR l3, vI (l4 + (10 : Int32)), vU, vU]) (ls := [vR (1201, 0), vR (900, l1), vR (1000, l2), vR l3, vI (l4 + (10 : Int32)), vI x151, vI x157]) ⟨Or.inr rfl, ⟨Or.inr rfl, ⟨Or.inr rfl, ⟨Or.inr rfl, ⟨Or.inr rfl, ⟨Or.inl rfl, ⟨Or.inl rfl, trivial⟩⟩⟩⟩⟩⟩⟩ k
        · have k := k.1 c
          refine P_aload_n (pc := 792) dL_law__792 rfl ?_
          refine P_iconst (v := (0 : Int32)) (pc := 793) dL_law__793 (by decide) ?_
          obtain ⟨n9, f9, e9, i9, k⟩ := k
          refine P_lald (pc := 794) dL_law__794 e9 i9 ?_
          clear e9
          generalize f9 (Int32.toNatClampNeg (0 : Int32)) = x162 at k ⊢
          refine P_iload (pc := 795) dL_law__795 rfl ?_
          refine P_i2l (pc := 797) dL_law__797 ?_
          refine P_lcmp (pc := 798) dL_law__798 ?_
          refine P_if_eq (tgt := 804) (pc := 799) dL_law__799 (by decide) (fun c => ?_) (fun c => ?_)
          · have k := k.1 c
            refine P_goto (tgt := 2586) (pc := 804) dL_law__804 (by decide) ?_
            refine P_iinc (v := l4 + (10 : Int32)) (pc := 2586) dL_law__2586 (by decide) rfl rfl (Or.inr (by intro z e9; cases e9)) rfl ?_
            refine P_goto (tgt := 23) (pc := 2589) dL_law__2589 (by decide) ?_
            exact P_drop (ls2 := [vR (1201, 0), vR (900, l1), vR (1000, l2), vR l3, vI (l4 + (10 : Int32)), vU, vU]) (ls := [vR (1201, 0), vR (900, l1), vR (1000, l2), vR l3, vI (l4 + (10 : Int32)), vI x151, vI x157]) ⟨Or.inr rfl, ⟨Or.inr rfl, ⟨Or.inr rfl, ⟨Or.inr rfl, ⟨Or.inr rfl, ⟨Or.inl rfl, ⟨Or.inl rfl, trivial⟩⟩⟩⟩⟩⟩⟩ k
          · have k := k.2 c
            refine P_iconst (v := (0 : Int32)) (pc := 802) dL_law__802 (by decide) ?_
            exact R_ireturn (pc := 803) dL_law__803 rfl rfl k
      · have k := k.2 c
        refine P_iconst (v := (0 : Int32)) (pc := 785) dL_law__785 (by decide) ?_
        exact R_ireturn (pc := 786) dL_law__786 rfl rfl k
    replace k := k.2
    by_cases c11 : (x2 &&& (63 : Int32)) = (11 : Int32)
    · replace k := k.1 c11
      refine P_tableIn (pc := 40) (tgt := 807) dL_law__40 (by rw [c11]; decide) (by rw [c11]; decide) (by rw [c11] <;> rfl) (by decide) ?_
      refine P_aload_n (pc := 807) dL_law__807 rfl ?_
      refine P_aload_n (pc := 808) dL_law__808 rfl ?_
      refine P_iload (pc := 809) dL_law__809 rfl ?_
      refine P_iconst (v := (1 : Int32)) (pc := 811) dL_law__811 (by decide) ?_
      refine P_iadd (pc := 812) dL_law__812 ?_
      obtain ⟨n9, f9, e9, i9, k⟩ := k
      refine P_sld (pc := 813) dL_law__813 e9 i9 ?_
      clear e9
      generalize f9 (Int32.toNatClampNeg (l4 + (1 : Int32))) = x163 at k ⊢
      refine P_aload_n (pc := 814) dL_law__814 rfl ?_
      obtain ⟨d2, nc, ns, rc165, rs166, Qc, g1, rfl, rfl, g2, kk, kx⟩ := k
      refine P_callSX (As := [vR (900, l1), vI x163, vR l3]) (st := []) (pc := 815) dL_law__815 mk_L_cloud l_L_163 st_L_cloud ini_L rfl g1 (Nat.le_of_ble_eq_true rfl) rfl g2 (fun v9 h9 q9 => ?_) (fun E h9 q9 => PX_out rfl (kx E h9 q9))
      obtain ⟨x167, rfl, k⟩ := kk v9 h9 q9
      clear kk kx g1 g2 q9
      refine P_istore (pc := 818) dL_law__818 (by decide) (Or.inr (by intro z e9; cases e9)) rfl ?_
      refine P_aload_n (pc := 820) dL_law__820 rfl ?_
      refine P_aload_n (pc := 821) dL_law__821 rfl ?_
      refine P_iload (pc := 822) dL_law__822 rfl ?_
      refine P_iconst (v := (1 : Int32)) (pc := 824) dL_law__824 (by decide) ?_
      refine P_iadd (pc := 825) dL_law__825 ?_
      obtain ⟨n9, f9, e9, i9, k⟩ := k
      refine P_sld (pc := 826) dL_law__826 e9 i9 ?_
      clear e9
      generalize f9 (Int32.toNatClampNeg (l4 + (1 : Int32))) = x168 at k ⊢
      obtain ⟨⟨w9, e9⟩, d2, nc, ns, rc170, rs171, Qc, g1, rfl, rfl, g2, kk, kx⟩ := k
      refine P_callV (ci := 10) (k := 0) (id := l2) (q := (RX10, TX10, 55)) (As := [vI x168]) (st := []) (pc := 827) dL_law__827 mk_X10_cloud l_L_165 im_X10_cloud se_X10_cloud ini_X10 rfl g1 (Nat.le_of_ble_eq_true rfl) rfl rfl (by decide) e9 rfl g2 (fun v9 h9 q9 => ?_) (fun E h9 q9 => PX_out rfl (kx E h9 q9))
      obtain ⟨x172, rfl, k⟩ := kk v9 h9 q9
      clear kk kx g1 g2 q9
      refine P_istore (pc := 830) dL_law__830 (by decide) (Or.inr (by intro z e9; cases e9)) rfl ?_
      refine P_aload_n (pc := 832) dL_law__832 rfl ?_
      obtain ⟨⟨w9, e9⟩, d2, nc, ns, rc174, rs175, Qc, g1, rfl, rfl, g2, kk, kx⟩ := k
      refine P_callV (ci := 10) (k := 0) (id := l2) (q := (RX10, TX10, 55)) (As := []) (st := []) (pc := 833) dL_law__833 mk_X10_thrown l_L_129 im_X10_thrown se_X10_thrown ini_X10 rfl g1 (Nat.le_of_ble_eq_true rfl) rfl rfl (by decide) e9 rfl g2 (fun v9 h9 q9 => ?_) (fun E h9 q9 => PX_out rfl (kx E h9 q9))
      obtain ⟨x176, rfl, k⟩ := kk v9 h9 q9
      clear kk kx g1 g2 q9
      refine P_iload (pc := 836) dL_law__836 rfl ?_
      refine P_icmp_eq (tgt := 843) (pc := 838) dL_law__838 (by decide) (fun c => ?_) (fun c => ?_)
      · have k := k.1 c
        refine P_iload (pc := 843) dL_law__843 rfl ?_
        refine P_if_ne (tgt := 860) (pc := 845) dL_law__845 (by decide) (fun c => ?_) (fun c => ?_)
        · have k := k.2 c
          refine P_goto (tgt := 2586) (pc := 860) dL_law__860 (by decide) ?_
          refine P_iinc (v := l4 + (10 : Int32)) (pc := 2586) dL_law__2586 (by decide) rfl rfl (Or.inr (by intro z e9; cases e9)) rfl ?_
          refine P_goto (tgt := 23) (pc := 2589) dL_law__2589 (by decide) ?_
          exact P_drop (ls2 := [vR (1201, 0), vR (900, l1), vR (1000, l2), vR l3, vI (l4 + (10 : Int32)), vU, vU]) (ls := [vR (1201, 0), vR (900, l1), vR (1000, l2), vR l3, vI (l4 + (10 : Int32)), vI x167, vI x172]) ⟨Or.inr rfl, ⟨Or.inr rfl, ⟨Or.inr rfl, ⟨Or.inr rfl, ⟨Or.inr rfl, ⟨Or.inl rfl, ⟨Or.inl rfl, trivial⟩⟩⟩⟩⟩⟩⟩ k
        · have k := k.1 c
          refine P_aload_n (pc := 848) dL_law__848 rfl ?_
          refine P_iconst (v := (0 : Int32)) (pc := 849) dL_law__849 (by decide) ?_
          obtain ⟨n9, f9, e9, i9, k⟩ := k
          refine P_lald (pc := 850) dL_law__850 e9 i9 ?_
          clear e9
          generalize f9 (Int32.toNatClampNeg (0 : Int32)) = x177 at k ⊢
          refine P_iload (pc := 851) dL_law__851 rfl ?_
          refine P_i2l (pc := 853) dL_law__853 ?_
          refine P_lcmp (pc := 854) dL_law__854 ?_
          refine P_if_eq (tgt := 860) (pc := 855) dL_law__855 (by decide) (fun c => ?_) (fun c => ?_)
          · have k := k.1 c
            refine P_goto (tgt := 2586) (pc := 860) dL_law__860 (by decide) ?_
            refine P_iinc (v := l4 + (10 : Int32)) (pc := 2586) dL_law__2586 (by decide) rfl rfl (Or.inr (by intro z e9; cases e9)) rfl ?_
            refine P_goto (tgt := 23) (pc := 2589) dL_law__2589 (by decide) ?_
            exact P_drop (ls2 := [vR (1201, 0), vR (900, l1), vR (1000, l2), vR l3, vI (l4 + (10 : Int32)), vU, vU]) (ls := [vR (1201, 0), vR (900, l1), vR (1000, l2), vR l3, vI (l4 + (10 : Int32)), vI x167, vI x172]) ⟨Or.inr rfl, ⟨Or.inr rfl, ⟨Or.inr rfl, ⟨Or.inr rfl, ⟨Or.inr rfl, ⟨Or.inl rfl, ⟨Or.inl rfl, trivial⟩⟩⟩⟩⟩⟩⟩ k
          · have k := k.2 c
            refine P_iconst (v := (0 : Int32)) (pc := 858) dL_law__858 (by decide) ?_
            exact R_ireturn (pc := 859) dL_law__859 rfl rfl k
      · have k := k.2 c
        refine P_iconst (v := (0 : Int32)) (pc := 841) dL_law__841 (by decide) ?_
        exact R_ireturn (pc := 842) dL_law__842 rfl rfl k
    replace k := k.2
    by_cases c12 : (x2 &&& (63 : Int32)) = (12 : Int32)
    · replace k := k.1 c12
      refine P_tableIn (pc := 40) (tgt := 863) dL_law__40 (by rw [c12]; decide) (by rw [c12]; decide) (by rw [c12] <;> rfl) (by decide) ?_
      refine P_aload_n (pc := 863) dL_law__863 rfl ?_
      refine P_aload_n (pc := 864) dL_law__864 rfl ?_
      refine P_iload (pc := 865) dL_law__865 rfl ?_
      refine P_iconst (v := (1 : Int32)) (pc := 867) dL_law__867 (by decide) ?_
      refine P_iadd (pc := 868) dL_law__868 ?_
      obtain ⟨n9, f9, e9, i9, k⟩ := k
      refine P_sld (pc := 869) dL_law__869 e9 i9 ?_
      clear e9
      generalize f9 (Int32.toNatClampNeg (l4 + (1 : Int32))) = x178 at k ⊢
      refine P_aload_n (pc := 870) dL_law__870 rfl ?_
      refine P_iload (pc := 871) dL_law__871 rfl ?_
      refine P_iconst (v := (2 : Int32)) (pc := 873) dL_law__873 (by decide) ?_
      refine P_iadd (pc := 874) dL_law__874 ?_
      obtain ⟨n9, f9, e9, i9, k⟩ := k
      refine P_sld (pc := 875) dL_law__875 e9 i9 ?_
      clear e9
      generalize f9 (Int32.toNatClampNeg (l4 + (2 : Int32))) = x179 at k ⊢
      refine P_aload_n (pc := 876) dL_law__876 rfl ?_
      refine P_iload (pc := 877) dL_law__877 rfl ?_
      refine P_iconst (v := (3 : Int32)) (pc := 879) dL_law__879 (by decide) ?_
      refine P_iadd (pc := 880) dL_law__880 ?_
      obtain ⟨n9, f9, e9, i9, k⟩ := k
      refine P_sld (pc := 881) dL_law__881 e9 i9 ?_
      clear e9
      generalize f9 (Int32.toNatClampNeg (l4 + (3 : Int32))) = x180 at k ⊢
      refine P_aload_n (pc := 882) dL_law__882 rfl ?_
      refine P_iload (pc := 883) dL_law__883 rfl ?_
      refine P_iconst (v := (4 : Int32)) (pc := 885) dL_law__885 (by decide) ?_
      refine P_iadd (pc := 886) dL_law__886 ?_
      obtain ⟨n9, f9, e9, i9, k⟩ := k
      refine P_sld (pc := 887) dL_law__887 e9 i9 ?_
      clear e9
      generalize f9 (Int32.toNatClampNeg (l4 + (4 : Int32))) = x181 at k ⊢
      refine P_aload_n (pc := 888) dL_law__888 rfl ?_
      refine P_iload (pc := 889) dL_law__889 rfl ?_
      refine P_iconst (v := (5 : Int32)) (pc := 891) dL_law__891 (by decide) ?_
      refine P_iadd (pc := 892) dL_law__892 ?_
      obtain ⟨n9, f9, e9, i9, k⟩ := k
      refine P_sld (pc := 893) dL_law__893 e9 i9 ?_
      clear e9
      generalize f9 (Int32.toNatClampNeg (l4 + (5 : Int32))) = x182 at k ⊢
      refine P_aload_n (pc := 894) dL_law__894 rfl ?_
      refine P_iload (pc := 895) dL_law__895 rfl ?_
      refine P_bipush (v := (6 : Int32)) (pc := 897) dL_law__897 (by decide) ?_
      refine P_iadd (pc := 899) dL_law__899 ?_
      obtain ⟨n9, f9, e9, i9, k⟩ := k
      refine P_sld (pc := 900) dL_law__900 e9 i9 ?_
      clear e9
      generalize f9 (Int32.toNatClampNeg (l4 + (6 : Int32))) = x183 at k ⊢
      refine P_aload_n (pc := 901) dL_law__901 rfl ?_
      refine P_iload (pc := 902) dL_law__902 rfl ?_
      refine P_bipush (v := (7 : Int32)) (pc := 904) dL_law__904 (by decide) ?_
      refine P_iadd (pc := 906) dL_law__906 ?_
      obtain ⟨n9, f9, e9, i9, k⟩ := k
      refine P_sld (pc := 907) dL_law__907 e9 i9 ?_
      clear e9
      generalize f9 (Int32.toNatClampNeg (l4 + (7 : Int32))) = x184 at k ⊢
      refine P_aload_n (pc := 908) dL_law__908 rfl ?_
      refine P_iload (pc := 909) dL_law__909 rfl ?_
      refine P_bipush (v := (8 : Int32)) (pc := 911) dL_law__911 (by decide) ?_
      refine P_iadd (pc := 913) dL_law__913 ?_
      obtain ⟨n9, f9, e9, i9, k⟩ := k
      refine P_sld (pc := 914) dL_law__914 e9 i9 ?_
      clear e9
      generalize f9 (Int32.toNatClampNeg (l4 + (8 : Int32))) = x185 at k ⊢
      refine P_aload_n (pc := 915) dL_law__915 rfl ?_
      refine P_iload (pc := 916) dL_law__916 rfl ?_
      refine P_bipush (v := (9 : Int32)) (pc := 918) dL_law__918 (by decide) ?_
      refine P_iadd (pc := 920) dL_law__920 ?_
      obtain ⟨n9, f9, e9, i9, k⟩ := k
      refine P_sld (pc := 921) dL_law__921 e9 i9 ?_
      clear e9
      generalize f9 (Int32.toNatClampNeg (l4 + (9 : Int32))) = x186 at k ⊢
      refine P_aload_n (pc := 922) dL_law__922 rfl ?_
      obtain ⟨d2, nc, ns, rc188, rs189, Qc, g1, rfl, rfl, g2, kk, kx⟩ := k
      refine P_callSX (As := [vR (900, l1), vI x178, vI x179, vI x180, vI x181, vI x182, vI x183, vI x184, vI x185, vI x186, vR l3]) (st := []) (pc := 923) dL_law__923 mk_L_would l_L_166 st_L_would ini_L rfl g1 (Nat.le_of_ble_eq_true rfl) rfl g2 (fun v9 h9 q9 => ?_) (fun E h9 q9 => PX_out rfl (kx E h9 q9))
      obtain ⟨x190, rfl, k⟩ := kk v9 h9 q9
      clear kk kx g1 g2 q9
      refine P_istore (pc := 926) dL_law__926 (by decide) (Or.inr (by intro z e9; cases e9)) rfl ?_
      refine P_aload_n (pc := 928) dL_law__928 rfl ?_
      refine P_aload_n (pc := 929) dL_law__929 rfl ?_
      refine P_iload (pc := 930) dL_law__930 rfl ?_
      refine P_iconst (v := (1 : Int32)) (pc := 932) dL_law__932 (by decide) ?_
      refine P_iadd (pc := 933) dL_law__933 ?_
      obtain ⟨n9, f9, e9, i9, k⟩ := k
      refine P_sld (pc := 934) dL_law__934 e9 i9 ?_
      clear e9
      generalize f9 (Int32.toNatClampNeg (l4 + (1 : Int32))) = x191 at k ⊢
      refine P_aload_n (pc := 935) dL_law__935 rfl ?_
      refine P_iload (pc := 936) dL_law__936 rfl ?_
      refine P_iconst (v := (2 : Int32)) (pc := 938) dL_law__938 (by decide) ?_
      refine P_iadd (pc := 939) dL_law__939 ?_
      obtain ⟨n9, f9, e9, i9, k⟩ := k
      refine P_sld (pc := 940) dL_law__940 e9 i9 ?_
      clear e9
      generalize f9 (Int32.toNatClampNeg (l4 + (2 : Int32))) = x192 at k ⊢
      refine P_aload_n (pc := 941) dL_law__941 rfl ?_
      refine P_iload (pc := 942) dL_law__942 rfl ?_
      refine P_iconst (v := (3 : Int32)) (pc := 944) dL_law__944 (by decide) ?_
      refine P_iadd (pc := 945) dL_law__945 ?_
      obtain ⟨n9, f9, e9, i9, k⟩ := k
      refine P_sld (pc := 946) dL_law__946 e9 i9 ?_
      clear e9
      generalize f9 (Int32.toNatClampNeg (l4 + (3 : Int32))) = x193 at k ⊢
      refine P_aload_n (pc := 947) dL_law__947 rfl ?_
      refine P_iload (pc := 948) dL_law__948 rfl ?_
      refine P_iconst (v := (4 : Int32)) (pc := 950) dL_law__950 (by decide) ?_
      refine P_iadd (pc := 951) dL_law__951 ?_
      obtain ⟨n9, f9, e9, i9, k⟩ := k
      refine P_sld (pc := 952) dL_law__952 e9 i9 ?_
      clear e9
      generalize f9 (Int32.toNatClampNeg (l4 + (4 : Int32))) = x194 at k ⊢
      refine P_aload_n (pc := 953) dL_law__953 rfl ?_
      refine P_iload (pc := 954) dL_law__954 rfl ?_
      refine P_iconst (v := (5 : Int32)) (pc := 956) dL_law__956 (by decide) ?_
      refine P_iadd (pc := 957) dL_law__957 ?_
      obtain ⟨n9, f9, e9, i9, k⟩ := k
      refine P_sld (pc := 958) dL_law__958 e9 i9 ?_
      clear e9
      generalize f9 (Int32.toNatClampNeg (l4 + (5 : Int32))) = x195 at k ⊢
      refine P_aload_n (pc := 959) dL_law__959 rfl ?_
      refine P_iload (pc := 960) dL_law__960 rfl ?_
      refine P_bipush (v := (6 : Int32)) (pc := 962) dL_law__962 (by decide) ?_
      refine P_iadd (pc := 964) dL_law__964 ?_
      obtain ⟨n9, f9, e9, i9, k⟩ := k
      refine P_sld (pc := 965) dL_law__965 e9 i9 ?_
      clear e9
      generalize f9 (Int32.toNatClampNeg (l4 + (6 : Int32))) = x196 at k ⊢
      refine P_aload_n (pc := 966) dL_law__966 rfl ?_
      refine P_iload (pc := 967) dL_law__967 rfl ?_
      refine P_bipush (v := (7 : Int32)) (pc := 969) dL_law__969 (by decide) ?_
      refine P_iadd (pc := 971) dL_law__971 ?_
      obtain ⟨n9, f9, e9, i9, k⟩ := k
      refine P_sld (pc := 972) dL_law__972 e9 i9 ?_
      clear e9
      generalize f9 (Int32.toNatClampNeg (l4 + (7 : Int32))) = x197 at k ⊢
      refine P_aload_n (pc := 973) dL_law__973 rfl ?_
      refine P_iload (pc := 974) dL_law__974 rfl ?_
      refine P_bipush (v := (8 : Int32)) (pc := 976) dL_law__976 (by decide) ?_
      refine P_iadd (pc := 978) dL_law__978 ?_
      obtain ⟨n9, f9, e9, i9, k⟩ := k
      refine P_sld (pc := 979) dL_law__979 e9 i9 ?_
      clear e9
      generalize f9 (Int32.toNatClampNeg (l4 + (8 : Int32))) = x198 at k ⊢
      refine P_aload_n (pc := 980) dL_law__980 rfl ?_
      refine P_iload (pc := 981) dL_law__981 rfl ?_
      refine P_bipush (v := (9 : Int32)) (pc := 983) dL_law__983 (by decide) ?_
      refine P_iadd (pc := 985) dL_law__985 ?_
      obtain ⟨n9, f9, e9, i9, k⟩ := k
      refine P_sld (pc := 986) dL_law__986 e9 i9 ?_
      clear e9
      generalize f9 (Int32.toNatClampNeg (l4 + (9 : Int32))) = x199 at k ⊢
      obtain ⟨⟨w9, e9⟩, d2, nc, ns, rc201, rs202, Qc, g1, rfl, rfl, g2, kk, kx⟩ := k
      refine P_callV (ci := 10) (k := 0) (id := l2) (q := (RX10, TX10, 55)) (As := [vI x191, vI x192, vI x193, vI x194, vI x195, vI x196, vI x197, vI x198, vI x199]) (st := []) (pc := 987) dL_law__987 mk_X10_would l_L_169 im_X10_would se_X10_would ini_X10 rfl g1 (Nat.le_of_ble_eq_true rfl) rfl rfl (by decide) e9 rfl g2 (fun v9 h9 q9 => ?_) (fun E h9 q9 => PX_out rfl (kx E h9 q9))
      obtain ⟨x203, rfl, k⟩ := kk v9 h9 q9
      clear kk kx g1 g2 q9
      refine P_istore (pc := 990) dL_law__990 (by decide) (Or.inr (by intro z e9; cases e9)) rfl ?_
      refine P_aload_n (pc := 992) dL_law__992 rfl ?_
      obtain ⟨⟨w9, e9⟩, d2, nc, ns, rc205, rs206, Qc, g1, rfl, rfl, g2, kk, kx⟩ := k
      refine P_callV (ci := 10) (k := 0) (id := l2) (q := (RX10, TX10, 55)) (As := []) (st := []) (pc := 993) dL_law__993 mk_X10_thrown l_L_129 im_X10_thrown se_X10_thrown ini_X10 rfl g1 (Nat.le_of_ble_eq_true rfl) rfl rfl (by decide) e9 rfl g2 (fun v9 h9 q9 => ?_) (fun E h9 q9 => PX_out rfl (kx E h9 q9))
      obtain ⟨x207, rfl, k⟩ := kk v9 h9 q9
      clear kk kx g1 g2 q9
      refine P_iload (pc := 996) dL_law__996 rfl ?_
      refine P_icmp_eq (tgt := 1003) (pc := 998) dL_law__998 (by decide) (fun c => ?_) (fun c => ?_)
      · have k := k.1 c
        refine P_iload (pc := 1003) dL_law__1003 rfl ?_
        refine P_if_ne (tgt := 1020) (pc := 1005) dL_law__1005 (by decide) (fun c => ?_) (fun c => ?_)
        · have k := k.2 c
          refine P_goto (tgt := 2586) (pc := 1020) dL_law__1020 (by decide) ?_
          refine P_iinc (v := l4 + (10 : Int32)) (pc := 2586) dL_law__2586 (by decide) rfl rfl (Or.inr (by intro z e9; cases e9)) rfl ?_
          refine P_goto (tgt := 23) (pc := 2589) dL_law__2589 (by decide) ?_
          exact P_drop (ls2 := [vR (1201, 0), vR (900, l1), vR (1000, l2), vR l3, vI (l4 + (10 : Int32)), vU, vU]) (ls := [vR (1201, 0), vR (900, l1), vR (1000, l2), vR l3, vI (l4 + (10 : Int32)), vI x190, vI x203]) ⟨Or.inr rfl, ⟨Or.inr rfl, ⟨Or.inr rfl, ⟨Or.inr rfl, ⟨Or.inr rfl, ⟨Or.inl rfl, ⟨Or.inl rfl, trivial⟩⟩⟩⟩⟩⟩⟩ k
        · have k := k.1 c
          refine P_aload_n (pc := 1008) dL_law__1008 rfl ?_
          refine P_iconst (v := (0 : Int32)) (pc := 1009) dL_law__1009 (by decide) ?_
          obtain ⟨n9, f9, e9, i9, k⟩ := k
          refine P_lald (pc := 1010) dL_law__1010 e9 i9 ?_
          clear e9
          generalize f9 (Int32.toNatClampNeg (0 : Int32)) = x208 at k ⊢
          refine P_iload (pc := 1011) dL_law__1011 rfl ?_
          refine P_i2l (pc := 1013) dL_law__1013 ?_
          refine P_lcmp (pc := 1014) dL_law__1014 ?_
          refine P_if_eq (tgt := 1020) (pc := 1015) dL_law__1015 (by decide) (fun c => ?_) (fun c => ?_)
          · have k := k.1 c
            refine P_goto (tgt := 2586) (pc := 1020) dL_law__1020 (by decide) ?_
            refine P_iinc (v := l4 + (10 : Int32)) (pc := 2586) dL_law__2586 (by decide) rfl rfl (Or.inr (by intro z e9; cases e9)) rfl ?_
            refine P_goto (tgt := 23) (pc := 2589) dL_law__2589 (by decide) ?_
            exact P_drop (ls2 := [vR (1201, 0), vR (900, l1), vR (1000, l2), vR l3, vI (l4 + (10 : Int32)), vU, vU]) (ls := [vR (1201, 0), vR (900, l1), vR (1000, l2), vR l3, vI (l4 + (10 : Int32)), vI x190, vI x203]) ⟨Or.inr rfl, ⟨Or.inr rfl, ⟨Or.inr rfl, ⟨Or.inr rfl, ⟨Or.inr rfl, ⟨Or.inl rfl, ⟨Or.inl rfl, trivial⟩⟩⟩⟩⟩⟩⟩ k
          · have k := k.2 c
            refine P_iconst (v := (0 : Int32)) (pc := 1018) dL_law__1018 (by decide) ?_
            exact R_ireturn (pc := 1019) dL_law__1019 rfl rfl k
      · have k := k.2 c
        refine P_iconst (v := (0 : Int32)) (pc := 1001) dL_law__1001 (by decide) ?_
        exact R_ireturn (pc := 1002) dL_law__1002 rfl rfl k
    replace k := k.2
    by_cases c13 : (x2 &&& (63 : Int32)) = (13 : Int32)
    · replace k := k.1 c13
      refine P_tableIn (pc := 40) (tgt := 1023) dL_law__40 (by rw [c13]; decide) (by rw [c13]; decide) (by rw [c13] <;> rfl) (by decide) ?_
      refine P_aload_n (pc := 1023) dL_law__1023 rfl ?_
      refine P_aload_n (pc := 1024) dL_law__1024 rfl ?_
      refine P_iload (pc := 1025) dL_law__1025 rfl ?_
      refine P_iconst (v := (1 : Int32)) (pc := 1027) dL_law__1027 (by decide) ?_
      refine P_iadd (pc := 1028) dL_law__1028 ?_
      obtain ⟨n9, f9, e9, i9, k⟩ := k
      refine P_sld (pc := 1029) dL_law__1029 e9 i9 ?_
      clear e9
      generalize f9 (Int32.toNatClampNeg (l4 + (1 : Int32))) = x209 at k ⊢
      refine P_aload_n (pc := 1030) dL_law__1030 rfl ?_
      obtain ⟨d2, nc, ns, rc211, rs212, Qc, g1, rfl, rfl, g2, kk, kx⟩ := k
      refine P_callSX (As := [vR (900, l1), vI x209, vR l3]) (st := []) (pc := 1031) dL_law__1031 mk_L_rank l_L_170 st_L_rank ini_L rfl g1 (Nat.le_of_ble_eq_true rfl) rfl g2 (fun v9 h9 q9 => ?_) (fun E h9 q9 => PX_out rfl (kx E h9 q9))
      obtain ⟨x213, rfl, k⟩ := kk v9 h9 q9
      clear kk kx g1 g2 q9
      refine P_istore (pc := 1034) dL_law__1034 (by decide) (Or.inr (by intro z e9; cases e9)) rfl ?_
      refine P_aload_n (pc := 1036) dL_law__1036 rfl ?_
      refine P_aload_n (pc := 1037) dL_law__1037 rfl ?_
      refine P_iload (pc := 1038) dL_law__1038 rfl ?_
      refine P_iconst (v := (1 : Int32)) (pc := 1040) dL_law__1040 (by decide) ?_
      refine P_iadd (pc := 1041) dL_law__1041 ?_
      obtain ⟨n9, f9, e9, i9, k⟩ := k
      refine P_sld (pc := 1042) dL_law__1042 e9 i9 ?_
      clear e9
      generalize f9 (Int32.toNatClampNeg (l4 + (1 : Int32))) = x214 at k ⊢
      obtain ⟨⟨w9, e9⟩, d2, nc, ns, rc216, rs217, Qc, g1, rfl, rfl, g2, kk, kx⟩ := k
      refine P_callV (ci := 10) (k := 0) (id := l2) (q := (RX10, TX10, 55)) (As := [vI x214]) (st := []) (pc := 1043) dL_law__1043 mk_X10_rank l_L_172 im_X10_rank se_X10_rank ini_X10 rfl g1 (Nat.le_of_ble_eq_true rfl) rfl rfl (by decide) e9 rfl g2 (fun v9 h9 q9 => ?_) (fun E h9 q9 => PX_out rfl (kx E h9 q9))
      obtain ⟨x218, rfl, k⟩ := kk v9 h9 q9
      clear kk kx g1 g2 q9
      refine P_istore (pc := 1046) dL_law__1046 (by decide) (Or.inr (by intro z e9; cases e9)) rfl ?_
      refine P_aload_n (pc := 1048) dL_law__1048 rfl ?_
      obtain ⟨⟨w9, e9⟩, d2, nc, ns, rc220, rs221, Qc, g1, rfl, rfl, g2, kk, kx⟩ := k
      refine P_callV (ci := 10) (k := 0) (id := l2) (q := (RX10, TX10, 55)) (As := []) (st := []) (pc := 1049) dL_law__1049 mk_X10_thrown l_L_129 im_X10_thrown se_X10_thrown ini_X10 rfl g1 (Nat.le_of_ble_eq_true rfl) rfl rfl (by decide) e9 rfl g2 (fun v9 h9 q9 => ?_) (fun E h9 q9 => PX_out rfl (kx E h9 q9))
      obtain ⟨x222, rfl, k⟩ := kk v9 h9 q9
      clear kk kx g1 g2 q9
      refine P_iload (pc := 1052) dL_law__1052 rfl ?_
      refine P_icmp_eq (tgt := 1059) (pc := 1054) dL_law__1054 (by decide) (fun c => ?_) (fun c => ?_)
      · have k := k.1 c
        refine P_iload (pc := 1059) dL_law__1059 rfl ?_
        refine P_if_ne (tgt := 1076) (pc := 1061) dL_law__1061 (by decide) (fun c => ?_) (fun c => ?_)
        · have k := k.2 c
          refine P_goto (tgt := 2586) (pc := 1076) dL_law__1076 (by decide) ?_
          refine P_iinc (v := l4 + (10 : Int32)) (pc := 2586) dL_law__2586 (by decide) rfl rfl (Or.inr (by intro z e9; cases e9)) rfl ?_
          refine P_goto (tgt := 23) (pc := 2589) dL_law__2589 (by decide) ?_
          exact P_drop (ls2 := [vR (1201, 0), vR (900, l1), vR (1000, l2), vR l3, vI (l4 + (10 : Int32)), vU, vU]) (ls := [vR (1201, 0), vR (900, l1), vR (1000, l2), vR l3, vI (l4 + (10 : Int32)), vI x213, vI x218]) ⟨Or.inr rfl, ⟨Or.inr rfl, ⟨Or.inr rfl, ⟨Or.inr rfl, ⟨Or.inr rfl, ⟨Or.inl rfl, ⟨Or.inl rfl, trivial⟩⟩⟩⟩⟩⟩⟩ k
        · have k := k.1 c
          refine P_aload_n (pc := 1064) dL_law__1064 rfl ?_
          refine P_iconst (v := (0 : Int32)) (pc := 1065) dL_law__1065 (by decide) ?_
          obtain ⟨n9, f9, e9, i9, k⟩ := k
          refine P_lald (pc := 1066) dL_law__1066 e9 i9 ?_
          clear e9
          generalize f9 (Int32.toNatClampNeg (0 : Int32)) = x223 at k ⊢
          refine P_iload (pc := 1067) dL_law__1067 rfl ?_
          refine P_i2l (pc := 1069) dL_law__1069 ?_
          refine P_lcmp (pc := 1070) dL_law__1070 ?_
          refine P_if_eq (tgt := 1076) (pc := 1071) dL_law__1071 (by decide) (fun c => ?_) (fun c => ?_)
          · have k := k.1 c
            refine P_goto (tgt := 2586) (pc := 1076) dL_law__1076 (by decide) ?_
            refine P_iinc (v := l4 + (10 : Int32)) (pc := 2586) dL_law__2586 (by decide) rfl rfl (Or.inr (by intro z e9; cases e9)) rfl ?_
            refine P_goto (tgt := 23) (pc := 2589) dL_law__2589 (by decide) ?_
            exact P_drop (ls2 := [vR (1201, 0), vR (900, l1), vR (1000, l2), vR l3, vI (l4 + (10 : Int32)), vU, vU]) (ls := [vR (1201, 0), vR (900, l1), vR (1000, l2), vR l3, vI (l4 + (10 : Int32)), vI x213, vI x218]) ⟨Or.inr rfl, ⟨Or.inr rfl, ⟨Or.inr rfl, ⟨Or.inr rfl, ⟨Or.inr rfl, ⟨Or.inl rfl, ⟨Or.inl rfl, trivial⟩⟩⟩⟩⟩⟩⟩ k
          · have k := k.2 c
            refine P_iconst (v := (0 : Int32)) (pc := 1074) dL_law__1074 (by decide) ?_
            exact R_ireturn (pc := 1075) dL_law__1075 rfl rfl k
      · have k := k.2 c
        refine P_iconst (v := (0 : Int32)) (pc := 1057) dL_law__1057 (by decide) ?_
        exact R_ireturn (pc := 1058) dL_law__1058 rfl rfl k
    replace k := k.2
    by_cases c14 : (x2 &&& (63 : Int32)) = (14 : Int32)
    · replace k := k.1 c14
      refine P_tableIn (pc := 40) (tgt := 1079) dL_law__40 (by rw [c14]; decide) (by rw [c14]; decide) (by rw [c14] <;> rfl) (by decide) ?_
      refine P_aload_n (pc := 1079) dL_law__1079 rfl ?_
      refine P_aload_n (pc := 1080) dL_law__1080 rfl ?_
      refine P_iload (pc := 1081) dL_law__1081 rfl ?_
      refine P_iconst (v := (1 : Int32)) (pc := 1083) dL_law__1083 (by decide) ?_
      refine P_iadd (pc := 1084) dL_law__1084 ?_
      obtain ⟨n9, f9, e9, i9, k⟩ := k
      refine P_sld (pc := 1085) dL_law__1085 e9 i9 ?_
      clear e9
      generalize f9 (Int32.toNatClampNeg (l4 + (1 : Int32))) = x224 at k ⊢
      refine P_aload_n (pc := 1086) dL_law__1086 rfl ?_
      refine P_iload (pc := 1087) dL_law__1087 rfl ?_
      refine P_iconst (v := (2 : Int32)) (pc := 1089) dL_law__1089 (by decide) ?_
      refine P_iadd (pc := 1090) dL_law__1090 ?_
      obtain ⟨n9, f9, e9, i9, k⟩ := k
      refine P_sld (pc := 1091) dL_law__1091 e9 i9 ?_
      clear e9
      generalize f9 (Int32.toNatClampNeg (l4 + (2 : Int32))) = x225 at k ⊢
      refine P_aload_n (pc := 1092) dL_law__1092 rfl ?_
      obtain ⟨d2, nc, ns, rc227, rs228, Qc, g1, rfl, rfl, g2, kk, kx⟩ := k
      refine P_callSX (As := [vR (900, l1), vI x224, vI x225, vR l3]) (st := []) (pc := 1093) dL_law__1093 mk_L_ahead l_L_173 st_L_ahead ini_L rfl g1 (Nat.le_of_ble_eq_true rfl) rfl g2 (fun v9 h9 q9 => ?_) (fun E h9 q9 => PX_out rfl (kx E h9 q9))
      obtain ⟨x229, rfl, k⟩ := kk v9 h9 q9
      clear kk kx g1 g2 q9
      refine P_istore (pc := 1096) dL_law__1096 (by decide) (Or.inr (by intro z e9; cases e9)) rfl ?_
      refine P_aload_n (pc := 1098) dL_law__1098 rfl ?_
      refine P_aload_n (pc := 1099) dL_law__1099 rfl ?_
      refine P_iload (pc := 1100) dL_law__1100 rfl ?_
      refine P_iconst (v := (1 : Int32)) (pc := 1102) dL_law__1102 (by decide) ?_
      refine P_iadd (pc := 1103) dL_law__1103 ?_
      obtain ⟨n9, f9, e9, i9, k⟩ := k
      refine P_sld (pc := 1104) dL_law__1104 e9 i9 ?_
      clear e9
      generalize f9 (Int32.toNatClampNeg (l4 + (1 : Int32))) = x230 at k ⊢
      refine P_aload_n (pc := 1105) dL_law__1105 rfl ?_
      refine P_iload (pc := 1106) dL_law__1106 rfl ?_
      refine P_iconst (v := (2 : Int32)) (pc := 1108) dL_law__1108 (by decide) ?_
      refine P_iadd (pc := 1109) dL_law__1109 ?_
      obtain ⟨n9, f9, e9, i9, k⟩ := k
      refine P_sld (pc := 1110) dL_law__1110 e9 i9 ?_
      clear e9
      generalize f9 (Int32.toNatClampNeg (l4 + (2 : Int32))) = x231 at k ⊢
      obtain ⟨⟨w9, e9⟩, d2, nc, ns, rc233, rs234, Qc, g1, rfl, rfl, g2, kk, kx⟩ := k
      refine P_callV (ci := 10) (k := 0) (id := l2) (q := (RX10, TX10, 55)) (As := [vI x230, vI x231]) (st := []) (pc := 1111) dL_law__1111 mk_X10_ahead l_L_175 im_X10_ahead se_X10_ahead ini_X10 rfl g1 (Nat.le_of_ble_eq_true rfl) rfl rfl (by decide) e9 rfl g2 (fun v9 h9 q9 => ?_) (fun E h9 q9 => PX_out rfl (kx E h9 q9))
      obtain ⟨x235, rfl, k⟩ := kk v9 h9 q9
      clear kk kx g1 g2 q9
      refine P_istore (pc := 1114) dL_law__1114 (by decide) (Or.inr (by intro z e9; cases e9)) rfl ?_
      refine P_aload_n (pc := 1116) dL_law__1116 rfl ?_
      obtain ⟨⟨w9, e9⟩, d2, nc, ns, rc237, rs238, Qc, g1, rfl, rfl, g2, kk, kx⟩ := k
      refine P_callV (ci := 10) (k := 0) (id := l2) (q := (RX10, TX10, 55)) (As := []) (st := []) (pc := 1117) dL_law__1117 mk_X10_thrown l_L_129 im_X10_thrown se_X10_thrown ini_X10 rfl g1 (Nat.le_of_ble_eq_true rfl) rfl rfl (by decide) e9 rfl g2 (fun v9 h9 q9 => ?_) (fun E h9 q9 => PX_out rfl (kx E h9 q9))
      obtain ⟨x239, rfl, k⟩ := kk v9 h9 q9
      clear kk kx g1 g2 q9
      refine P_iload (pc := 1120) dL_law__1120 rfl ?_
      refine P_icmp_eq (tgt := 1127) (pc := 1122) dL_law__1122 (by decide) (fun c => ?_) (fun c => ?_)
      · have k := k.1 c
        refine P_iload (pc := 1127) dL_law__1127 rfl ?_
        refine P_if_ne (tgt := 1144) (pc := 1129) dL_law__1129 (by decide) (fun c => ?_) (fun c => ?_)
        · have k := k.2 c
          refine P_goto (tgt := 2586) (pc := 1144) dL_law__1144 (by decide) ?_
          refine P_iinc (v := l4 + (10 : Int32)) (pc := 2586) dL_law__2586 (by decide) rfl rfl (Or.inr (by intro z e9; cases e9)) rfl ?_
          refine P_goto (tgt := 23) (pc := 2589) dL_law__2589 (by decide) ?_
          exact P_drop (ls2 := [vR (1201, 0), vR (900, l1), vR (1000, l2), vR l3, vI (l4 + (10 : Int32)), vU, vU]) (ls := [vR (1201, 0), vR (900, l1), vR (1000, l2), vR l3, vI (l4 + (10 : Int32)), vI x229, vI x235]) ⟨Or.inr rfl, ⟨Or.inr rfl, ⟨Or.inr rfl, ⟨Or.inr rfl, ⟨Or.inr rfl, ⟨Or.inl rfl, ⟨Or.inl rfl, trivial⟩⟩⟩⟩⟩⟩⟩ k
        · have k := k.1 c
          refine P_aload_n (pc := 1132) dL_law__1132 rfl ?_
          refine P_iconst (v := (0 : Int32)) (pc := 1133) dL_law__1133 (by decide) ?_
          obtain ⟨n9, f9, e9, i9, k⟩ := k
          refine P_lald (pc := 1134) dL_law__1134 e9 i9 ?_
          clear e9
          generalize f9 (Int32.toNatClampNeg (0 : Int32)) = x240 at k ⊢
          refine P_iload (pc := 1135) dL_law__1135 rfl ?_
          refine P_i2l (pc := 1137) dL_law__1137 ?_
          refine P_lcmp (pc := 1138) dL_law__1138 ?_
          refine P_if_eq (tgt := 1144) (pc := 1139) dL_law__1139 (by decide) (fun c => ?_) (fun c => ?_)
          · have k := k.1 c
            refine P_goto (tgt := 2586) (pc := 1144) dL_law__1144 (by decide) ?_
            refine P_iinc (v := l4 + (10 : Int32)) (pc := 2586) dL_law__2586 (by decide) rfl rfl (Or.inr (by intro z e9; cases e9)) rfl ?_
            refine P_goto (tgt := 23) (pc := 2589) dL_law__2589 (by decide) ?_
            exact P_drop (ls2 := [vR (1201, 0), vR (900, l1), vR (1000, l2), vR l3, vI (l4 + (10 : Int32)), vU, vU]) (ls := [vR (1201, 0), vR (900, l1), vR (1000, l2), vR l3, vI (l4 + (10 : Int32)), vI x229, vI x235]) ⟨Or.inr rfl, ⟨Or.inr rfl, ⟨Or.inr rfl, ⟨Or.inr rfl, ⟨Or.inr rfl, ⟨Or.inl rfl, ⟨Or.inl rfl, trivial⟩⟩⟩⟩⟩⟩⟩ k
          · have k := k.2 c
            refine P_iconst (v := (0 : Int32)) (pc := 1142) dL_law__1142 (by decide) ?_
            exact R_ireturn (pc := 1143) dL_law__1143 rfl rfl k
      · have k := k.2 c
        refine P_iconst (v := (0 : Int32)) (pc := 1125) dL_law__1125 (by decide) ?_
        exact R_ireturn (pc := 1126) dL_law__1126 rfl rfl k
    replace k := k.2
    by_cases c15 : (x2 &&& (63 : Int32)) = (15 : Int32)
    · replace k := k.1 c15
      refine P_tableIn (pc := 40) (tgt := 1147) dL_law__40 (by rw [c15]; decide) (by rw [c15]; decide) (by rw [c15] <;> rfl) (by decide) ?_
      refine P_aload_n (pc := 1147) dL_law__1147 rfl ?_
      refine P_aload_n (pc := 1148) dL_law__1148 rfl ?_
      refine P_iload (pc := 1149) dL_law__1149 rfl ?_
      refine P_iconst (v := (1 : Int32)) (pc := 1151) dL_law__1151 (by decide) ?_
      refine P_iadd (pc := 1152) dL_law__1152 ?_
      obtain ⟨n9, f9, e9, i9, k⟩ := k
      refine P_sld (pc := 1153) dL_law__1153 e9 i9 ?_
      clear e9
      generalize f9 (Int32.toNatClampNeg (l4 + (1 : Int32))) = x241 at k ⊢
      refine P_aload_n (pc := 1154) dL_law__1154 rfl ?_
      obtain ⟨d2, nc, ns, rc243, rs244, Qc, g1, rfl, rfl, g2, kk, kx⟩ := k
      refine P_callSX (As := [vR (900, l1), vI x241, vR l3]) (st := []) (pc := 1155) dL_law__1155 mk_L_clouds l_L_176 st_L_clouds ini_L rfl g1 (Nat.le_of_ble_eq_true rfl) rfl g2 (fun v9 h9 q9 => ?_) (fun E h9 q9 => PX_out rfl (kx E h9 q9))
      obtain ⟨x245, rfl, k⟩ := kk v9 h9 q9
      clear kk kx g1 g2 q9
      refine P_istore (pc := 1158) dL_law__1158 (by decide) (Or.inr (by intro z e9; cases e9)) rfl ?_
      refine P_aload_n (pc := 1160) dL_law__1160 rfl ?_
      refine P_aload_n (pc := 1161) dL_law__1161 rfl ?_
      refine P_iload (pc := 1162) dL_law__1162 rfl ?_
      refine P_iconst (v := (1 : Int32)) (pc := 1164) dL_law__1164 (by decide) ?_
      refine P_iadd (pc := 1165) dL_law__1165 ?_
      obtain ⟨n9, f9, e9, i9, k⟩ := k
      refine P_sld (pc := 1166) dL_law__1166 e9 i9 ?_
      clear e9
      generalize f9 (Int32.toNatClampNeg (l4 + (1 : Int32))) = x246 at k ⊢
      obtain ⟨⟨w9, e9⟩, d2, nc, ns, rc248, rs249, Qc, g1, rfl, rfl, g2, kk, kx⟩ := k
      refine P_callV (ci := 10) (k := 0) (id := l2) (q := (RX10, TX10, 55)) (As := [vI x246]) (st := []) (pc := 1167) dL_law__1167 mk_X10_clouds l_L_178 im_X10_clouds se_X10_clouds ini_X10 rfl g1 (Nat.le_of_ble_eq_true rfl) rfl rfl (by decide) e9 rfl g2 (fun v9 h9 q9 => ?_) (fun E h9 q9 => PX_out rfl (kx E h9 q9))
      obtain ⟨x250, rfl, k⟩ := kk v9 h9 q9
      clear kk kx g1 g2 q9
      refine P_istore (pc := 1170) dL_law__1170 (by decide) (Or.inr (by intro z e9; cases e9)) rfl ?_
      refine P_aload_n (pc := 1172) dL_law__1172 rfl ?_
      obtain ⟨⟨w9, e9⟩, d2, nc, ns, rc252, rs253, Qc, g1, rfl, rfl, g2, kk, kx⟩ := k
      refine P_callV (ci := 10) (k := 0) (id := l2) (q := (RX10, TX10, 55)) (As := []) (st := []) (pc := 1173) dL_law__1173 mk_X10_thrown l_L_129 im_X10_thrown se_X10_thrown ini_X10 rfl g1 (Nat.le_of_ble_eq_true rfl) rfl rfl (by decide) e9 rfl g2 (fun v9 h9 q9 => ?_) (fun E h9 q9 => PX_out rfl (kx E h9 q9))
      obtain ⟨x254, rfl, k⟩ := kk v9 h9 q9
      clear kk kx g1 g2 q9
      refine P_iload (pc := 1176) dL_law__1176 rfl ?_
      refine P_icmp_eq (tgt := 1183) (pc := 1178) dL_law__1178 (by decide) (fun c => ?_) (fun c => ?_)
      · have k := k.1 c
        refine P_iload (pc := 1183) dL_law__1183 rfl ?_
        refine P_if_ne (tgt := 1200) (pc := 1185) dL_law__1185 (by decide) (fun c => ?_) (fun c => ?_)
        · have k := k.2 c
          refine P_goto (tgt := 2586) (pc := 1200) dL_law__1200 (by decide) ?_
          refine P_iinc (v := l4 + (10 : Int32)) (pc := 2586) dL_law__2586 (by decide) rfl rfl (Or.inr (by intro z e9; cases e9)) rfl ?_
          refine P_goto (tgt := 23) (pc := 2589) dL_law__2589 (by decide) ?_
          exact P_drop (ls2 := [vR (1201, 0), vR (900, l1), vR (1000, l2), vR l3, vI (l4 + (10 : Int32)), vU, vU]) (ls := [vR (1201, 0), vR (900, l1), vR (1000, l2), vR l3, vI (l4 + (10 : Int32)), vI x245, vI x250]) ⟨Or.inr rfl, ⟨Or.inr rfl, ⟨Or.inr rfl, ⟨Or.inr rfl, ⟨Or.inr rfl, ⟨Or.inl rfl, ⟨Or.inl rfl, trivial⟩⟩⟩⟩⟩⟩⟩ k
        · have k := k.1 c
          refine P_aload_n (pc := 1188) dL_law__1188 rfl ?_
          refine P_iconst (v := (0 : Int32)) (pc := 1189) dL_law__1189 (by decide) ?_
          obtain ⟨n9, f9, e9, i9, k⟩ := k
          refine P_lald (pc := 1190) dL_law__1190 e9 i9 ?_
          clear e9
          generalize f9 (Int32.toNatClampNeg (0 : Int32)) = x255 at k ⊢
          refine P_iload (pc := 1191) dL_law__1191 rfl ?_
          refine P_i2l (pc := 1193) dL_law__1193 ?_
          refine P_lcmp (pc := 1194) dL_law__1194 ?_
          refine P_if_eq (tgt := 1200) (pc := 1195) dL_law__1195 (by decide) (fun c => ?_) (fun c => ?_)
          · have k := k.1 c
            refine P_goto (tgt := 2586) (pc := 1200) dL_law__1200 (by decide) ?_
            refine P_iinc (v := l4 + (10 : Int32)) (pc := 2586) dL_law__2586 (by decide) rfl rfl (Or.inr (by intro z e9; cases e9)) rfl ?_
            refine P_goto (tgt := 23) (pc := 2589) dL_law__2589 (by decide) ?_
            exact P_drop (ls2 := [vR (1201, 0), vR (900, l1), vR (1000, l2), vR l3, vI (l4 + (10 : Int32)), vU, vU]) (ls := [vR (1201, 0), vR (900, l1), vR (1000, l2), vR l3, vI (l4 + (10 : Int32)), vI x245, vI x250]) ⟨Or.inr rfl, ⟨Or.inr rfl, ⟨Or.inr rfl, ⟨Or.inr rfl, ⟨Or.inr rfl, ⟨Or.inl rfl, ⟨Or.inl rfl, trivial⟩⟩⟩⟩⟩⟩⟩ k
          · have k := k.2 c
            refine P_iconst (v := (0 : Int32)) (pc := 1198) dL_law__1198 (by decide) ?_
            exact R_ireturn (pc := 1199) dL_law__1199 rfl rfl k
      · have k := k.2 c
        refine P_iconst (v := (0 : Int32)) (pc := 1181) dL_law__1181 (by decide) ?_
        exact R_ireturn (pc := 1182) dL_law__1182 rfl rfl k
    replace k := k.2
    by_cases c16 : (x2 &&& (63 : Int32)) = (16 : Int32)
    · replace k := k.1 c16
      refine P_tableIn (pc := 40) (tgt := 1203) dL_law__40 (by rw [c16]; decide) (by rw [c16]; decide) (by rw [c16] <;> rfl) (by decide) ?_
      refine P_aload_n (pc := 1203) dL_law__1203 rfl ?_
      refine P_aload_n (pc := 1204) dL_law__1204 rfl ?_
      refine P_iload (pc := 1205) dL_law__1205 rfl ?_
      refine P_iconst (v := (1 : Int32)) (pc := 1207) dL_law__1207 (by decide) ?_
      refine P_iadd (pc := 1208) dL_law__1208 ?_
      obtain ⟨n9, f9, e9, i9, k⟩ := k
      refine P_sld (pc := 1209) dL_law__1209 e9 i9 ?_
      clear e9
      generalize f9 (Int32.toNatClampNeg (l4 + (1 : Int32))) = x256 at k ⊢
      refine P_aload_n (pc := 1210) dL_law__1210 rfl ?_
      obtain ⟨d2, nc, ns, rc258, rs259, Qc, g1, rfl, rfl, g2, kk, kx⟩ := k
      refine P_callSX (As := [vR (900, l1), vI x256, vR l3]) (st := []) (pc := 1211) dL_law__1211 mk_L_wipes l_L_179 st_L_wipes ini_L rfl g1 (Nat.le_of_ble_eq_true rfl) rfl g2 (fun v9 h9 q9 => ?_) (fun E h9 q9 => PX_out rfl (kx E h9 q9))
      obtain ⟨x260, rfl, k⟩ := kk v9 h9 q9
      clear kk kx g1 g2 q9
      refine P_istore (pc := 1214) dL_law__1214 (by decide) (Or.inr (by intro z e9; cases e9)) rfl ?_
      refine P_aload_n (pc := 1216) dL_law__1216 rfl ?_
      refine P_aload_n (pc := 1217) dL_law__1217 rfl ?_
      refine P_iload (pc := 1218) dL_law__1218 rfl ?_
      refine P_iconst (v := (1 : Int32)) (pc := 1220) dL_law__1220 (by decide) ?_
      refine P_iadd (pc := 1221) dL_law__1221 ?_
      obtain ⟨n9, f9, e9, i9, k⟩ := k
      refine P_sld (pc := 1222) dL_law__1222 e9 i9 ?_
      clear e9
      generalize f9 (Int32.toNatClampNeg (l4 + (1 : Int32))) = x261 at k ⊢
      obtain ⟨⟨w9, e9⟩, d2, nc, ns, rc263, rs264, Qc, g1, rfl, rfl, g2, kk, kx⟩ := k
      refine P_callV (ci := 10) (k := 0) (id := l2) (q := (RX10, TX10, 55)) (As := [vI x261]) (st := []) (pc := 1223) dL_law__1223 mk_X10_wipes l_L_181 im_X10_wipes se_X10_wipes ini_X10 rfl g1 (Nat.le_of_ble_eq_true rfl) rfl rfl (by decide) e9 rfl g2 (fun v9 h9 q9 => ?_) (fun E h9 q9 => PX_out rfl (kx E h9 q9))
      obtain ⟨x265, rfl, k⟩ := kk v9 h9 q9
      clear kk kx g1 g2 q9
      refine P_istore (pc := 1226) dL_law__1226 (by decide) (Or.inr (by intro z e9; cases e9)) rfl ?_
      refine P_aload_n (pc := 1228) dL_law__1228 rfl ?_
      obtain ⟨⟨w9, e9⟩, d2, nc, ns, rc267, rs268, Qc, g1, rfl, rfl, g2, kk, kx⟩ := k
      refine P_callV (ci := 10) (k := 0) (id := l2) (q := (RX10, TX10, 55)) (As := []) (st := []) (pc := 1229) dL_law__1229 mk_X10_thrown l_L_129 im_X10_thrown se_X10_thrown ini_X10 rfl g1 (Nat.le_of_ble_eq_true rfl) rfl rfl (by decide) e9 rfl g2 (fun v9 h9 q9 => ?_) (fun E h9 q9 => PX_out rfl (kx E h9 q9))
      obtain ⟨x269, rfl, k⟩ := kk v9 h9 q9
      clear kk kx g1 g2 q9
      refine P_iload (pc := 1232) dL_law__1232 rfl ?_
      refine P_icmp_eq (tgt := 1239) (pc := 1234) dL_law__1234 (by decide) (fun c => ?_) (fun c => ?_)
      · have k := k.1 c
        refine P_iload (pc := 1239) dL_law__1239 rfl ?_
        refine P_if_ne (tgt := 1256) (pc := 1241) dL_law__1241 (by decide) (fun c => ?_) (fun c => ?_)
        · have k := k.2 c
          refine P_goto (tgt := 2586) (pc := 1256) dL_law__1256 (by decide) ?_
          refine P_iinc (v := l4 + (10 : Int32)) (pc := 2586) dL_law__2586 (by decide) rfl rfl (Or.inr (by intro z e9; cases e9)) rfl ?_
          refine P_goto (tgt := 23) (pc := 2589) dL_law__2589 (by decide) ?_
          exact P_drop (ls2 := [vR (1201, 0), vR (900, l1), vR (1000, l2), vR l3, vI (l4 + (10 : Int32)), vU, vU]) (ls := [vR (1201, 0), vR (900, l1), vR (1000, l2), vR l3, vI (l4 + (10 : Int32)), vI x260, vI x265]) ⟨Or.inr rfl, ⟨Or.inr rfl, ⟨Or.inr rfl, ⟨Or.inr rfl, ⟨Or.inr rfl, ⟨Or.inl rfl, ⟨Or.inl rfl, trivial⟩⟩⟩⟩⟩⟩⟩ k
        · have k := k.1 c
          refine P_aload_n (pc := 1244) dL_law__1244 rfl ?_
          refine P_iconst (v := (0 : Int32)) (pc := 1245) dL_law__1245 (by decide) ?_
          obtain ⟨n9, f9, e9, i9, k⟩ := k
          refine P_lald (pc := 1246) dL_law__1246 e9 i9 ?_
          clear e9
          generalize f9 (Int32.toNatClampNeg (0 : Int32)) = x270 at k ⊢
          refine P_iload (pc := 1247) dL_law__1247 rfl ?_
          refine P_i2l (pc := 1249) dL_law__1249 ?_
          refine P_lcmp (pc := 1250) dL_law__1250 ?_
          refine P_if_eq (tgt := 1256) (pc := 1251) dL_law__1251 (by decide) (fun c => ?_) (fun c => ?_)
          · have k := k.1 c
            refine P_goto (tgt := 2586) (pc := 1256) dL_law__1256 (by decide) ?_
            refine P_iinc (v := l4 + (10 : Int32)) (pc := 2586) dL_law__2586 (by decide) rfl rfl (Or.inr (by intro z e9; cases e9)) rfl ?_
            refine P_goto (tgt := 23) (pc := 2589) dL_law__2589 (by decide) ?_
            exact P_drop (ls2 := [vR (1201, 0), vR (900, l1), vR (1000, l2), vR l3, vI (l4 + (10 : Int32)), vU, vU]) (ls := [vR (1201, 0), vR (900, l1), vR (1000, l2), vR l3, vI (l4 + (10 : Int32)), vI x260, vI x265]) ⟨Or.inr rfl, ⟨Or.inr rfl, ⟨Or.inr rfl, ⟨Or.inr rfl, ⟨Or.inr rfl, ⟨Or.inl rfl, ⟨Or.inl rfl, trivial⟩⟩⟩⟩⟩⟩⟩ k
          · have k := k.2 c
            refine P_iconst (v := (0 : Int32)) (pc := 1254) dL_law__1254 (by decide) ?_
            exact R_ireturn (pc := 1255) dL_law__1255 rfl rfl k
      · have k := k.2 c
        refine P_iconst (v := (0 : Int32)) (pc := 1237) dL_law__1237 (by decide) ?_
        exact R_ireturn (pc := 1238) dL_law__1238 rfl rfl k
    replace k := k.2
    by_cases c17 : (x2 &&& (63 : Int32)) = (17 : Int32)
    · replace k := k.1 c17
      refine P_tableIn (pc := 40) (tgt := 1259) dL_law__40 (by rw [c17]; decide) (by rw [c17]; decide) (by rw [c17] <;> rfl) (by decide) ?_
      refine P_aload_n (pc := 1259) dL_law__1259 rfl ?_
      refine P_aload_n (pc := 1260) dL_law__1260 rfl ?_
      refine P_iload (pc := 1261) dL_law__1261 rfl ?_
      refine P_iconst (v := (1 : Int32)) (pc := 1263) dL_law__1263 (by decide) ?_
      refine P_iadd (pc := 1264) dL_law__1264 ?_
      obtain ⟨n9, f9, e9, i9, k⟩ := k
      refine P_sld (pc := 1265) dL_law__1265 e9 i9 ?_
      clear e9
      generalize f9 (Int32.toNatClampNeg (l4 + (1 : Int32))) = x271 at k ⊢
      refine P_aload_n (pc := 1266) dL_law__1266 rfl ?_
      obtain ⟨d2, nc, ns, rc273, rs274, Qc, g1, rfl, rfl, g2, kk, kx⟩ := k
      refine P_callSX (As := [vR (900, l1), vI x271, vR l3]) (st := []) (pc := 1267) dL_law__1267 mk_L_gasp l_L_182 st_L_gasp ini_L rfl g1 (Nat.le_of_ble_eq_true rfl) rfl g2 (fun v9 h9 q9 => ?_) (fun E h9 q9 => PX_out rfl (kx E h9 q9))
      obtain ⟨x275, rfl, k⟩ := kk v9 h9 q9
      clear kk kx g1 g2 q9
      refine P_istore (pc := 1270) dL_law__1270 (by decide) (Or.inr (by intro z e9; cases e9)) rfl ?_
      refine P_aload_n (pc := 1272) dL_law__1272 rfl ?_
      refine P_aload_n (pc := 1273) dL_law__1273 rfl ?_
      refine P_iload (pc := 1274) dL_law__1274 rfl ?_
      refine P_iconst (v := (1 : Int32)) (pc := 1276) dL_law__1276 (by decide) ?_
      refine P_iadd (pc := 1277) dL_law__1277 ?_
      obtain ⟨n9, f9, e9, i9, k⟩ := k
      refine P_sld (pc := 1278) dL_law__1278 e9 i9 ?_
      clear e9
      generalize f9 (Int32.toNatClampNeg (l4 + (1 : Int32))) = x276 at k ⊢
      obtain ⟨⟨w9, e9⟩, d2, nc, ns, rc278, rs279, Qc, g1, rfl, rfl, g2, kk, kx⟩ := k
      refine P_callV (ci := 10) (k := 0) (id := l2) (q := (RX10, TX10, 55)) (As := [vI x276]) (st := []) (pc := 1279) dL_law__1279 mk_X10_gasp l_L_184 im_X10_gasp se_X10_gasp ini_X10 rfl g1 (Nat.le_of_ble_eq_true rfl) rfl rfl (by decide) e9 rfl g2 (fun v9 h9 q9 => ?_) (fun E h9 q9 => PX_out rfl (kx E h9 q9))
      obtain ⟨x280, rfl, k⟩ := kk v9 h9 q9
      clear kk kx g1 g2 q9
      refine P_istore (pc := 1282) dL_law__1282 (by decide) (Or.inr (by intro z e9; cases e9)) rfl ?_
      refine P_aload_n (pc := 1284) dL_law__1284 rfl ?_
      obtain ⟨⟨w9, e9⟩, d2, nc, ns, rc282, rs283, Qc, g1, rfl, rfl, g2, kk, kx⟩ := k
      refine P_callV (ci := 10) (k := 0) (id := l2) (q := (RX10, TX10, 55)) (As := []) (st := []) (pc := 1285) dL_law__1285 mk_X10_thrown l_L_129 im_X10_thrown se_X10_thrown ini_X10 rfl g1 (Nat.le_of_ble_eq_true rfl) rfl rfl (by decide) e9 rfl g2 (fun v9 h9 q9 => ?_) (fun E h9 q9 => PX_out rfl (kx E h9 q9))
      obtain ⟨x284, rfl, k⟩ := kk v9 h9 q9
      clear kk kx g1 g2 q9
      refine P_iload (pc := 1288) dL_law__1288 rfl ?_
      refine P_icmp_eq (tgt := 1295) (pc := 1290) dL_law__1290 (by decide) (fun c => ?_) (fun c => ?_)
      · have k := k.1 c
        refine P_iload (pc := 1295) dL_law__1295 rfl ?_
        refine P_if_ne (tgt := 1312) (pc := 1297) dL_law__1297 (by decide) (fun c => ?_) (fun c => ?_)
        · have k := k.2 c
          refine P_goto (tgt := 2586) (pc := 1312) dL_law__1312 (by decide) ?_
          refine P_iinc (v := l4 + (10 : Int32)) (pc := 2586) dL_law__2586 (by decide) rfl rfl (Or.inr (by intro z e9; cases e9)) rfl ?_
          refine P_goto (tgt := 23) (pc := 2589) dL_law__2589 (by decide) ?_
          exact P_drop (ls2 := [vR (1201, 0), vR (900, l1), vR (1000, l2), vR l3, vI (l4 + (10 : Int32)), vU, vU]) (ls := [vR (1201, 0), vR (900, l1), vR (1000, l2), vR l3, vI (l4 + (10 : Int32)), vI x275, vI x280]) ⟨Or.inr rfl, ⟨Or.inr rfl, ⟨Or.inr rfl, ⟨Or.inr rfl, ⟨Or.inr rfl, ⟨Or.inl rfl, ⟨Or.inl rfl, trivial⟩⟩⟩⟩⟩⟩⟩ k
        · have k := k.1 c
          refine P_aload_n (pc := 1300) dL_law__1300 rfl ?_
          refine P_iconst (v := (0 : Int32)) (pc := 1301) dL_law__1301 (by decide) ?_
          obtain ⟨n9, f9, e9, i9, k⟩ := k
          refine P_lald (pc := 1302) dL_law__1302 e9 i9 ?_
          clear e9
          generalize f9 (Int32.toNatClampNeg (0 : Int32)) = x285 at k ⊢
          refine P_iload (pc := 1303) dL_law__1303 rfl ?_
          refine P_i2l (pc := 1305) dL_law__1305 ?_
          refine P_lcmp (pc := 1306) dL_law__1306 ?_
          refine P_if_eq (tgt := 1312) (pc := 1307) dL_law__1307 (by decide) (fun c => ?_) (fun c => ?_)
          · have k := k.1 c
            refine P_goto (tgt := 2586) (pc := 1312) dL_law__1312 (by decide) ?_
            refine P_iinc (v := l4 + (10 : Int32)) (pc := 2586) dL_law__2586 (by decide) rfl rfl (Or.inr (by intro z e9; cases e9)) rfl ?_
            refine P_goto (tgt := 23) (pc := 2589) dL_law__2589 (by decide) ?_
            exact P_drop (ls2 := [vR (1201, 0), vR (900, l1), vR (1000, l2), vR l3, vI (l4 + (10 : Int32)), vU, vU]) (ls := [vR (1201, 0), vR (900, l1), vR (1000, l2), vR l3, vI (l4 + (10 : Int32)), vI x275, vI x280]) ⟨Or.inr rfl, ⟨Or.inr rfl, ⟨Or.inr rfl, ⟨Or.inr rfl, ⟨Or.inr rfl, ⟨Or.inl rfl, ⟨Or.inl rfl, trivial⟩⟩⟩⟩⟩⟩⟩ k
          · have k := k.2 c
            refine P_iconst (v := (0 : Int32)) (pc := 1310) dL_law__1310 (by decide) ?_
            exact R_ireturn (pc := 1311) dL_law__1311 rfl rfl k
      · have k := k.2 c
        refine P_iconst (v := (0 : Int32)) (pc := 1293) dL_law__1293 (by decide) ?_
        exact R_ireturn (pc := 1294) dL_law__1294 rfl rfl k
    replace k := k.2
    by_cases c18 : (x2 &&& (63 : Int32)) = (18 : Int32)
    · replace k := k.1 c18
      refine P_tableIn (pc := 40) (tgt := 1315) dL_law__40 (by rw [c18]; decide) (by rw [c18]; decide) (by rw [c18] <;> rfl) (by decide) ?_
      refine P_aload_n (pc := 1315) dL_law__1315 rfl ?_
      refine P_aload_n (pc := 1316) dL_law__1316 rfl ?_
      refine P_iload (pc := 1317) dL_law__1317 rfl ?_
      refine P_iconst (v := (1 : Int32)) (pc := 1319) dL_law__1319 (by decide) ?_
      refine P_iadd (pc := 1320) dL_law__1320 ?_
      obtain ⟨n9, f9, e9, i9, k⟩ := k
      refine P_sld (pc := 1321) dL_law__1321 e9 i9 ?_
      clear e9
      generalize f9 (Int32.toNatClampNeg (l4 + (1 : Int32))) = x286 at k ⊢
      refine P_aload_n (pc := 1322) dL_law__1322 rfl ?_
      refine P_iload (pc := 1323) dL_law__1323 rfl ?_
      refine P_iconst (v := (2 : Int32)) (pc := 1325) dL_law__1325 (by decide) ?_
      refine P_iadd (pc := 1326) dL_law__1326 ?_
      obtain ⟨n9, f9, e9, i9, k⟩ := k
      refine P_sld (pc := 1327) dL_law__1327 e9 i9 ?_
      clear e9
      generalize f9 (Int32.toNatClampNeg (l4 + (2 : Int32))) = x287 at k ⊢
      refine P_aload_n (pc := 1328) dL_law__1328 rfl ?_
      obtain ⟨d2, nc, ns, rc289, rs290, Qc, g1, rfl, rfl, g2, kk, kx⟩ := k
      refine P_callSX (As := [vR (900, l1), vI x286, vI x287, vR l3]) (st := []) (pc := 1329) dL_law__1329 mk_L_way l_L_185 st_L_way ini_L rfl g1 (Nat.le_of_ble_eq_true rfl) rfl g2 (fun v9 h9 q9 => ?_) (fun E h9 q9 => PX_out rfl (kx E h9 q9))
      obtain ⟨x291, rfl, k⟩ := kk v9 h9 q9
      clear kk kx g1 g2 q9
      refine P_istore (pc := 1332) dL_law__1332 (by decide) (Or.inr (by intro z e9; cases e9)) rfl ?_
      refine P_aload_n (pc := 1334) dL_law__1334 rfl ?_
      refine P_aload_n (pc := 1335) dL_law__1335 rfl ?_
      refine P_iload (pc := 1336) dL_law__1336 rfl ?_
      refine P_iconst (v := (1 : Int32)) (pc := 1338) dL_law__1338 (by decide) ?_
      refine P_iadd (pc := 1339) dL_law__1339 ?_
      obtain ⟨n9, f9, e9, i9, k⟩ := k
      refine P_sld (pc := 1340) dL_law__1340 e9 i9 ?_
      clear e9
      generalize f9 (Int32.toNatClampNeg (l4 + (1 : Int32))) = x292 at k ⊢
      refine P_aload_n (pc := 1341) dL_law__1341 rfl ?_
      refine P_iload (pc := 1342) dL_law__1342 rfl ?_
      refine P_iconst (v := (2 : Int32)) (pc := 1344) dL_law__1344 (by decide) ?_
      refine P_iadd (pc := 1345) dL_law__1345 ?_
      obtain ⟨n9, f9, e9, i9, k⟩ := k
      refine P_sld (pc := 1346) dL_law__1346 e9 i9 ?_
      clear e9
      generalize f9 (Int32.toNatClampNeg (l4 + (2 : Int32))) = x293 at k ⊢
      obtain ⟨⟨w9, e9⟩, d2, nc, ns, rc295, rs296, Qc, g1, rfl, rfl, g2, kk, kx⟩ := k
      refine P_callV (ci := 10) (k := 0) (id := l2) (q := (RX10, TX10, 55)) (As := [vI x292, vI x293]) (st := []) (pc := 1347) dL_law__1347 mk_X10_way l_L_187 im_X10_way se_X10_way ini_X10 rfl g1 (Nat.le_of_ble_eq_true rfl) rfl rfl (by decide) e9 rfl g2 (fun v9 h9 q9 => ?_) (fun E h9 q9 => PX_out rfl (kx E h9 q9))
      obtain ⟨x297, rfl, k⟩ := kk v9 h9 q9
      clear kk kx g1 g2 q9
      refine P_istore (pc := 1350) dL_law__1350 (by decide) (Or.inr (by intro z e9; cases e9)) rfl ?_
      refine P_aload_n (pc := 1352) dL_law__1352 rfl ?_
      obtain ⟨⟨w9, e9⟩, d2, nc, ns, rc299, rs300, Qc, g1, rfl, rfl, g2, kk, kx⟩ := k
      refine P_callV (ci := 10) (k := 0) (id := l2) (q := (RX10, TX10, 55)) (As := []) (st := []) (pc := 1353) dL_law__1353 mk_X10_thrown l_L_129 im_X10_thrown se_X10_thrown ini_X10 rfl g1 (Nat.le_of_ble_eq_true rfl) rfl rfl (by decide) e9 rfl g2 (fun v9 h9 q9 => ?_) (fun E h9 q9 => PX_out rfl (kx E h9 q9))
      obtain ⟨x301, rfl, k⟩ := kk v9 h9 q9
      clear kk kx g1 g2 q9
      refine P_iload (pc := 1356) dL_law__1356 rfl ?_
      refine P_icmp_eq (tgt := 1363) (pc := 1358) dL_law__1358 (by decide) (fun c => ?_) (fun c => ?_)
      · have k := k.1 c
        refine P_iload (pc := 1363) dL_law__1363 rfl ?_
        refine P_if_ne (tgt := 1380) (pc := 1365) dL_law__1365 (by decide) (fun c => ?_) (fun c => ?_)
        · have k := k.2 c
          refine P_goto (tgt := 2586) (pc := 1380) dL_law__1380 (by decide) ?_
          refine P_iinc (v := l4 + (10 : Int32)) (pc := 2586) dL_law__2586 (by decide) rfl rfl (Or.inr (by intro z e9; cases e9)) rfl ?_
          refine P_goto (tgt := 23) (pc := 2589) dL_law__2589 (by decide) ?_
          exact P_drop (ls2 := [vR (1201, 0), vR (900, l1), vR (1000, l2), vR l3, vI (l4 + (10 : Int32)), vU, vU]) (ls := [vR (1201, 0), vR (900, l1), vR (1000, l2), vR l3, vI (l4 + (10 : Int32)), vI x291, vI x297]) ⟨Or.inr rfl, ⟨Or.inr rfl, ⟨Or.inr rfl, ⟨Or.inr rfl, ⟨Or.inr rfl, ⟨Or.inl rfl, ⟨Or.inl rfl, trivial⟩⟩⟩⟩⟩⟩⟩ k
        · have k := k.1 c
          refine P_aload_n (pc := 1368) dL_law__1368 rfl ?_
          refine P_iconst (v := (0 : Int32)) (pc := 1369) dL_law__1369 (by decide) ?_
          obtain ⟨n9, f9, e9, i9, k⟩ := k
          refine P_lald (pc := 1370) dL_law__1370 e9 i9 ?_
          clear e9
          generalize f9 (Int32.toNatClampNeg (0 : Int32)) = x302 at k ⊢
          refine P_iload (pc := 1371) dL_law__1371 rfl ?_
          refine P_i2l (pc := 1373) dL_law__1373 ?_
          refine P_lcmp (pc := 1374) dL_law__1374 ?_
          refine P_if_eq (tgt := 1380) (pc := 1375) dL_law__1375 (by decide) (fun c => ?_) (fun c => ?_)
          · have k := k.1 c
            refine P_goto (tgt := 2586) (pc := 1380) dL_law__1380 (by decide) ?_
            refine P_iinc (v := l4 + (10 : Int32)) (pc := 2586) dL_law__2586 (by decide) rfl rfl (Or.inr (by intro z e9; cases e9)) rfl ?_
            refine P_goto (tgt := 23) (pc := 2589) dL_law__2589 (by decide) ?_
            exact P_drop (ls2 := [vR (1201, 0), vR (900, l1), vR (1000, l2), vR l3, vI (l4 + (10 : Int32)), vU, vU]) (ls := [vR (1201, 0), vR (900, l1), vR (1000, l2), vR l3, vI (l4 + (10 : Int32)), vI x291, vI x297]) ⟨Or.inr rfl, ⟨Or.inr rfl, ⟨Or.inr rfl, ⟨Or.inr rfl, ⟨Or.inr rfl, ⟨Or.inl rfl, ⟨Or.inl rfl, trivial⟩⟩⟩⟩⟩⟩⟩ k
          · have k := k.2 c
            refine P_iconst (v := (0 : Int32)) (pc := 1378) dL_law__1378 (by decide) ?_
            exact R_ireturn (pc := 1379) dL_law__1379 rfl rfl k
      · have k := k.2 c
        refine P_iconst (v := (0 : Int32)) (pc := 1361) dL_law__1361 (by decide) ?_
        exact R_ireturn (pc := 1362) dL_law__1362 rfl rfl k
    replace k := k.2
    by_cases c19 : (x2 &&& (63 : Int32)) = (19 : Int32)
    · replace k := k.1 c19
      refine P_tableIn (pc := 40) (tgt := 1383) dL_law__40 (by rw [c19]; decide) (by rw [c19]; decide) (by rw [c19] <;> rfl) (by decide) ?_
      refine P_aload_n (pc := 1383) dL_law__1383 rfl ?_
      refine P_aload_n (pc := 1384) dL_law__1384 rfl ?_
      refine P_iload (pc := 1385) dL_law__1385 rfl ?_
      refine P_iconst (v := (1 : Int32)) (pc := 1387) dL_law__1387 (by decide) ?_
      refine P_iadd (pc := 1388) dL_law__1388 ?_
      obtain ⟨n9, f9, e9, i9, k⟩ := k
      refine P_sld (pc := 1389) dL_law__1389 e9 i9 ?_
      clear e9
      generalize f9 (Int32.toNatClampNeg (l4 + (1 : Int32))) = x303 at k ⊢
      refine P_aload_n (pc := 1390) dL_law__1390 rfl ?_
      refine P_iload (pc := 1391) dL_law__1391 rfl ?_
      refine P_iconst (v := (2 : Int32)) (pc := 1393) dL_law__1393 (by decide) ?_
      refine P_iadd (pc := 1394) dL_law__1394 ?_
      obtain ⟨n9, f9, e9, i9, k⟩ := k
      refine P_sld (pc := 1395) dL_law__1395 e9 i9 ?_
      clear e9
      generalize f9 (Int32.toNatClampNeg (l4 + (2 : Int32))) = x304 at k ⊢
      refine P_aload_n (pc := 1396) dL_law__1396 rfl ?_
      obtain ⟨d2, nc, ns, rc306, rs307, Qc, g1, rfl, rfl, g2, kk, kx⟩ := k
      refine P_callSX (As := [vR (900, l1), vI x303, vI x304, vR l3]) (st := []) (pc := 1397) dL_law__1397 mk_L_hush l_L_188 st_L_hush ini_L rfl g1 (Nat.le_of_ble_eq_true rfl) rfl g2 (fun v9 h9 q9 => ?_) (fun E h9 q9 => PX_out rfl (kx E h9 q9))
      obtain ⟨x308, rfl, k⟩ := kk v9 h9 q9
      clear kk kx g1 g2 q9
      refine P_istore (pc := 1400) dL_law__1400 (by decide) (Or.inr (by intro z e9; cases e9)) rfl ?_
      refine P_aload_n (pc := 1402) dL_law__1402 rfl ?_
      refine P_aload_n (pc := 1403) dL_law__1403 rfl ?_
      refine P_iload (pc := 1404) dL_law__1404 rfl ?_
      refine P_iconst (v := (1 : Int32)) (pc := 1406) dL_law__1406 (by decide) ?_
      refine P_iadd (pc := 1407) dL_law__1407 ?_
      obtain ⟨n9, f9, e9, i9, k⟩ := k
      refine P_sld (pc := 1408) dL_law__1408 e9 i9 ?_
      clear e9
      generalize f9 (Int32.toNatClampNeg (l4 + (1 : Int32))) = x309 at k ⊢
      refine P_aload_n (pc := 1409) dL_law__1409 rfl ?_
      refine P_iload (pc := 1410) dL_law__1410 rfl ?_
      refine P_iconst (v := (2 : Int32)) (pc := 1412) dL_law__1412 (by decide) ?_
      refine P_iadd (pc := 1413) dL_law__1413 ?_
      obtain ⟨n9, f9, e9, i9, k⟩ := k
      refine P_sld (pc := 1414) dL_law__1414 e9 i9 ?_
      clear e9
      generalize f9 (Int32.toNatClampNeg (l4 + (2 : Int32))) = x310 at k ⊢
      obtain ⟨⟨w9, e9⟩, d2, nc, ns, rc312, rs313, Qc, g1, rfl, rfl, g2, kk, kx⟩ := k
      refine P_callV (ci := 10) (k := 0) (id := l2) (q := (RX10, TX10, 55)) (As := [vI x309, vI x310]) (st := []) (pc := 1415) dL_law__1415 mk_X10_hush l_L_190 im_X10_hush se_X10_hush ini_X10 rfl g1 (Nat.le_of_ble_eq_true rfl) rfl rfl (by decide) e9 rfl g2 (fun v9 h9 q9 => ?_) (fun E h9 q9 => PX_out rfl (kx E h9 q9))
      obtain ⟨x314, rfl, k⟩ := kk v9 h9 q9
      clear kk kx g1 g2 q9
      refine P_istore (pc := 1418) dL_law__1418 (by decide) (Or.inr (by intro z e9; cases e9)) rfl ?_
      refine P_aload_n (pc := 1420) dL_law__1420 rfl ?_
      obtain ⟨⟨w9, e9⟩, d2, nc, ns, rc316, rs317, Qc, g1, rfl, rfl, g2, kk, kx⟩ := k
      refine P_callV (ci := 10) (k := 0) (id := l2) (q := (RX10, TX10, 55)) (As := []) (st := []) (pc := 1421) dL_law__1421 mk_X10_thrown l_L_129 im_X10_thrown se_X10_thrown ini_X10 rfl g1 (Nat.le_of_ble_eq_true rfl) rfl rfl (by decide) e9 rfl g2 (fun v9 h9 q9 => ?_) (fun E h9 q9 => PX_out rfl (kx E h9 q9))
      obtain ⟨x318, rfl, k⟩ := kk v9 h9 q9
      clear kk kx g1 g2 q9
      refine P_iload (pc := 1424) dL_law__1424 rfl ?_
      refine P_icmp_eq (tgt := 1431) (pc := 1426) dL_law__1426 (by decide) (fun c => ?_) (fun c => ?_)
      · have k := k.1 c
        refine P_iload (pc := 1431) dL_law__1431 rfl ?_
        refine P_if_ne (tgt := 1448) (pc := 1433) dL_law__1433 (by decide) (fun c => ?_) (fun c => ?_)
        · have k := k.2 c
          refine P_goto (tgt := 2586) (pc := 1448) dL_law__1448 (by decide) ?_
          refine P_iinc (v := l4 + (10 : Int32)) (pc := 2586) dL_law__2586 (by decide) rfl rfl (Or.inr (by intro z e9; cases e9)) rfl ?_
          refine P_goto (tgt := 23) (pc := 2589) dL_law__2589 (by decide) ?_
          exact P_drop (ls2 := [vR (1201, 0), vR (900, l1), vR (1000, l2), vR l3, vI (l4 + (10 : Int32)), vU, vU]) (ls := [vR (1201, 0), vR (900, l1), vR (1000, l2), vR l3, vI (l4 + (10 : Int32)), vI x308, vI x314]) ⟨Or.inr rfl, ⟨Or.inr rfl, ⟨Or.inr rfl, ⟨Or.inr rfl, ⟨Or.inr rfl, ⟨Or.inl rfl, ⟨Or.inl rfl, trivial⟩⟩⟩⟩⟩⟩⟩ k
        · have k := k.1 c
          refine P_aload_n (pc := 1436) dL_law__1436 rfl ?_
          refine P_iconst (v := (0 : Int32)) (pc := 1437) dL_law__1437 (by decide) ?_
          obtain ⟨n9, f9, e9, i9, k⟩ := k
          refine P_lald (pc := 1438) dL_law__1438 e9 i9 ?_
          clear e9
          generalize f9 (Int32.toNatClampNeg (0 : Int32)) = x319 at k ⊢
          refine P_iload (pc := 1439) dL_law__1439 rfl ?_
          refine P_i2l (pc := 1441) dL_law__1441 ?_
          refine P_lcmp (pc := 1442) dL_law__1442 ?_
          refine P_if_eq (tgt := 1448) (pc := 1443) dL_law__1443 (by decide) (fun c => ?_) (fun c => ?_)
          · have k := k.1 c
            refine P_goto (tgt := 2586) (pc := 1448) dL_law__1448 (by decide) ?_
            refine P_iinc (v := l4 + (10 : Int32)) (pc := 2586) dL_law__2586 (by decide) rfl rfl (Or.inr (by intro z e9; cases e9)) rfl ?_
            refine P_goto (tgt := 23) (pc := 2589) dL_law__2589 (by decide) ?_
            exact P_drop (ls2 := [vR (1201, 0), vR (900, l1), vR (1000, l2), vR l3, vI (l4 + (10 : Int32)), vU, vU]) (ls := [vR (1201, 0), vR (900, l1), vR (1000, l2), vR l3, vI (l4 + (10 : Int32)), vI x308, vI x314]) ⟨Or.inr rfl, ⟨Or.inr rfl, ⟨Or.inr rfl, ⟨Or.inr rfl, ⟨Or.inr rfl, ⟨Or.inl rfl, ⟨Or.inl rfl, trivial⟩⟩⟩⟩⟩⟩⟩ k
          · have k := k.2 c
            refine P_iconst (v := (0 : Int32)) (pc := 1446) dL_law__1446 (by decide) ?_
            exact R_ireturn (pc := 1447) dL_law__1447 rfl rfl k
      · have k := k.2 c
        refine P_iconst (v := (0 : Int32)) (pc := 1429) dL_law__1429 (by decide) ?_
        exact R_ireturn (pc := 1430) dL_law__1430 rfl rfl k
    replace k := k.2
    by_cases c20 : (x2 &&& (63 : Int32)) = (20 : Int32)
    · replace k := k.1 c20
      refine P_tableIn (pc := 40) (tgt := 1451) dL_law__40 (by rw [c20]; decide) (by rw [c20]; decide) (by rw [c20] <;> rfl) (by decide) ?_
      refine P_aload_n (pc := 1451) dL_law__1451 rfl ?_
      obtain ⟨⟨w9, e9⟩, d2, nc, ns, rc321, rs322, Qc, g1, rfl, rfl, g2, kk, kx⟩ := k
      refine P_callV (ci := 9) (k := 0) (id := l1) (q := (RX9, TX9, 18)) (As := []) (st := []) (pc := 1452) dL_law__1452 mk_X9_still l_L_191 im_X9_still se_X9_still ini_X9 rfl g1 (Nat.le_of_ble_eq_true rfl) rfl rfl (by decide) e9 rfl g2 (fun v9 h9 q9 => ?_) (fun E h9 q9 => PX_out rfl (kx E h9 q9))
      obtain ⟨x323, rfl, k⟩ := kk v9 h9 q9
      clear kk kx g1 g2 q9
      refine P_aload_n (pc := 1455) dL_law__1455 rfl ?_
      obtain ⟨⟨w9, e9⟩, d2, nc, ns, rc325, rs326, Qc, g1, rfl, rfl, g2, kk, kx⟩ := k
      refine P_callV (ci := 10) (k := 0) (id := l2) (q := (RX10, TX10, 55)) (As := []) (st := [vI x323]) (pc := 1456) dL_law__1456 mk_X10_still l_L_194 im_X10_still se_X10_still ini_X10 rfl g1 (Nat.le_of_ble_eq_true rfl) rfl rfl (by decide) e9 rfl g2 (fun v9 h9 q9 => ?_) (fun E h9 q9 => PX_out rfl (kx E h9 q9))
      obtain ⟨x327, rfl, k⟩ := kk v9 h9 q9
      clear kk kx g1 g2 q9
      refine P_icmp_eq (tgt := 2586) (pc := 1459) dL_law__1459 (by decide) (fun c => ?_) (fun c => ?_)
      · have k := k.1 c
        refine P_iinc (v := l4 + (10 : Int32)) (pc := 2586) dL_law__2586 (by decide) rfl rfl (Or.inr (by intro z e9; cases e9)) rfl ?_
        refine P_goto (tgt := 23) (pc := 2589) dL_law__2589 (by decide) ?_
        exact k
      · have k := k.2 c
        refine P_iconst (v := (0 : Int32)) (pc := 1462) dL_law__1462 (by decide) ?_
        exact R_ireturn (pc := 1463) dL_law__1463 rfl rfl k
    replace k := k.2
    by_cases c21 : (x2 &&& (63 : Int32)) = (21 : Int32)
    · replace k := k.1 c21
      refine P_tableIn (pc := 40) (tgt := 1464) dL_law__40 (by rw [c21]; decide) (by rw [c21]; decide) (by rw [c21] <;> rfl) (by decide) ?_
      refine P_aload_n (pc := 1464) dL_law__1464 rfl ?_
      obtain ⟨⟨w9, e9⟩, d2, nc, ns, rc329, rs330, Qc, g1, rfl, rfl, g2, kk, kx⟩ := k
      refine P_callV (ci := 9) (k := 0) (id := l1) (q := (RX9, TX9, 18)) (As := []) (st := []) (pc := 1465) dL_law__1465 mk_X9_seats l_L_195 im_X9_seats se_X9_seats ini_X9 rfl g1 (Nat.le_of_ble_eq_true rfl) rfl rfl (by decide) e9 rfl g2 (fun v9 h9 q9 => ?_) (fun E h9 q9 => PX_out rfl (kx E h9 q9))
      obtain ⟨x331, rfl, k⟩ := kk v9 h9 q9
      clear kk kx g1 g2 q9
      refine P_aload_n (pc := 1468) dL_law__1468 rfl ?_
      obtain ⟨⟨w9, e9⟩, d2, nc, ns, rc333, rs334, Qc, g1, rfl, rfl, g2, kk, kx⟩ := k
      refine P_callV (ci := 10) (k := 0) (id := l2) (q := (RX10, TX10, 55)) (As := []) (st := [vI x331]) (pc := 1469) dL_law__1469 mk_X10_seats l_L_198 im_X10_seats se_X10_seats ini_X10 rfl g1 (Nat.le_of_ble_eq_true rfl) rfl rfl (by decide) e9 rfl g2 (fun v9 h9 q9 => ?_) (fun E h9 q9 => PX_out rfl (kx E h9 q9))
      obtain ⟨x335, rfl, k⟩ := kk v9 h9 q9
      clear kk kx g1 g2 q9
      refine P_icmp_eq (tgt := 2586) (pc := 1472) dL_law__1472 (by decide) (fun c => ?_) (fun c => ?_)
      · have k := k.1 c
        refine P_iinc (v := l4 + (10 : Int32)) (pc := 2586) dL_law__2586 (by decide) rfl rfl (Or.inr (by intro z e9; cases e9)) rfl ?_
        refine P_goto (tgt := 23) (pc := 2589) dL_law__2589 (by decide) ?_
        exact k
      · have k := k.2 c
        refine P_iconst (v := (0 : Int32)) (pc := 1475) dL_law__1475 (by decide) ?_
        exact R_ireturn (pc := 1476) dL_law__1476 rfl rfl k
    replace k := k.2
    by_cases c22 : (x2 &&& (63 : Int32)) = (22 : Int32)
    · replace k := k.1 c22
      refine P_tableIn (pc := 40) (tgt := 1477) dL_law__40 (by rw [c22]; decide) (by rw [c22]; decide) (by rw [c22] <;> rfl) (by decide) ?_
      refine P_aload_n (pc := 1477) dL_law__1477 rfl ?_
      refine P_aload_n (pc := 1478) dL_law__1478 rfl ?_
      refine P_iload (pc := 1479) dL_law__1479 rfl ?_
      refine P_iconst (v := (1 : Int32)) (pc := 1481) dL_law__1481 (by decide) ?_
      refine P_iadd (pc := 1482) dL_law__1482 ?_
      obtain ⟨n9, f9, e9, i9, k⟩ := k
      refine P_sld (pc := 1483) dL_law__1483 e9 i9 ?_
      clear e9
      generalize f9 (Int32.toNatClampNeg (l4 + (1 : Int32))) = x336 at k ⊢
      refine P_aload_n (pc := 1484) dL_law__1484 rfl ?_
      obtain ⟨d2, nc, ns, rc338, rs339, Qc, g1, rfl, rfl, g2, kk, kx⟩ := k
      refine P_callSX (As := [vR (900, l1), vI x336, vR l3]) (st := []) (pc := 1485) dL_law__1485 mk_L_seat l_L_199 st_L_seat ini_L rfl g1 (Nat.le_of_ble_eq_true rfl) rfl g2 (fun v9 h9 q9 => ?_) (fun E h9 q9 => PX_out rfl (kx E h9 q9))
      obtain ⟨x340, rfl, k⟩ := kk v9 h9 q9
      clear kk kx g1 g2 q9
      refine P_istore (pc := 1488) dL_law__1488 (by decide) (Or.inr (by intro z e9; cases e9)) rfl ?_
      refine P_aload_n (pc := 1490) dL_law__1490 rfl ?_
      refine P_aload_n (pc := 1491) dL_law__1491 rfl ?_
      refine P_iload (pc := 1492) dL_law__1492 rfl ?_
      refine P_iconst (v := (1 : Int32)) (pc := 1494) dL_law__1494 (by decide) ?_
      refine P_iadd (pc := 1495) dL_law__1495 ?_
      obtain ⟨n9, f9, e9, i9, k⟩ := k
      refine P_sld (pc := 1496) dL_law__1496 e9 i9 ?_
      clear e9
      generalize f9 (Int32.toNatClampNeg (l4 + (1 : Int32))) = x341 at k ⊢
      obtain ⟨⟨w9, e9⟩, d2, nc, ns, rc343, rs344, Qc, g1, rfl, rfl, g2, kk, kx⟩ := k
      refine P_callV (ci := 10) (k := 0) (id := l2) (q := (RX10, TX10, 55)) (As := [vI x341]) (st := []) (pc := 1497) dL_law__1497 mk_X10_seat l_L_201 im_X10_seat se_X10_seat ini_X10 rfl g1 (Nat.le_of_ble_eq_true rfl) rfl rfl (by decide) e9 rfl g2 (fun v9 h9 q9 => ?_) (fun E h9 q9 => PX_out rfl (kx E h9 q9))
      obtain ⟨x345, rfl, k⟩ := kk v9 h9 q9
      clear kk kx g1 g2 q9
      refine P_istore (pc := 1500) dL_law__1500 (by decide) (Or.inr (by intro z e9; cases e9)) rfl ?_
      refine P_aload_n (pc := 1502) dL_law__1502 rfl ?_
      obtain ⟨⟨w9, e9⟩, d2, nc, ns, rc347, rs348, Qc, g1, rfl, rfl, g2, kk, kx⟩ := k
      refine P_callV (ci := 10) (k := 0) (id := l2) (q := (RX10, TX10, 55)) (As := []) (st := []) (pc := 1503) dL_law__1503 mk_X10_thrown l_L_129 im_X10_thrown se_X10_thrown ini_X10 rfl g1 (Nat.le_of_ble_eq_true rfl) rfl rfl (by decide) e9 rfl g2 (fun v9 h9 q9 => ?_) (fun E h9 q9 => PX_out rfl (kx E h9 q9))
      obtain ⟨x349, rfl, k⟩ := kk v9 h9 q9
      clear kk kx g1 g2 q9
      refine P_iload (pc := 1506) dL_law__1506 rfl ?_
      refine P_icmp_eq (tgt := 1513) (pc := 1508) dL_law__1508 (by decide) (fun c => ?_) (fun c => ?_)
      · have k := k.1 c
        refine P_iload (pc := 1513) dL_law__1513 rfl ?_
        refine P_if_ne (tgt := 1530) (pc := 1515) dL_law__1515 (by decide) (fun c => ?_) (fun c => ?_)
        · have k := k.2 c
          refine P_goto (tgt := 2586) (pc := 1530) dL_law__1530 (by decide) ?_
          refine P_iinc (v := l4 + (10 : Int32)) (pc := 2586) dL_law__2586 (by decide) rfl rfl (Or.inr (by intro z e9; cases e9)) rfl ?_
          refine P_goto (tgt := 23) (pc := 2589) dL_law__2589 (by decide) ?_
          exact P_drop (ls2 := [vR (1201, 0), vR (900, l1), vR (1000, l2), vR l3, vI (l4 + (10 : Int32)), vU, vU]) (ls := [vR (1201, 0), vR (900, l1), vR (1000, l2), vR l3, vI (l4 + (10 : Int32)), vI x340, vI x345]) ⟨Or.inr rfl, ⟨Or.inr rfl, ⟨Or.inr rfl, ⟨Or.inr rfl, ⟨Or.inr rfl, ⟨Or.inl rfl, ⟨Or.inl rfl, trivial⟩⟩⟩⟩⟩⟩⟩ k
        · have k := k.1 c
          refine P_aload_n (pc := 1518) dL_law__1518 rfl ?_
          refine P_iconst (v := (0 : Int32)) (pc := 1519) dL_law__1519 (by decide) ?_
          obtain ⟨n9, f9, e9, i9, k⟩ := k
          refine P_lald (pc := 1520) dL_law__1520 e9 i9 ?_
          clear e9
          generalize f9 (Int32.toNatClampNeg (0 : Int32)) = x350 at k ⊢
          refine P_iload (pc := 1521) dL_law__1521 rfl ?_
          refine P_i2l (pc := 1523) dL_law__1523 ?_
          refine P_lcmp (pc := 1524) dL_law__1524 ?_
          refine P_if_eq (tgt := 1530) (pc := 1525) dL_law__1525 (by decide) (fun c => ?_) (fun c => ?_)
          · have k := k.1 c
            refine P_goto (tgt := 2586) (pc := 1530) dL_law__1530 (by decide) ?_
            refine P_iinc (v := l4 + (10 : Int32)) (pc := 2586) dL_law__2586 (by decide) rfl rfl (Or.inr (by intro z e9; cases e9)) rfl ?_
            refine P_goto (tgt := 23) (pc := 2589) dL_law__2589 (by decide) ?_
            exact P_drop (ls2 := [vR (1201, 0), vR (900, l1), vR (1000, l2), vR l3, vI (l4 + (10 : Int32)), vU, vU]) (ls := [vR (1201, 0), vR (900, l1), vR (1000, l2), vR l3, vI (l4 + (10 : Int32)), vI x340, vI x345]) ⟨Or.inr rfl, ⟨Or.inr rfl, ⟨Or.inr rfl, ⟨Or.inr rfl, ⟨Or.inr rfl, ⟨Or.inl rfl, ⟨Or.inl rfl, trivial⟩⟩⟩⟩⟩⟩⟩ k
          · have k := k.2 c
            refine P_iconst (v := (0 : Int32)) (pc := 1528) dL_law__1528 (by decide) ?_
            exact R_ireturn (pc := 1529) dL_law__1529 rfl rfl k
      · have k := k.2 c
        refine P_iconst (v := (0 : Int32)) (pc := 1511) dL_law__1511 (by decide) ?_
        exact R_ireturn (pc := 1512) dL_law__1512 rfl rfl k
    replace k := k.2
    by_cases c23 : (x2 &&& (63 : Int32)) = (23 : Int32)
    · replace k := k.1 c23
      refine P_tableIn (pc := 40) (tgt := 1533) dL_law__40 (by rw [c23]; decide) (by rw [c23]; decide) (by rw [c23] <;> rfl) (by decide) ?_
      refine P_aload_n (pc := 1533) dL_law__1533 rfl ?_
      refine P_aload_n (pc := 1534) dL_law__1534 rfl ?_
      refine P_iload (pc := 1535) dL_law__1535 rfl ?_
      refine P_iconst (v := (1 : Int32)) (pc := 1537) dL_law__1537 (by decide) ?_
      refine P_iadd (pc := 1538) dL_law__1538 ?_
      obtain ⟨n9, f9, e9, i9, k⟩ := k
      refine P_sld (pc := 1539) dL_law__1539 e9 i9 ?_
      clear e9
      generalize f9 (Int32.toNatClampNeg (l4 + (1 : Int32))) = x351 at k ⊢
      refine P_aload_n (pc := 1540) dL_law__1540 rfl ?_
      refine P_iload (pc := 1541) dL_law__1541 rfl ?_
      refine P_iconst (v := (2 : Int32)) (pc := 1543) dL_law__1543 (by decide) ?_
      refine P_iadd (pc := 1544) dL_law__1544 ?_
      obtain ⟨n9, f9, e9, i9, k⟩ := k
      refine P_sld (pc := 1545) dL_law__1545 e9 i9 ?_
      clear e9
      generalize f9 (Int32.toNatClampNeg (l4 + (2 : Int32))) = x352 at k ⊢
      refine P_aload_n (pc := 1546) dL_law__1546 rfl ?_
      obtain ⟨d2, nc, ns, rc354, rs355, Qc, g1, rfl, rfl, g2, kk, kx⟩ := k
      refine P_callSX (As := [vR (900, l1), vI x351, vI x352, vR l3]) (st := []) (pc := 1547) dL_law__1547 mk_L_fits l_L_202 st_L_fits ini_L rfl g1 (Nat.le_of_ble_eq_true rfl) rfl g2 (fun v9 h9 q9 => ?_) (fun E h9 q9 => PX_out rfl (kx E h9 q9))
      obtain ⟨x356, rfl, k⟩ := kk v9 h9 q9
      clear kk kx g1 g2 q9
      refine P_istore (pc := 1550) dL_law__1550 (by decide) (Or.inr (by intro z e9; cases e9)) rfl ?_
      refine P_aload_n (pc := 1552) dL_law__1552 rfl ?_
      refine P_aload_n (pc := 1553) dL_law__1553 rfl ?_
      refine P_iload (pc := 1554) dL_law__1554 rfl ?_
      refine P_iconst (v := (1 : Int32)) (pc := 1556) dL_law__1556 (by decide) ?_
      refine P_iadd (pc := 1557) dL_law__1557 ?_
      obtain ⟨n9, f9, e9, i9, k⟩ := k
      refine P_sld (pc := 1558) dL_law__1558 e9 i9 ?_
      clear e9
      generalize f9 (Int32.toNatClampNeg (l4 + (1 : Int32))) = x357 at k ⊢
      refine P_aload_n (pc := 1559) dL_law__1559 rfl ?_
      refine P_iload (pc := 1560) dL_law__1560 rfl ?_
      refine P_iconst (v := (2 : Int32)) (pc := 1562) dL_law__1562 (by decide) ?_
      refine P_iadd (pc := 1563) dL_law__1563 ?_
      obtain ⟨n9, f9, e9, i9, k⟩ := k
      refine P_sld (pc := 1564) dL_law__1564 e9 i9 ?_
      clear e9
      generalize f9 (Int32.toNatClampNeg (l4 + (2 : Int32))) = x358 at k ⊢
      obtain ⟨⟨w9, e9⟩, d2, nc, ns, rc360, rs361, Qc, g1, rfl, rfl, g2, kk, kx⟩ := k
      refine P_callV (ci := 10) (k := 0) (id := l2) (q := (RX10, TX10, 55)) (As := [vI x357, vI x358]) (st := []) (pc := 1565) dL_law__1565 mk_X10_fits l_L_204 im_X10_fits se_X10_fits ini_X10 rfl g1 (Nat.le_of_ble_eq_true rfl) rfl rfl (by decide) e9 rfl g2 (fun v9 h9 q9 => ?_) (fun E h9 q9 => PX_out rfl (kx E h9 q9))
      obtain ⟨x362, rfl, k⟩ := kk v9 h9 q9
      clear kk kx g1 g2 q9
      refine P_istore (pc := 1568) dL_law__1568 (by decide) (Or.inr (by intro z e9; cases e9)) rfl ?_
      refine P_aload_n (pc := 1570) dL_law__1570 rfl ?_
      obtain ⟨⟨w9, e9⟩, d2, nc, ns, rc364, rs365, Qc, g1, rfl, rfl, g2, kk, kx⟩ := k
      refine P_callV (ci := 10) (k := 0) (id := l2) (q := (RX10, TX10, 55)) (As := []) (st := []) (pc := 1571) dL_law__1571 mk_X10_thrown l_L_129 im_X10_thrown se_X10_thrown ini_X10 rfl g1 (Nat.le_of_ble_eq_true rfl) rfl rfl (by decide) e9 rfl g2 (fun v9 h9 q9 => ?_) (fun E h9 q9 => PX_out rfl (kx E h9 q9))
      obtain ⟨x366, rfl, k⟩ := kk v9 h9 q9
      clear kk kx g1 g2 q9
      refine P_iload (pc := 1574) dL_law__1574 rfl ?_
      refine P_icmp_eq (tgt := 1581) (pc := 1576) dL_law__1576 (by decide) (fun c => ?_) (fun c => ?_)
      · have k := k.1 c
        refine P_iload (pc := 1581) dL_law__1581 rfl ?_
        refine P_if_ne (tgt := 1598) (pc := 1583) dL_law__1583 (by decide) (fun c => ?_) (fun c => ?_)
        · have k := k.2 c
          refine P_goto (tgt := 2586) (pc := 1598) dL_law__1598 (by decide) ?_
          refine P_iinc (v := l4 + (10 : Int32)) (pc := 2586) dL_law__2586 (by decide) rfl rfl (Or.inr (by intro z e9; cases e9)) rfl ?_
          refine P_goto (tgt := 23) (pc := 2589) dL_law__2589 (by decide) ?_
          exact P_drop (ls2 := [vR (1201, 0), vR (900, l1), vR (1000, l2), vR l3, vI (l4 + (10 : Int32)), vU, vU]) (ls := [vR (1201, 0), vR (900, l1), vR (1000, l2), vR l3, vI (l4 + (10 : Int32)), vI x356, vI x362]) ⟨Or.inr rfl, ⟨Or.inr rfl, ⟨Or.inr rfl, ⟨Or.inr rfl, ⟨Or.inr rfl, ⟨Or.inl rfl, ⟨Or.inl rfl, trivial⟩⟩⟩⟩⟩⟩⟩ k
        · have k := k.1 c
          refine P_aload_n (pc := 1586) dL_law__1586 rfl ?_
          refine P_iconst (v := (0 : Int32)) (pc := 1587) dL_law__1587 (by decide) ?_
          obtain ⟨n9, f9, e9, i9, k⟩ := k
          refine P_lald (pc := 1588) dL_law__1588 e9 i9 ?_
          clear e9
          generalize f9 (Int32.toNatClampNeg (0 : Int32)) = x367 at k ⊢
          refine P_iload (pc := 1589) dL_law__1589 rfl ?_
          refine P_i2l (pc := 1591) dL_law__1591 ?_
          refine P_lcmp (pc := 1592) dL_law__1592 ?_
          refine P_if_eq (tgt := 1598) (pc := 1593) dL_law__1593 (by decide) (fun c => ?_) (fun c => ?_)
          · have k := k.1 c
            refine P_goto (tgt := 2586) (pc := 1598) dL_law__1598 (by decide) ?_
            refine P_iinc (v := l4 + (10 : Int32)) (pc := 2586) dL_law__2586 (by decide) rfl rfl (Or.inr (by intro z e9; cases e9)) rfl ?_
            refine P_goto (tgt := 23) (pc := 2589) dL_law__2589 (by decide) ?_
            exact P_drop (ls2 := [vR (1201, 0), vR (900, l1), vR (1000, l2), vR l3, vI (l4 + (10 : Int32)), vU, vU]) (ls := [vR (1201, 0), vR (900, l1), vR (1000, l2), vR l3, vI (l4 + (10 : Int32)), vI x356, vI x362]) ⟨Or.inr rfl, ⟨Or.inr rfl, ⟨Or.inr rfl, ⟨Or.inr rfl, ⟨Or.inr rfl, ⟨Or.inl rfl, ⟨Or.inl rfl, trivial⟩⟩⟩⟩⟩⟩⟩ k
          · have k := k.2 c
            refine P_iconst (v := (0 : Int32)) (pc := 1596) dL_law__1596 (by decide) ?_
            exact R_ireturn (pc := 1597) dL_law__1597 rfl rfl k
      · have k := k.2 c
        refine P_iconst (v := (0 : Int32)) (pc := 1579) dL_law__1579 (by decide) ?_
        exact R_ireturn (pc := 1580) dL_law__1580 rfl rfl k
    replace k := k.2
    by_cases c24 : (x2 &&& (63 : Int32)) = (24 : Int32)
    · replace k := k.1 c24
      refine P_tableIn (pc := 40) (tgt := 1601) dL_law__40 (by rw [c24]; decide) (by rw [c24]; decide) (by rw [c24] <;> rfl) (by decide) ?_
      refine P_aload_n (pc := 1601) dL_law__1601 rfl ?_
      refine P_aload_n (pc := 1602) dL_law__1602 rfl ?_
      refine P_iload (pc := 1603) dL_law__1603 rfl ?_
      refine P_iconst (v := (1 : Int32)) (pc := 1605) dL_law__1605 (by decide) ?_
      refine P_iadd (pc := 1606) dL_law__1606 ?_
      obtain ⟨n9, f9, e9, i9, k⟩ := k
      refine P_sld (pc := 1607) dL_law__1607 e9 i9 ?_
      clear e9
      generalize f9 (Int32.toNatClampNeg (l4 + (1 : Int32))) = x368 at k ⊢
      refine P_aload_n (pc := 1608) dL_law__1608 rfl ?_
      refine P_iload (pc := 1609) dL_law__1609 rfl ?_
      refine P_iconst (v := (2 : Int32)) (pc := 1611) dL_law__1611 (by decide) ?_
      refine P_iadd (pc := 1612) dL_law__1612 ?_
      obtain ⟨n9, f9, e9, i9, k⟩ := k
      refine P_sld (pc := 1613) dL_law__1613 e9 i9 ?_
      clear e9
      generalize f9 (Int32.toNatClampNeg (l4 + (2 : Int32))) = x369 at k ⊢
      refine P_aload_n (pc := 1614) dL_law__1614 rfl ?_
      obtain ⟨d2, nc, ns, rc371, rs372, Qc, g1, rfl, rfl, g2, kk, kx⟩ := k
      refine P_callSX (As := [vR (900, l1), vI x368, vI x369, vR l3]) (st := []) (pc := 1615) dL_law__1615 mk_L_look l_L_205 st_L_look ini_L rfl g1 (Nat.le_of_ble_eq_true rfl) rfl g2 (fun v9 h9 q9 => ?_) (fun E h9 q9 => PX_out rfl (kx E h9 q9))
      obtain ⟨x373, rfl, k⟩ := kk v9 h9 q9
      clear kk kx g1 g2 q9
      refine P_istore (pc := 1618) dL_law__1618 (by decide) (Or.inr (by intro z e9; cases e9)) rfl ?_
      refine P_aload_n (pc := 1620) dL_law__1620 rfl ?_
      refine P_aload_n (pc := 1621) dL_law__1621 rfl ?_
      refine P_iload (pc := 1622) dL_law__1622 rfl ?_
      refine P_iconst (v := (1 : Int32)) (pc := 1624) dL_law__1624 (by decide) ?_
      refine P_iadd (pc := 1625) dL_law__1625 ?_
      obtain ⟨n9, f9, e9, i9, k⟩ := k
      refine P_sld (pc := 1626) dL_law__1626 e9 i9 ?_
      clear e9
      generalize f9 (Int32.toNatClampNeg (l4 + (1 : Int32))) = x374 at k ⊢
      refine P_aload_n (pc := 1627) dL_law__1627 rfl ?_
      refine P_iload (pc := 1628) dL_law__1628 rfl ?_
      refine P_iconst (v := (2 : Int32)) (pc := 1630) dL_law__1630 (by decide) ?_
      refine P_iadd (pc := 1631) dL_law__1631 ?_
      obtain ⟨n9, f9, e9, i9, k⟩ := k
      refine P_sld (pc := 1632) dL_law__1632 e9 i9 ?_
      clear e9
      generalize f9 (Int32.toNatClampNeg (l4 + (2 : Int32))) = x375 at k ⊢
      obtain ⟨⟨w9, e9⟩, d2, nc, ns, rc377, rs378, Qc, g1, rfl, rfl, g2, kk, kx⟩ := k
      refine P_callV (ci := 10) (k := 0) (id := l2) (q := (RX10, TX10, 55)) (As := [vI x374, vI x375]) (st := []) (pc := 1633) dL_law__1633 mk_X10_look l_L_207 im_X10_look se_X10_look ini_X10 rfl g1 (Nat.le_of_ble_eq_true rfl) rfl rfl (by decide) e9 rfl g2 (fun v9 h9 q9 => ?_) (fun E h9 q9 => PX_out rfl (kx E h9 q9))
      obtain ⟨x379, rfl, k⟩ := kk v9 h9 q9
      clear kk kx g1 g2 q9
      refine P_istore (pc := 1636) dL_law__1636 (by decide) (Or.inr (by intro z e9; cases e9)) rfl ?_
      refine P_aload_n (pc := 1638) dL_law__1638 rfl ?_
      obtain ⟨⟨w9, e9⟩, d2, nc, ns, rc381, rs382, Qc, g1, rfl, rfl, g2, kk, kx⟩ := k
      refine P_callV (ci := 10) (k := 0) (id := l2) (q := (RX10, TX10, 55)) (As := []) (st := []) (pc := 1639) dL_law__1639 mk_X10_thrown l_L_129 im_X10_thrown se_X10_thrown ini_X10 rfl g1 (Nat.le_of_ble_eq_true rfl) rfl rfl (by decide) e9 rfl g2 (fun v9 h9 q9 => ?_) (fun E h9 q9 => PX_out rfl (kx E h9 q9))
      obtain ⟨x383, rfl, k⟩ := kk v9 h9 q9
      clear kk kx g1 g2 q9
      refine P_iload (pc := 1642) dL_law__1642 rfl ?_
      refine P_icmp_eq (tgt := 1649) (pc := 1644) dL_law__1644 (by decide) (fun c => ?_) (fun c => ?_)
      · have k := k.1 c
        refine P_iload (pc := 1649) dL_law__1649 rfl ?_
        refine P_if_ne (tgt := 1666) (pc := 1651) dL_law__1651 (by decide) (fun c => ?_) (fun c => ?_)
        · have k := k.2 c
          refine P_goto (tgt := 2586) (pc := 1666) dL_law__1666 (by decide) ?_
          refine P_iinc (v := l4 + (10 : Int32)) (pc := 2586) dL_law__2586 (by decide) rfl rfl (Or.inr (by intro z e9; cases e9)) rfl ?_
          refine P_goto (tgt := 23) (pc := 2589) dL_law__2589 (by decide) ?_
          exact P_drop (ls2 := [vR (1201, 0), vR (900, l1), vR (1000, l2), vR l3, vI (l4 + (10 : Int32)), vU, vU]) (ls := [vR (1201, 0), vR (900, l1), vR (1000, l2), vR l3, vI (l4 + (10 : Int32)), vI x373, vI x379]) ⟨Or.inr rfl, ⟨Or.inr rfl, ⟨Or.inr rfl, ⟨Or.inr rfl, ⟨Or.inr rfl, ⟨Or.inl rfl, ⟨Or.inl rfl, trivial⟩⟩⟩⟩⟩⟩⟩ k
        · have k := k.1 c
          refine P_aload_n (pc := 1654) dL_law__1654 rfl ?_
          refine P_iconst (v := (0 : Int32)) (pc := 1655) dL_law__1655 (by decide) ?_
          obtain ⟨n9, f9, e9, i9, k⟩ := k
          refine P_lald (pc := 1656) dL_law__1656 e9 i9 ?_
          clear e9
          generalize f9 (Int32.toNatClampNeg (0 : Int32)) = x384 at k ⊢
          refine P_iload (pc := 1657) dL_law__1657 rfl ?_
          refine P_i2l (pc := 1659) dL_law__1659 ?_
          refine P_lcmp (pc := 1660) dL_law__1660 ?_
          refine P_if_eq (tgt := 1666) (pc := 1661) dL_law__1661 (by decide) (fun c => ?_) (fun c => ?_)
          · have k := k.1 c
            refine P_goto (tgt := 2586) (pc := 1666) dL_law__1666 (by decide) ?_
            refine P_iinc (v := l4 + (10 : Int32)) (pc := 2586) dL_law__2586 (by decide) rfl rfl (Or.inr (by intro z e9; cases e9)) rfl ?_
            refine P_goto (tgt := 23) (pc := 2589) dL_law__2589 (by decide) ?_
            exact P_drop (ls2 := [vR (1201, 0), vR (900, l1), vR (1000, l2), vR l3, vI (l4 + (10 : Int32)), vU, vU]) (ls := [vR (1201, 0), vR (900, l1), vR (1000, l2), vR l3, vI (l4 + (10 : Int32)), vI x373, vI x379]) ⟨Or.inr rfl, ⟨Or.inr rfl, ⟨Or.inr rfl, ⟨Or.inr rfl, ⟨Or.inr rfl, ⟨Or.inl rfl, ⟨Or.inl rfl, trivial⟩⟩⟩⟩⟩⟩⟩ k
          · have k := k.2 c
            refine P_iconst (v := (0 : Int32)) (pc := 1664) dL_law__1664 (by decide) ?_
            exact R_ireturn (pc := 1665) dL_law__1665 rfl rfl k
      · have k := k.2 c
        refine P_iconst (v := (0 : Int32)) (pc := 1647) dL_law__1647 (by decide) ?_
        exact R_ireturn (pc := 1648) dL_law__1648 rfl rfl k
    replace k := k.2
    by_cases c25 : (x2 &&& (63 : Int32)) = (25 : Int32)
    · replace k := k.1 c25
      refine P_tableIn (pc := 40) (tgt := 1669) dL_law__40 (by rw [c25]; decide) (by rw [c25]; decide) (by rw [c25] <;> rfl) (by decide) ?_
      refine P_aload_n (pc := 1669) dL_law__1669 rfl ?_
      refine P_aload_n (pc := 1670) dL_law__1670 rfl ?_
      refine P_iload (pc := 1671) dL_law__1671 rfl ?_
      refine P_iconst (v := (1 : Int32)) (pc := 1673) dL_law__1673 (by decide) ?_
      refine P_iadd (pc := 1674) dL_law__1674 ?_
      obtain ⟨n9, f9, e9, i9, k⟩ := k
      refine P_sld (pc := 1675) dL_law__1675 e9 i9 ?_
      clear e9
      generalize f9 (Int32.toNatClampNeg (l4 + (1 : Int32))) = x385 at k ⊢
      refine P_aload_n (pc := 1676) dL_law__1676 rfl ?_
      refine P_iload (pc := 1677) dL_law__1677 rfl ?_
      refine P_iconst (v := (2 : Int32)) (pc := 1679) dL_law__1679 (by decide) ?_
      refine P_iadd (pc := 1680) dL_law__1680 ?_
      obtain ⟨n9, f9, e9, i9, k⟩ := k
      refine P_sld (pc := 1681) dL_law__1681 e9 i9 ?_
      clear e9
      generalize f9 (Int32.toNatClampNeg (l4 + (2 : Int32))) = x386 at k ⊢
      refine P_aload_n (pc := 1682) dL_law__1682 rfl ?_
      refine P_iload (pc := 1683) dL_law__1683 rfl ?_
      refine P_iconst (v := (3 : Int32)) (pc := 1685) dL_law__1685 (by decide) ?_
      refine P_iadd (pc := 1686) dL_law__1686 ?_
      obtain ⟨n9, f9, e9, i9, k⟩ := k
      refine P_sld (pc := 1687) dL_law__1687 e9 i9 ?_
      clear e9
      generalize f9 (Int32.toNatClampNeg (l4 + (3 : Int32))) = x387 at k ⊢
      refine P_aload_n (pc := 1688) dL_law__1688 rfl ?_
      refine P_iload (pc := 1689) dL_law__1689 rfl ?_
      refine P_iconst (v := (4 : Int32)) (pc := 1691) dL_law__1691 (by decide) ?_
      refine P_iadd (pc := 1692) dL_law__1692 ?_
      obtain ⟨n9, f9, e9, i9, k⟩ := k
      refine P_sld (pc := 1693) dL_law__1693 e9 i9 ?_
      clear e9
      generalize f9 (Int32.toNatClampNeg (l4 + (4 : Int32))) = x388 at k ⊢
      refine P_aload_n (pc := 1694) dL_law__1694 rfl ?_
      obtain ⟨d2, nc, ns, rc390, rs391, Qc, g1, rfl, rfl, g2, kk, kx⟩ := k
      refine P_callSX (As := [vR (900, l1), vI x385, vI x386, vI x387, vI x388, vR l3]) (st := []) (pc := 1695) dL_law__1695 mk_L_lots l_L_208 st_L_lots ini_L rfl g1 (Nat.le_of_ble_eq_true rfl) rfl g2 (fun v9 h9 q9 => ?_) (fun E h9 q9 => PX_out rfl (kx E h9 q9))
      obtain ⟨x392, rfl, k⟩ := kk v9 h9 q9
      clear kk kx g1 g2 q9
      refine P_istore (pc := 1698) dL_law__1698 (by decide) (Or.inr (by intro z e9; cases e9)) rfl ?_
      refine P_aload_n (pc := 1700) dL_law__1700 rfl ?_
      refine P_aload_n (pc := 1701) dL_law__1701 rfl ?_
      refine P_iload (pc := 1702) dL_law__1702 rfl ?_
      refine P_iconst (v := (1 : Int32)) (pc := 1704) dL_law__1704 (by decide) ?_
      refine P_iadd (pc := 1705) dL_law__1705 ?_
      obtain ⟨n9, f9, e9, i9, k⟩ := k
      refine P_sld (pc := 1706) dL_law__1706 e9 i9 ?_
      clear e9
      generalize f9 (Int32.toNatClampNeg (l4 + (1 : Int32))) = x393 at k ⊢
      refine P_aload_n (pc := 1707) dL_law__1707 rfl ?_
      refine P_iload (pc := 1708) dL_law__1708 rfl ?_
      refine P_iconst (v := (2 : Int32)) (pc := 1710) dL_law__1710 (by decide) ?_
      refine P_iadd (pc := 1711) dL_law__1711 ?_
      obtain ⟨n9, f9, e9, i9, k⟩ := k
      refine P_sld (pc := 1712) dL_law__1712 e9 i9 ?_
      clear e9
      generalize f9 (Int32.toNatClampNeg (l4 + (2 : Int32))) = x394 at k ⊢
      refine P_aload_n (pc := 1713) dL_law__1713 rfl ?_
      refine P_iload (pc := 1714) dL_law__1714 rfl ?_
      refine P_iconst (v := (3 : Int32)) (pc := 1716) dL_law__1716 (by decide) ?_
      refine P_iadd (pc := 1717) dL_law__1717 ?_
      obtain ⟨n9, f9, e9, i9, k⟩ := k
      refine P_sld (pc := 1718) dL_law__1718 e9 i9 ?_
      clear e9
      generalize f9 (Int32.toNatClampNeg (l4 + (3 : Int32))) = x395 at k ⊢
      refine P_aload_n (pc := 1719) dL_law__1719 rfl ?_
      refine P_iload (pc := 1720) dL_law__1720 rfl ?_
      refine P_iconst (v := (4 : Int32)) (pc := 1722) dL_law__1722 (by decide) ?_
      refine P_iadd (pc := 1723) dL_law__1723 ?_
      obtain ⟨n9, f9, e9, i9, k⟩ := k
      refine P_sld (pc := 1724) dL_law__1724 e9 i9 ?_
      clear e9
      generalize f9 (Int32.toNatClampNeg (l4 + (4 : Int32))) = x396 at k ⊢
      obtain ⟨⟨w9, e9⟩, d2, nc, ns, rc398, rs399, Qc, g1, rfl, rfl, g2, kk, kx⟩ := k
      refine P_callV (ci := 10) (k := 0) (id := l2) (q := (RX10, TX10, 55)) (As := [vI x393, vI x394, vI x395, vI x396]) (st := []) (pc := 1725) dL_law__1725 mk_X10_lots l_L_211 im_X10_lots se_X10_lots ini_X10 rfl g1 (Nat.le_of_ble_eq_true rfl) rfl rfl (by decide) e9 rfl g2 (fun v9 h9 q9 => ?_) (fun E h9 q9 => PX_out rfl (kx E h9 q9))
      obtain ⟨x400, rfl, k⟩ := kk v9 h9 q9
      clear kk kx g1 g2 q9
      refine P_istore (pc := 1728) dL_law__1728 (by decide) (Or.inr (by intro z e9; cases e9)) rfl ?_
      refine P_aload_n (pc := 1730) dL_law__1730 rfl ?_
      obtain ⟨⟨w9, e9⟩, d2, nc, ns, rc402, rs403, Qc, g1, rfl, rfl, g2, kk, kx⟩ := k
      refine P_callV (ci := 10) (k := 0) (id := l2) (q := (RX10, TX10, 55)) (As := []) (st := []) (pc := 1731) dL_law__1731 mk_X10_thrown l_L_129 im_X10_thrown se_X10_thrown ini_X10 rfl g1 (Nat.le_of_ble_eq_true rfl) rfl rfl (by decide) e9 rfl g2 (fun v9 h9 q9 => ?_) (fun E h9 q9 => PX_out rfl (kx E h9 q9))
      obtain ⟨x404, rfl, k⟩ := kk v9 h9 q9
      clear kk kx g1 g2 q9
      refine P_iload (pc := 1734) dL_law__1734 rfl ?_
      refine P_icmp_eq (tgt := 1741) (pc := 1736) dL_law__1736 (by decide) (fun c => ?_) (fun c => ?_)
      · have k := k.1 c
        refine P_iload (pc := 1741) dL_law__1741 rfl ?_
        refine P_if_ne (tgt := 1758) (pc := 1743) dL_law__1743 (by decide) (fun c => ?_) (fun c => ?_)
        · have k := k.2 c
          refine P_goto (tgt := 2586) (pc := 1758) dL_law__1758 (by decide) ?_
          refine P_iinc (v := l4 + (10 : Int32)) (pc := 2586) dL_law__2586 (by decide) rfl rfl (Or.inr (by intro z e9; cases e9)) rfl ?_
          refine P_goto (tgt := 23) (pc := 2589) dL_law__2589 (by decide) ?_
          exact P_drop (ls2 := [vR (1201, 0), vR (900, l1), vR (1000, l2), vR l3, vI (l4 + (10 : Int32)), vU, vU]) (ls := [vR (1201, 0), vR (900, l1), vR (1000, l2), vR l3, vI (l4 + (10 : Int32)), vI x392, vI x400]) ⟨Or.inr rfl, ⟨Or.inr rfl, ⟨Or.inr rfl, ⟨Or.inr rfl, ⟨Or.inr rfl, ⟨Or.inl rfl, ⟨Or.inl rfl, trivial⟩⟩⟩⟩⟩⟩⟩ k
        · have k := k.1 c
          refine P_aload_n (pc := 1746) dL_law__1746 rfl ?_
          refine P_iconst (v := (0 : Int32)) (pc := 1747) dL_law__1747 (by decide) ?_
          obtain ⟨n9, f9, e9, i9, k⟩ := k
          refine P_lald (pc := 1748) dL_law__1748 e9 i9 ?_
          clear e9
          generalize f9 (Int32.toNatClampNeg (0 : Int32)) = x405 at k ⊢
          refine P_iload (pc := 1749) dL_law__1749 rfl ?_
          refine P_i2l (pc := 1751) dL_law__1751 ?_
          refine P_lcmp (pc := 1752) dL_law__1752 ?_
          refine P_if_eq (tgt := 1758) (pc := 1753) dL_law__1753 (by decide) (fun c => ?_) (fun c => ?_)
          · have k := k.1 c
            refine P_goto (tgt := 2586) (pc := 1758) dL_law__1758 (by decide) ?_
            refine P_iinc (v := l4 + (10 : Int32)) (pc := 2586) dL_law__2586 (by decide) rfl rfl (Or.inr (by intro z e9; cases e9)) rfl ?_
            refine P_goto (tgt := 23) (pc := 2589) dL_law__2589 (by decide) ?_
            exact P_drop (ls2 := [vR (1201, 0), vR (900, l1), vR (1000, l2), vR l3, vI (l4 + (10 : Int32)), vU, vU]) (ls := [vR (1201, 0), vR (900, l1), vR (1000, l2), vR l3, vI (l4 + (10 : Int32)), vI x392, vI x400]) ⟨Or.inr rfl, ⟨Or.inr rfl, ⟨Or.inr rfl, ⟨Or.inr rfl, ⟨Or.inr rfl, ⟨Or.inl rfl, ⟨Or.inl rfl, trivial⟩⟩⟩⟩⟩⟩⟩ k
          · have k := k.2 c
            refine P_iconst (v := (0 : Int32)) (pc := 1756) dL_law__1756 (by decide) ?_
            exact R_ireturn (pc := 1757) dL_law__1757 rfl rfl k
      · have k := k.2 c
        refine P_iconst (v := (0 : Int32)) (pc := 1739) dL_law__1739 (by decide) ?_
        exact R_ireturn (pc := 1740) dL_law__1740 rfl rfl k
    replace k := k.2
    by_cases c26 : (x2 &&& (63 : Int32)) = (26 : Int32)
    · replace k := k.1 c26
      refine P_tableIn (pc := 40) (tgt := 1761) dL_law__40 (by rw [c26]; decide) (by rw [c26]; decide) (by rw [c26] <;> rfl) (by decide) ?_
      refine P_aload_n (pc := 1761) dL_law__1761 rfl ?_
      refine P_aload_n (pc := 1762) dL_law__1762 rfl ?_
      refine P_iload (pc := 1763) dL_law__1763 rfl ?_
      refine P_iconst (v := (1 : Int32)) (pc := 1765) dL_law__1765 (by decide) ?_
      refine P_iadd (pc := 1766) dL_law__1766 ?_
      obtain ⟨n9, f9, e9, i9, k⟩ := k
      refine P_sld (pc := 1767) dL_law__1767 e9 i9 ?_
      clear e9
      generalize f9 (Int32.toNatClampNeg (l4 + (1 : Int32))) = x406 at k ⊢
      refine P_aload_n (pc := 1768) dL_law__1768 rfl ?_
      refine P_iload (pc := 1769) dL_law__1769 rfl ?_
      refine P_iconst (v := (2 : Int32)) (pc := 1771) dL_law__1771 (by decide) ?_
      refine P_iadd (pc := 1772) dL_law__1772 ?_
      obtain ⟨n9, f9, e9, i9, k⟩ := k
      refine P_sld (pc := 1773) dL_law__1773 e9 i9 ?_
      clear e9
      generalize f9 (Int32.toNatClampNeg (l4 + (2 : Int32))) = x407 at k ⊢
      refine P_aload_n (pc := 1774) dL_law__1774 rfl ?_
      refine P_iload (pc := 1775) dL_law__1775 rfl ?_
      refine P_iconst (v := (3 : Int32)) (pc := 1777) dL_law__1777 (by decide) ?_
      refine P_iadd (pc := 1778) dL_law__1778 ?_
      obtain ⟨n9, f9, e9, i9, k⟩ := k
      refine P_sld (pc := 1779) dL_law__1779 e9 i9 ?_
      clear e9
      generalize f9 (Int32.toNatClampNeg (l4 + (3 : Int32))) = x408 at k ⊢
      refine P_aload_n (pc := 1780) dL_law__1780 rfl ?_
      obtain ⟨d2, nc, ns, rc410, rs411, Qc, g1, rfl, rfl, g2, kk, kx⟩ := k
      refine P_callSX (As := [vR (900, l1), vI x406, vI x407, vI x408, vR l3]) (st := []) (pc := 1781) dL_law__1781 mk_L_regents l_L_212 st_L_regents ini_L rfl g1 (Nat.le_of_ble_eq_true rfl) rfl g2 (fun v9 h9 q9 => ?_) (fun E h9 q9 => PX_out rfl (kx E h9 q9))
      obtain ⟨x412, rfl, k⟩ := kk v9 h9 q9
      clear kk kx g1 g2 q9
      refine P_istore (pc := 1784) dL_law__1784 (by decide) (Or.inr (by intro z e9; cases e9)) rfl ?_
      refine P_aload_n (pc := 1786) dL_law__1786 rfl ?_
      refine P_aload_n (pc := 1787) dL_law__1787 rfl ?_
      refine P_iload (pc := 1788) dL_law__1788 rfl ?_
      refine P_iconst (v := (1 : Int32)) (pc := 1790) dL_law__1790 (by decide) ?_
      refine P_iadd (pc := 1791) dL_law__1791 ?_
      obtain ⟨n9, f9, e9, i9, k⟩ := k
      refine P_sld (pc := 1792) dL_law__1792 e9 i9 ?_
      clear e9
      generalize f9 (Int32.toNatClampNeg (l4 + (1 : Int32))) = x413 at k ⊢
      refine P_aload_n (pc := 1793) dL_law__1793 rfl ?_
      refine P_iload (pc := 1794) dL_law__1794 rfl ?_
      refine P_iconst (v := (2 : Int32)) (pc := 1796) dL_law__1796 (by decide) ?_
      refine P_iadd (pc := 1797) dL_law__1797 ?_
      obtain ⟨n9, f9, e9, i9, k⟩ := k
      refine P_sld (pc := 1798) dL_law__1798 e9 i9 ?_
      clear e9
      generalize f9 (Int32.toNatClampNeg (l4 + (2 : Int32))) = x414 at k ⊢
      refine P_aload_n (pc := 1799) dL_law__1799 rfl ?_
      refine P_iload (pc := 1800) dL_law__1800 rfl ?_
      refine P_iconst (v := (3 : Int32)) (pc := 1802) dL_law__1802 (by decide) ?_
      refine P_iadd (pc := 1803) dL_law__1803 ?_
      obtain ⟨n9, f9, e9, i9, k⟩ := k
      refine P_sld (pc := 1804) dL_law__1804 e9 i9 ?_
      clear e9
      generalize f9 (Int32.toNatClampNeg (l4 + (3 : Int32))) = x415 at k ⊢
      obtain ⟨⟨w9, e9⟩, d2, nc, ns, rc417, rs418, Qc, g1, rfl, rfl, g2, kk, kx⟩ := k
      refine P_callV (ci := 10) (k := 0) (id := l2) (q := (RX10, TX10, 55)) (As := [vI x413, vI x414, vI x415]) (st := []) (pc := 1805) dL_law__1805 mk_X10_regents l_L_215 im_X10_regents se_X10_regents ini_X10 rfl g1 (Nat.le_of_ble_eq_true rfl) rfl rfl (by decide) e9 rfl g2 (fun v9 h9 q9 => ?_) (fun E h9 q9 => PX_out rfl (kx E h9 q9))
      obtain ⟨x419, rfl, k⟩ := kk v9 h9 q9
      clear kk kx g1 g2 q9
      refine P_istore (pc := 1808) dL_law__1808 (by decide) (Or.inr (by intro z e9; cases e9)) rfl ?_
      refine P_aload_n (pc := 1810) dL_law__1810 rfl ?_
      obtain ⟨⟨w9, e9⟩, d2, nc, ns, rc421, rs422, Qc, g1, rfl, rfl, g2, kk, kx⟩ := k
      refine P_callV (ci := 10) (k := 0) (id := l2) (q := (RX10, TX10, 55)) (As := []) (st := []) (pc := 1811) dL_law__1811 mk_X10_thrown l_L_129 im_X10_thrown se_X10_thrown ini_X10 rfl g1 (Nat.le_of_ble_eq_true rfl) rfl rfl (by decide) e9 rfl g2 (fun v9 h9 q9 => ?_) (fun E h9 q9 => PX_out rfl (kx E h9 q9))
      obtain ⟨x423, rfl, k⟩ := kk v9 h9 q9
      clear kk kx g1 g2 q9
      refine P_iload (pc := 1814) dL_law__1814 rfl ?_
      refine P_icmp_eq (tgt := 1821) (pc := 1816) dL_law__1816 (by decide) (fun c => ?_) (fun c => ?_)
      · have k := k.1 c
        refine P_iload (pc := 1821) dL_law__1821 rfl ?_
        refine P_if_ne (tgt := 1838) (pc := 1823) dL_law__1823 (by decide) (fun c => ?_) (fun c => ?_)
        · have k := k.2 c
          refine P_goto (tgt := 2586) (pc := 1838) dL_law__1838 (by decide) ?_
          refine P_iinc (v := l4 + (10 : Int32)) (pc := 2586) dL_law__2586 (by decide) rfl rfl (Or.inr (by intro z e9; cases e9)) rfl ?_
          refine P_goto (tgt := 23) (pc := 2589) dL_law__2589 (by decide) ?_
          exact P_drop (ls2 := [vR (1201, 0), vR (900, l1), vR (1000, l2), vR l3, vI (l4 + (10 : Int32)), vU, vU]) (ls := [vR (1201, 0), vR (900, l1), vR (1000, l2), vR l3, vI (l4 + (10 : Int32)), vI x412, vI x419]) ⟨Or.inr rfl, ⟨Or.inr rfl, ⟨Or.inr rfl, ⟨Or.inr rfl, ⟨Or.inr rfl, ⟨Or.inl rfl, ⟨Or.inl rfl, trivial⟩⟩⟩⟩⟩⟩⟩ k
        · have k := k.1 c
          refine P_aload_n (pc := 1826) dL_law__1826 rfl ?_
          refine P_iconst (v := (0 : Int32)) (pc := 1827) dL_law__1827 (by decide) ?_
          obtain ⟨n9, f9, e9, i9, k⟩ := k
          refine P_lald (pc := 1828) dL_law__1828 e9 i9 ?_
          clear e9
          generalize f9 (Int32.toNatClampNeg (0 : Int32)) = x424 at k ⊢
          refine P_iload (pc := 1829) dL_law__1829 rfl ?_
          refine P_i2l (pc := 1831) dL_law__1831 ?_
          refine P_lcmp (pc := 1832) dL_law__1832 ?_
          refine P_if_eq (tgt := 1838) (pc := 1833) dL_law__1833 (by decide) (fun c => ?_) (fun c => ?_)
          · have k := k.1 c
            refine P_goto (tgt := 2586) (pc := 1838) dL_law__1838 (by decide) ?_
            refine P_iinc (v := l4 + (10 : Int32)) (pc := 2586) dL_law__2586 (by decide) rfl rfl (Or.inr (by intro z e9; cases e9)) rfl ?_
            refine P_goto (tgt := 23) (pc := 2589) dL_law__2589 (by decide) ?_
            exact P_drop (ls2 := [vR (1201, 0), vR (900, l1), vR (1000, l2), vR l3, vI (l4 + (10 : Int32)), vU, vU]) (ls := [vR (1201, 0), vR (900, l1), vR (1000, l2), vR l3, vI (l4 + (10 : Int32)), vI x412, vI x419]) ⟨Or.inr rfl, ⟨Or.inr rfl, ⟨Or.inr rfl, ⟨Or.inr rfl, ⟨Or.inr rfl, ⟨Or.inl rfl, ⟨Or.inl rfl, trivial⟩⟩⟩⟩⟩⟩⟩ k
          · have k := k.2 c
            refine P_iconst (v := (0 : Int32)) (pc := 1836) dL_law__1836 (by decide) ?_
            exact R_ireturn (pc := 1837) dL_law__1837 rfl rfl k
      · have k := k.2 c
        refine P_iconst (v := (0 : Int32)) (pc := 1819) dL_law__1819 (by decide) ?_
        exact R_ireturn (pc := 1820) dL_law__1820 rfl rfl k
    replace k := k.2
    by_cases c27 : (x2 &&& (63 : Int32)) = (27 : Int32)
    · replace k := k.1 c27
      refine P_tableIn (pc := 40) (tgt := 1841) dL_law__40 (by rw [c27]; decide) (by rw [c27]; decide) (by rw [c27] <;> rfl) (by decide) ?_
      refine P_aload_n (pc := 1841) dL_law__1841 rfl ?_
      refine P_aload_n (pc := 1842) dL_law__1842 rfl ?_
      refine P_iload (pc := 1843) dL_law__1843 rfl ?_
      refine P_iconst (v := (1 : Int32)) (pc := 1845) dL_law__1845 (by decide) ?_
      refine P_iadd (pc := 1846) dL_law__1846 ?_
      obtain ⟨n9, f9, e9, i9, k⟩ := k
      refine P_sld (pc := 1847) dL_law__1847 e9 i9 ?_
      clear e9
      generalize f9 (Int32.toNatClampNeg (l4 + (1 : Int32))) = x425 at k ⊢
      refine P_aload_n (pc := 1848) dL_law__1848 rfl ?_
      refine P_iload (pc := 1849) dL_law__1849 rfl ?_
      refine P_iconst (v := (2 : Int32)) (pc := 1851) dL_law__1851 (by decide) ?_
      refine P_iadd (pc := 1852) dL_law__1852 ?_
      obtain ⟨n9, f9, e9, i9, k⟩ := k
      refine P_sld (pc := 1853) dL_law__1853 e9 i9 ?_
      clear e9
      generalize f9 (Int32.toNatClampNeg (l4 + (2 : Int32))) = x426 at k ⊢
      refine P_aload_n (pc := 1854) dL_law__1854 rfl ?_
      refine P_iload (pc := 1855) dL_law__1855 rfl ?_
      refine P_iconst (v := (3 : Int32)) (pc := 1857) dL_law__1857 (by decide) ?_
      refine P_iadd (pc := 1858) dL_law__1858 ?_
      obtain ⟨n9, f9, e9, i9, k⟩ := k
      refine P_sld (pc := 1859) dL_law__1859 e9 i9 ?_
      clear e9
      generalize f9 (Int32.toNatClampNeg (l4 + (3 : Int32))) = x427 at k ⊢
      refine P_aload_n (pc := 1860) dL_law__1860 rfl ?_
      obtain ⟨d2, nc, ns, rc429, rs430, Qc, g1, rfl, rfl, g2, kk, kx⟩ := k
      refine P_callSX (As := [vR (900, l1), vI x425, vI x426, vI x427, vR l3]) (st := []) (pc := 1861) dL_law__1861 mk_L_moss l_L_216 st_L_moss ini_L rfl g1 (Nat.le_of_ble_eq_true rfl) rfl g2 (fun v9 h9 q9 => ?_) (fun E h9 q9 => PX_out rfl (kx E h9 q9))
      obtain ⟨x431, rfl, k⟩ := kk v9 h9 q9
      clear kk kx g1 g2 q9
      refine P_istore (pc := 1864) dL_law__1864 (by decide) (Or.inr (by intro z e9; cases e9)) rfl ?_
      refine P_aload_n (pc := 1866) dL_law__1866 rfl ?_
      refine P_aload_n (pc := 1867) dL_law__1867 rfl ?_
      refine P_iload (pc := 1868) dL_law__1868 rfl ?_
      refine P_iconst (v := (1 : Int32)) (pc := 1870) dL_law__1870 (by decide) ?_
      refine P_iadd (pc := 1871) dL_law__1871 ?_
      obtain ⟨n9, f9, e9, i9, k⟩ := k
      refine P_sld (pc := 1872) dL_law__1872 e9 i9 ?_
      clear e9
      generalize f9 (Int32.toNatClampNeg (l4 + (1 : Int32))) = x432 at k ⊢
      refine P_aload_n (pc := 1873) dL_law__1873 rfl ?_
      refine P_iload (pc := 1874) dL_law__1874 rfl ?_
      refine P_iconst (v := (2 : Int32)) (pc := 1876) dL_law__1876 (by decide) ?_
      refine P_iadd (pc := 1877) dL_law__1877 ?_
      obtain ⟨n9, f9, e9, i9, k⟩ := k
      refine P_sld (pc := 1878) dL_law__1878 e9 i9 ?_
      clear e9
      generalize f9 (Int32.toNatClampNeg (l4 + (2 : Int32))) = x433 at k ⊢
      refine P_aload_n (pc := 1879) dL_law__1879 rfl ?_
      refine P_iload (pc := 1880) dL_law__1880 rfl ?_
      refine P_iconst (v := (3 : Int32)) (pc := 1882) dL_law__1882 (by decide) ?_
      refine P_iadd (pc := 1883) dL_law__1883 ?_
      obtain ⟨n9, f9, e9, i9, k⟩ := k
      refine P_sld (pc := 1884) dL_law__1884 e9 i9 ?_
      clear e9
      generalize f9 (Int32.toNatClampNeg (l4 + (3 : Int32))) = x434 at k ⊢
      obtain ⟨⟨w9, e9⟩, d2, nc, ns, rc436, rs437, Qc, g1, rfl, rfl, g2, kk, kx⟩ := k
      refine P_callV (ci := 10) (k := 0) (id := l2) (q := (RX10, TX10, 55)) (As := [vI x432, vI x433, vI x434]) (st := []) (pc := 1885) dL_law__1885 mk_X10_moss l_L_218 im_X10_moss se_X10_moss ini_X10 rfl g1 (Nat.le_of_ble_eq_true rfl) rfl rfl (by decide) e9 rfl g2 (fun v9 h9 q9 => ?_) (fun E h9 q9 => PX_out rfl (kx E h9 q9))
      obtain ⟨x438, rfl, k⟩ := kk v9 h9 q9
      clear kk kx g1 g2 q9
      refine P_istore (pc := 1888) dL_law__1888 (by decide) (Or.inr (by intro z e9; cases e9)) rfl ?_
      refine P_aload_n (pc := 1890) dL_law__1890 rfl ?_
      obtain ⟨⟨w9, e9⟩, d2, nc, ns, rc440, rs441, Qc, g1, rfl, rfl, g2, kk, kx⟩ := k
      refine P_callV (ci := 10) (k := 0) (id := l2) (q := (RX10, TX10, 55)) (As := []) (st := []) (pc := 1891) dL_law__1891 mk_X10_thrown l_L_129 im_X10_thrown se_X10_thrown ini_X10 rfl g1 (Nat.le_of_ble_eq_true rfl) rfl rfl (by decide) e9 rfl g2 (fun v9 h9 q9 => ?_) (fun E h9 q9 => PX_out rfl (kx E h9 q9))
      obtain ⟨x442, rfl, k⟩ := kk v9 h9 q9
      clear kk kx g1 g2 q9
      refine P_iload (pc := 1894) dL_law__1894 rfl ?_
      refine P_icmp_eq (tgt := 1901) (pc := 1896) dL_law__1896 (by decide) (fun c => ?_) (fun c => ?_)
      · have k := k.1 c
        refine P_iload (pc := 1901) dL_law__1901 rfl ?_
        refine P_if_ne (tgt := 1918) (pc := 1903) dL_law__1903 (by decide) (fun c => ?_) (fun c => ?_)
        · have k := k.2 c
          refine P_goto (tgt := 2586) (pc := 1918) dL_law__1918 (by decide) ?_
          refine P_iinc (v := l4 + (10 : Int32)) (pc := 2586) dL_law__2586 (by decide) rfl rfl (Or.inr (by intro z e9; cases e9)) rfl ?_
          refine P_goto (tgt := 23) (pc := 2589) dL_law__2589 (by decide) ?_
          exact P_drop (ls2 := [vR (1201, 0), vR (900, l1), vR (1000, l2), vR l3, vI (l4 + (10 : Int32)), vU, vU]) (ls := [vR (1201, 0), vR (900, l1), vR (1000, l2), vR l3, vI (l4 + (10 : Int32)), vI x431, vI x438]) ⟨Or.inr rfl, ⟨Or.inr rfl, ⟨Or.inr rfl, ⟨Or.inr rfl, ⟨Or.inr rfl, ⟨Or.inl rfl, ⟨Or.inl rfl, trivial⟩⟩⟩⟩⟩⟩⟩ k
        · have k := k.1 c
          refine P_aload_n (pc := 1906) dL_law__1906 rfl ?_
          refine P_iconst (v := (0 : Int32)) (pc := 1907) dL_law__1907 (by decide) ?_
          obtain ⟨n9, f9, e9, i9, k⟩ := k
          refine P_lald (pc := 1908) dL_law__1908 e9 i9 ?_
          clear e9
          generalize f9 (Int32.toNatClampNeg (0 : Int32)) = x443 at k ⊢
          refine P_iload (pc := 1909) dL_law__1909 rfl ?_
          refine P_i2l (pc := 1911) dL_law__1911 ?_
          refine P_lcmp (pc := 1912) dL_law__1912 ?_
          refine P_if_eq (tgt := 1918) (pc := 1913) dL_law__1913 (by decide) (fun c => ?_) (fun c => ?_)
          · have k := k.1 c
            refine P_goto (tgt := 2586) (pc := 1918) dL_law__1918 (by decide) ?_
            refine P_iinc (v := l4 + (10 : Int32)) (pc := 2586) dL_law__2586 (by decide) rfl rfl (Or.inr (by intro z e9; cases e9)) rfl ?_
            refine P_goto (tgt := 23) (pc := 2589) dL_law__2589 (by decide) ?_
            exact P_drop (ls2 := [vR (1201, 0), vR (900, l1), vR (1000, l2), vR l3, vI (l4 + (10 : Int32)), vU, vU]) (ls := [vR (1201, 0), vR (900, l1), vR (1000, l2), vR l3, vI (l4 + (10 : Int32)), vI x431, vI x438]) ⟨Or.inr rfl, ⟨Or.inr rfl, ⟨Or.inr rfl, ⟨Or.inr rfl, ⟨Or.inr rfl, ⟨Or.inl rfl, ⟨Or.inl rfl, trivial⟩⟩⟩⟩⟩⟩⟩ k
          · have k := k.2 c
            refine P_iconst (v := (0 : Int32)) (pc := 1916) dL_law__1916 (by decide) ?_
            exact R_ireturn (pc := 1917) dL_law__1917 rfl rfl k
      · have k := k.2 c
        refine P_iconst (v := (0 : Int32)) (pc := 1899) dL_law__1899 (by decide) ?_
        exact R_ireturn (pc := 1900) dL_law__1900 rfl rfl k
    replace k := k.2
    by_cases c28 : (x2 &&& (63 : Int32)) = (28 : Int32)
    · replace k := k.1 c28
      refine P_tableIn (pc := 40) (tgt := 1921) dL_law__40 (by rw [c28]; decide) (by rw [c28]; decide) (by rw [c28] <;> rfl) (by decide) ?_
      refine P_aload_n (pc := 1921) dL_law__1921 rfl ?_
      refine P_aload_n (pc := 1922) dL_law__1922 rfl ?_
      refine P_iload (pc := 1923) dL_law__1923 rfl ?_
      refine P_iconst (v := (1 : Int32)) (pc := 1925) dL_law__1925 (by decide) ?_
      refine P_iadd (pc := 1926) dL_law__1926 ?_
      obtain ⟨n9, f9, e9, i9, k⟩ := k
      refine P_sld (pc := 1927) dL_law__1927 e9 i9 ?_
      clear e9
      generalize f9 (Int32.toNatClampNeg (l4 + (1 : Int32))) = x444 at k ⊢
      refine P_aload_n (pc := 1928) dL_law__1928 rfl ?_
      obtain ⟨d2, nc, ns, rc446, rs447, Qc, g1, rfl, rfl, g2, kk, kx⟩ := k
      refine P_callSX (As := [vR (900, l1), vI x444, vR l3]) (st := []) (pc := 1929) dL_law__1929 mk_L_backward l_L_219 st_L_backward ini_L rfl g1 (Nat.le_of_ble_eq_true rfl) rfl g2 (fun v9 h9 q9 => ?_) (fun E h9 q9 => PX_out rfl (kx E h9 q9))
      obtain ⟨x448, rfl, k⟩ := kk v9 h9 q9
      clear kk kx g1 g2 q9
      refine P_istore (pc := 1932) dL_law__1932 (by decide) (Or.inr (by intro z e9; cases e9)) rfl ?_
      refine P_aload_n (pc := 1934) dL_law__1934 rfl ?_
      refine P_aload_n (pc := 1935) dL_law__1935 rfl ?_
      refine P_iload (pc := 1936) dL_law__1936 rfl ?_
      refine P_iconst (v := (1 : Int32)) (pc := 1938) dL_law__1938 (by decide) ?_
      refine P_iadd (pc := 1939) dL_law__1939 ?_
      obtain ⟨n9, f9, e9, i9, k⟩ := k
      refine P_sld (pc := 1940) dL_law__1940 e9 i9 ?_
      clear e9
      generalize f9 (Int32.toNatClampNeg (l4 + (1 : Int32))) = x449 at k ⊢
      obtain ⟨⟨w9, e9⟩, d2, nc, ns, rc451, rs452, Qc, g1, rfl, rfl, g2, kk, kx⟩ := k
      refine P_callV (ci := 10) (k := 0) (id := l2) (q := (RX10, TX10, 55)) (As := [vI x449]) (st := []) (pc := 1941) dL_law__1941 mk_X10_backward l_L_221 im_X10_backward se_X10_backward ini_X10 rfl g1 (Nat.le_of_ble_eq_true rfl) rfl rfl (by decide) e9 rfl g2 (fun v9 h9 q9 => ?_) (fun E h9 q9 => PX_out rfl (kx E h9 q9))
      obtain ⟨x453, rfl, k⟩ := kk v9 h9 q9
      clear kk kx g1 g2 q9
      refine P_istore (pc := 1944) dL_law__1944 (by decide) (Or.inr (by intro z e9; cases e9)) rfl ?_
      refine P_aload_n (pc := 1946) dL_law__1946 rfl ?_
      obtain ⟨⟨w9, e9⟩, d2, nc, ns, rc455, rs456, Qc, g1, rfl, rfl, g2, kk, kx⟩ := k
      refine P_callV (ci := 10) (k := 0) (id := l2) (q := (RX10, TX10, 55)) (As := []) (st := []) (pc := 1947) dL_law__1947 mk_X10_thrown l_L_129 im_X10_thrown se_X10_thrown ini_X10 rfl g1 (Nat.le_of_ble_eq_true rfl) rfl rfl (by decide) e9 rfl g2 (fun v9 h9 q9 => ?_) (fun E h9 q9 => PX_out rfl (kx E h9 q9))
      obtain ⟨x457, rfl, k⟩ := kk v9 h9 q9
      clear kk kx g1 g2 q9
      refine P_iload (pc := 1950) dL_law__1950 rfl ?_
      refine P_icmp_eq (tgt := 1957) (pc := 1952) dL_law__1952 (by decide) (fun c => ?_) (fun c => ?_)
      · have k := k.1 c
        refine P_iload (pc := 1957) dL_law__1957 rfl ?_
        refine P_if_ne (tgt := 1974) (pc := 1959) dL_law__1959 (by decide) (fun c => ?_) (fun c => ?_)
        · have k := k.2 c
          refine P_goto (tgt := 2586) (pc := 1974) dL_law__1974 (by decide) ?_
          refine P_iinc (v := l4 + (10 : Int32)) (pc := 2586) dL_law__2586 (by decide) rfl rfl (Or.inr (by intro z e9; cases e9)) rfl ?_
          refine P_goto (tgt := 23) (pc := 2589) dL_law__2589 (by decide) ?_
          exact P_drop (ls2 := [vR (1201, 0), vR (900, l1), vR (1000, l2), vR l3, vI (l4 + (10 : Int32)), vU, vU]) (ls := [vR (1201, 0), vR (900, l1), vR (1000, l2), vR l3, vI (l4 + (10 : Int32)), vI x448, vI x453]) ⟨Or.inr rfl, ⟨Or.inr rfl, ⟨Or.inr rfl, ⟨Or.inr rfl, ⟨Or.inr rfl, ⟨Or.inl rfl, ⟨Or.inl rfl, trivial⟩⟩⟩⟩⟩⟩⟩ k
        · have k := k.1 c
          refine P_aload_n (pc := 1962) dL_law__1962 rfl ?_
          refine P_iconst (v := (0 : Int32)) (pc := 1963) dL_law__1963 (by decide) ?_
          obtain ⟨n9, f9, e9, i9, k⟩ := k
          refine P_lald (pc := 1964) dL_law__1964 e9 i9 ?_
          clear e9
          generalize f9 (Int32.toNatClampNeg (0 : Int32)) = x458 at k ⊢
          refine P_iload (pc := 1965) dL_law__1965 rfl ?_
          refine P_i2l (pc := 1967) dL_law__1967 ?_
          refine P_lcmp (pc := 1968) dL_law__1968 ?_
          refine P_if_eq (tgt := 1974) (pc := 1969) dL_law__1969 (by decide) (fun c => ?_) (fun c => ?_)
          · have k := k.1 c
            refine P_goto (tgt := 2586) (pc := 1974) dL_law__1974 (by decide) ?_
            refine P_iinc (v := l4 + (10 : Int32)) (pc := 2586) dL_law__2586 (by decide) rfl rfl (Or.inr (by intro z e9; cases e9)) rfl ?_
            refine P_goto (tgt := 23) (pc := 2589) dL_law__2589 (by decide) ?_
            exact P_drop (ls2 := [vR (1201, 0), vR (900, l1), vR (1000, l2), vR l3, vI (l4 + (10 : Int32)), vU, vU]) (ls := [vR (1201, 0), vR (900, l1), vR (1000, l2), vR l3, vI (l4 + (10 : Int32)), vI x448, vI x453]) ⟨Or.inr rfl, ⟨Or.inr rfl, ⟨Or.inr rfl, ⟨Or.inr rfl, ⟨Or.inr rfl, ⟨Or.inl rfl, ⟨Or.inl rfl, trivial⟩⟩⟩⟩⟩⟩⟩ k
          · have k := k.2 c
            refine P_iconst (v := (0 : Int32)) (pc := 1972) dL_law__1972 (by decide) ?_
            exact R_ireturn (pc := 1973) dL_law__1973 rfl rfl k
      · have k := k.2 c
        refine P_iconst (v := (0 : Int32)) (pc := 1955) dL_law__1955 (by decide) ?_
        exact R_ireturn (pc := 1956) dL_law__1956 rfl rfl k
    replace k := k.2
    by_cases c29 : (x2 &&& (63 : Int32)) = (29 : Int32)
    · replace k := k.1 c29
      refine P_tableIn (pc := 40) (tgt := 1977) dL_law__40 (by rw [c29]; decide) (by rw [c29]; decide) (by rw [c29] <;> rfl) (by decide) ?_
      refine P_aload_n (pc := 1977) dL_law__1977 rfl ?_
      refine P_aload_n (pc := 1978) dL_law__1978 rfl ?_
      refine P_iload (pc := 1979) dL_law__1979 rfl ?_
      refine P_iconst (v := (1 : Int32)) (pc := 1981) dL_law__1981 (by decide) ?_
      refine P_iadd (pc := 1982) dL_law__1982 ?_
      obtain ⟨n9, f9, e9, i9, k⟩ := k
      refine P_sld (pc := 1983) dL_law__1983 e9 i9 ?_
      clear e9
      generalize f9 (Int32.toNatClampNeg (l4 + (1 : Int32))) = x459 at k ⊢
      refine P_aload_n (pc := 1984) dL_law__1984 rfl ?_
      obtain ⟨d2, nc, ns, rc461, rs462, Qc, g1, rfl, rfl, g2, kk, kx⟩ := k
      refine P_callSX (As := [vR (900, l1), vI x459, vR l3]) (st := []) (pc := 1985) dL_law__1985 mk_L_greenest l_L_222 st_L_greenest ini_L rfl g1 (Nat.le_of_ble_eq_true rfl) rfl g2 (fun v9 h9 q9 => ?_) (fun E h9 q9 => PX_out rfl (kx E h9 q9))
      obtain ⟨x463, rfl, k⟩ := kk v9 h9 q9
      clear kk kx g1 g2 q9
      refine P_istore (pc := 1988) dL_law__1988 (by decide) (Or.inr (by intro z e9; cases e9)) rfl ?_
      refine P_aload_n (pc := 1990) dL_law__1990 rfl ?_
      refine P_aload_n (pc := 1991) dL_law__1991 rfl ?_
      refine P_iload (pc := 1992) dL_law__1992 rfl ?_
      refine P_iconst (v := (1 : Int32)) (pc := 1994) dL_law__1994 (by decide) ?_
      refine P_iadd (pc := 1995) dL_law__1995 ?_
      obtain ⟨n9, f9, e9, i9, k⟩ := k
      refine P_sld (pc := 1996) dL_law__1996 e9 i9 ?_
      clear e9
      generalize f9 (Int32.toNatClampNeg (l4 + (1 : Int32))) = x464 at k ⊢
      obtain ⟨⟨w9, e9⟩, d2, nc, ns, rc466, rs467, Qc, g1, rfl, rfl, g2, kk, kx⟩ := k
      refine P_callV (ci := 10) (k := 0) (id := l2) (q := (RX10, TX10, 55)) (As := [vI x464]) (st := []) (pc := 1997) dL_law__1997 mk_X10_greenest l_L_224 im_X10_greenest se_X10_greenest ini_X10 rfl g1 (Nat.le_of_ble_eq_true rfl) rfl rfl (by decide) e9 rfl g2 (fun v9 h9 q9 => ?_) (fun E h9 q9 => PX_out rfl (kx E h9 q9))
      obtain ⟨x468, rfl, k⟩ := kk v9 h9 q9
      clear kk kx g1 g2 q9
      refine P_istore (pc := 2000) dL_law__2000 (by decide) (Or.inr (by intro z e9; cases e9)) rfl ?_
      refine P_aload_n (pc := 2002) dL_law__2002 rfl ?_
      obtain ⟨⟨w9, e9⟩, d2, nc, ns, rc470, rs471, Qc, g1, rfl, rfl, g2, kk, kx⟩ := k
      refine P_callV (ci := 10) (k := 0) (id := l2) (q := (RX10, TX10, 55)) (As := []) (st := []) (pc := 2003) dL_law__2003 mk_X10_thrown l_L_129 im_X10_thrown se_X10_thrown ini_X10 rfl g1 (Nat.le_of_ble_eq_true rfl) rfl rfl (by decide) e9 rfl g2 (fun v9 h9 q9 => ?_) (fun E h9 q9 => PX_out rfl (kx E h9 q9))
      obtain ⟨x472, rfl, k⟩ := kk v9 h9 q9
      clear kk kx g1 g2 q9
      refine P_iload (pc := 2006) dL_law__2006 rfl ?_
      refine P_icmp_eq (tgt := 2013) (pc := 2008) dL_law__2008 (by decide) (fun c => ?_) (fun c => ?_)
      · have k := k.1 c
        refine P_iload (pc := 2013) dL_law__2013 rfl ?_
        refine P_if_ne (tgt := 2030) (pc := 2015) dL_law__2015 (by decide) (fun c => ?_) (fun c => ?_)
        · have k := k.2 c
          refine P_goto (tgt := 2586) (pc := 2030) dL_law__2030 (by decide) ?_
          refine P_iinc (v := l4 + (10 : Int32)) (pc := 2586) dL_law__2586 (by decide) rfl rfl (Or.inr (by intro z e9; cases e9)) rfl ?_
          refine P_goto (tgt := 23) (pc := 2589) dL_law__2589 (by decide) ?_
          exact P_drop (ls2 := [vR (1201, 0), vR (900, l1), vR (1000, l2), vR l3, vI (l4 + (10 : Int32)), vU, vU]) (ls := [vR (1201, 0), vR (900, l1), vR (1000, l2), vR l3, vI (l4 + (10 : Int32)), vI x463, vI x468]) ⟨Or.inr rfl, ⟨Or.inr rfl, ⟨Or.inr rfl, ⟨Or.inr rfl, ⟨Or.inr rfl, ⟨Or.inl rfl, ⟨Or.inl rfl, trivial⟩⟩⟩⟩⟩⟩⟩ k
        · have k := k.1 c
          refine P_aload_n (pc := 2018) dL_law__2018 rfl ?_
          refine P_iconst (v := (0 : Int32)) (pc := 2019) dL_law__2019 (by decide) ?_
          obtain ⟨n9, f9, e9, i9, k⟩ := k
          refine P_lald (pc := 2020) dL_law__2020 e9 i9 ?_
          clear e9
          generalize f9 (Int32.toNatClampNeg (0 : Int32)) = x473 at k ⊢
          refine P_iload (pc := 2021) dL_law__2021 rfl ?_
          refine P_i2l (pc := 2023) dL_law__2023 ?_
          refine P_lcmp (pc := 2024) dL_law__2024 ?_
          refine P_if_eq (tgt := 2030) (pc := 2025) dL_law__2025 (by decide) (fun c => ?_) (fun c => ?_)
          · have k := k.1 c
            refine P_goto (tgt := 2586) (pc := 2030) dL_law__2030 (by decide) ?_
            refine P_iinc (v := l4 + (10 : Int32)) (pc := 2586) dL_law__2586 (by decide) rfl rfl (Or.inr (by intro z e9; cases e9)) rfl ?_
            refine P_goto (tgt := 23) (pc := 2589) dL_law__2589 (by decide) ?_
            exact P_drop (ls2 := [vR (1201, 0), vR (900, l1), vR (1000, l2), vR l3, vI (l4 + (10 : Int32)), vU, vU]) (ls := [vR (1201, 0), vR (900, l1), vR (1000, l2), vR l3, vI (l4 + (10 : Int32)), vI x463, vI x468]) ⟨Or.inr rfl, ⟨Or.inr rfl, ⟨Or.inr rfl, ⟨Or.inr rfl, ⟨Or.inr rfl, ⟨Or.inl rfl, ⟨Or.inl rfl, trivial⟩⟩⟩⟩⟩⟩⟩ k
          · have k := k.2 c
            refine P_iconst (v := (0 : Int32)) (pc := 2028) dL_law__2028 (by decide) ?_
            exact R_ireturn (pc := 2029) dL_law__2029 rfl rfl k
      · have k := k.2 c
        refine P_iconst (v := (0 : Int32)) (pc := 2011) dL_law__2011 (by decide) ?_
        exact R_ireturn (pc := 2012) dL_law__2012 rfl rfl k
    replace k := k.2
    by_cases c30 : (x2 &&& (63 : Int32)) = (30 : Int32)
    · replace k := k.1 c30
      refine P_tableIn (pc := 40) (tgt := 2033) dL_law__40 (by rw [c30]; decide) (by rw [c30]; decide) (by rw [c30] <;> rfl) (by decide) ?_
      refine P_aload_n (pc := 2033) dL_law__2033 rfl ?_
      refine P_aload_n (pc := 2034) dL_law__2034 rfl ?_
      refine P_iload (pc := 2035) dL_law__2035 rfl ?_
      refine P_iconst (v := (1 : Int32)) (pc := 2037) dL_law__2037 (by decide) ?_
      refine P_iadd (pc := 2038) dL_law__2038 ?_
      obtain ⟨n9, f9, e9, i9, k⟩ := k
      refine P_sld (pc := 2039) dL_law__2039 e9 i9 ?_
      clear e9
      generalize f9 (Int32.toNatClampNeg (l4 + (1 : Int32))) = x474 at k ⊢
      refine P_aload_n (pc := 2040) dL_law__2040 rfl ?_
      obtain ⟨d2, nc, ns, rc476, rs477, Qc, g1, rfl, rfl, g2, kk, kx⟩ := k
      refine P_callSX (As := [vR (900, l1), vI x474, vR l3]) (st := []) (pc := 2041) dL_law__2041 mk_L_ear l_L_225 st_L_ear ini_L rfl g1 (Nat.le_of_ble_eq_true rfl) rfl g2 (fun v9 h9 q9 => ?_) (fun E h9 q9 => PX_out rfl (kx E h9 q9))
      obtain ⟨x478, rfl, k⟩ := kk v9 h9 q9
      clear kk kx g1 g2 q9
      refine P_istore (pc := 2044) dL_law__2044 (by decide) (Or.inr (by intro z e9; cases e9)) rfl ?_
      refine P_aload_n (pc := 2046) dL_law__2046 rfl ?_
      refine P_aload_n (pc := 2047) dL_law__2047 rfl ?_
      refine P_iload (pc := 2048) dL_law__2048 rfl ?_
      refine P_iconst (v := (1 : Int32)) (pc := 2050) dL_law__2050 (by decide) ?_
      refine P_iadd (pc := 2051) dL_law__2051 ?_
      obtain ⟨n9, f9, e9, i9, k⟩ := k
      refine P_sld (pc := 2052) dL_law__2052 e9 i9 ?_
      clear e9
      generalize f9 (Int32.toNatClampNeg (l4 + (1 : Int32))) = x479 at k ⊢
      obtain ⟨⟨w9, e9⟩, d2, nc, ns, rc481, rs482, Qc, g1, rfl, rfl, g2, kk, kx⟩ := k
      refine P_callV (ci := 10) (k := 0) (id := l2) (q := (RX10, TX10, 55)) (As := [vI x479]) (st := []) (pc := 2053) dL_law__2053 mk_X10_ear l_L_227 im_X10_ear se_X10_ear ini_X10 rfl g1 (Nat.le_of_ble_eq_true rfl) rfl rfl (by decide) e9 rfl g2 (fun v9 h9 q9 => ?_) (fun E h9 q9 => PX_out rfl (kx E h9 q9))
      obtain ⟨x483, rfl, k⟩ := kk v9 h9 q9
      clear kk kx g1 g2 q9
      refine P_istore (pc := 2056) dL_law__2056 (by decide) (Or.inr (by intro z e9; cases e9)) rfl ?_
      refine P_aload_n (pc := 2058) dL_law__2058 rfl ?_
      obtain ⟨⟨w9, e9⟩, d2, nc, ns, rc485, rs486, Qc, g1, rfl, rfl, g2, kk, kx⟩ := k
      refine P_callV (ci := 10) (k := 0) (id := l2) (q := (RX10, TX10, 55)) (As := []) (st := []) (pc := 2059) dL_law__2059 mk_X10_thrown l_L_129 im_X10_thrown se_X10_thrown ini_X10 rfl g1 (Nat.le_of_ble_eq_true rfl) rfl rfl (by decide) e9 rfl g2 (fun v9 h9 q9 => ?_) (fun E h9 q9 => PX_out rfl (kx E h9 q9))
      obtain ⟨x487, rfl, k⟩ := kk v9 h9 q9
      clear kk kx g1 g2 q9
      refine P_iload (pc := 2062) dL_law__2062 rfl ?_
      refine P_icmp_eq (tgt := 2069) (pc := 2064) dL_law__2064 (by decide) (fun c => ?_) (fun c => ?_)
      · have k := k.1 c
        refine P_iload (pc := 2069) dL_law__2069 rfl ?_
        refine P_if_ne (tgt := 2086) (pc := 2071) dL_law__2071 (by decide) (fun c => ?_) (fun c => ?_)
        · have k := k.2 c
          refine P_goto (tgt := 2586) (pc := 2086) dL_law__2086 (by decide) ?_
          refine P_iinc (v := l4 + (10 : Int32)) (pc := 2586) dL_law__2586 (by decide) rfl rfl (Or.inr (by intro z e9; cases e9)) rfl ?_
          refine P_goto (tgt := 23) (pc := 2589) dL_law__2589 (by decide) ?_
          exact P_drop (ls2 := [vR (1201, 0), vR (900, l1), vR (1000, l2), vR l3, vI (l4 + (10 : Int32)), vU, vU]) (ls := [vR (1201, 0), vR (900, l1), vR (1000, l2), vR l3, vI (l4 + (10 : Int32)), vI x478, vI x483]) ⟨Or.inr rfl, ⟨Or.inr rfl, ⟨Or.inr rfl, ⟨Or.inr rfl, ⟨Or.inr rfl, ⟨Or.inl rfl, ⟨Or.inl rfl, trivial⟩⟩⟩⟩⟩⟩⟩ k
        · have k := k.1 c
          refine P_aload_n (pc := 2074) dL_law__2074 rfl ?_
          refine P_iconst (v := (0 : Int32)) (pc := 2075) dL_law__2075 (by decide) ?_
          obtain ⟨n9, f9, e9, i9, k⟩ := k
          refine P_lald (pc := 2076) dL_law__2076 e9 i9 ?_
          clear e9
          generalize f9 (Int32.toNatClampNeg (0 : Int32)) = x488 at k ⊢
          refine P_iload (pc := 2077) dL_law__2077 rfl ?_
          refine P_i2l (pc := 2079) dL_law__2079 ?_
          refine P_lcmp (pc := 2080) dL_law__2080 ?_
          refine P_if_eq (tgt := 2086) (pc := 2081) dL_law__2081 (by decide) (fun c => ?_) (fun c => ?_)
          · have k := k.1 c
            refine P_goto (tgt := 2586) (pc := 2086) dL_law__2086 (by decide) ?_
            refine P_iinc (v := l4 + (10 : Int32)) (pc := 2586) dL_law__2586 (by decide) rfl rfl (Or.inr (by intro z e9; cases e9)) rfl ?_
            refine P_goto (tgt := 23) (pc := 2589) dL_law__2589 (by decide) ?_
            exact P_drop (ls2 := [vR (1201, 0), vR (900, l1), vR (1000, l2), vR l3, vI (l4 + (10 : Int32)), vU, vU]) (ls := [vR (1201, 0), vR (900, l1), vR (1000, l2), vR l3, vI (l4 + (10 : Int32)), vI x478, vI x483]) ⟨Or.inr rfl, ⟨Or.inr rfl, ⟨Or.inr rfl, ⟨Or.inr rfl, ⟨Or.inr rfl, ⟨Or.inl rfl, ⟨Or.inl rfl, trivial⟩⟩⟩⟩⟩⟩⟩ k
          · have k := k.2 c
            refine P_iconst (v := (0 : Int32)) (pc := 2084) dL_law__2084 (by decide) ?_
            exact R_ireturn (pc := 2085) dL_law__2085 rfl rfl k
      · have k := k.2 c
        refine P_iconst (v := (0 : Int32)) (pc := 2067) dL_law__2067 (by decide) ?_
        exact R_ireturn (pc := 2068) dL_law__2068 rfl rfl k
    replace k := k.2
    by_cases c31 : (x2 &&& (63 : Int32)) = (31 : Int32)
    · replace k := k.1 c31
      refine P_tableIn (pc := 40) (tgt := 2089) dL_law__40 (by rw [c31]; decide) (by rw [c31]; decide) (by rw [c31] <;> rfl) (by decide) ?_
      refine P_aload_n (pc := 2089) dL_law__2089 rfl ?_
      refine P_aload_n (pc := 2090) dL_law__2090 rfl ?_
      refine P_iload (pc := 2091) dL_law__2091 rfl ?_
      refine P_iconst (v := (1 : Int32)) (pc := 2093) dL_law__2093 (by decide) ?_
      refine P_iadd (pc := 2094) dL_law__2094 ?_
      obtain ⟨n9, f9, e9, i9, k⟩ := k
      refine P_sld (pc := 2095) dL_law__2095 e9 i9 ?_
      clear e9
      generalize f9 (Int32.toNatClampNeg (l4 + (1 : Int32))) = x489 at k ⊢
      refine P_aload_n (pc := 2096) dL_law__2096 rfl ?_
      obtain ⟨d2, nc, ns, rc491, rs492, Qc, g1, rfl, rfl, g2, kk, kx⟩ := k
      refine P_callSX (As := [vR (900, l1), vI x489, vR l3]) (st := []) (pc := 2097) dL_law__2097 mk_L_stalest l_L_228 st_L_stalest ini_L rfl g1 (Nat.le_of_ble_eq_true rfl) rfl g2 (fun v9 h9 q9 => ?_) (fun E h9 q9 => PX_out rfl (kx E h9 q9))
      obtain ⟨x493, rfl, k⟩ := kk v9 h9 q9
      clear kk kx g1 g2 q9
      refine P_istore (pc := 2100) dL_law__2100 (by decide) (Or.inr (by intro z e9; cases e9)) rfl ?_
      refine P_aload_n (pc := 2102) dL_law__2102 rfl ?_
      refine P_aload_n (pc := 2103) dL_law__2103 rfl ?_
      refine P_iload (pc := 2104) dL_law__2104 rfl ?_
      refine P_iconst (v := (1 : Int32)) (pc := 2106) dL_law__2106 (by decide) ?_
      refine P_iadd (pc := 2107) dL_law__2107 ?_
      obtain ⟨n9, f9, e9, i9, k⟩ := k
      refine P_sld (pc := 2108) dL_law__2108 e9 i9 ?_
      clear e9
      generalize f9 (Int32.toNatClampNeg (l4 + (1 : Int32))) = x494 at k ⊢
      obtain ⟨⟨w9, e9⟩, d2, nc, ns, rc496, rs497, Qc, g1, rfl, rfl, g2, kk, kx⟩ := k
      refine P_callV (ci := 10) (k := 0) (id := l2) (q := (RX10, TX10, 55)) (As := [vI x494]) (st := []) (pc := 2109) dL_law__2109 mk_X10_stalest l_L_230 im_X10_stalest se_X10_stalest ini_X10 rfl g1 (Nat.le_of_ble_eq_true rfl) rfl rfl (by decide) e9 rfl g2 (fun v9 h9 q9 => ?_) (fun E h9 q9 => PX_out rfl (kx E h9 q9))
      obtain ⟨x498, rfl, k⟩ := kk v9 h9 q9
      clear kk kx g1 g2 q9
      refine P_istore (pc := 2112) dL_law__2112 (by decide) (Or.inr (by intro z e9; cases e9)) rfl ?_
      refine P_aload_n (pc := 2114) dL_law__2114 rfl ?_
      obtain ⟨⟨w9, e9⟩, d2, nc, ns, rc500, rs501, Qc, g1, rfl, rfl, g2, kk, kx⟩ := k
      refine P_callV (ci := 10) (k := 0) (id := l2) (q := (RX10, TX10, 55)) (As := []) (st := []) (pc := 2115) dL_law__2115 mk_X10_thrown l_L_129 im_X10_thrown se_X10_thrown ini_X10 rfl g1 (Nat.le_of_ble_eq_true rfl) rfl rfl (by decide) e9 rfl g2 (fun v9 h9 q9 => ?_) (fun E h9 q9 => PX_out rfl (kx E h9 q9))
      obtain ⟨x502, rfl, k⟩ := kk v9 h9 q9
      clear kk kx g1 g2 q9
      refine P_iload (pc := 2118) dL_law__2118 rfl ?_
      refine P_icmp_eq (tgt := 2125) (pc := 2120) dL_law__2120 (by decide) (fun c => ?_) (fun c => ?_)
      · have k := k.1 c
        refine P_iload (pc := 2125) dL_law__2125 rfl ?_
        refine P_if_ne (tgt := 2142) (pc := 2127) dL_law__2127 (by decide) (fun c => ?_) (fun c => ?_)
        · have k := k.2 c
          refine P_goto (tgt := 2586) (pc := 2142) dL_law__2142 (by decide) ?_
          refine P_iinc (v := l4 + (10 : Int32)) (pc := 2586) dL_law__2586 (by decide) rfl rfl (Or.inr (by intro z e9; cases e9)) rfl ?_
          refine P_goto (tgt := 23) (pc := 2589) dL_law__2589 (by decide) ?_
          exact P_drop (ls2 := [vR (1201, 0), vR (900, l1), vR (1000, l2), vR l3, vI (l4 + (10 : Int32)), vU, vU]) (ls := [vR (1201, 0), vR (900, l1), vR (1000, l2), vR l3, vI (l4 + (10 : Int32)), vI x493, vI x498]) ⟨Or.inr rfl, ⟨Or.inr rfl, ⟨Or.inr rfl, ⟨Or.inr rfl, ⟨Or.inr rfl, ⟨Or.inl rfl, ⟨Or.inl rfl, trivial⟩⟩⟩⟩⟩⟩⟩ k
        · have k := k.1 c
          refine P_aload_n (pc := 2130) dL_law__2130 rfl ?_
          refine P_iconst (v := (0 : Int32)) (pc := 2131) dL_law__2131 (by decide) ?_
          obtain ⟨n9, f9, e9, i9, k⟩ := k
          refine P_lald (pc := 2132) dL_law__2132 e9 i9 ?_
          clear e9
          generalize f9 (Int32.toNatClampNeg (0 : Int32)) = x503 at k ⊢
          refine P_iload (pc := 2133) dL_law__2133 rfl ?_
          refine P_i2l (pc := 2135) dL_law__2135 ?_
          refine P_lcmp (pc := 2136) dL_law__2136 ?_
          refine P_if_eq (tgt := 2142) (pc := 2137) dL_law__2137 (by decide) (fun c => ?_) (fun c => ?_)
          · have k := k.1 c
            refine P_goto (tgt := 2586) (pc := 2142) dL_law__2142 (by decide) ?_
            refine P_iinc (v := l4 + (10 : Int32)) (pc := 2586) dL_law__2586 (by decide) rfl rfl (Or.inr (by intro z e9; cases e9)) rfl ?_
            refine P_goto (tgt := 23) (pc := 2589) dL_law__2589 (by decide) ?_
            exact P_drop (ls2 := [vR (1201, 0), vR (900, l1), vR (1000, l2), vR l3, vI (l4 + (10 : Int32)), vU, vU]) (ls := [vR (1201, 0), vR (900, l1), vR (1000, l2), vR l3, vI (l4 + (10 : Int32)), vI x493, vI x498]) ⟨Or.inr rfl, ⟨Or.inr rfl, ⟨Or.inr rfl, ⟨Or.inr rfl, ⟨Or.inr rfl, ⟨Or.inl rfl, ⟨Or.inl rfl, trivial⟩⟩⟩⟩⟩⟩⟩ k
          · have k := k.2 c
            refine P_iconst (v := (0 : Int32)) (pc := 2140) dL_law__2140 (by decide) ?_
            exact R_ireturn (pc := 2141) dL_law__2141 rfl rfl k
      · have k := k.2 c
        refine P_iconst (v := (0 : Int32)) (pc := 2123) dL_law__2123 (by decide) ?_
        exact R_ireturn (pc := 2124) dL_law__2124 rfl rfl k
    replace k := k.2
    by_cases c32 : (x2 &&& (63 : Int32)) = (32 : Int32)
    · replace k := k.1 c32
      refine P_tableIn (pc := 40) (tgt := 2145) dL_law__40 (by rw [c32]; decide) (by rw [c32]; decide) (by rw [c32] <;> rfl) (by decide) ?_
      refine P_aload_n (pc := 2145) dL_law__2145 rfl ?_
      refine P_aload_n (pc := 2146) dL_law__2146 rfl ?_
      refine P_iload (pc := 2147) dL_law__2147 rfl ?_
      refine P_iconst (v := (1 : Int32)) (pc := 2149) dL_law__2149 (by decide) ?_
      refine P_iadd (pc := 2150) dL_law__2150 ?_
      obtain ⟨n9, f9, e9, i9, k⟩ := k
      refine P_sld (pc := 2151) dL_law__2151 e9 i9 ?_
      clear e9
      generalize f9 (Int32.toNatClampNeg (l4 + (1 : Int32))) = x504 at k ⊢
      refine P_aload_n (pc := 2152) dL_law__2152 rfl ?_
      refine P_iload (pc := 2153) dL_law__2153 rfl ?_
      refine P_iconst (v := (2 : Int32)) (pc := 2155) dL_law__2155 (by decide) ?_
      refine P_iadd (pc := 2156) dL_law__2156 ?_
      obtain ⟨n9, f9, e9, i9, k⟩ := k
      refine P_sld (pc := 2157) dL_law__2157 e9 i9 ?_
      clear e9
      generalize f9 (Int32.toNatClampNeg (l4 + (2 : Int32))) = x505 at k ⊢
      refine P_aload_n (pc := 2158) dL_law__2158 rfl ?_
      obtain ⟨d2, nc, ns, rc507, rs508, Qc, g1, rfl, rfl, g2, kk, kx⟩ := k
      refine P_callSX (As := [vR (900, l1), vI x504, vI x505, vR l3]) (st := []) (pc := 2159) dL_law__2159 mk_L_coughs l_L_231 st_L_coughs ini_L rfl g1 (Nat.le_of_ble_eq_true rfl) rfl g2 (fun v9 h9 q9 => ?_) (fun E h9 q9 => PX_out rfl (kx E h9 q9))
      obtain ⟨x509, rfl, k⟩ := kk v9 h9 q9
      clear kk kx g1 g2 q9
      refine P_istore (pc := 2162) dL_law__2162 (by decide) (Or.inr (by intro z e9; cases e9)) rfl ?_
      refine P_aload_n (pc := 2164) dL_law__2164 rfl ?_
      refine P_aload_n (pc := 2165) dL_law__2165 rfl ?_
      refine P_iload (pc := 2166) dL_law__2166 rfl ?_
      refine P_iconst (v := (1 : Int32)) (pc := 2168) dL_law__2168 (by decide) ?_
      refine P_iadd (pc := 2169) dL_law__2169 ?_
      obtain ⟨n9, f9, e9, i9, k⟩ := k
      refine P_sld (pc := 2170) dL_law__2170 e9 i9 ?_
      clear e9
      generalize f9 (Int32.toNatClampNeg (l4 + (1 : Int32))) = x510 at k ⊢
      refine P_aload_n (pc := 2171) dL_law__2171 rfl ?_
      refine P_iload (pc := 2172) dL_law__2172 rfl ?_
      refine P_iconst (v := (2 : Int32)) (pc := 2174) dL_law__2174 (by decide) ?_
      refine P_iadd (pc := 2175) dL_law__2175 ?_
      obtain ⟨n9, f9, e9, i9, k⟩ := k
      refine P_sld (pc := 2176) dL_law__2176 e9 i9 ?_
      clear e9
      generalize f9 (Int32.toNatClampNeg (l4 + (2 : Int32))) = x511 at k ⊢
      obtain ⟨⟨w9, e9⟩, d2, nc, ns, rc513, rs514, Qc, g1, rfl, rfl, g2, kk, kx⟩ := k
      refine P_callV (ci := 10) (k := 0) (id := l2) (q := (RX10, TX10, 55)) (As := [vI x510, vI x511]) (st := []) (pc := 2177) dL_law__2177 mk_X10_coughs l_L_233 im_X10_coughs se_X10_coughs ini_X10 rfl g1 (Nat.le_of_ble_eq_true rfl) rfl rfl (by decide) e9 rfl g2 (fun v9 h9 q9 => ?_) (fun E h9 q9 => PX_out rfl (kx E h9 q9))
      obtain ⟨x515, rfl, k⟩ := kk v9 h9 q9
      clear kk kx g1 g2 q9
      refine P_istore (pc := 2180) dL_law__2180 (by decide) (Or.inr (by intro z e9; cases e9)) rfl ?_
      refine P_aload_n (pc := 2182) dL_law__2182 rfl ?_
      obtain ⟨⟨w9, e9⟩, d2, nc, ns, rc517, rs518, Qc, g1, rfl, rfl, g2, kk, kx⟩ := k
      refine P_callV (ci := 10) (k := 0) (id := l2) (q := (RX10, TX10, 55)) (As := []) (st := []) (pc := 2183) dL_law__2183 mk_X10_thrown l_L_129 im_X10_thrown se_X10_thrown ini_X10 rfl g1 (Nat.le_of_ble_eq_true rfl) rfl rfl (by decide) e9 rfl g2 (fun v9 h9 q9 => ?_) (fun E h9 q9 => PX_out rfl (kx E h9 q9))
      obtain ⟨x519, rfl, k⟩ := kk v9 h9 q9
      clear kk kx g1 g2 q9
      refine P_iload (pc := 2186) dL_law__2186 rfl ?_
      refine P_icmp_eq (tgt := 2193) (pc := 2188) dL_law__2188 (by decide) (fun c => ?_) (fun c => ?_)
      · have k := k.1 c
        refine P_iload (pc := 2193) dL_law__2193 rfl ?_
        refine P_if_ne (tgt := 2210) (pc := 2195) dL_law__2195 (by decide) (fun c => ?_) (fun c => ?_)
        · have k := k.2 c
          refine P_goto (tgt := 2586) (pc := 2210) dL_law__2210 (by decide) ?_
          refine P_iinc (v := l4 + (10 : Int32)) (pc := 2586) dL_law__2586 (by decide) rfl rfl (Or.inr (by intro z e9; cases e9)) rfl ?_
          refine P_goto (tgt := 23) (pc := 2589) dL_law__2589 (by decide) ?_
          exact P_drop (ls2 := [vR (1201, 0), vR (900, l1), vR (1000, l2), vR l3, vI (l4 + (10 : Int32)), vU, vU]) (ls := [vR (1201, 0), vR (900, l1), vR (1000, l2), vR l3, vI (l4 + (10 : Int32)), vI x509, vI x515]) ⟨Or.inr rfl, ⟨Or.inr rfl, ⟨Or.inr rfl, ⟨Or.inr rfl, ⟨Or.inr rfl, ⟨Or.inl rfl, ⟨Or.inl rfl, trivial⟩⟩⟩⟩⟩⟩⟩ k
        · have k := k.1 c
          refine P_aload_n (pc := 2198) dL_law__2198 rfl ?_
          refine P_iconst (v := (0 : Int32)) (pc := 2199) dL_law__2199 (by decide) ?_
          obtain ⟨n9, f9, e9, i9, k⟩ := k
          refine P_lald (pc := 2200) dL_law__2200 e9 i9 ?_
          clear e9
          generalize f9 (Int32.toNatClampNeg (0 : Int32)) = x520 at k ⊢
          refine P_iload (pc := 2201) dL_law__2201 rfl ?_
          refine P_i2l (pc := 2203) dL_law__2203 ?_
          refine P_lcmp (pc := 2204) dL_law__2204 ?_
          refine P_if_eq (tgt := 2210) (pc := 2205) dL_law__2205 (by decide) (fun c => ?_) (fun c => ?_)
          · have k := k.1 c
            refine P_goto (tgt := 2586) (pc := 2210) dL_law__2210 (by decide) ?_
            refine P_iinc (v := l4 + (10 : Int32)) (pc := 2586) dL_law__2586 (by decide) rfl rfl (Or.inr (by intro z e9; cases e9)) rfl ?_
            refine P_goto (tgt := 23) (pc := 2589) dL_law__2589 (by decide) ?_
            exact P_drop (ls2 := [vR (1201, 0), vR (900, l1), vR (1000, l2), vR l3, vI (l4 + (10 : Int32)), vU, vU]) (ls := [vR (1201, 0), vR (900, l1), vR (1000, l2), vR l3, vI (l4 + (10 : Int32)), vI x509, vI x515]) ⟨Or.inr rfl, ⟨Or.inr rfl, ⟨Or.inr rfl, ⟨Or.inr rfl, ⟨Or.inr rfl, ⟨Or.inl rfl, ⟨Or.inl rfl, trivial⟩⟩⟩⟩⟩⟩⟩ k
          · have k := k.2 c
            refine P_iconst (v := (0 : Int32)) (pc := 2208) dL_law__2208 (by decide) ?_
            exact R_ireturn (pc := 2209) dL_law__2209 rfl rfl k
      · have k := k.2 c
        refine P_iconst (v := (0 : Int32)) (pc := 2191) dL_law__2191 (by decide) ?_
        exact R_ireturn (pc := 2192) dL_law__2192 rfl rfl k
    replace k := k.2
    by_cases c33 : (x2 &&& (63 : Int32)) = (33 : Int32)
    · replace k := k.1 c33
      refine P_tableIn (pc := 40) (tgt := 2213) dL_law__40 (by rw [c33]; decide) (by rw [c33]; decide) (by rw [c33] <;> rfl) (by decide) ?_
      refine P_aload_n (pc := 2213) dL_law__2213 rfl ?_
      refine P_aload_n (pc := 2214) dL_law__2214 rfl ?_
      refine P_iload (pc := 2215) dL_law__2215 rfl ?_
      refine P_iconst (v := (1 : Int32)) (pc := 2217) dL_law__2217 (by decide) ?_
      refine P_iadd (pc := 2218) dL_law__2218 ?_
      obtain ⟨n9, f9, e9, i9, k⟩ := k
      refine P_sld (pc := 2219) dL_law__2219 e9 i9 ?_
      clear e9
      generalize f9 (Int32.toNatClampNeg (l4 + (1 : Int32))) = x521 at k ⊢
      refine P_aload_n (pc := 2220) dL_law__2220 rfl ?_
      obtain ⟨d2, nc, ns, rc523, rs524, Qc, g1, rfl, rfl, g2, kk, kx⟩ := k
      refine P_callSX (As := [vR (900, l1), vI x521, vR l3]) (st := []) (pc := 2221) dL_law__2221 mk_L_twins l_L_234 st_L_twins ini_L rfl g1 (Nat.le_of_ble_eq_true rfl) rfl g2 (fun v9 h9 q9 => ?_) (fun E h9 q9 => PX_out rfl (kx E h9 q9))
      obtain ⟨x525, rfl, k⟩ := kk v9 h9 q9
      clear kk kx g1 g2 q9
      refine P_istore (pc := 2224) dL_law__2224 (by decide) (Or.inr (by intro z e9; cases e9)) rfl ?_
      refine P_aload_n (pc := 2226) dL_law__2226 rfl ?_
      refine P_aload_n (pc := 2227) dL_law__2227 rfl ?_
      refine P_iload (pc := 2228) dL_law__2228 rfl ?_
      refine P_iconst (v := (1 : Int32)) (pc := 2230) dL_law__2230 (by decide) ?_
      refine P_iadd (pc := 2231) dL_law__2231 ?_
      obtain ⟨n9, f9, e9, i9, k⟩ := k
      refine P_sld (pc := 2232) dL_law__2232 e9 i9 ?_
      clear e9
      generalize f9 (Int32.toNatClampNeg (l4 + (1 : Int32))) = x526 at k ⊢
      obtain ⟨⟨w9, e9⟩, d2, nc, ns, rc528, rs529, Qc, g1, rfl, rfl, g2, kk, kx⟩ := k
      refine P_callV (ci := 10) (k := 0) (id := l2) (q := (RX10, TX10, 55)) (As := [vI x526]) (st := []) (pc := 2233) dL_law__2233 mk_X10_twins l_L_236 im_X10_twins se_X10_twins ini_X10 rfl g1 (Nat.le_of_ble_eq_true rfl) rfl rfl (by decide) e9 rfl g2 (fun v9 h9 q9 => ?_) (fun E h9 q9 => PX_out rfl (kx E h9 q9))
      obtain ⟨x530, rfl, k⟩ := kk v9 h9 q9
      clear kk kx g1 g2 q9
      refine P_istore (pc := 2236) dL_law__2236 (by decide) (Or.inr (by intro z e9; cases e9)) rfl ?_
      refine P_aload_n (pc := 2238) dL_law__2238 rfl ?_
      obtain ⟨⟨w9, e9⟩, d2, nc, ns, rc532, rs533, Qc, g1, rfl, rfl, g2, kk, kx⟩ := k
      refine P_callV (ci := 10) (k := 0) (id := l2) (q := (RX10, TX10, 55)) (As := []) (st := []) (pc := 2239) dL_law__2239 mk_X10_thrown l_L_129 im_X10_thrown se_X10_thrown ini_X10 rfl g1 (Nat.le_of_ble_eq_true rfl) rfl rfl (by decide) e9 rfl g2 (fun v9 h9 q9 => ?_) (fun E h9 q9 => PX_out rfl (kx E h9 q9))
      obtain ⟨x534, rfl, k⟩ := kk v9 h9 q9
      clear kk kx g1 g2 q9
      refine P_iload (pc := 2242) dL_law__2242 rfl ?_
      refine P_icmp_eq (tgt := 2249) (pc := 2244) dL_law__2244 (by decide) (fun c => ?_) (fun c => ?_)
      · have k := k.1 c
        refine P_iload (pc := 2249) dL_law__2249 rfl ?_
        refine P_if_ne (tgt := 2266) (pc := 2251) dL_law__2251 (by decide) (fun c => ?_) (fun c => ?_)
        · have k := k.2 c
          refine P_goto (tgt := 2586) (pc := 2266) dL_law__2266 (by decide) ?_
          refine P_iinc (v := l4 + (10 : Int32)) (pc := 2586) dL_law__2586 (by decide) rfl rfl (Or.inr (by intro z e9; cases e9)) rfl ?_
          refine P_goto (tgt := 23) (pc := 2589) dL_law__2589 (by decide) ?_
          exact P_drop (ls2 := [vR (1201, 0), vR (900, l1), vR (1000, l2), vR l3, vI (l4 + (10 : Int32)), vU, vU]) (ls := [vR (1201, 0), vR (900, l1), vR (1000, l2), vR l3, vI (l4 + (10 : Int32)), vI x525, vI x530]) ⟨Or.inr rfl, ⟨Or.inr rfl, ⟨Or.inr rfl, ⟨Or.inr rfl, ⟨Or.inr rfl, ⟨Or.inl rfl, ⟨Or.inl rfl, trivial⟩⟩⟩⟩⟩⟩⟩ k
        · have k := k.1 c
          refine P_aload_n (pc := 2254) dL_law__2254 rfl ?_
          refine P_iconst (v := (0 : Int32)) (pc := 2255) dL_law__2255 (by decide) ?_
          obtain ⟨n9, f9, e9, i9, k⟩ := k
          refine P_lald (pc := 2256) dL_law__2256 e9 i9 ?_
          clear e9
          generalize f9 (Int32.toNatClampNeg (0 : Int32)) = x535 at k ⊢
          refine P_iload (pc := 2257) dL_law__2257 rfl ?_
          refine P_i2l (pc := 2259) dL_law__2259 ?_
          refine P_lcmp (pc := 2260) dL_law__2260 ?_
          refine P_if_eq (tgt := 2266) (pc := 2261) dL_law__2261 (by decide) (fun c => ?_) (fun c => ?_)
          · have k := k.1 c
            refine P_goto (tgt := 2586) (pc := 2266) dL_law__2266 (by decide) ?_
            refine P_iinc (v := l4 + (10 : Int32)) (pc := 2586) dL_law__2586 (by decide) rfl rfl (Or.inr (by intro z e9; cases e9)) rfl ?_
            refine P_goto (tgt := 23) (pc := 2589) dL_law__2589 (by decide) ?_
            exact P_drop (ls2 := [vR (1201, 0), vR (900, l1), vR (1000, l2), vR l3, vI (l4 + (10 : Int32)), vU, vU]) (ls := [vR (1201, 0), vR (900, l1), vR (1000, l2), vR l3, vI (l4 + (10 : Int32)), vI x525, vI x530]) ⟨Or.inr rfl, ⟨Or.inr rfl, ⟨Or.inr rfl, ⟨Or.inr rfl, ⟨Or.inr rfl, ⟨Or.inl rfl, ⟨Or.inl rfl, trivial⟩⟩⟩⟩⟩⟩⟩ k
          · have k := k.2 c
            refine P_iconst (v := (0 : Int32)) (pc := 2264) dL_law__2264 (by decide) ?_
            exact R_ireturn (pc := 2265) dL_law__2265 rfl rfl k
      · have k := k.2 c
        refine P_iconst (v := (0 : Int32)) (pc := 2247) dL_law__2247 (by decide) ?_
        exact R_ireturn (pc := 2248) dL_law__2248 rfl rfl k
    replace k := k.2
    by_cases c34 : (x2 &&& (63 : Int32)) = (34 : Int32)
    · replace k := k.1 c34
      refine P_tableIn (pc := 40) (tgt := 2269) dL_law__40 (by rw [c34]; decide) (by rw [c34]; decide) (by rw [c34] <;> rfl) (by decide) ?_
      refine P_aload_n (pc := 2269) dL_law__2269 rfl ?_
      obtain ⟨⟨w9, e9⟩, d2, nc, ns, rc537, rs538, Qc, g1, rfl, rfl, g2, kk, kx⟩ := k
      refine P_callV (ci := 9) (k := 0) (id := l1) (q := (RX9, TX9, 18)) (As := []) (st := []) (pc := 2270) dL_law__2270 mk_X9_sunny l_L_237 im_X9_sunny se_X9_sunny ini_X9 rfl g1 (Nat.le_of_ble_eq_true rfl) rfl rfl (by decide) e9 rfl g2 (fun v9 h9 q9 => ?_) (fun E h9 q9 => PX_out rfl (kx E h9 q9))
      obtain ⟨x539, rfl, k⟩ := kk v9 h9 q9
      clear kk kx g1 g2 q9
      refine P_aload_n (pc := 2273) dL_law__2273 rfl ?_
      obtain ⟨⟨w9, e9⟩, d2, nc, ns, rc541, rs542, Qc, g1, rfl, rfl, g2, kk, kx⟩ := k
      refine P_callV (ci := 10) (k := 0) (id := l2) (q := (RX10, TX10, 55)) (As := []) (st := [vI x539]) (pc := 2274) dL_law__2274 mk_X10_sunny l_L_240 im_X10_sunny se_X10_sunny ini_X10 rfl g1 (Nat.le_of_ble_eq_true rfl) rfl rfl (by decide) e9 rfl g2 (fun v9 h9 q9 => ?_) (fun E h9 q9 => PX_out rfl (kx E h9 q9))
      obtain ⟨x543, rfl, k⟩ := kk v9 h9 q9
      clear kk kx g1 g2 q9
      refine P_icmp_eq (tgt := 2586) (pc := 2277) dL_law__2277 (by decide) (fun c => ?_) (fun c => ?_)
      · have k := k.1 c
        refine P_iinc (v := l4 + (10 : Int32)) (pc := 2586) dL_law__2586 (by decide) rfl rfl (Or.inr (by intro z e9; cases e9)) rfl ?_
        refine P_goto (tgt := 23) (pc := 2589) dL_law__2589 (by decide) ?_
        exact k
      · have k := k.2 c
        refine P_iconst (v := (0 : Int32)) (pc := 2280) dL_law__2280 (by decide) ?_
        exact R_ireturn (pc := 2281) dL_law__2281 rfl rfl k
    replace k := k.2
    by_cases c35 : (x2 &&& (63 : Int32)) = (35 : Int32)
    · replace k := k.1 c35
      refine P_tableIn (pc := 40) (tgt := 2282) dL_law__40 (by rw [c35]; decide) (by rw [c35]; decide) (by rw [c35] <;> rfl) (by decide) ?_
      refine P_aload_n (pc := 2282) dL_law__2282 rfl ?_
      refine P_aload_n (pc := 2283) dL_law__2283 rfl ?_
      refine P_iload (pc := 2284) dL_law__2284 rfl ?_
      refine P_iconst (v := (1 : Int32)) (pc := 2286) dL_law__2286 (by decide) ?_
      refine P_iadd (pc := 2287) dL_law__2287 ?_
      obtain ⟨n9, f9, e9, i9, k⟩ := k
      refine P_sld (pc := 2288) dL_law__2288 e9 i9 ?_
      clear e9
      generalize f9 (Int32.toNatClampNeg (l4 + (1 : Int32))) = x544 at k ⊢
      refine P_aload_n (pc := 2289) dL_law__2289 rfl ?_
      obtain ⟨d2, nc, ns, rc546, rs547, Qc, g1, rfl, rfl, g2, kk, kx⟩ := k
      refine P_callSX (As := [vR (900, l1), vI x544, vR l3]) (st := []) (pc := 2290) dL_law__2290 mk_L_gossip l_L_241 st_L_gossip ini_L rfl g1 (Nat.le_of_ble_eq_true rfl) rfl g2 (fun v9 h9 q9 => ?_) (fun E h9 q9 => PX_out rfl (kx E h9 q9))
      obtain ⟨x548, rfl, k⟩ := kk v9 h9 q9
      clear kk kx g1 g2 q9
      refine P_istore (pc := 2293) dL_law__2293 (by decide) (Or.inr (by intro z e9; cases e9)) rfl ?_
      refine P_aload_n (pc := 2295) dL_law__2295 rfl ?_
      refine P_aload_n (pc := 2296) dL_law__2296 rfl ?_
      refine P_iload (pc := 2297) dL_law__2297 rfl ?_
      refine P_iconst (v := (1 : Int32)) (pc := 2299) dL_law__2299 (by decide) ?_
      refine P_iadd (pc := 2300) dL_law__2300 ?_
      obtain ⟨n9, f9, e9, i9, k⟩ := k
      refine P_sld (pc := 2301) dL_law__2301 e9 i9 ?_
      clear e9
      generalize f9 (Int32.toNatClampNeg (l4 + (1 : Int32))) = x549 at k ⊢
      obtain ⟨⟨w9, e9⟩, d2, nc, ns, rc551, rs552, Qc, g1, rfl, rfl, g2, kk, kx⟩ := k
      refine P_callV (ci := 10) (k := 0) (id := l2) (q := (RX10, TX10, 55)) (As := [vI x549]) (st := []) (pc := 2302) dL_law__2302 mk_X10_gossip l_L_243 im_X10_gossip se_X10_gossip ini_X10 rfl g1 (Nat.le_of_ble_eq_true rfl) rfl rfl (by decide) e9 rfl g2 (fun v9 h9 q9 => ?_) (fun E h9 q9 => PX_out rfl (kx E h9 q9))
      obtain ⟨x553, rfl, k⟩ := kk v9 h9 q9
      clear kk kx g1 g2 q9
      refine P_istore (pc := 2305) dL_law__2305 (by decide) (Or.inr (by intro z e9; cases e9)) rfl ?_
      refine P_aload_n (pc := 2307) dL_law__2307 rfl ?_
      obtain ⟨⟨w9, e9⟩, d2, nc, ns, rc555, rs556, Qc, g1, rfl, rfl, g2, kk, kx⟩ := k
      refine P_callV (ci := 10) (k := 0) (id := l2) (q := (RX10, TX10, 55)) (As := []) (st := []) (pc := 2308) dL_law__2308 mk_X10_thrown l_L_129 im_X10_thrown se_X10_thrown ini_X10 rfl g1 (Nat.le_of_ble_eq_true rfl) rfl rfl (by decide) e9 rfl g2 (fun v9 h9 q9 => ?_) (fun E h9 q9 => PX_out rfl (kx E h9 q9))
      obtain ⟨x557, rfl, k⟩ := kk v9 h9 q9
      clear kk kx g1 g2 q9
      refine P_iload (pc := 2311) dL_law__2311 rfl ?_
      refine P_icmp_eq (tgt := 2318) (pc := 2313) dL_law__2313 (by decide) (fun c => ?_) (fun c => ?_)
      · have k := k.1 c
        refine P_iload (pc := 2318) dL_law__2318 rfl ?_
        refine P_if_ne (tgt := 2335) (pc := 2320) dL_law__2320 (by decide) (fun c => ?_) (fun c => ?_)
        · have k := k.2 c
          refine P_goto (tgt := 2586) (pc := 2335) dL_law__2335 (by decide) ?_
          refine P_iinc (v := l4 + (10 : Int32)) (pc := 2586) dL_law__2586 (by decide) rfl rfl (Or.inr (by intro z e9; cases e9)) rfl ?_
          refine P_goto (tgt := 23) (pc := 2589) dL_law__2589 (by decide) ?_
          exact P_drop (ls2 := [vR (1201, 0), vR (900, l1), vR (1000, l2), vR l3, vI (l4 + (10 : Int32)), vU, vU]) (ls := [vR (1201, 0), vR (900, l1), vR (1000, l2), vR l3, vI (l4 + (10 : Int32)), vI x548, vI x553]) ⟨Or.inr rfl, ⟨Or.inr rfl, ⟨Or.inr rfl, ⟨Or.inr rfl, ⟨Or.inr rfl, ⟨Or.inl rfl, ⟨Or.inl rfl, trivial⟩⟩⟩⟩⟩⟩⟩ k
        · have k := k.1 c
          refine P_aload_n (pc := 2323) dL_law__2323 rfl ?_
          refine P_iconst (v := (0 : Int32)) (pc := 2324) dL_law__2324 (by decide) ?_
          obtain ⟨n9, f9, e9, i9, k⟩ := k
          refine P_lald (pc := 2325) dL_law__2325 e9 i9 ?_
          clear e9
          generalize f9 (Int32.toNatClampNeg (0 : Int32)) = x558 at k ⊢
          refine P_iload (pc := 2326) dL_law__2326 rfl ?_
          refine P_i2l (pc := 2328) dL_law__2328 ?_
          refine P_lcmp (pc := 2329) dL_law__2329 ?_
          refine P_if_eq (tgt := 2335) (pc := 2330) dL_law__2330 (by decide) (fun c => ?_) (fun c => ?_)
          · have k := k.1 c
            refine P_goto (tgt := 2586) (pc := 2335) dL_law__2335 (by decide) ?_
            refine P_iinc (v := l4 + (10 : Int32)) (pc := 2586) dL_law__2586 (by decide) rfl rfl (Or.inr (by intro z e9; cases e9)) rfl ?_
            refine P_goto (tgt := 23) (pc := 2589) dL_law__2589 (by decide) ?_
            exact P_drop (ls2 := [vR (1201, 0), vR (900, l1), vR (1000, l2), vR l3, vI (l4 + (10 : Int32)), vU, vU]) (ls := [vR (1201, 0), vR (900, l1), vR (1000, l2), vR l3, vI (l4 + (10 : Int32)), vI x548, vI x553]) ⟨Or.inr rfl, ⟨Or.inr rfl, ⟨Or.inr rfl, ⟨Or.inr rfl, ⟨Or.inr rfl, ⟨Or.inl rfl, ⟨Or.inl rfl, trivial⟩⟩⟩⟩⟩⟩⟩ k
          · have k := k.2 c
            refine P_iconst (v := (0 : Int32)) (pc := 2333) dL_law__2333 (by decide) ?_
            exact R_ireturn (pc := 2334) dL_law__2334 rfl rfl k
      · have k := k.2 c
        refine P_iconst (v := (0 : Int32)) (pc := 2316) dL_law__2316 (by decide) ?_
        exact R_ireturn (pc := 2317) dL_law__2317 rfl rfl k
    replace k := k.2
    by_cases c36 : (x2 &&& (63 : Int32)) = (36 : Int32)
    · replace k := k.1 c36
      refine P_tableIn (pc := 40) (tgt := 2338) dL_law__40 (by rw [c36]; decide) (by rw [c36]; decide) (by rw [c36] <;> rfl) (by decide) ?_
      refine P_aload_n (pc := 2338) dL_law__2338 rfl ?_
      refine P_aload_n (pc := 2339) dL_law__2339 rfl ?_
      refine P_iload (pc := 2340) dL_law__2340 rfl ?_
      refine P_iconst (v := (1 : Int32)) (pc := 2342) dL_law__2342 (by decide) ?_
      refine P_iadd (pc := 2343) dL_law__2343 ?_
      obtain ⟨n9, f9, e9, i9, k⟩ := k
      refine P_sld (pc := 2344) dL_law__2344 e9 i9 ?_
      clear e9
      generalize f9 (Int32.toNatClampNeg (l4 + (1 : Int32))) = x559 at k ⊢
      refine P_aload_n (pc := 2345) dL_law__2345 rfl ?_
      refine P_iload (pc := 2346) dL_law__2346 rfl ?_
      refine P_iconst (v := (2 : Int32)) (pc := 2348) dL_law__2348 (by decide) ?_
      refine P_iadd (pc := 2349) dL_law__2349 ?_
      obtain ⟨n9, f9, e9, i9, k⟩ := k
      refine P_sld (pc := 2350) dL_law__2350 e9 i9 ?_
      clear e9
      generalize f9 (Int32.toNatClampNeg (l4 + (2 : Int32))) = x560 at k ⊢
      refine P_aload_n (pc := 2351) dL_law__2351 rfl ?_
      refine P_iload (pc := 2352) dL_law__2352 rfl ?_
      refine P_iconst (v := (3 : Int32)) (pc := 2354) dL_law__2354 (by decide) ?_
      refine P_iadd (pc := 2355) dL_law__2355 ?_
      obtain ⟨n9, f9, e9, i9, k⟩ := k
      refine P_sld (pc := 2356) dL_law__2356 e9 i9 ?_
      clear e9
      generalize f9 (Int32.toNatClampNeg (l4 + (3 : Int32))) = x561 at k ⊢
      refine P_aload_n (pc := 2357) dL_law__2357 rfl ?_
      obtain ⟨d2, nc, ns, rc563, rs564, Qc, g1, rfl, rfl, g2, kk, kx⟩ := k
      refine P_callSX (As := [vR (900, l1), vI x559, vI x560, vI x561, vR l3]) (st := []) (pc := 2358) dL_law__2358 mk_L_year l_L_244 st_L_year ini_L rfl g1 (Nat.le_of_ble_eq_true rfl) rfl g2 (fun v9 h9 q9 => ?_) (fun E h9 q9 => PX_out rfl (kx E h9 q9))
      obtain ⟨x565, rfl, k⟩ := kk v9 h9 q9
      clear kk kx g1 g2 q9
      refine P_istore (pc := 2361) dL_law__2361 (by decide) (Or.inr (by intro z e9; cases e9)) rfl ?_
      refine P_aload_n (pc := 2363) dL_law__2363 rfl ?_
      refine P_aload_n (pc := 2364) dL_law__2364 rfl ?_
      refine P_iload (pc := 2365) dL_law__2365 rfl ?_
      refine P_iconst (v := (1 : Int32)) (pc := 2367) dL_law__2367 (by decide) ?_
      refine P_iadd (pc := 2368) dL_law__2368 ?_
      obtain ⟨n9, f9, e9, i9, k⟩ := k
      refine P_sld (pc := 2369) dL_law__2369 e9 i9 ?_
      clear e9
      generalize f9 (Int32.toNatClampNeg (l4 + (1 : Int32))) = x566 at k ⊢
      refine P_aload_n (pc := 2370) dL_law__2370 rfl ?_
      refine P_iload (pc := 2371) dL_law__2371 rfl ?_
      refine P_iconst (v := (2 : Int32)) (pc := 2373) dL_law__2373 (by decide) ?_
      refine P_iadd (pc := 2374) dL_law__2374 ?_
      obtain ⟨n9, f9, e9, i9, k⟩ := k
      refine P_sld (pc := 2375) dL_law__2375 e9 i9 ?_
      clear e9
      generalize f9 (Int32.toNatClampNeg (l4 + (2 : Int32))) = x567 at k ⊢
      refine P_aload_n (pc := 2376) dL_law__2376 rfl ?_
      refine P_iload (pc := 2377) dL_law__2377 rfl ?_
      refine P_iconst (v := (3 : Int32)) (pc := 2379) dL_law__2379 (by decide) ?_
      refine P_iadd (pc := 2380) dL_law__2380 ?_
      obtain ⟨n9, f9, e9, i9, k⟩ := k
      refine P_sld (pc := 2381) dL_law__2381 e9 i9 ?_
      clear e9
      generalize f9 (Int32.toNatClampNeg (l4 + (3 : Int32))) = x568 at k ⊢
      obtain ⟨⟨w9, e9⟩, d2, nc, ns, rc570, rs571, Qc, g1, rfl, rfl, g2, kk, kx⟩ := k
      refine P_callV (ci := 10) (k := 0) (id := l2) (q := (RX10, TX10, 55)) (As := [vI x566, vI x567, vI x568]) (st := []) (pc := 2382) dL_law__2382 mk_X10_year l_L_246 im_X10_year se_X10_year ini_X10 rfl g1 (Nat.le_of_ble_eq_true rfl) rfl rfl (by decide) e9 rfl g2 (fun v9 h9 q9 => ?_) (fun E h9 q9 => PX_out rfl (kx E h9 q9))
      obtain ⟨x572, rfl, k⟩ := kk v9 h9 q9
      clear kk kx g1 g2 q9
      refine P_istore (pc := 2385) dL_law__2385 (by decide) (Or.inr (by intro z e9; cases e9)) rfl ?_
      refine P_aload_n (pc := 2387) dL_law__2387 rfl ?_
      obtain ⟨⟨w9, e9⟩, d2, nc, ns, rc574, rs575, Qc, g1, rfl, rfl, g2, kk, kx⟩ := k
      refine P_callV (ci := 10) (k := 0) (id := l2) (q := (RX10, TX10, 55)) (As := []) (st := []) (pc := 2388) dL_law__2388 mk_X10_thrown l_L_129 im_X10_thrown se_X10_thrown ini_X10 rfl g1 (Nat.le_of_ble_eq_true rfl) rfl rfl (by decide) e9 rfl g2 (fun v9 h9 q9 => ?_) (fun E h9 q9 => PX_out rfl (kx E h9 q9))
      obtain ⟨x576, rfl, k⟩ := kk v9 h9 q9
      clear kk kx g1 g2 q9
      refine P_iload (pc := 2391) dL_law__2391 rfl ?_
      refine P_icmp_eq (tgt := 2398) (pc := 2393) dL_law__2393 (by decide) (fun c => ?_) (fun c => ?_)
      · have k := k.1 c
        refine P_iload (pc := 2398) dL_law__2398 rfl ?_
        refine P_if_ne (tgt := 2415) (pc := 2400) dL_law__2400 (by decide) (fun c => ?_) (fun c => ?_)
        · have k := k.2 c
          refine P_goto (tgt := 2586) (pc := 2415) dL_law__2415 (by decide) ?_
          refine P_iinc (v := l4 + (10 : Int32)) (pc := 2586) dL_law__2586 (by decide) rfl rfl (Or.inr (by intro z e9; cases e9)) rfl ?_
          refine P_goto (tgt := 23) (pc := 2589) dL_law__2589 (by decide) ?_
          exact P_drop (ls2 := [vR (1201, 0), vR (900, l1), vR (1000, l2), vR l3, vI (l4 + (10 : Int32)), vU, vU]) (ls := [vR (1201, 0), vR (900, l1), vR (1000, l2), vR l3, vI (l4 + (10 : Int32)), vI x565, vI x572]) ⟨Or.inr rfl, ⟨Or.inr rfl, ⟨Or.inr rfl, ⟨Or.inr rfl, ⟨Or.inr rfl, ⟨Or.inl rfl, ⟨Or.inl rfl, trivial⟩⟩⟩⟩⟩⟩⟩ k
        · have k := k.1 c
          refine P_aload_n (pc := 2403) dL_law__2403 rfl ?_
          refine P_iconst (v := (0 : Int32)) (pc := 2404) dL_law__2404 (by decide) ?_
          obtain ⟨n9, f9, e9, i9, k⟩ := k
          refine P_lald (pc := 2405) dL_law__2405 e9 i9 ?_
          clear e9
          generalize f9 (Int32.toNatClampNeg (0 : Int32)) = x577 at k ⊢
          refine P_iload (pc := 2406) dL_law__2406 rfl ?_
          refine P_i2l (pc := 2408) dL_law__2408 ?_
          refine P_lcmp (pc := 2409) dL_law__2409 ?_
          refine P_if_eq (tgt := 2415) (pc := 2410) dL_law__2410 (by decide) (fun c => ?_) (fun c => ?_)
          · have k := k.1 c
            refine P_goto (tgt := 2586) (pc := 2415) dL_law__2415 (by decide) ?_
            refine P_iinc (v := l4 + (10 : Int32)) (pc := 2586) dL_law__2586 (by decide) rfl rfl (Or.inr (by intro z e9; cases e9)) rfl ?_
            refine P_goto (tgt := 23) (pc := 2589) dL_law__2589 (by decide) ?_
            exact P_drop (ls2 := [vR (1201, 0), vR (900, l1), vR (1000, l2), vR l3, vI (l4 + (10 : Int32)), vU, vU]) (ls := [vR (1201, 0), vR (900, l1), vR (1000, l2), vR l3, vI (l4 + (10 : Int32)), vI x565, vI x572]) ⟨Or.inr rfl, ⟨Or.inr rfl, ⟨Or.inr rfl, ⟨Or.inr rfl, ⟨Or.inr rfl, ⟨Or.inl rfl, ⟨Or.inl rfl, trivial⟩⟩⟩⟩⟩⟩⟩ k
          · have k := k.2 c
            refine P_iconst (v := (0 : Int32)) (pc := 2413) dL_law__2413 (by decide) ?_
            exact R_ireturn (pc := 2414) dL_law__2414 rfl rfl k
      · have k := k.2 c
        refine P_iconst (v := (0 : Int32)) (pc := 2396) dL_law__2396 (by decide) ?_
        exact R_ireturn (pc := 2397) dL_law__2397 rfl rfl k
    replace k := k.2
    by_cases c37 : (x2 &&& (63 : Int32)) = (37 : Int32)
    · replace k := k.1 c37
      refine P_tableIn (pc := 40) (tgt := 2418) dL_law__40 (by rw [c37]; decide) (by rw [c37]; decide) (by rw [c37] <;> rfl) (by decide) ?_
      refine P_aload_n (pc := 2418) dL_law__2418 rfl ?_
      refine P_aload_n (pc := 2419) dL_law__2419 rfl ?_
      refine P_iload (pc := 2420) dL_law__2420 rfl ?_
      refine P_iconst (v := (1 : Int32)) (pc := 2422) dL_law__2422 (by decide) ?_
      refine P_iadd (pc := 2423) dL_law__2423 ?_
      obtain ⟨n9, f9, e9, i9, k⟩ := k
      refine P_sld (pc := 2424) dL_law__2424 e9 i9 ?_
      clear e9
      generalize f9 (Int32.toNatClampNeg (l4 + (1 : Int32))) = x578 at k ⊢
      refine P_aload_n (pc := 2425) dL_law__2425 rfl ?_
      refine P_iload (pc := 2426) dL_law__2426 rfl ?_
      refine P_iconst (v := (2 : Int32)) (pc := 2428) dL_law__2428 (by decide) ?_
      refine P_iadd (pc := 2429) dL_law__2429 ?_
      obtain ⟨n9, f9, e9, i9, k⟩ := k
      refine P_sld (pc := 2430) dL_law__2430 e9 i9 ?_
      clear e9
      generalize f9 (Int32.toNatClampNeg (l4 + (2 : Int32))) = x579 at k ⊢
      refine P_aload_n (pc := 2431) dL_law__2431 rfl ?_
      refine P_iload (pc := 2432) dL_law__2432 rfl ?_
      refine P_iconst (v := (3 : Int32)) (pc := 2434) dL_law__2434 (by decide) ?_
      refine P_iadd (pc := 2435) dL_law__2435 ?_
      obtain ⟨n9, f9, e9, i9, k⟩ := k
      refine P_sld (pc := 2436) dL_law__2436 e9 i9 ?_
      clear e9
      generalize f9 (Int32.toNatClampNeg (l4 + (3 : Int32))) = x580 at k ⊢
      refine P_aload_n (pc := 2437) dL_law__2437 rfl ?_
      refine P_iload (pc := 2438) dL_law__2438 rfl ?_
      refine P_iconst (v := (4 : Int32)) (pc := 2440) dL_law__2440 (by decide) ?_
      refine P_iadd (pc := 2441) dL_law__2441 ?_
      obtain ⟨n9, f9, e9, i9, k⟩ := k
      refine P_sld (pc := 2442) dL_law__2442 e9 i9 ?_
      clear e9
      generalize f9 (Int32.toNatClampNeg (l4 + (4 : Int32))) = x581 at k ⊢
      refine P_aload_n (pc := 2443) dL_law__2443 rfl ?_
      obtain ⟨d2, nc, ns, rc583, rs584, Qc, g1, rfl, rfl, g2, kk, kx⟩ := k
      refine P_callSX (As := [vR (900, l1), vI x578, vI x579, vI x580, vI x581, vR l3]) (st := []) (pc := 2444) dL_law__2444 mk_L_span l_L_247 st_L_span ini_L rfl g1 (Nat.le_of_ble_eq_true rfl) rfl g2 (fun v9 h9 q9 => ?_) (fun E h9 q9 => PX_out rfl (kx E h9 q9))
      obtain ⟨x585, rfl, k⟩ := kk v9 h9 q9
      clear kk kx g1 g2 q9
      refine P_istore (pc := 2447) dL_law__2447 (by decide) (Or.inr (by intro z e9; cases e9)) rfl ?_
      refine P_aload_n (pc := 2449) dL_law__2449 rfl ?_
      refine P_aload_n (pc := 2450) dL_law__2450 rfl ?_
      refine P_iload (pc := 2451) dL_law__2451 rfl ?_
      refine P_iconst (v := (1 : Int32)) (pc := 2453) dL_law__2453 (by decide) ?_
      refine P_iadd (pc := 2454) dL_law__2454 ?_
      obtain ⟨n9, f9, e9, i9, k⟩ := k
      refine P_sld (pc := 2455) dL_law__2455 e9 i9 ?_
      clear e9
      generalize f9 (Int32.toNatClampNeg (l4 + (1 : Int32))) = x586 at k ⊢
      refine P_aload_n (pc := 2456) dL_law__2456 rfl ?_
      refine P_iload (pc := 2457) dL_law__2457 rfl ?_
      refine P_iconst (v := (2 : Int32)) (pc := 2459) dL_law__2459 (by decide) ?_
      refine P_iadd (pc := 2460) dL_law__2460 ?_
      obtain ⟨n9, f9, e9, i9, k⟩ := k
      refine P_sld (pc := 2461) dL_law__2461 e9 i9 ?_
      clear e9
      generalize f9 (Int32.toNatClampNeg (l4 + (2 : Int32))) = x587 at k ⊢
      refine P_aload_n (pc := 2462) dL_law__2462 rfl ?_
      refine P_iload (pc := 2463) dL_law__2463 rfl ?_
      refine P_iconst (v := (3 : Int32)) (pc := 2465) dL_law__2465 (by decide) ?_
      refine P_iadd (pc := 2466) dL_law__2466 ?_
      obtain ⟨n9, f9, e9, i9, k⟩ := k
      refine P_sld (pc := 2467) dL_law__2467 e9 i9 ?_
      clear e9
      generalize f9 (Int32.toNatClampNeg (l4 + (3 : Int32))) = x588 at k ⊢
      refine P_aload_n (pc := 2468) dL_law__2468 rfl ?_
      refine P_iload (pc := 2469) dL_law__2469 rfl ?_
      refine P_iconst (v := (4 : Int32)) (pc := 2471) dL_law__2471 (by decide) ?_
      refine P_iadd (pc := 2472) dL_law__2472 ?_
      obtain ⟨n9, f9, e9, i9, k⟩ := k
      refine P_sld (pc := 2473) dL_law__2473 e9 i9 ?_
      clear e9
      generalize f9 (Int32.toNatClampNeg (l4 + (4 : Int32))) = x589 at k ⊢
      obtain ⟨⟨w9, e9⟩, d2, nc, ns, rc591, rs592, Qc, g1, rfl, rfl, g2, kk, kx⟩ := k
      refine P_callV (ci := 10) (k := 0) (id := l2) (q := (RX10, TX10, 55)) (As := [vI x586, vI x587, vI x588, vI x589]) (st := []) (pc := 2474) dL_law__2474 mk_X10_span l_L_249 im_X10_span se_X10_span ini_X10 rfl g1 (Nat.le_of_ble_eq_true rfl) rfl rfl (by decide) e9 rfl g2 (fun v9 h9 q9 => ?_) (fun E h9 q9 => PX_out rfl (kx E h9 q9))
      obtain ⟨x593, rfl, k⟩ := kk v9 h9 q9
      clear kk kx g1 g2 q9
      refine P_istore (pc := 2477) dL_law__2477 (by decide) (Or.inr (by intro z e9; cases e9)) rfl ?_
      refine P_aload_n (pc := 2479) dL_law__2479 rfl ?_
      obtain ⟨⟨w9, e9⟩, d2, nc, ns, rc595, rs596, Qc, g1, rfl, rfl, g2, kk, kx⟩ := k
      refine P_callV (ci := 10) (k := 0) (id := l2) (q := (RX10, TX10, 55)) (As := []) (st := []) (pc := 2480) dL_law__2480 mk_X10_thrown l_L_129 im_X10_thrown se_X10_thrown ini_X10 rfl g1 (Nat.le_of_ble_eq_true rfl) rfl rfl (by decide) e9 rfl g2 (fun v9 h9 q9 => ?_) (fun E h9 q9 => PX_out rfl (kx E h9 q9))
      obtain ⟨x597, rfl, k⟩ := kk v9 h9 q9
      clear kk kx g1 g2 q9
      refine P_iload (pc := 2483) dL_law__2483 rfl ?_
      refine P_icmp_eq (tgt := 2490) (pc := 2485) dL_law__2485 (by decide) (fun c => ?_) (fun c => ?_)
      · have k := k.1 c
        refine P_iload (pc := 2490) dL_law__2490 rfl ?_
        refine P_if_ne (tgt := 2507) (pc := 2492) dL_law__2492 (by decide) (fun c => ?_) (fun c => ?_)
        · have k := k.2 c
          refine P_goto (tgt := 2586) (pc := 2507) dL_law__2507 (by decide) ?_
          refine P_iinc (v := l4 + (10 : Int32)) (pc := 2586) dL_law__2586 (by decide) rfl rfl (Or.inr (by intro z e9; cases e9)) rfl ?_
          refine P_goto (tgt := 23) (pc := 2589) dL_law__2589 (by decide) ?_
          exact P_drop (ls2 := [vR (1201, 0), vR (900, l1), vR (1000, l2), vR l3, vI (l4 + (10 : Int32)), vU, vU]) (ls := [vR (1201, 0), vR (900, l1), vR (1000, l2), vR l3, vI (l4 + (10 : Int32)), vI x585, vI x593]) ⟨Or.inr rfl, ⟨Or.inr rfl, ⟨Or.inr rfl, ⟨Or.inr rfl, ⟨Or.inr rfl, ⟨Or.inl rfl, ⟨Or.inl rfl, trivial⟩⟩⟩⟩⟩⟩⟩ k
        · have k := k.1 c
          refine P_aload_n (pc := 2495) dL_law__2495 rfl ?_
          refine P_iconst (v := (0 : Int32)) (pc := 2496) dL_law__2496 (by decide) ?_
          obtain ⟨n9, f9, e9, i9, k⟩ := k
          refine P_lald (pc := 2497) dL_law__2497 e9 i9 ?_
          clear e9
          generalize f9 (Int32.toNatClampNeg (0 : Int32)) = x598 at k ⊢
          refine P_iload (pc := 2498) dL_law__2498 rfl ?_
          refine P_i2l (pc := 2500) dL_law__2500 ?_
          refine P_lcmp (pc := 2501) dL_law__2501 ?_
          refine P_if_eq (tgt := 2507) (pc := 2502) dL_law__2502 (by decide) (fun c => ?_) (fun c => ?_)
          · have k := k.1 c
            refine P_goto (tgt := 2586) (pc := 2507) dL_law__2507 (by decide) ?_
            refine P_iinc (v := l4 + (10 : Int32)) (pc := 2586) dL_law__2586 (by decide) rfl rfl (Or.inr (by intro z e9; cases e9)) rfl ?_
            refine P_goto (tgt := 23) (pc := 2589) dL_law__2589 (by decide) ?_
            exact P_drop (ls2 := [vR (1201, 0), vR (900, l1), vR (1000, l2), vR l3, vI (l4 + (10 : Int32)), vU, vU]) (ls := [vR (1201, 0), vR (900, l1), vR (1000, l2), vR l3, vI (l4 + (10 : Int32)), vI x585, vI x593]) ⟨Or.inr rfl, ⟨Or.inr rfl, ⟨Or.inr rfl, ⟨Or.inr rfl, ⟨Or.inr rfl, ⟨Or.inl rfl, ⟨Or.inl rfl, trivial⟩⟩⟩⟩⟩⟩⟩ k
          · have k := k.2 c
            refine P_iconst (v := (0 : Int32)) (pc := 2505) dL_law__2505 (by decide) ?_
            exact R_ireturn (pc := 2506) dL_law__2506 rfl rfl k
      · have k := k.2 c
        refine P_iconst (v := (0 : Int32)) (pc := 2488) dL_law__2488 (by decide) ?_
        exact R_ireturn (pc := 2489) dL_law__2489 rfl rfl k
    replace k := k.2
    by_cases c38 : (x2 &&& (63 : Int32)) = (38 : Int32)
    · replace k := k.1 c38
      refine P_tableIn (pc := 40) (tgt := 2510) dL_law__40 (by rw [c38]; decide) (by rw [c38]; decide) (by rw [c38] <;> rfl) (by decide) ?_
      refine P_aload_n (pc := 2510) dL_law__2510 rfl ?_
      obtain ⟨⟨w9, e9⟩, d2, nc, ns, rc600, rs601, Qc, g1, rfl, rfl, g2, kk, kx⟩ := k
      refine P_callV (ci := 9) (k := 0) (id := l1) (q := (RX9, TX9, 18)) (As := []) (st := []) (pc := 2511) dL_law__2511 mk_X9_image l_L_250 im_X9_image se_X9_image ini_X9 rfl g1 (Nat.le_of_ble_eq_true rfl) rfl rfl (by decide) e9 rfl g2 (fun v9 h9 q9 => ?_) (fun E h9 q9 => PX_out rfl (kx E h9 q9))
      obtain ⟨x602, rfl, k⟩ := kk v9 h9 q9
      clear kk kx g1 g2 q9
      refine P_aload_n (pc := 2514) dL_law__2514 rfl ?_
      obtain ⟨⟨w9, e9⟩, d2, nc, ns, rc604, rs605, Qc, g1, rfl, rfl, g2, kk, kx⟩ := k
      refine P_callV (ci := 10) (k := 0) (id := l2) (q := (RX10, TX10, 55)) (As := []) (st := [vI x602]) (pc := 2515) dL_law__2515 mk_X10_image l_L_253 im_X10_image se_X10_image ini_X10 rfl g1 (Nat.le_of_ble_eq_true rfl) rfl rfl (by decide) e9 rfl g2 (fun v9 h9 q9 => ?_) (fun E h9 q9 => PX_out rfl (kx E h9 q9))
      obtain ⟨x606, rfl, k⟩ := kk v9 h9 q9
      clear kk kx g1 g2 q9
      refine P_icmp_eq (tgt := 2586) (pc := 2518) dL_law__2518 (by decide) (fun c => ?_) (fun c => ?_)
      · have k := k.1 c
        refine P_iinc (v := l4 + (10 : Int32)) (pc := 2586) dL_law__2586 (by decide) rfl rfl (Or.inr (by intro z e9; cases e9)) rfl ?_
        refine P_goto (tgt := 23) (pc := 2589) dL_law__2589 (by decide) ?_
        exact k
      · have k := k.2 c
        refine P_iconst (v := (0 : Int32)) (pc := 2521) dL_law__2521 (by decide) ?_
        exact R_ireturn (pc := 2522) dL_law__2522 rfl rfl k
    replace k := k.2
    by_cases c39 : (x2 &&& (63 : Int32)) = (39 : Int32)
    · replace k := k.1 c39
      refine P_tableIn (pc := 40) (tgt := 2523) dL_law__40 (by rw [c39]; decide) (by rw [c39]; decide) (by rw [c39] <;> rfl) (by decide) ?_
      refine P_aload_n (pc := 2523) dL_law__2523 rfl ?_
      obtain ⟨⟨w9, e9⟩, d2, nc, ns, rc608, rs609, Qc, g1, rfl, rfl, g2, kk, kx⟩ := k
      refine P_callV (ci := 9) (k := 0) (id := l1) (q := (RX9, TX9, 18)) (As := []) (st := []) (pc := 2524) dL_law__2524 mk_X9_restore l_L_254 im_X9_restore se_X9_restore ini_X9 rfl g1 (Nat.le_of_ble_eq_true rfl) rfl rfl (by decide) e9 rfl g2 (fun v9 h9 q9 => ?_) (fun E h9 q9 => PX_out rfl (kx E h9 q9))
      obtain ⟨x610, rfl, k⟩ := kk v9 h9 q9
      clear kk kx g1 g2 q9
      refine P_aload_n (pc := 2527) dL_law__2527 rfl ?_
      obtain ⟨⟨w9, e9⟩, d2, nc, ns, rc612, rs613, Qc, g1, rfl, rfl, g2, kk, kx⟩ := k
      refine P_callV (ci := 10) (k := 0) (id := l2) (q := (RX10, TX10, 55)) (As := []) (st := [vI x610]) (pc := 2528) dL_law__2528 mk_X10_restore l_L_257 im_X10_restore se_X10_restore ini_X10 rfl g1 (Nat.le_of_ble_eq_true rfl) rfl rfl (by decide) e9 rfl g2 (fun v9 h9 q9 => ?_) (fun E h9 q9 => PX_out rfl (kx E h9 q9))
      obtain ⟨x614, rfl, k⟩ := kk v9 h9 q9
      clear kk kx g1 g2 q9
      refine P_icmp_eq (tgt := 2586) (pc := 2531) dL_law__2531 (by decide) (fun c => ?_) (fun c => ?_)
      · have k := k.1 c
        refine P_iinc (v := l4 + (10 : Int32)) (pc := 2586) dL_law__2586 (by decide) rfl rfl (Or.inr (by intro z e9; cases e9)) rfl ?_
        refine P_goto (tgt := 23) (pc := 2589) dL_law__2589 (by decide) ?_
        exact k
      · have k := k.2 c
        refine P_iconst (v := (0 : Int32)) (pc := 2534) dL_law__2534 (by decide) ?_
        exact R_ireturn (pc := 2535) dL_law__2535 rfl rfl k
    replace k := k.2
    by_cases c40 : (x2 &&& (63 : Int32)) = (40 : Int32)
    · replace k := k.1 c40
      refine P_tableIn (pc := 40) (tgt := 2536) dL_law__40 (by rw [c40]; decide) (by rw [c40]; decide) (by rw [c40] <;> rfl) (by decide) ?_
      refine P_aload_n (pc := 2536) dL_law__2536 rfl ?_
      refine P_aload_n (pc := 2537) dL_law__2537 rfl ?_
      refine P_iload (pc := 2538) dL_law__2538 rfl ?_
      refine P_iconst (v := (1 : Int32)) (pc := 2540) dL_law__2540 (by decide) ?_
      refine P_iadd (pc := 2541) dL_law__2541 ?_
      obtain ⟨n9, f9, e9, i9, k⟩ := k
      refine P_sld (pc := 2542) dL_law__2542 e9 i9 ?_
      clear e9
      generalize f9 (Int32.toNatClampNeg (l4 + (1 : Int32))) = x615 at k ⊢
      obtain ⟨⟨w9, e9⟩, d2, nc, ns, rc617, rs618, Qc, g1, rfl, rfl, g2, kk, kx⟩ := k
      refine P_callV (ci := 9) (k := 0) (id := l1) (q := (RX9, TX9, 18)) (As := [vI x615]) (st := []) (pc := 2543) dL_law__2543 mk_X9_status l_L_258 im_X9_status se_X9_status ini_X9 rfl g1 (Nat.le_of_ble_eq_true rfl) rfl rfl (by decide) e9 rfl g2 (fun v9 h9 q9 => ?_) (fun E h9 q9 => PX_out rfl (kx E h9 q9))
      obtain ⟨x619, rfl, k⟩ := kk v9 h9 q9
      clear kk kx g1 g2 q9
      refine P_aload_n (pc := 2546) dL_law__2546 rfl ?_
      refine P_aload_n (pc := 2547) dL_law__2547 rfl ?_
      refine P_iload (pc := 2548) dL_law__2548 rfl ?_
      refine P_iconst (v := (1 : Int32)) (pc := 2550) dL_law__2550 (by decide) ?_
      refine P_iadd (pc := 2551) dL_law__2551 ?_
      obtain ⟨n9, f9, e9, i9, k⟩ := k
      refine P_sld (pc := 2552) dL_law__2552 e9 i9 ?_
      clear e9
      generalize f9 (Int32.toNatClampNeg (l4 + (1 : Int32))) = x620 at k ⊢
      obtain ⟨⟨w9, e9⟩, d2, nc, ns, rc622, rs623, Qc, g1, rfl, rfl, g2, kk, kx⟩ := k
      refine P_callV (ci := 10) (k := 0) (id := l2) (q := (RX10, TX10, 55)) (As := [vI x620]) (st := [vI x619]) (pc := 2553) dL_law__2553 mk_X10_status l_L_261 im_X10_status se_X10_status ini_X10 rfl g1 (Nat.le_of_ble_eq_true rfl) rfl rfl (by decide) e9 rfl g2 (fun v9 h9 q9 => ?_) (fun E h9 q9 => PX_out rfl (kx E h9 q9))
      obtain ⟨x624, rfl, k⟩ := kk v9 h9 q9
      clear kk kx g1 g2 q9
      refine P_icmp_eq (tgt := 2586) (pc := 2556) dL_law__2556 (by decide) (fun c => ?_) (fun c => ?_)
      · have k := k.1 c
        refine P_iinc (v := l4 + (10 : Int32)) (pc := 2586) dL_law__2586 (by decide) rfl rfl (Or.inr (by intro z e9; cases e9)) rfl ?_
        refine P_goto (tgt := 23) (pc := 2589) dL_law__2589 (by decide) ?_
        exact k
      · have k := k.2 c
        refine P_iconst (v := (0 : Int32)) (pc := 2559) dL_law__2559 (by decide) ?_
        exact R_ireturn (pc := 2560) dL_law__2560 rfl rfl k
    replace k := k.2
    by_cases c41 : (x2 &&& (63 : Int32)) = (41 : Int32)
    · replace k := k.1 c41
      refine P_tableIn (pc := 40) (tgt := 2561) dL_law__40 (by rw [c41]; decide) (by rw [c41]; decide) (by rw [c41] <;> rfl) (by decide) ?_
      refine P_aload_n (pc := 2561) dL_law__2561 rfl ?_
      refine P_aload_n (pc := 2562) dL_law__2562 rfl ?_
      refine P_iload (pc := 2563) dL_law__2563 rfl ?_
      refine P_iconst (v := (1 : Int32)) (pc := 2565) dL_law__2565 (by decide) ?_
      refine P_iadd (pc := 2566) dL_law__2566 ?_
      obtain ⟨n9, f9, e9, i9, k⟩ := k
      refine P_sld (pc := 2567) dL_law__2567 e9 i9 ?_
      clear e9
      generalize f9 (Int32.toNatClampNeg (l4 + (1 : Int32))) = x625 at k ⊢
      obtain ⟨⟨w9, e9⟩, d2, nc, ns, rc627, rs628, Qc, g1, rfl, rfl, g2, kk, kx⟩ := k
      refine P_callV (ci := 9) (k := 0) (id := l1) (q := (RX9, TX9, 18)) (As := [vI x625]) (st := []) (pc := 2568) dL_law__2568 mk_X9_count l_L_262 im_X9_count se_X9_count ini_X9 rfl g1 (Nat.le_of_ble_eq_true rfl) rfl rfl (by decide) e9 rfl g2 (fun v9 h9 q9 => ?_) (fun E h9 q9 => PX_out rfl (kx E h9 q9))
      obtain ⟨x629, rfl, k⟩ := kk v9 h9 q9
      clear kk kx g1 g2 q9
      refine P_aload_n (pc := 2571) dL_law__2571 rfl ?_
      refine P_aload_n (pc := 2572) dL_law__2572 rfl ?_
      refine P_iload (pc := 2573) dL_law__2573 rfl ?_
      refine P_iconst (v := (1 : Int32)) (pc := 2575) dL_law__2575 (by decide) ?_
      refine P_iadd (pc := 2576) dL_law__2576 ?_
      obtain ⟨n9, f9, e9, i9, k⟩ := k
      refine P_sld (pc := 2577) dL_law__2577 e9 i9 ?_
      clear e9
      generalize f9 (Int32.toNatClampNeg (l4 + (1 : Int32))) = x630 at k ⊢
      obtain ⟨⟨w9, e9⟩, d2, nc, ns, rc632, rs633, Qc, g1, rfl, rfl, g2, kk, kx⟩ := k
      refine P_callV (ci := 10) (k := 0) (id := l2) (q := (RX10, TX10, 55)) (As := [vI x630]) (st := [vI x629]) (pc := 2578) dL_law__2578 mk_X10_count l_L_265 im_X10_count se_X10_count ini_X10 rfl g1 (Nat.le_of_ble_eq_true rfl) rfl rfl (by decide) e9 rfl g2 (fun v9 h9 q9 => ?_) (fun E h9 q9 => PX_out rfl (kx E h9 q9))
      obtain ⟨x634, rfl, k⟩ := kk v9 h9 q9
      clear kk kx g1 g2 q9
      refine P_icmp_eq (tgt := 2586) (pc := 2581) dL_law__2581 (by decide) (fun c => ?_) (fun c => ?_)
      · have k := k.1 c
        refine P_iinc (v := l4 + (10 : Int32)) (pc := 2586) dL_law__2586 (by decide) rfl rfl (Or.inr (by intro z e9; cases e9)) rfl ?_
        refine P_goto (tgt := 23) (pc := 2589) dL_law__2589 (by decide) ?_
        exact k
      · have k := k.2 c
        refine P_iconst (v := (0 : Int32)) (pc := 2584) dL_law__2584 (by decide) ?_
        exact R_ireturn (pc := 2585) dL_law__2585 rfl rfl k
    replace k := k.2
    replace k := k ⟨c0, c1, c2, c3, c4, c5, c6, c7, c8, c9, c10, c11, c12, c13, c14, c15, c16, c17, c18, c19, c20, c21, c22, c23, c24, c25, c26, c27, c28, c29, c30, c31, c32, c33, c34, c35, c36, c37, c38, c39, c40, c41⟩
    refine P_tableOut (pc := 40) (tgt := 2586) dL_law__40 ?_ (by decide) ?_
    · have q9 := sw_out (x := (x2 &&& (63 : Int32))) (lo := 0) 42 (fun j hj => by
          match j, hj with
          | 0, _ => exact ti_ne c0
          | 1, _ => exact ti_ne c1
          | 2, _ => exact ti_ne c2
          | 3, _ => exact ti_ne c3
          | 4, _ => exact ti_ne c4
          | 5, _ => exact ti_ne c5
          | 6, _ => exact ti_ne c6
          | 7, _ => exact ti_ne c7
          | 8, _ => exact ti_ne c8
          | 9, _ => exact ti_ne c9
          | 10, _ => exact ti_ne c10
          | 11, _ => exact ti_ne c11
          | 12, _ => exact ti_ne c12
          | 13, _ => exact ti_ne c13
          | 14, _ => exact ti_ne c14
          | 15, _ => exact ti_ne c15
          | 16, _ => exact ti_ne c16
          | 17, _ => exact ti_ne c17
          | 18, _ => exact ti_ne c18
          | 19, _ => exact ti_ne c19
          | 20, _ => exact ti_ne c20
          | 21, _ => exact ti_ne c21
          | 22, _ => exact ti_ne c22
          | 23, _ => exact ti_ne c23
          | 24, _ => exact ti_ne c24
          | 25, _ => exact ti_ne c25
          | 26, _ => exact ti_ne c26
          | 27, _ => exact ti_ne c27
          | 28, _ => exact ti_ne c28
          | 29, _ => exact ti_ne c29
          | 30, _ => exact ti_ne c30
          | 31, _ => exact ti_ne c31
          | 32, _ => exact ti_ne c32
          | 33, _ => exact ti_ne c33
          | 34, _ => exact ti_ne c34
          | 35, _ => exact ti_ne c35
          | 36, _ => exact ti_ne c36
          | 37, _ => exact ti_ne c37
          | 38, _ => exact ti_ne c38
          | 39, _ => exact ti_ne c39
          | 40, _ => exact ti_ne c40
          | 41, _ => exact ti_ne c41
          | n + 42, hj => exact absurd hj (by omega))
      omega
    refine P_iinc (v := l4 + (10 : Int32)) (pc := 2586) dL_law__2586 (by decide) rfl rfl (Or.inr (by intro z e9; cases e9)) rfl ?_
    refine P_goto (tgt := 23) (pc := 2589) dL_law__2589 (by decide) ?_
    exact k
