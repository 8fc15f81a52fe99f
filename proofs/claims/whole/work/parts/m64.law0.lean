theorem dL_law__0 : decode cL_law_ 0 = .ok (.new 8, 3) := by decide +kernel
theorem dL_law__3 : decode cL_law_ 3 = .ok (.dup, 1) := by decide +kernel
theorem dL_law__4 : decode cL_law_ 4 = .ok (.invokespecial 116, 3) := by decide +kernel
theorem dL_law__7 : decode cL_law_ 7 = .ok (.astore_n 1, 1) := by decide +kernel
theorem dL_law__8 : decode cL_law_ 8 = .ok (.new 117, 3) := by decide +kernel
theorem dL_law__11 : decode cL_law_ 11 = .ok (.dup, 1) := by decide +kernel
theorem dL_law__12 : decode cL_law_ 12 = .ok (.invokespecial 119, 3) := by decide +kernel
theorem dL_law__15 : decode cL_law_ 15 = .ok (.astore_n 2, 1) := by decide +kernel
theorem dL_law__16 : decode cL_law_ 16 = .ok (.iconst 1, 1) := by decide +kernel
theorem dL_law__17 : decode cL_law_ 17 = .ok (.newarray .long, 2) := by decide +kernel
theorem dL_law__19 : decode cL_law_ 19 = .ok (.astore_n 3, 1) := by decide +kernel
theorem dL_law__20 : decode cL_law_ 20 = .ok (.iconst 0, 1) := by decide +kernel
theorem dL_law__21 : decode cL_law_ 21 = .ok (.istore 4, 2) := by decide +kernel
theorem dL_law__23 : decode cL_law_ 23 = .ok (.iload 4, 2) := by decide +kernel
theorem dL_law__25 : decode cL_law_ 25 = .ok (.aload_n 0, 1) := by decide +kernel
theorem dL_law__26 : decode cL_law_ 26 = .ok (.arraylength, 1) := by decide +kernel
theorem dL_law__27 : decode cL_law_ 27 = .ok (.bipush 6, 2) := by decide +kernel
theorem dL_law__29 : decode cL_law_ 29 = .ok (.isub, 1) := by decide +kernel
theorem dL_law__30 : decode cL_law_ 30 = .ok (.if_icmp .gt 2651, 3) := by decide +kernel
theorem dL_law__33 : decode cL_law_ 33 = .ok (.aload_n 0, 1) := by decide +kernel
theorem dL_law__34 : decode cL_law_ 34 = .ok (.iload 4, 2) := by decide +kernel
theorem dL_law__36 : decode cL_law_ 36 = .ok (.iaload, 1) := by decide +kernel
theorem dL_law__37 : decode cL_law_ 37 = .ok (.bipush 63, 2) := by decide +kernel
theorem dL_law__39 : decode cL_law_ 39 = .ok (.iand, 1) := by decide +kernel
theorem dL_law__40 : decode cL_law_ 40 = .ok (.tableswitch 2635 0 43 #[192, 265, 290, 334, 378, 391, 459, 527, 595, 691, 775, 843, 911, 967, 1035, 1126, 1194, 1250, 1318, 1386, 1442, 1483, 1551, 1623, 1636, 1704, 1800, 1837, 1878, 1934, 2002, 2070, 2083, 2151, 2219, 2287, 2328, 2396, 2480, 2548, 2573, 2586, 2597, 2610], 192) := by decide +kernel
theorem dL_law__232 : decode cL_law_ 232 = .ok (.aload_n 1, 1) := by decide +kernel
theorem dL_law__233 : decode cL_law_ 233 = .ok (.aload_n 0, 1) := by decide +kernel
theorem dL_law__234 : decode cL_law_ 234 = .ok (.iload 4, 2) := by decide +kernel
theorem dL_law__236 : decode cL_law_ 236 = .ok (.iconst 1, 1) := by decide +kernel
theorem dL_law__237 : decode cL_law_ 237 = .ok (.iadd, 1) := by decide +kernel
theorem dL_law__238 : decode cL_law_ 238 = .ok (.iaload, 1) := by decide +kernel
theorem dL_law__239 : decode cL_law_ 239 = .ok (.aload_n 0, 1) := by decide +kernel
theorem dL_law__240 : decode cL_law_ 240 = .ok (.iload 4, 2) := by decide +kernel
theorem dL_law__242 : decode cL_law_ 242 = .ok (.iconst 2, 1) := by decide +kernel
theorem dL_law__243 : decode cL_law_ 243 = .ok (.iadd, 1) := by decide +kernel
theorem dL_law__244 : decode cL_law_ 244 = .ok (.iaload, 1) := by decide +kernel
theorem dL_law__245 : decode cL_law_ 245 = .ok (.aload_n 0, 1) := by decide +kernel
theorem dL_law__246 : decode cL_law_ 246 = .ok (.iload 4, 2) := by decide +kernel
theorem dL_law__248 : decode cL_law_ 248 = .ok (.iconst 3, 1) := by decide +kernel
theorem dL_law__249 : decode cL_law_ 249 = .ok (.iadd, 1) := by decide +kernel
theorem dL_law__250 : decode cL_law_ 250 = .ok (.iaload, 1) := by decide +kernel
theorem dL_law__251 : decode cL_law_ 251 = .ok (.aload_n 0, 1) := by decide +kernel
theorem dL_law__252 : decode cL_law_ 252 = .ok (.iload 4, 2) := by decide +kernel
theorem dL_law__254 : decode cL_law_ 254 = .ok (.iconst 4, 1) := by decide +kernel
theorem dL_law__255 : decode cL_law_ 255 = .ok (.iadd, 1) := by decide +kernel
theorem dL_law__256 : decode cL_law_ 256 = .ok (.iaload, 1) := by decide +kernel
theorem dL_law__257 : decode cL_law_ 257 = .ok (.aload_n 0, 1) := by decide +kernel
theorem dL_law__258 : decode cL_law_ 258 = .ok (.iload 4, 2) := by decide +kernel
theorem dL_law__260 : decode cL_law_ 260 = .ok (.iconst 5, 1) := by decide +kernel
theorem dL_law__261 : decode cL_law_ 261 = .ok (.iadd, 1) := by decide +kernel
theorem dL_law__262 : decode cL_law_ 262 = .ok (.iaload, 1) := by decide +kernel
theorem dL_law__263 : decode cL_law_ 263 = .ok (.invokevirtual 120, 3) := by decide +kernel
theorem dL_law__266 : decode cL_law_ 266 = .ok (.aload_n 2, 1) := by decide +kernel
theorem dL_law__267 : decode cL_law_ 267 = .ok (.aload_n 0, 1) := by decide +kernel
theorem dL_law__268 : decode cL_law_ 268 = .ok (.iload 4, 2) := by decide +kernel
theorem dL_law__270 : decode cL_law_ 270 = .ok (.iconst 1, 1) := by decide +kernel
theorem dL_law__271 : decode cL_law_ 271 = .ok (.iadd, 1) := by decide +kernel
theorem dL_law__272 : decode cL_law_ 272 = .ok (.iaload, 1) := by decide +kernel
theorem dL_law__273 : decode cL_law_ 273 = .ok (.aload_n 0, 1) := by decide +kernel
theorem dL_law__274 : decode cL_law_ 274 = .ok (.iload 4, 2) := by decide +kernel
theorem dL_law__276 : decode cL_law_ 276 = .ok (.iconst 2, 1) := by decide +kernel
theorem dL_law__277 : decode cL_law_ 277 = .ok (.iadd, 1) := by decide +kernel
theorem dL_law__278 : decode cL_law_ 278 = .ok (.iaload, 1) := by decide +kernel
theorem dL_law__279 : decode cL_law_ 279 = .ok (.aload_n 0, 1) := by decide +kernel
theorem dL_law__280 : decode cL_law_ 280 = .ok (.iload 4, 2) := by decide +kernel
theorem dL_law__282 : decode cL_law_ 282 = .ok (.iconst 3, 1) := by decide +kernel
theorem dL_law__283 : decode cL_law_ 283 = .ok (.iadd, 1) := by decide +kernel
theorem dL_law__284 : decode cL_law_ 284 = .ok (.iaload, 1) := by decide +kernel
theorem dL_law__285 : decode cL_law_ 285 = .ok (.aload_n 0, 1) := by decide +kernel
theorem dL_law__286 : decode cL_law_ 286 = .ok (.iload 4, 2) := by decide +kernel
theorem dL_law__288 : decode cL_law_ 288 = .ok (.iconst 4, 1) := by decide +kernel
theorem dL_law__289 : decode cL_law_ 289 = .ok (.iadd, 1) := by decide +kernel
theorem dL_law__290 : decode cL_law_ 290 = .ok (.iaload, 1) := by decide +kernel
theorem dL_law__291 : decode cL_law_ 291 = .ok (.aload_n 0, 1) := by decide +kernel
theorem dL_law__292 : decode cL_law_ 292 = .ok (.iload 4, 2) := by decide +kernel
theorem dL_law__294 : decode cL_law_ 294 = .ok (.iconst 5, 1) := by decide +kernel
theorem dL_law__295 : decode cL_law_ 295 = .ok (.iadd, 1) := by decide +kernel
theorem dL_law__296 : decode cL_law_ 296 = .ok (.iaload, 1) := by decide +kernel
theorem dL_law__297 : decode cL_law_ 297 = .ok (.invokevirtual 124, 3) := by decide +kernel
theorem dL_law__300 : decode cL_law_ 300 = .ok (.if_icmp .eq 2375, 3) := by decide +kernel
theorem dL_law__303 : decode cL_law_ 303 = .ok (.iconst 0, 1) := by decide +kernel
theorem dL_law__304 : decode cL_law_ 304 = .ok (.ireturn, 1) := by decide +kernel
theorem dL_law__305 : decode cL_law_ 305 = .ok (.aload_n 1, 1) := by decide +kernel
theorem dL_law__306 : decode cL_law_ 306 = .ok (.aload_n 0, 1) := by decide +kernel
theorem dL_law__307 : decode cL_law_ 307 = .ok (.iload 4, 2) := by decide +kernel
theorem dL_law__309 : decode cL_law_ 309 = .ok (.iconst 1, 1) := by decide +kernel
theorem dL_law__310 : decode cL_law_ 310 = .ok (.iadd, 1) := by decide +kernel
theorem dL_law__311 : decode cL_law_ 311 = .ok (.iaload, 1) := by decide +kernel
theorem dL_law__312 : decode cL_law_ 312 = .ok (.invokevirtual 125, 3) := by decide +kernel
theorem dL_law__315 : decode cL_law_ 315 = .ok (.aload_n 2, 1) := by decide +kernel
theorem dL_law__316 : decode cL_law_ 316 = .ok (.aload_n 0, 1) := by decide +kernel
theorem dL_law__317 : decode cL_law_ 317 = .ok (.iload 4, 2) := by decide +kernel
theorem dL_law__319 : decode cL_law_ 319 = .ok (.iconst 1, 1) := by decide +kernel
theorem dL_law__320 : decode cL_law_ 320 = .ok (.iadd, 1) := by decide +kernel
theorem dL_law__321 : decode cL_law_ 321 = .ok (.iaload, 1) := by decide +kernel
theorem dL_law__322 : decode cL_law_ 322 = .ok (.invokevirtual 129, 3) := by decide +kernel
theorem dL_law__325 : decode cL_law_ 325 = .ok (.if_icmp .eq 2350, 3) := by decide +kernel
theorem dL_law__328 : decode cL_law_ 328 = .ok (.iconst 0, 1) := by decide +kernel
theorem dL_law__329 : decode cL_law_ 329 = .ok (.ireturn, 1) := by decide +kernel
theorem dL_law__330 : decode cL_law_ 330 = .ok (.aload_n 1, 1) := by decide +kernel
theorem dL_law__331 : decode cL_law_ 331 = .ok (.aload_n 3, 1) := by decide +kernel
theorem dL_law__332 : decode cL_law_ 332 = .ok (.invokestatic 130, 3) := by decide +kernel
theorem dL_law__335 : decode cL_law_ 335 = .ok (.istore 5, 2) := by decide +kernel
theorem dL_law__337 : decode cL_law_ 337 = .ok (.aload_n 2, 1) := by decide +kernel
theorem dL_law__338 : decode cL_law_ 338 = .ok (.invokevirtual 135, 3) := by decide +kernel
theorem dL_law__341 : decode cL_law_ 341 = .ok (.istore 6, 2) := by decide +kernel
theorem dL_law__343 : decode cL_law_ 343 = .ok (.aload_n 2, 1) := by decide +kernel
theorem dL_law__344 : decode cL_law_ 344 = .ok (.invokevirtual 136, 3) := by decide +kernel
theorem dL_law__347 : decode cL_law_ 347 = .ok (.iload 5, 2) := by decide +kernel
theorem dL_law__349 : decode cL_law_ 349 = .ok (.if_icmp .eq 5, 3) := by decide +kernel
theorem dL_law__352 : decode cL_law_ 352 = .ok (.iconst 0, 1) := by decide +kernel
theorem dL_law__353 : decode cL_law_ 353 = .ok (.ireturn, 1) := by decide +kernel
theorem dL_law__354 : decode cL_law_ 354 = .ok (.iload 5, 2) := by decide +kernel
theorem dL_law__356 : decode cL_law_ 356 = .ok (.ifCond .ne 15, 3) := by decide +kernel
theorem dL_law__359 : decode cL_law_ 359 = .ok (.aload_n 3, 1) := by decide +kernel
theorem dL_law__360 : decode cL_law_ 360 = .ok (.iconst 0, 1) := by decide +kernel
theorem dL_law__361 : decode cL_law_ 361 = .ok (.laload, 1) := by decide +kernel
theorem dL_law__362 : decode cL_law_ 362 = .ok (.iload 6, 2) := by decide +kernel
theorem dL_law__364 : decode cL_law_ 364 = .ok (.i2l, 1) := by decide +kernel
theorem dL_law__365 : decode cL_law_ 365 = .ok (.lcmp, 1) := by decide +kernel
theorem dL_law__366 : decode cL_law_ 366 = .ok (.ifCond .eq 5, 3) := by decide +kernel
theorem dL_law__369 : decode cL_law_ 369 = .ok (.iconst 0, 1) := by decide +kernel
theorem dL_law__370 : decode cL_law_ 370 = .ok (.ireturn, 1) := by decide +kernel
theorem dL_law__371 : decode cL_law_ 371 = .ok (.goto 2304, 3) := by decide +kernel
theorem dL_law__374 : decode cL_law_ 374 = .ok (.aload_n 1, 1) := by decide +kernel
theorem dL_law__375 : decode cL_law_ 375 = .ok (.aload_n 3, 1) := by decide +kernel
theorem dL_law__376 : decode cL_law_ 376 = .ok (.invokestatic 139, 3) := by decide +kernel
theorem dL_law__379 : decode cL_law_ 379 = .ok (.istore 5, 2) := by decide +kernel
theorem dL_law__381 : decode cL_law_ 381 = .ok (.aload_n 2, 1) := by decide +kernel
theorem dL_law__382 : decode cL_law_ 382 = .ok (.invokevirtual 141, 3) := by decide +kernel
theorem dL_law__385 : decode cL_law_ 385 = .ok (.istore 6, 2) := by decide +kernel
theorem dL_law__387 : decode cL_law_ 387 = .ok (.aload_n 2, 1) := by decide +kernel
theorem dL_law__388 : decode cL_law_ 388 = .ok (.invokevirtual 136, 3) := by decide +kernel
theorem dL_law__391 : decode cL_law_ 391 = .ok (.iload 5, 2) := by decide +kernel
theorem dL_law__393 : decode cL_law_ 393 = .ok (.if_icmp .eq 5, 3) := by decide +kernel
theorem dL_law__396 : decode cL_law_ 396 = .ok (.iconst 0, 1) := by decide +kernel
theorem dL_law__397 : decode cL_law_ 397 = .ok (.ireturn, 1) := by decide +kernel
theorem dL_law__398 : decode cL_law_ 398 = .ok (.iload 5, 2) := by decide +kernel
theorem dL_law__400 : decode cL_law_ 400 = .ok (.ifCond .ne 15, 3) := by decide +kernel
theorem dL_law__403 : decode cL_law_ 403 = .ok (.aload_n 3, 1) := by decide +kernel
theorem dL_law__404 : decode cL_law_ 404 = .ok (.iconst 0, 1) := by decide +kernel
theorem dL_law__405 : decode cL_law_ 405 = .ok (.laload, 1) := by decide +kernel
theorem dL_law__406 : decode cL_law_ 406 = .ok (.iload 6, 2) := by decide +kernel
theorem dL_law__408 : decode cL_law_ 408 = .ok (.i2l, 1) := by decide +kernel
theorem dL_law__409 : decode cL_law_ 409 = .ok (.lcmp, 1) := by decide +kernel
theorem dL_law__410 : decode cL_law_ 410 = .ok (.ifCond .eq 5, 3) := by decide +kernel
theorem dL_law__413 : decode cL_law_ 413 = .ok (.iconst 0, 1) := by decide +kernel
theorem dL_law__414 : decode cL_law_ 414 = .ok (.ireturn, 1) := by decide +kernel
theorem dL_law__415 : decode cL_law_ 415 = .ok (.goto 2260, 3) := by decide +kernel
theorem dL_law__418 : decode cL_law_ 418 = .ok (.aload_n 1, 1) := by decide +kernel
theorem dL_law__419 : decode cL_law_ 419 = .ok (.invokevirtual 142, 3) := by decide +kernel
theorem dL_law__422 : decode cL_law_ 422 = .ok (.aload_n 2, 1) := by decide +kernel
theorem dL_law__423 : decode cL_law_ 423 = .ok (.invokevirtual 145, 3) := by decide +kernel
theorem dL_law__426 : decode cL_law_ 426 = .ok (.if_icmp .eq 2249, 3) := by decide +kernel
theorem dL_law__429 : decode cL_law_ 429 = .ok (.iconst 0, 1) := by decide +kernel
theorem dL_law__430 : decode cL_law_ 430 = .ok (.ireturn, 1) := by decide +kernel
theorem dL_law__431 : decode cL_law_ 431 = .ok (.aload_n 1, 1) := by decide +kernel
theorem dL_law__432 : decode cL_law_ 432 = .ok (.aload_n 0, 1) := by decide +kernel
theorem dL_law__433 : decode cL_law_ 433 = .ok (.iload 4, 2) := by decide +kernel
theorem dL_law__435 : decode cL_law_ 435 = .ok (.iconst 1, 1) := by decide +kernel
theorem dL_law__436 : decode cL_law_ 436 = .ok (.iadd, 1) := by decide +kernel
theorem dL_law__437 : decode cL_law_ 437 = .ok (.iaload, 1) := by decide +kernel
theorem dL_law__438 : decode cL_law_ 438 = .ok (.aload_n 0, 1) := by decide +kernel
theorem dL_law__439 : decode cL_law_ 439 = .ok (.iload 4, 2) := by decide +kernel
theorem dL_law__441 : decode cL_law_ 441 = .ok (.iconst 2, 1) := by decide +kernel
theorem dL_law__442 : decode cL_law_ 442 = .ok (.iadd, 1) := by decide +kernel
theorem dL_law__443 : decode cL_law_ 443 = .ok (.iaload, 1) := by decide +kernel
theorem dL_law__444 : decode cL_law_ 444 = .ok (.aload_n 3, 1) := by decide +kernel
theorem dL_law__445 : decode cL_law_ 445 = .ok (.invokestatic 146, 3) := by decide +kernel
theorem dL_law__448 : decode cL_law_ 448 = .ok (.istore 5, 2) := by decide +kernel
theorem dL_law__450 : decode cL_law_ 450 = .ok (.aload_n 2, 1) := by decide +kernel
theorem dL_law__451 : decode cL_law_ 451 = .ok (.aload_n 0, 1) := by decide +kernel
theorem dL_law__452 : decode cL_law_ 452 = .ok (.iload 4, 2) := by decide +kernel
theorem dL_law__454 : decode cL_law_ 454 = .ok (.iconst 1, 1) := by decide +kernel
theorem dL_law__455 : decode cL_law_ 455 = .ok (.iadd, 1) := by decide +kernel
theorem dL_law__456 : decode cL_law_ 456 = .ok (.iaload, 1) := by decide +kernel
theorem dL_law__457 : decode cL_law_ 457 = .ok (.aload_n 0, 1) := by decide +kernel
theorem dL_law__458 : decode cL_law_ 458 = .ok (.iload 4, 2) := by decide +kernel
theorem dL_law__460 : decode cL_law_ 460 = .ok (.iconst 2, 1) := by decide +kernel
theorem dL_law__461 : decode cL_law_ 461 = .ok (.iadd, 1) := by decide +kernel
theorem dL_law__462 : decode cL_law_ 462 = .ok (.iaload, 1) := by decide +kernel
theorem dL_law__463 : decode cL_law_ 463 = .ok (.invokevirtual 149, 3) := by decide +kernel
theorem dL_law__466 : decode cL_law_ 466 = .ok (.istore 6, 2) := by decide +kernel
theorem dL_law__468 : decode cL_law_ 468 = .ok (.aload_n 2, 1) := by decide +kernel
theorem dL_law__469 : decode cL_law_ 469 = .ok (.invokevirtual 136, 3) := by decide +kernel
theorem dL_law__472 : decode cL_law_ 472 = .ok (.iload 5, 2) := by decide +kernel
theorem dL_law__474 : decode cL_law_ 474 = .ok (.if_icmp .eq 5, 3) := by decide +kernel
theorem dL_law__477 : decode cL_law_ 477 = .ok (.iconst 0, 1) := by decide +kernel
theorem dL_law__478 : decode cL_law_ 478 = .ok (.ireturn, 1) := by decide +kernel
theorem dL_law__479 : decode cL_law_ 479 = .ok (.iload 5, 2) := by decide +kernel
theorem dL_law__481 : decode cL_law_ 481 = .ok (.ifCond .ne 15, 3) := by decide +kernel
theorem dL_law__484 : decode cL_law_ 484 = .ok (.aload_n 3, 1) := by decide +kernel
theorem dL_law__485 : decode cL_law_ 485 = .ok (.iconst 0, 1) := by decide +kernel
theorem dL_law__486 : decode cL_law_ 486 = .ok (.laload, 1) := by decide +kernel
theorem dL_law__487 : decode cL_law_ 487 = .ok (.iload 6, 2) := by decide +kernel
theorem dL_law__489 : decode cL_law_ 489 = .ok (.i2l, 1) := by decide +kernel
theorem dL_law__490 : decode cL_law_ 490 = .ok (.lcmp, 1) := by decide +kernel
theorem dL_law__491 : decode cL_law_ 491 = .ok (.ifCond .eq 5, 3) := by decide +kernel
theorem dL_law__494 : decode cL_law_ 494 = .ok (.iconst 0, 1) := by decide +kernel
theorem dL_law__495 : decode cL_law_ 495 = .ok (.ireturn, 1) := by decide +kernel
theorem dL_law__496 : decode cL_law_ 496 = .ok (.goto 2179, 3) := by decide +kernel
theorem dL_law__499 : decode cL_law_ 499 = .ok (.aload_n 1, 1) := by decide +kernel
theorem dL_law__500 : decode cL_law_ 500 = .ok (.aload_n 0, 1) := by decide +kernel
theorem dL_law__501 : decode cL_law_ 501 = .ok (.iload 4, 2) := by decide +kernel
theorem dL_law__503 : decode cL_law_ 503 = .ok (.iconst 1, 1) := by decide +kernel
theorem dL_law__504 : decode cL_law_ 504 = .ok (.iadd, 1) := by decide +kernel
theorem dL_law__505 : decode cL_law_ 505 = .ok (.iaload, 1) := by decide +kernel
theorem dL_law__506 : decode cL_law_ 506 = .ok (.aload_n 0, 1) := by decide +kernel
theorem dL_law__507 : decode cL_law_ 507 = .ok (.iload 4, 2) := by decide +kernel
theorem dL_law__509 : decode cL_law_ 509 = .ok (.iconst 2, 1) := by decide +kernel
theorem dL_law__510 : decode cL_law_ 510 = .ok (.iadd, 1) := by decide +kernel
theorem dL_law__511 : decode cL_law_ 511 = .ok (.iaload, 1) := by decide +kernel
theorem dL_law__512 : decode cL_law_ 512 = .ok (.aload_n 3, 1) := by decide +kernel
theorem dL_law__513 : decode cL_law_ 513 = .ok (.invokestatic 150, 3) := by decide +kernel
theorem dL_law__516 : decode cL_law_ 516 = .ok (.istore 5, 2) := by decide +kernel
theorem dL_law__518 : decode cL_law_ 518 = .ok (.aload_n 2, 1) := by decide +kernel
theorem dL_law__519 : decode cL_law_ 519 = .ok (.aload_n 0, 1) := by decide +kernel
theorem dL_law__520 : decode cL_law_ 520 = .ok (.iload 4, 2) := by decide +kernel
theorem dL_law__522 : decode cL_law_ 522 = .ok (.iconst 1, 1) := by decide +kernel
theorem dL_law__523 : decode cL_law_ 523 = .ok (.iadd, 1) := by decide +kernel
theorem dL_law__524 : decode cL_law_ 524 = .ok (.iaload, 1) := by decide +kernel
theorem dL_law__525 : decode cL_law_ 525 = .ok (.aload_n 0, 1) := by decide +kernel
theorem dL_law__526 : decode cL_law_ 526 = .ok (.iload 4, 2) := by decide +kernel
theorem dL_law__528 : decode cL_law_ 528 = .ok (.iconst 2, 1) := by decide +kernel
theorem dL_law__529 : decode cL_law_ 529 = .ok (.iadd, 1) := by decide +kernel
theorem dL_law__530 : decode cL_law_ 530 = .ok (.iaload, 1) := by decide +kernel
theorem dL_law__531 : decode cL_law_ 531 = .ok (.invokevirtual 152, 3) := by decide +kernel
theorem dL_law__534 : decode cL_law_ 534 = .ok (.istore 6, 2) := by decide +kernel
theorem dL_law__536 : decode cL_law_ 536 = .ok (.aload_n 2, 1) := by decide +kernel
theorem dL_law__537 : decode cL_law_ 537 = .ok (.invokevirtual 136, 3) := by decide +kernel
theorem dL_law__540 : decode cL_law_ 540 = .ok (.iload 5, 2) := by decide +kernel
theorem dL_law__542 : decode cL_law_ 542 = .ok (.if_icmp .eq 5, 3) := by decide +kernel
theorem dL_law__545 : decode cL_law_ 545 = .ok (.iconst 0, 1) := by decide +kernel
theorem dL_law__546 : decode cL_law_ 546 = .ok (.ireturn, 1) := by decide +kernel
theorem dL_law__547 : decode cL_law_ 547 = .ok (.iload 5, 2) := by decide +kernel
theorem dL_law__549 : decode cL_law_ 549 = .ok (.ifCond .ne 15, 3) := by decide +kernel
theorem dL_law__552 : decode cL_law_ 552 = .ok (.aload_n 3, 1) := by decide +kernel
theorem dL_law__553 : decode cL_law_ 553 = .ok (.iconst 0, 1) := by decide +kernel
theorem dL_law__554 : decode cL_law_ 554 = .ok (.laload, 1) := by decide +kernel
theorem dL_law__555 : decode cL_law_ 555 = .ok (.iload 6, 2) := by decide +kernel
theorem dL_law__557 : decode cL_law_ 557 = .ok (.i2l, 1) := by decide +kernel
theorem dL_law__558 : decode cL_law_ 558 = .ok (.lcmp, 1) := by decide +kernel
theorem dL_law__559 : decode cL_law_ 559 = .ok (.ifCond .eq 5, 3) := by decide +kernel
theorem dL_law__562 : decode cL_law_ 562 = .ok (.iconst 0, 1) := by decide +kernel
theorem dL_law__563 : decode cL_law_ 563 = .ok (.ireturn, 1) := by decide +kernel
theorem dL_law__564 : decode cL_law_ 564 = .ok (.goto 2111, 3) := by decide +kernel
theorem dL_law__567 : decode cL_law_ 567 = .ok (.aload_n 1, 1) := by decide +kernel
theorem dL_law__568 : decode cL_law_ 568 = .ok (.aload_n 0, 1) := by decide +kernel
theorem dL_law__569 : decode cL_law_ 569 = .ok (.iload 4, 2) := by decide +kernel
theorem dL_law__571 : decode cL_law_ 571 = .ok (.iconst 1, 1) := by decide +kernel
theorem dL_law__572 : decode cL_law_ 572 = .ok (.iadd, 1) := by decide +kernel
theorem dL_law__573 : decode cL_law_ 573 = .ok (.iaload, 1) := by decide +kernel
theorem dL_law__574 : decode cL_law_ 574 = .ok (.aload_n 0, 1) := by decide +kernel
theorem dL_law__575 : decode cL_law_ 575 = .ok (.iload 4, 2) := by decide +kernel
theorem dL_law__577 : decode cL_law_ 577 = .ok (.iconst 2, 1) := by decide +kernel
theorem dL_law__578 : decode cL_law_ 578 = .ok (.iadd, 1) := by decide +kernel
theorem dL_law__579 : decode cL_law_ 579 = .ok (.iaload, 1) := by decide +kernel
theorem dL_law__580 : decode cL_law_ 580 = .ok (.aload_n 3, 1) := by decide +kernel
theorem dL_law__581 : decode cL_law_ 581 = .ok (.invokestatic 153, 3) := by decide +kernel
theorem dL_law__584 : decode cL_law_ 584 = .ok (.istore 5, 2) := by decide +kernel
theorem dL_law__586 : decode cL_law_ 586 = .ok (.aload_n 2, 1) := by decide +kernel
theorem dL_law__587 : decode cL_law_ 587 = .ok (.aload_n 0, 1) := by decide +kernel
theorem dL_law__588 : decode cL_law_ 588 = .ok (.iload 4, 2) := by decide +kernel
theorem dL_law__590 : decode cL_law_ 590 = .ok (.iconst 1, 1) := by decide +kernel
theorem dL_law__591 : decode cL_law_ 591 = .ok (.iadd, 1) := by decide +kernel
theorem dL_law__592 : decode cL_law_ 592 = .ok (.iaload, 1) := by decide +kernel
theorem dL_law__593 : decode cL_law_ 593 = .ok (.aload_n 0, 1) := by decide +kernel
theorem dL_law__594 : decode cL_law_ 594 = .ok (.iload 4, 2) := by decide +kernel
theorem dL_law__596 : decode cL_law_ 596 = .ok (.iconst 2, 1) := by decide +kernel
theorem dL_law__597 : decode cL_law_ 597 = .ok (.iadd, 1) := by decide +kernel
theorem dL_law__598 : decode cL_law_ 598 = .ok (.iaload, 1) := by decide +kernel
theorem dL_law__599 : decode cL_law_ 599 = .ok (.invokevirtual 155, 3) := by decide +kernel
theorem dL_law__602 : decode cL_law_ 602 = .ok (.istore 6, 2) := by decide +kernel
theorem dL_law__604 : decode cL_law_ 604 = .ok (.aload_n 2, 1) := by decide +kernel
theorem dL_law__605 : decode cL_law_ 605 = .ok (.invokevirtual 136, 3) := by decide +kernel
theorem dL_law__608 : decode cL_law_ 608 = .ok (.iload 5, 2) := by decide +kernel
theorem dL_law__610 : decode cL_law_ 610 = .ok (.if_icmp .eq 5, 3) := by decide +kernel
theorem dL_law__613 : decode cL_law_ 613 = .ok (.iconst 0, 1) := by decide +kernel
theorem dL_law__614 : decode cL_law_ 614 = .ok (.ireturn, 1) := by decide +kernel
theorem dL_law__615 : decode cL_law_ 615 = .ok (.iload 5, 2) := by decide +kernel
theorem dL_law__617 : decode cL_law_ 617 = .ok (.ifCond .ne 15, 3) := by decide +kernel
theorem dL_law__620 : decode cL_law_ 620 = .ok (.aload_n 3, 1) := by decide +kernel
theorem dL_law__621 : decode cL_law_ 621 = .ok (.iconst 0, 1) := by decide +kernel
theorem dL_law__622 : decode cL_law_ 622 = .ok (.laload, 1) := by decide +kernel
theorem dL_law__623 : decode cL_law_ 623 = .ok (.iload 6, 2) := by decide +kernel
theorem dL_law__625 : decode cL_law_ 625 = .ok (.i2l, 1) := by decide +kernel
theorem dL_law__626 : decode cL_law_ 626 = .ok (.lcmp, 1) := by decide +kernel
theorem dL_law__627 : decode cL_law_ 627 = .ok (.ifCond .eq 5, 3) := by decide +kernel
theorem dL_law__630 : decode cL_law_ 630 = .ok (.iconst 0, 1) := by decide +kernel
theorem dL_law__631 : decode cL_law_ 631 = .ok (.ireturn, 1) := by decide +kernel
theorem dL_law__632 : decode cL_law_ 632 = .ok (.goto 2043, 3) := by decide +kernel
theorem dL_law__635 : decode cL_law_ 635 = .ok (.aload_n 1, 1) := by decide +kernel
theorem dL_law__636 : decode cL_law_ 636 = .ok (.aload_n 0, 1) := by decide +kernel
theorem dL_law__637 : decode cL_law_ 637 = .ok (.iload 4, 2) := by decide +kernel
theorem dL_law__639 : decode cL_law_ 639 = .ok (.iconst 1, 1) := by decide +kernel
theorem dL_law__640 : decode cL_law_ 640 = .ok (.iadd, 1) := by decide +kernel
theorem dL_law__641 : decode cL_law_ 641 = .ok (.iaload, 1) := by decide +kernel
theorem dL_law__642 : decode cL_law_ 642 = .ok (.aload_n 0, 1) := by decide +kernel
theorem dL_law__643 : decode cL_law_ 643 = .ok (.iload 4, 2) := by decide +kernel
theorem dL_law__645 : decode cL_law_ 645 = .ok (.iconst 2, 1) := by decide +kernel
theorem dL_law__646 : decode cL_law_ 646 = .ok (.iadd, 1) := by decide +kernel
theorem dL_law__647 : decode cL_law_ 647 = .ok (.iaload, 1) := by decide +kernel
theorem dL_law__648 : decode cL_law_ 648 = .ok (.aload_n 0, 1) := by decide +kernel
theorem dL_law__649 : decode cL_law_ 649 = .ok (.iload 4, 2) := by decide +kernel
theorem dL_law__651 : decode cL_law_ 651 = .ok (.iconst 3, 1) := by decide +kernel
theorem dL_law__652 : decode cL_law_ 652 = .ok (.iadd, 1) := by decide +kernel
theorem dL_law__653 : decode cL_law_ 653 = .ok (.iaload, 1) := by decide +kernel
theorem dL_law__654 : decode cL_law_ 654 = .ok (.ifCond .eq 7, 3) := by decide +kernel
theorem dL_law__657 : decode cL_law_ 657 = .ok (.iconst 1, 1) := by decide +kernel
theorem dL_law__658 : decode cL_law_ 658 = .ok (.goto 4, 3) := by decide +kernel
theorem dL_law__661 : decode cL_law_ 661 = .ok (.iconst 0, 1) := by decide +kernel
theorem dL_law__662 : decode cL_law_ 662 = .ok (.aload_n 3, 1) := by decide +kernel
theorem dL_law__663 : decode cL_law_ 663 = .ok (.invokestatic 156, 3) := by decide +kernel
theorem dL_law__666 : decode cL_law_ 666 = .ok (.istore 5, 2) := by decide +kernel
theorem dL_law__668 : decode cL_law_ 668 = .ok (.aload_n 2, 1) := by decide +kernel
theorem dL_law__669 : decode cL_law_ 669 = .ok (.aload_n 0, 1) := by decide +kernel
theorem dL_law__670 : decode cL_law_ 670 = .ok (.iload 4, 2) := by decide +kernel
theorem dL_law__672 : decode cL_law_ 672 = .ok (.iconst 1, 1) := by decide +kernel
theorem dL_law__673 : decode cL_law_ 673 = .ok (.iadd, 1) := by decide +kernel
theorem dL_law__674 : decode cL_law_ 674 = .ok (.iaload, 1) := by decide +kernel
theorem dL_law__675 : decode cL_law_ 675 = .ok (.aload_n 0, 1) := by decide +kernel
theorem dL_law__676 : decode cL_law_ 676 = .ok (.iload 4, 2) := by decide +kernel
theorem dL_law__678 : decode cL_law_ 678 = .ok (.iconst 2, 1) := by decide +kernel
theorem dL_law__679 : decode cL_law_ 679 = .ok (.iadd, 1) := by decide +kernel
theorem dL_law__680 : decode cL_law_ 680 = .ok (.iaload, 1) := by decide +kernel
theorem dL_law__681 : decode cL_law_ 681 = .ok (.aload_n 0, 1) := by decide +kernel
theorem dL_law__682 : decode cL_law_ 682 = .ok (.iload 4, 2) := by decide +kernel
theorem dL_law__684 : decode cL_law_ 684 = .ok (.iconst 3, 1) := by decide +kernel
theorem dL_law__685 : decode cL_law_ 685 = .ok (.iadd, 1) := by decide +kernel
theorem dL_law__686 : decode cL_law_ 686 = .ok (.iaload, 1) := by decide +kernel
theorem dL_law__687 : decode cL_law_ 687 = .ok (.ifCond .eq 7, 3) := by decide +kernel
theorem dL_law__690 : decode cL_law_ 690 = .ok (.iconst 1, 1) := by decide +kernel
theorem dL_law__691 : decode cL_law_ 691 = .ok (.goto 4, 3) := by decide +kernel
theorem dL_law__694 : decode cL_law_ 694 = .ok (.iconst 0, 1) := by decide +kernel
theorem dL_law__695 : decode cL_law_ 695 = .ok (.invokevirtual 159, 3) := by decide +kernel
theorem dL_law__698 : decode cL_law_ 698 = .ok (.istore 6, 2) := by decide +kernel
theorem dL_law__700 : decode cL_law_ 700 = .ok (.aload_n 2, 1) := by decide +kernel
theorem dL_law__701 : decode cL_law_ 701 = .ok (.invokevirtual 136, 3) := by decide +kernel
theorem dL_law__704 : decode cL_law_ 704 = .ok (.iload 5, 2) := by decide +kernel
theorem dL_law__706 : decode cL_law_ 706 = .ok (.if_icmp .eq 5, 3) := by decide +kernel
theorem dL_law__709 : decode cL_law_ 709 = .ok (.iconst 0, 1) := by decide +kernel
theorem dL_law__710 : decode cL_law_ 710 = .ok (.ireturn, 1) := by decide +kernel
theorem dL_law__711 : decode cL_law_ 711 = .ok (.iload 5, 2) := by decide +kernel
theorem dL_law__713 : decode cL_law_ 713 = .ok (.ifCond .ne 15, 3) := by decide +kernel
theorem dL_law__716 : decode cL_law_ 716 = .ok (.aload_n 3, 1) := by decide +kernel
theorem dL_law__717 : decode cL_law_ 717 = .ok (.iconst 0, 1) := by decide +kernel
theorem dL_law__718 : decode cL_law_ 718 = .ok (.laload, 1) := by decide +kernel
theorem dL_law__719 : decode cL_law_ 719 = .ok (.iload 6, 2) := by decide +kernel
theorem dL_law__721 : decode cL_law_ 721 = .ok (.i2l, 1) := by decide +kernel
theorem dL_law__722 : decode cL_law_ 722 = .ok (.lcmp, 1) := by decide +kernel
theorem dL_law__723 : decode cL_law_ 723 = .ok (.ifCond .eq 5, 3) := by decide +kernel
theorem dL_law__726 : decode cL_law_ 726 = .ok (.iconst 0, 1) := by decide +kernel
theorem dL_law__727 : decode cL_law_ 727 = .ok (.ireturn, 1) := by decide +kernel
theorem dL_law__728 : decode cL_law_ 728 = .ok (.goto 1947, 3) := by decide +kernel
theorem dL_law__731 : decode cL_law_ 731 = .ok (.aload_n 1, 1) := by decide +kernel
theorem dL_law__732 : decode cL_law_ 732 = .ok (.aload_n 0, 1) := by decide +kernel
theorem dL_law__733 : decode cL_law_ 733 = .ok (.iload 4, 2) := by decide +kernel
theorem dL_law__735 : decode cL_law_ 735 = .ok (.iconst 1, 1) := by decide +kernel
theorem dL_law__736 : decode cL_law_ 736 = .ok (.iadd, 1) := by decide +kernel
theorem dL_law__737 : decode cL_law_ 737 = .ok (.iaload, 1) := by decide +kernel
theorem dL_law__738 : decode cL_law_ 738 = .ok (.aload_n 0, 1) := by decide +kernel
theorem dL_law__739 : decode cL_law_ 739 = .ok (.iload 4, 2) := by decide +kernel
theorem dL_law__741 : decode cL_law_ 741 = .ok (.iconst 2, 1) := by decide +kernel
theorem dL_law__742 : decode cL_law_ 742 = .ok (.iadd, 1) := by decide +kernel
theorem dL_law__743 : decode cL_law_ 743 = .ok (.iaload, 1) := by decide +kernel
theorem dL_law__744 : decode cL_law_ 744 = .ok (.ifCond .eq 7, 3) := by decide +kernel
theorem dL_law__747 : decode cL_law_ 747 = .ok (.iconst 1, 1) := by decide +kernel
theorem dL_law__748 : decode cL_law_ 748 = .ok (.goto 4, 3) := by decide +kernel
theorem dL_law__751 : decode cL_law_ 751 = .ok (.iconst 0, 1) := by decide +kernel
theorem dL_law__752 : decode cL_law_ 752 = .ok (.aload_n 3, 1) := by decide +kernel
theorem dL_law__753 : decode cL_law_ 753 = .ok (.invokestatic 160, 3) := by decide +kernel
theorem dL_law__756 : decode cL_law_ 756 = .ok (.istore 5, 2) := by decide +kernel
theorem dL_law__758 : decode cL_law_ 758 = .ok (.aload_n 2, 1) := by decide +kernel
theorem dL_law__759 : decode cL_law_ 759 = .ok (.aload_n 0, 1) := by decide +kernel
theorem dL_law__760 : decode cL_law_ 760 = .ok (.iload 4, 2) := by decide +kernel
theorem dL_law__762 : decode cL_law_ 762 = .ok (.iconst 1, 1) := by decide +kernel
theorem dL_law__763 : decode cL_law_ 763 = .ok (.iadd, 1) := by decide +kernel
theorem dL_law__764 : decode cL_law_ 764 = .ok (.iaload, 1) := by decide +kernel
theorem dL_law__765 : decode cL_law_ 765 = .ok (.aload_n 0, 1) := by decide +kernel
theorem dL_law__766 : decode cL_law_ 766 = .ok (.iload 4, 2) := by decide +kernel
theorem dL_law__768 : decode cL_law_ 768 = .ok (.iconst 2, 1) := by decide +kernel
theorem dL_law__769 : decode cL_law_ 769 = .ok (.iadd, 1) := by decide +kernel
theorem dL_law__770 : decode cL_law_ 770 = .ok (.iaload, 1) := by decide +kernel
theorem dL_law__771 : decode cL_law_ 771 = .ok (.ifCond .eq 7, 3) := by decide +kernel
theorem dL_law__774 : decode cL_law_ 774 = .ok (.iconst 1, 1) := by decide +kernel
theorem dL_law__775 : decode cL_law_ 775 = .ok (.goto 4, 3) := by decide +kernel
theorem dL_law__778 : decode cL_law_ 778 = .ok (.iconst 0, 1) := by decide +kernel
theorem dL_law__779 : decode cL_law_ 779 = .ok (.invokevirtual 163, 3) := by decide +kernel
theorem dL_law__782 : decode cL_law_ 782 = .ok (.istore 6, 2) := by decide +kernel
theorem dL_law__784 : decode cL_law_ 784 = .ok (.aload_n 2, 1) := by decide +kernel
theorem dL_law__785 : decode cL_law_ 785 = .ok (.invokevirtual 136, 3) := by decide +kernel
theorem dL_law__788 : decode cL_law_ 788 = .ok (.iload 5, 2) := by decide +kernel
theorem dL_law__790 : decode cL_law_ 790 = .ok (.if_icmp .eq 5, 3) := by decide +kernel
theorem dL_law__793 : decode cL_law_ 793 = .ok (.iconst 0, 1) := by decide +kernel
theorem dL_law__794 : decode cL_law_ 794 = .ok (.ireturn, 1) := by decide +kernel
theorem dL_law__795 : decode cL_law_ 795 = .ok (.iload 5, 2) := by decide +kernel
theorem dL_law__797 : decode cL_law_ 797 = .ok (.ifCond .ne 15, 3) := by decide +kernel
theorem dL_law__800 : decode cL_law_ 800 = .ok (.aload_n 3, 1) := by decide +kernel
theorem dL_law__801 : decode cL_law_ 801 = .ok (.iconst 0, 1) := by decide +kernel
theorem dL_law__802 : decode cL_law_ 802 = .ok (.laload, 1) := by decide +kernel
theorem dL_law__803 : decode cL_law_ 803 = .ok (.iload 6, 2) := by decide +kernel
theorem dL_law__805 : decode cL_law_ 805 = .ok (.i2l, 1) := by decide +kernel
theorem dL_law__806 : decode cL_law_ 806 = .ok (.lcmp, 1) := by decide +kernel
theorem dL_law__807 : decode cL_law_ 807 = .ok (.ifCond .eq 5, 3) := by decide +kernel
theorem dL_law__810 : decode cL_law_ 810 = .ok (.iconst 0, 1) := by decide +kernel
theorem dL_law__811 : decode cL_law_ 811 = .ok (.ireturn, 1) := by decide +kernel
theorem dL_law__812 : decode cL_law_ 812 = .ok (.goto 1863, 3) := by decide +kernel
theorem dL_law__815 : decode cL_law_ 815 = .ok (.aload_n 1, 1) := by decide +kernel
theorem dL_law__816 : decode cL_law_ 816 = .ok (.aload_n 0, 1) := by decide +kernel
theorem dL_law__817 : decode cL_law_ 817 = .ok (.iload 4, 2) := by decide +kernel
theorem dL_law__819 : decode cL_law_ 819 = .ok (.iconst 1, 1) := by decide +kernel
theorem dL_law__820 : decode cL_law_ 820 = .ok (.iadd, 1) := by decide +kernel
theorem dL_law__821 : decode cL_law_ 821 = .ok (.iaload, 1) := by decide +kernel
theorem dL_law__822 : decode cL_law_ 822 = .ok (.aload_n 0, 1) := by decide +kernel
theorem dL_law__823 : decode cL_law_ 823 = .ok (.iload 4, 2) := by decide +kernel
theorem dL_law__825 : decode cL_law_ 825 = .ok (.iconst 2, 1) := by decide +kernel
theorem dL_law__826 : decode cL_law_ 826 = .ok (.iadd, 1) := by decide +kernel
theorem dL_law__827 : decode cL_law_ 827 = .ok (.iaload, 1) := by decide +kernel
theorem dL_law__828 : decode cL_law_ 828 = .ok (.aload_n 3, 1) := by decide +kernel
theorem dL_law__829 : decode cL_law_ 829 = .ok (.invokestatic 164, 3) := by decide +kernel
theorem dL_law__832 : decode cL_law_ 832 = .ok (.istore 5, 2) := by decide +kernel
theorem dL_law__834 : decode cL_law_ 834 = .ok (.aload_n 2, 1) := by decide +kernel
theorem dL_law__835 : decode cL_law_ 835 = .ok (.aload_n 0, 1) := by decide +kernel
theorem dL_law__836 : decode cL_law_ 836 = .ok (.iload 4, 2) := by decide +kernel
theorem dL_law__838 : decode cL_law_ 838 = .ok (.iconst 1, 1) := by decide +kernel
theorem dL_law__839 : decode cL_law_ 839 = .ok (.iadd, 1) := by decide +kernel
theorem dL_law__840 : decode cL_law_ 840 = .ok (.iaload, 1) := by decide +kernel
theorem dL_law__841 : decode cL_law_ 841 = .ok (.aload_n 0, 1) := by decide +kernel
theorem dL_law__842 : decode cL_law_ 842 = .ok (.iload 4, 2) := by decide +kernel
theorem dL_law__844 : decode cL_law_ 844 = .ok (.iconst 2, 1) := by decide +kernel
theorem dL_law__845 : decode cL_law_ 845 = .ok (.iadd, 1) := by decide +kernel
theorem dL_law__846 : decode cL_law_ 846 = .ok (.iaload, 1) := by decide +kernel
theorem dL_law__847 : decode cL_law_ 847 = .ok (.invokevirtual 166, 3) := by decide +kernel
theorem dL_law__850 : decode cL_law_ 850 = .ok (.istore 6, 2) := by decide +kernel
theorem dL_law__852 : decode cL_law_ 852 = .ok (.aload_n 2, 1) := by decide +kernel
theorem dL_law__853 : decode cL_law_ 853 = .ok (.invokevirtual 136, 3) := by decide +kernel
theorem dL_law__856 : decode cL_law_ 856 = .ok (.iload 5, 2) := by decide +kernel
theorem dL_law__858 : decode cL_law_ 858 = .ok (.if_icmp .eq 5, 3) := by decide +kernel
theorem dL_law__861 : decode cL_law_ 861 = .ok (.iconst 0, 1) := by decide +kernel
theorem dL_law__862 : decode cL_law_ 862 = .ok (.ireturn, 1) := by decide +kernel
theorem dL_law__863 : decode cL_law_ 863 = .ok (.iload 5, 2) := by decide +kernel
theorem dL_law__865 : decode cL_law_ 865 = .ok (.ifCond .ne 15, 3) := by decide +kernel
theorem dL_law__868 : decode cL_law_ 868 = .ok (.aload_n 3, 1) := by decide +kernel
theorem dL_law__869 : decode cL_law_ 869 = .ok (.iconst 0, 1) := by decide +kernel
theorem dL_law__870 : decode cL_law_ 870 = .ok (.laload, 1) := by decide +kernel
theorem dL_law__871 : decode cL_law_ 871 = .ok (.iload 6, 2) := by decide +kernel
theorem dL_law__873 : decode cL_law_ 873 = .ok (.i2l, 1) := by decide +kernel
theorem dL_law__874 : decode cL_law_ 874 = .ok (.lcmp, 1) := by decide +kernel
theorem dL_law__875 : decode cL_law_ 875 = .ok (.ifCond .eq 5, 3) := by decide +kernel
theorem dL_law__878 : decode cL_law_ 878 = .ok (.iconst 0, 1) := by decide +kernel
theorem dL_law__879 : decode cL_law_ 879 = .ok (.ireturn, 1) := by decide +kernel
theorem dL_law__880 : decode cL_law_ 880 = .ok (.goto 1795, 3) := by decide +kernel
theorem dL_law__883 : decode cL_law_ 883 = .ok (.aload_n 1, 1) := by decide +kernel
theorem dL_law__884 : decode cL_law_ 884 = .ok (.aload_n 0, 1) := by decide +kernel
theorem dL_law__885 : decode cL_law_ 885 = .ok (.iload 4, 2) := by decide +kernel
theorem dL_law__887 : decode cL_law_ 887 = .ok (.iconst 1, 1) := by decide +kernel
theorem dL_law__888 : decode cL_law_ 888 = .ok (.iadd, 1) := by decide +kernel
theorem dL_law__889 : decode cL_law_ 889 = .ok (.iaload, 1) := by decide +kernel
theorem dL_law__890 : decode cL_law_ 890 = .ok (.aload_n 0, 1) := by decide +kernel
theorem dL_law__891 : decode cL_law_ 891 = .ok (.iload 4, 2) := by decide +kernel
theorem dL_law__893 : decode cL_law_ 893 = .ok (.iconst 2, 1) := by decide +kernel
theorem dL_law__894 : decode cL_law_ 894 = .ok (.iadd, 1) := by decide +kernel
theorem dL_law__895 : decode cL_law_ 895 = .ok (.iaload, 1) := by decide +kernel
theorem dL_law__896 : decode cL_law_ 896 = .ok (.aload_n 3, 1) := by decide +kernel
theorem dL_law__897 : decode cL_law_ 897 = .ok (.invokestatic 167, 3) := by decide +kernel
theorem dL_law__900 : decode cL_law_ 900 = .ok (.istore 5, 2) := by decide +kernel
theorem dL_law__902 : decode cL_law_ 902 = .ok (.aload_n 2, 1) := by decide +kernel
theorem dL_law__903 : decode cL_law_ 903 = .ok (.aload_n 0, 1) := by decide +kernel
theorem dL_law__904 : decode cL_law_ 904 = .ok (.iload 4, 2) := by decide +kernel
theorem dL_law__906 : decode cL_law_ 906 = .ok (.iconst 1, 1) := by decide +kernel
theorem dL_law__907 : decode cL_law_ 907 = .ok (.iadd, 1) := by decide +kernel
theorem dL_law__908 : decode cL_law_ 908 = .ok (.iaload, 1) := by decide +kernel
theorem dL_law__909 : decode cL_law_ 909 = .ok (.aload_n 0, 1) := by decide +kernel
theorem dL_law__910 : decode cL_law_ 910 = .ok (.iload 4, 2) := by decide +kernel
theorem dL_law__912 : decode cL_law_ 912 = .ok (.iconst 2, 1) := by decide +kernel
theorem dL_law__913 : decode cL_law_ 913 = .ok (.iadd, 1) := by decide +kernel
theorem dL_law__914 : decode cL_law_ 914 = .ok (.iaload, 1) := by decide +kernel
theorem dL_law__915 : decode cL_law_ 915 = .ok (.invokevirtual 169, 3) := by decide +kernel
theorem dL_law__918 : decode cL_law_ 918 = .ok (.istore 6, 2) := by decide +kernel
theorem dL_law__920 : decode cL_law_ 920 = .ok (.aload_n 2, 1) := by decide +kernel
theorem dL_law__921 : decode cL_law_ 921 = .ok (.invokevirtual 136, 3) := by decide +kernel
theorem dL_law__924 : decode cL_law_ 924 = .ok (.iload 5, 2) := by decide +kernel
theorem dL_law__926 : decode cL_law_ 926 = .ok (.if_icmp .eq 5, 3) := by decide +kernel
theorem dL_law__929 : decode cL_law_ 929 = .ok (.iconst 0, 1) := by decide +kernel
theorem dL_law__930 : decode cL_law_ 930 = .ok (.ireturn, 1) := by decide +kernel
theorem dL_law__931 : decode cL_law_ 931 = .ok (.iload 5, 2) := by decide +kernel
theorem dL_law__933 : decode cL_law_ 933 = .ok (.ifCond .ne 15, 3) := by decide +kernel
theorem dL_law__936 : decode cL_law_ 936 = .ok (.aload_n 3, 1) := by decide +kernel
theorem dL_law__937 : decode cL_law_ 937 = .ok (.iconst 0, 1) := by decide +kernel
theorem dL_law__938 : decode cL_law_ 938 = .ok (.laload, 1) := by decide +kernel
theorem dL_law__939 : decode cL_law_ 939 = .ok (.iload 6, 2) := by decide +kernel
theorem dL_law__941 : decode cL_law_ 941 = .ok (.i2l, 1) := by decide +kernel
theorem dL_law__942 : decode cL_law_ 942 = .ok (.lcmp, 1) := by decide +kernel
theorem dL_law__943 : decode cL_law_ 943 = .ok (.ifCond .eq 5, 3) := by decide +kernel
theorem dL_law__946 : decode cL_law_ 946 = .ok (.iconst 0, 1) := by decide +kernel
theorem dL_law__947 : decode cL_law_ 947 = .ok (.ireturn, 1) := by decide +kernel
theorem dL_law__948 : decode cL_law_ 948 = .ok (.goto 1727, 3) := by decide +kernel
theorem dL_law__951 : decode cL_law_ 951 = .ok (.aload_n 1, 1) := by decide +kernel
theorem dL_law__952 : decode cL_law_ 952 = .ok (.aload_n 0, 1) := by decide +kernel
theorem dL_law__953 : decode cL_law_ 953 = .ok (.iload 4, 2) := by decide +kernel
theorem dL_law__955 : decode cL_law_ 955 = .ok (.iconst 1, 1) := by decide +kernel
theorem dL_law__956 : decode cL_law_ 956 = .ok (.iadd, 1) := by decide +kernel
theorem dL_law__957 : decode cL_law_ 957 = .ok (.iaload, 1) := by decide +kernel
theorem dL_law__958 : decode cL_law_ 958 = .ok (.aload_n 3, 1) := by decide +kernel
theorem dL_law__959 : decode cL_law_ 959 = .ok (.invokestatic 170, 3) := by decide +kernel
theorem dL_law__962 : decode cL_law_ 962 = .ok (.istore 5, 2) := by decide +kernel
theorem dL_law__964 : decode cL_law_ 964 = .ok (.aload_n 2, 1) := by decide +kernel
theorem dL_law__965 : decode cL_law_ 965 = .ok (.aload_n 0, 1) := by decide +kernel
theorem dL_law__966 : decode cL_law_ 966 = .ok (.iload 4, 2) := by decide +kernel
theorem dL_law__968 : decode cL_law_ 968 = .ok (.iconst 1, 1) := by decide +kernel
theorem dL_law__969 : decode cL_law_ 969 = .ok (.iadd, 1) := by decide +kernel
theorem dL_law__970 : decode cL_law_ 970 = .ok (.iaload, 1) := by decide +kernel
theorem dL_law__971 : decode cL_law_ 971 = .ok (.invokevirtual 173, 3) := by decide +kernel
theorem dL_law__974 : decode cL_law_ 974 = .ok (.istore 6, 2) := by decide +kernel
theorem dL_law__976 : decode cL_law_ 976 = .ok (.aload_n 2, 1) := by decide +kernel
theorem dL_law__977 : decode cL_law_ 977 = .ok (.invokevirtual 136, 3) := by decide +kernel
theorem dL_law__980 : decode cL_law_ 980 = .ok (.iload 5, 2) := by decide +kernel
theorem dL_law__982 : decode cL_law_ 982 = .ok (.if_icmp .eq 5, 3) := by decide +kernel
theorem dL_law__985 : decode cL_law_ 985 = .ok (.iconst 0, 1) := by decide +kernel
theorem dL_law__986 : decode cL_law_ 986 = .ok (.ireturn, 1) := by decide +kernel
theorem dL_law__987 : decode cL_law_ 987 = .ok (.iload 5, 2) := by decide +kernel
theorem dL_law__989 : decode cL_law_ 989 = .ok (.ifCond .ne 15, 3) := by decide +kernel
theorem dL_law__992 : decode cL_law_ 992 = .ok (.aload_n 3, 1) := by decide +kernel
theorem dL_law__993 : decode cL_law_ 993 = .ok (.iconst 0, 1) := by decide +kernel
theorem dL_law__994 : decode cL_law_ 994 = .ok (.laload, 1) := by decide +kernel
theorem dL_law__995 : decode cL_law_ 995 = .ok (.iload 6, 2) := by decide +kernel
theorem dL_law__997 : decode cL_law_ 997 = .ok (.i2l, 1) := by decide +kernel
theorem dL_law__998 : decode cL_law_ 998 = .ok (.lcmp, 1) := by decide +kernel
theorem dL_law__999 : decode cL_law_ 999 = .ok (.ifCond .eq 5, 3) := by decide +kernel
theorem dL_law__1002 : decode cL_law_ 1002 = .ok (.iconst 0, 1) := by decide +kernel
theorem dL_law__1003 : decode cL_law_ 1003 = .ok (.ireturn, 1) := by decide +kernel
theorem dL_law__1004 : decode cL_law_ 1004 = .ok (.goto 1671, 3) := by decide +kernel
theorem dL_law__1007 : decode cL_law_ 1007 = .ok (.aload_n 1, 1) := by decide +kernel
theorem dL_law__1008 : decode cL_law_ 1008 = .ok (.aload_n 0, 1) := by decide +kernel
theorem dL_law__1009 : decode cL_law_ 1009 = .ok (.iload 4, 2) := by decide +kernel
theorem dL_law__1011 : decode cL_law_ 1011 = .ok (.iconst 1, 1) := by decide +kernel
theorem dL_law__1012 : decode cL_law_ 1012 = .ok (.iadd, 1) := by decide +kernel
theorem dL_law__1013 : decode cL_law_ 1013 = .ok (.iaload, 1) := by decide +kernel
theorem dL_law__1014 : decode cL_law_ 1014 = .ok (.aload_n 0, 1) := by decide +kernel
theorem dL_law__1015 : decode cL_law_ 1015 = .ok (.iload 4, 2) := by decide +kernel
theorem dL_law__1017 : decode cL_law_ 1017 = .ok (.iconst 2, 1) := by decide +kernel
theorem dL_law__1018 : decode cL_law_ 1018 = .ok (.iadd, 1) := by decide +kernel
theorem dL_law__1019 : decode cL_law_ 1019 = .ok (.iaload, 1) := by decide +kernel
theorem dL_law__1020 : decode cL_law_ 1020 = .ok (.aload_n 3, 1) := by decide +kernel
theorem dL_law__1021 : decode cL_law_ 1021 = .ok (.invokestatic 174, 3) := by decide +kernel
theorem dL_law__1024 : decode cL_law_ 1024 = .ok (.istore 5, 2) := by decide +kernel
theorem dL_law__1026 : decode cL_law_ 1026 = .ok (.aload_n 2, 1) := by decide +kernel
theorem dL_law__1027 : decode cL_law_ 1027 = .ok (.aload_n 0, 1) := by decide +kernel
theorem dL_law__1028 : decode cL_law_ 1028 = .ok (.iload 4, 2) := by decide +kernel
theorem dL_law__1030 : decode cL_law_ 1030 = .ok (.iconst 1, 1) := by decide +kernel
theorem dL_law__1031 : decode cL_law_ 1031 = .ok (.iadd, 1) := by decide +kernel
theorem dL_law__1032 : decode cL_law_ 1032 = .ok (.iaload, 1) := by decide +kernel
theorem dL_law__1033 : decode cL_law_ 1033 = .ok (.aload_n 0, 1) := by decide +kernel
theorem dL_law__1034 : decode cL_law_ 1034 = .ok (.iload 4, 2) := by decide +kernel
theorem dL_law__1036 : decode cL_law_ 1036 = .ok (.iconst 2, 1) := by decide +kernel
theorem dL_law__1037 : decode cL_law_ 1037 = .ok (.iadd, 1) := by decide +kernel
theorem dL_law__1038 : decode cL_law_ 1038 = .ok (.iaload, 1) := by decide +kernel
theorem dL_law__1039 : decode cL_law_ 1039 = .ok (.invokevirtual 176, 3) := by decide +kernel
theorem dL_law__1042 : decode cL_law_ 1042 = .ok (.istore 6, 2) := by decide +kernel
theorem dL_law__1044 : decode cL_law_ 1044 = .ok (.aload_n 2, 1) := by decide +kernel
theorem dL_law__1045 : decode cL_law_ 1045 = .ok (.invokevirtual 136, 3) := by decide +kernel
theorem dL_law__1048 : decode cL_law_ 1048 = .ok (.iload 5, 2) := by decide +kernel
theorem dL_law__1050 : decode cL_law_ 1050 = .ok (.if_icmp .eq 5, 3) := by decide +kernel
theorem dL_law__1053 : decode cL_law_ 1053 = .ok (.iconst 0, 1) := by decide +kernel
theorem dL_law__1054 : decode cL_law_ 1054 = .ok (.ireturn, 1) := by decide +kernel
theorem dL_law__1055 : decode cL_law_ 1055 = .ok (.iload 5, 2) := by decide +kernel
theorem dL_law__1057 : decode cL_law_ 1057 = .ok (.ifCond .ne 15, 3) := by decide +kernel
theorem dL_law__1060 : decode cL_law_ 1060 = .ok (.aload_n 3, 1) := by decide +kernel
theorem dL_law__1061 : decode cL_law_ 1061 = .ok (.iconst 0, 1) := by decide +kernel
theorem dL_law__1062 : decode cL_law_ 1062 = .ok (.laload, 1) := by decide +kernel
theorem dL_law__1063 : decode cL_law_ 1063 = .ok (.iload 6, 2) := by decide +kernel
theorem dL_law__1065 : decode cL_law_ 1065 = .ok (.i2l, 1) := by decide +kernel
theorem dL_law__1066 : decode cL_law_ 1066 = .ok (.lcmp, 1) := by decide +kernel
theorem dL_law__1067 : decode cL_law_ 1067 = .ok (.ifCond .eq 5, 3) := by decide +kernel
theorem dL_law__1070 : decode cL_law_ 1070 = .ok (.iconst 0, 1) := by decide +kernel
theorem dL_law__1071 : decode cL_law_ 1071 = .ok (.ireturn, 1) := by decide +kernel
theorem dL_law__1072 : decode cL_law_ 1072 = .ok (.goto 1603, 3) := by decide +kernel
theorem dL_law__1075 : decode cL_law_ 1075 = .ok (.aload_n 1, 1) := by decide +kernel
theorem dL_law__1076 : decode cL_law_ 1076 = .ok (.aload_n 0, 1) := by decide +kernel
theorem dL_law__1077 : decode cL_law_ 1077 = .ok (.iload 4, 2) := by decide +kernel
theorem dL_law__1079 : decode cL_law_ 1079 = .ok (.iconst 1, 1) := by decide +kernel
theorem dL_law__1080 : decode cL_law_ 1080 = .ok (.iadd, 1) := by decide +kernel
theorem dL_law__1081 : decode cL_law_ 1081 = .ok (.iaload, 1) := by decide +kernel
theorem dL_law__1082 : decode cL_law_ 1082 = .ok (.aload_n 0, 1) := by decide +kernel
theorem dL_law__1083 : decode cL_law_ 1083 = .ok (.iload 4, 2) := by decide +kernel
theorem dL_law__1085 : decode cL_law_ 1085 = .ok (.iconst 2, 1) := by decide +kernel
theorem dL_law__1086 : decode cL_law_ 1086 = .ok (.iadd, 1) := by decide +kernel
theorem dL_law__1087 : decode cL_law_ 1087 = .ok (.iaload, 1) := by decide +kernel
theorem dL_law__1088 : decode cL_law_ 1088 = .ok (.ifCond .eq 7, 3) := by decide +kernel
theorem dL_law__1091 : decode cL_law_ 1091 = .ok (.iconst 1, 1) := by decide +kernel
theorem dL_law__1092 : decode cL_law_ 1092 = .ok (.goto 4, 3) := by decide +kernel
theorem dL_law__1095 : decode cL_law_ 1095 = .ok (.iconst 0, 1) := by decide +kernel
theorem dL_law__1096 : decode cL_law_ 1096 = .ok (.aload_n 3, 1) := by decide +kernel
theorem dL_law__1097 : decode cL_law_ 1097 = .ok (.invokestatic 177, 3) := by decide +kernel
theorem dL_law__1100 : decode cL_law_ 1100 = .ok (.istore 5, 2) := by decide +kernel
theorem dL_law__1102 : decode cL_law_ 1102 = .ok (.aload_n 2, 1) := by decide +kernel
theorem dL_law__1103 : decode cL_law_ 1103 = .ok (.aload_n 0, 1) := by decide +kernel
theorem dL_law__1104 : decode cL_law_ 1104 = .ok (.iload 4, 2) := by decide +kernel
theorem dL_law__1106 : decode cL_law_ 1106 = .ok (.iconst 1, 1) := by decide +kernel
theorem dL_law__1107 : decode cL_law_ 1107 = .ok (.iadd, 1) := by decide +kernel
theorem dL_law__1108 : decode cL_law_ 1108 = .ok (.iaload, 1) := by decide +kernel
theorem dL_law__1109 : decode cL_law_ 1109 = .ok (.aload_n 0, 1) := by decide +kernel
theorem dL_law__1110 : decode cL_law_ 1110 = .ok (.iload 4, 2) := by decide +kernel
theorem dL_law__1112 : decode cL_law_ 1112 = .ok (.iconst 2, 1) := by decide +kernel
theorem dL_law__1113 : decode cL_law_ 1113 = .ok (.iadd, 1) := by decide +kernel
theorem dL_law__1114 : decode cL_law_ 1114 = .ok (.iaload, 1) := by decide +kernel
theorem dL_law__1115 : decode cL_law_ 1115 = .ok (.ifCond .eq 7, 3) := by decide +kernel
theorem dL_law__1118 : decode cL_law_ 1118 = .ok (.iconst 1, 1) := by decide +kernel
theorem dL_law__1119 : decode cL_law_ 1119 = .ok (.goto 4, 3) := by decide +kernel
theorem dL_law__1122 : decode cL_law_ 1122 = .ok (.iconst 0, 1) := by decide +kernel
theorem dL_law__1123 : decode cL_law_ 1123 = .ok (.invokevirtual 179, 3) := by decide +kernel
theorem dL_law__1126 : decode cL_law_ 1126 = .ok (.istore 6, 2) := by decide +kernel
theorem dL_law__1128 : decode cL_law_ 1128 = .ok (.aload_n 2, 1) := by decide +kernel
theorem dL_law__1129 : decode cL_law_ 1129 = .ok (.invokevirtual 136, 3) := by decide +kernel
theorem dL_law__1132 : decode cL_law_ 1132 = .ok (.iload 5, 2) := by decide +kernel
theorem dL_law__1134 : decode cL_law_ 1134 = .ok (.if_icmp .eq 5, 3) := by decide +kernel
theorem dL_law__1137 : decode cL_law_ 1137 = .ok (.iconst 0, 1) := by decide +kernel
theorem dL_law__1138 : decode cL_law_ 1138 = .ok (.ireturn, 1) := by decide +kernel
theorem dL_law__1139 : decode cL_law_ 1139 = .ok (.iload 5, 2) := by decide +kernel
theorem dL_law__1141 : decode cL_law_ 1141 = .ok (.ifCond .ne 22, 3) := by decide +kernel
theorem dL_law__1144 : decode cL_law_ 1144 = .ok (.aload_n 3, 1) := by decide +kernel
theorem dL_law__1145 : decode cL_law_ 1145 = .ok (.iconst 0, 1) := by decide +kernel
theorem dL_law__1146 : decode cL_law_ 1146 = .ok (.laload, 1) := by decide +kernel
theorem dL_law__1147 : decode cL_law_ 1147 = .ok (.iload 6, 2) := by decide +kernel
theorem dL_law__1149 : decode cL_law_ 1149 = .ok (.ifCond .eq 7, 3) := by decide +kernel
theorem dL_law__1152 : decode cL_law_ 1152 = .ok (.lconst 1, 1) := by decide +kernel
theorem dL_law__1153 : decode cL_law_ 1153 = .ok (.goto 4, 3) := by decide +kernel
theorem dL_law__1156 : decode cL_law_ 1156 = .ok (.lconst 0, 1) := by decide +kernel
theorem dL_law__1157 : decode cL_law_ 1157 = .ok (.lcmp, 1) := by decide +kernel
theorem dL_law__1158 : decode cL_law_ 1158 = .ok (.ifCond .eq 5, 3) := by decide +kernel
theorem dL_law__1161 : decode cL_law_ 1161 = .ok (.iconst 0, 1) := by decide +kernel
theorem dL_law__1162 : decode cL_law_ 1162 = .ok (.ireturn, 1) := by decide +kernel
theorem dL_law__1163 : decode cL_law_ 1163 = .ok (.goto 1512, 3) := by decide +kernel
theorem dL_law__1166 : decode cL_law_ 1166 = .ok (.aload_n 1, 1) := by decide +kernel
theorem dL_law__1167 : decode cL_law_ 1167 = .ok (.aload_n 0, 1) := by decide +kernel
theorem dL_law__1168 : decode cL_law_ 1168 = .ok (.iload 4, 2) := by decide +kernel
theorem dL_law__1170 : decode cL_law_ 1170 = .ok (.iconst 1, 1) := by decide +kernel
theorem dL_law__1171 : decode cL_law_ 1171 = .ok (.iadd, 1) := by decide +kernel
theorem dL_law__1172 : decode cL_law_ 1172 = .ok (.iaload, 1) := by decide +kernel
theorem dL_law__1173 : decode cL_law_ 1173 = .ok (.aload_n 0, 1) := by decide +kernel
theorem dL_law__1174 : decode cL_law_ 1174 = .ok (.iload 4, 2) := by decide +kernel
theorem dL_law__1176 : decode cL_law_ 1176 = .ok (.iconst 2, 1) := by decide +kernel
theorem dL_law__1177 : decode cL_law_ 1177 = .ok (.iadd, 1) := by decide +kernel
theorem dL_law__1178 : decode cL_law_ 1178 = .ok (.iaload, 1) := by decide +kernel
theorem dL_law__1179 : decode cL_law_ 1179 = .ok (.aload_n 3, 1) := by decide +kernel
theorem dL_law__1180 : decode cL_law_ 1180 = .ok (.invokestatic 180, 3) := by decide +kernel
theorem dL_law__1183 : decode cL_law_ 1183 = .ok (.istore 5, 2) := by decide +kernel
theorem dL_law__1185 : decode cL_law_ 1185 = .ok (.aload_n 2, 1) := by decide +kernel
theorem dL_law__1186 : decode cL_law_ 1186 = .ok (.aload_n 0, 1) := by decide +kernel
theorem dL_law__1187 : decode cL_law_ 1187 = .ok (.iload 4, 2) := by decide +kernel
theorem dL_law__1189 : decode cL_law_ 1189 = .ok (.iconst 1, 1) := by decide +kernel
theorem dL_law__1190 : decode cL_law_ 1190 = .ok (.iadd, 1) := by decide +kernel
theorem dL_law__1191 : decode cL_law_ 1191 = .ok (.iaload, 1) := by decide +kernel
theorem dL_law__1192 : decode cL_law_ 1192 = .ok (.aload_n 0, 1) := by decide +kernel
theorem dL_law__1193 : decode cL_law_ 1193 = .ok (.iload 4, 2) := by decide +kernel
theorem dL_law__1195 : decode cL_law_ 1195 = .ok (.iconst 2, 1) := by decide +kernel
theorem dL_law__1196 : decode cL_law_ 1196 = .ok (.iadd, 1) := by decide +kernel
theorem dL_law__1197 : decode cL_law_ 1197 = .ok (.iaload, 1) := by decide +kernel
theorem dL_law__1198 : decode cL_law_ 1198 = .ok (.invokevirtual 182, 3) := by decide +kernel
theorem dL_law__1201 : decode cL_law_ 1201 = .ok (.istore 6, 2) := by decide +kernel
theorem dL_law__1203 : decode cL_law_ 1203 = .ok (.aload_n 2, 1) := by decide +kernel
theorem dL_law__1204 : decode cL_law_ 1204 = .ok (.invokevirtual 136, 3) := by decide +kernel
theorem dL_law__1207 : decode cL_law_ 1207 = .ok (.iload 5, 2) := by decide +kernel
theorem dL_law__1209 : decode cL_law_ 1209 = .ok (.if_icmp .eq 5, 3) := by decide +kernel
theorem dL_law__1212 : decode cL_law_ 1212 = .ok (.iconst 0, 1) := by decide +kernel
theorem dL_law__1213 : decode cL_law_ 1213 = .ok (.ireturn, 1) := by decide +kernel
theorem dL_law__1214 : decode cL_law_ 1214 = .ok (.iload 5, 2) := by decide +kernel
theorem dL_law__1216 : decode cL_law_ 1216 = .ok (.ifCond .ne 15, 3) := by decide +kernel
theorem dL_law__1219 : decode cL_law_ 1219 = .ok (.aload_n 3, 1) := by decide +kernel
theorem dL_law__1220 : decode cL_law_ 1220 = .ok (.iconst 0, 1) := by decide +kernel
theorem dL_law__1221 : decode cL_law_ 1221 = .ok (.laload, 1) := by decide +kernel
theorem dL_law__1222 : decode cL_law_ 1222 = .ok (.iload 6, 2) := by decide +kernel
theorem dL_law__1224 : decode cL_law_ 1224 = .ok (.i2l, 1) := by decide +kernel
theorem dL_law__1225 : decode cL_law_ 1225 = .ok (.lcmp, 1) := by decide +kernel
theorem dL_law__1226 : decode cL_law_ 1226 = .ok (.ifCond .eq 5, 3) := by decide +kernel
theorem dL_law__1229 : decode cL_law_ 1229 = .ok (.iconst 0, 1) := by decide +kernel
theorem dL_law__1230 : decode cL_law_ 1230 = .ok (.ireturn, 1) := by decide +kernel
theorem dL_law__1231 : decode cL_law_ 1231 = .ok (.goto 1444, 3) := by decide +kernel
theorem dL_law__1234 : decode cL_law_ 1234 = .ok (.aload_n 1, 1) := by decide +kernel
theorem dL_law__1235 : decode cL_law_ 1235 = .ok (.aload_n 0, 1) := by decide +kernel
theorem dL_law__1236 : decode cL_law_ 1236 = .ok (.iload 4, 2) := by decide +kernel
theorem dL_law__1238 : decode cL_law_ 1238 = .ok (.iconst 1, 1) := by decide +kernel
theorem dL_law__1239 : decode cL_law_ 1239 = .ok (.iadd, 1) := by decide +kernel
theorem dL_law__1240 : decode cL_law_ 1240 = .ok (.iaload, 1) := by decide +kernel
theorem dL_law__1241 : decode cL_law_ 1241 = .ok (.aload_n 3, 1) := by decide +kernel
theorem dL_law__1242 : decode cL_law_ 1242 = .ok (.invokestatic 183, 3) := by decide +kernel
theorem dL_law__1245 : decode cL_law_ 1245 = .ok (.istore 5, 2) := by decide +kernel
theorem dL_law__1247 : decode cL_law_ 1247 = .ok (.aload_n 2, 1) := by decide +kernel
theorem dL_law__1248 : decode cL_law_ 1248 = .ok (.aload_n 0, 1) := by decide +kernel
theorem dL_law__1249 : decode cL_law_ 1249 = .ok (.iload 4, 2) := by decide +kernel
theorem dL_law__1251 : decode cL_law_ 1251 = .ok (.iconst 1, 1) := by decide +kernel
theorem dL_law__1252 : decode cL_law_ 1252 = .ok (.iadd, 1) := by decide +kernel
theorem dL_law__1253 : decode cL_law_ 1253 = .ok (.iaload, 1) := by decide +kernel
theorem dL_law__1254 : decode cL_law_ 1254 = .ok (.invokevirtual 185, 3) := by decide +kernel
theorem dL_law__1257 : decode cL_law_ 1257 = .ok (.istore 6, 2) := by decide +kernel
theorem dL_law__1259 : decode cL_law_ 1259 = .ok (.aload_n 2, 1) := by decide +kernel
theorem dL_law__1260 : decode cL_law_ 1260 = .ok (.invokevirtual 136, 3) := by decide +kernel
theorem dL_law__1263 : decode cL_law_ 1263 = .ok (.iload 5, 2) := by decide +kernel
theorem dL_law__1265 : decode cL_law_ 1265 = .ok (.if_icmp .eq 5, 3) := by decide +kernel
theorem dL_law__1268 : decode cL_law_ 1268 = .ok (.iconst 0, 1) := by decide +kernel
theorem dL_law__1269 : decode cL_law_ 1269 = .ok (.ireturn, 1) := by decide +kernel
theorem dL_law__1270 : decode cL_law_ 1270 = .ok (.iload 5, 2) := by decide +kernel
theorem dL_law__1272 : decode cL_law_ 1272 = .ok (.ifCond .ne 15, 3) := by decide +kernel
theorem dL_law__1275 : decode cL_law_ 1275 = .ok (.aload_n 3, 1) := by decide +kernel
theorem dL_law__1276 : decode cL_law_ 1276 = .ok (.iconst 0, 1) := by decide +kernel
theorem dL_law__1277 : decode cL_law_ 1277 = .ok (.laload, 1) := by decide +kernel
theorem dL_law__1278 : decode cL_law_ 1278 = .ok (.iload 6, 2) := by decide +kernel
theorem dL_law__1280 : decode cL_law_ 1280 = .ok (.i2l, 1) := by decide +kernel
theorem dL_law__1281 : decode cL_law_ 1281 = .ok (.lcmp, 1) := by decide +kernel
theorem dL_law__1282 : decode cL_law_ 1282 = .ok (.ifCond .eq 5, 3) := by decide +kernel
theorem dL_law__1285 : decode cL_law_ 1285 = .ok (.iconst 0, 1) := by decide +kernel
theorem dL_law__1286 : decode cL_law_ 1286 = .ok (.ireturn, 1) := by decide +kernel
theorem dL_law__1287 : decode cL_law_ 1287 = .ok (.goto 1388, 3) := by decide +kernel
theorem dL_law__1290 : decode cL_law_ 1290 = .ok (.aload_n 1, 1) := by decide +kernel
theorem dL_law__1291 : decode cL_law_ 1291 = .ok (.aload_n 0, 1) := by decide +kernel
theorem dL_law__1292 : decode cL_law_ 1292 = .ok (.iload 4, 2) := by decide +kernel
theorem dL_law__1294 : decode cL_law_ 1294 = .ok (.iconst 1, 1) := by decide +kernel
theorem dL_law__1295 : decode cL_law_ 1295 = .ok (.iadd, 1) := by decide +kernel
theorem dL_law__1296 : decode cL_law_ 1296 = .ok (.iaload, 1) := by decide +kernel
theorem dL_law__1297 : decode cL_law_ 1297 = .ok (.aload_n 0, 1) := by decide +kernel
theorem dL_law__1298 : decode cL_law_ 1298 = .ok (.iload 4, 2) := by decide +kernel
theorem dL_law__1300 : decode cL_law_ 1300 = .ok (.iconst 2, 1) := by decide +kernel
theorem dL_law__1301 : decode cL_law_ 1301 = .ok (.iadd, 1) := by decide +kernel
theorem dL_law__1302 : decode cL_law_ 1302 = .ok (.iaload, 1) := by decide +kernel
theorem dL_law__1303 : decode cL_law_ 1303 = .ok (.aload_n 3, 1) := by decide +kernel
theorem dL_law__1304 : decode cL_law_ 1304 = .ok (.invokestatic 186, 3) := by decide +kernel
theorem dL_law__1307 : decode cL_law_ 1307 = .ok (.istore 5, 2) := by decide +kernel
theorem dL_law__1309 : decode cL_law_ 1309 = .ok (.aload_n 2, 1) := by decide +kernel
theorem dL_law__1310 : decode cL_law_ 1310 = .ok (.aload_n 0, 1) := by decide +kernel
theorem dL_law__1311 : decode cL_law_ 1311 = .ok (.iload 4, 2) := by decide +kernel
theorem dL_law__1313 : decode cL_law_ 1313 = .ok (.iconst 1, 1) := by decide +kernel
theorem dL_law__1314 : decode cL_law_ 1314 = .ok (.iadd, 1) := by decide +kernel
theorem dL_law__1315 : decode cL_law_ 1315 = .ok (.iaload, 1) := by decide +kernel
theorem dL_law__1316 : decode cL_law_ 1316 = .ok (.aload_n 0, 1) := by decide +kernel
theorem dL_law__1317 : decode cL_law_ 1317 = .ok (.iload 4, 2) := by decide +kernel
theorem dL_law__1319 : decode cL_law_ 1319 = .ok (.iconst 2, 1) := by decide +kernel
theorem dL_law__1320 : decode cL_law_ 1320 = .ok (.iadd, 1) := by decide +kernel
theorem dL_law__1321 : decode cL_law_ 1321 = .ok (.iaload, 1) := by decide +kernel
theorem dL_law__1322 : decode cL_law_ 1322 = .ok (.invokevirtual 188, 3) := by decide +kernel
theorem dL_law__1325 : decode cL_law_ 1325 = .ok (.istore 6, 2) := by decide +kernel
theorem dL_law__1327 : decode cL_law_ 1327 = .ok (.aload_n 2, 1) := by decide +kernel
theorem dL_law__1328 : decode cL_law_ 1328 = .ok (.invokevirtual 136, 3) := by decide +kernel
theorem dL_law__1331 : decode cL_law_ 1331 = .ok (.iload 5, 2) := by decide +kernel
theorem dL_law__1333 : decode cL_law_ 1333 = .ok (.if_icmp .eq 5, 3) := by decide +kernel
theorem dL_law__1336 : decode cL_law_ 1336 = .ok (.iconst 0, 1) := by decide +kernel
theorem dL_law__1337 : decode cL_law_ 1337 = .ok (.ireturn, 1) := by decide +kernel
theorem dL_law__1338 : decode cL_law_ 1338 = .ok (.iload 5, 2) := by decide +kernel
theorem dL_law__1340 : decode cL_law_ 1340 = .ok (.ifCond .ne 15, 3) := by decide +kernel
theorem dL_law__1343 : decode cL_law_ 1343 = .ok (.aload_n 3, 1) := by decide +kernel
theorem dL_law__1344 : decode cL_law_ 1344 = .ok (.iconst 0, 1) := by decide +kernel
theorem dL_law__1345 : decode cL_law_ 1345 = .ok (.laload, 1) := by decide +kernel
theorem dL_law__1346 : decode cL_law_ 1346 = .ok (.iload 6, 2) := by decide +kernel
theorem dL_law__1348 : decode cL_law_ 1348 = .ok (.i2l, 1) := by decide +kernel
theorem dL_law__1349 : decode cL_law_ 1349 = .ok (.lcmp, 1) := by decide +kernel
theorem dL_law__1350 : decode cL_law_ 1350 = .ok (.ifCond .eq 5, 3) := by decide +kernel
theorem dL_law__1353 : decode cL_law_ 1353 = .ok (.iconst 0, 1) := by decide +kernel
theorem dL_law__1354 : decode cL_law_ 1354 = .ok (.ireturn, 1) := by decide +kernel
theorem dL_law__1355 : decode cL_law_ 1355 = .ok (.goto 1320, 3) := by decide +kernel
theorem dL_law__1358 : decode cL_law_ 1358 = .ok (.aload_n 1, 1) := by decide +kernel
theorem dL_law__1359 : decode cL_law_ 1359 = .ok (.aload_n 0, 1) := by decide +kernel
theorem dL_law__1360 : decode cL_law_ 1360 = .ok (.iload 4, 2) := by decide +kernel
theorem dL_law__1362 : decode cL_law_ 1362 = .ok (.iconst 1, 1) := by decide +kernel
theorem dL_law__1363 : decode cL_law_ 1363 = .ok (.iadd, 1) := by decide +kernel
theorem dL_law__1364 : decode cL_law_ 1364 = .ok (.iaload, 1) := by decide +kernel
theorem dL_law__1365 : decode cL_law_ 1365 = .ok (.aload_n 0, 1) := by decide +kernel
theorem dL_law__1366 : decode cL_law_ 1366 = .ok (.iload 4, 2) := by decide +kernel
theorem dL_law__1368 : decode cL_law_ 1368 = .ok (.iconst 2, 1) := by decide +kernel
theorem dL_law__1369 : decode cL_law_ 1369 = .ok (.iadd, 1) := by decide +kernel
theorem dL_law__1370 : decode cL_law_ 1370 = .ok (.iaload, 1) := by decide +kernel
theorem dL_law__1371 : decode cL_law_ 1371 = .ok (.aload_n 3, 1) := by decide +kernel
theorem dL_law__1372 : decode cL_law_ 1372 = .ok (.invokestatic 189, 3) := by decide +kernel
theorem dL_law__1375 : decode cL_law_ 1375 = .ok (.istore 5, 2) := by decide +kernel
theorem dL_law__1377 : decode cL_law_ 1377 = .ok (.aload_n 2, 1) := by decide +kernel
theorem dL_law__1378 : decode cL_law_ 1378 = .ok (.aload_n 0, 1) := by decide +kernel
theorem dL_law__1379 : decode cL_law_ 1379 = .ok (.iload 4, 2) := by decide +kernel
theorem dL_law__1381 : decode cL_law_ 1381 = .ok (.iconst 1, 1) := by decide +kernel
theorem dL_law__1382 : decode cL_law_ 1382 = .ok (.iadd, 1) := by decide +kernel
theorem dL_law__1383 : decode cL_law_ 1383 = .ok (.iaload, 1) := by decide +kernel
theorem dL_law__1384 : decode cL_law_ 1384 = .ok (.aload_n 0, 1) := by decide +kernel
theorem dL_law__1385 : decode cL_law_ 1385 = .ok (.iload 4, 2) := by decide +kernel
theorem dL_law__1387 : decode cL_law_ 1387 = .ok (.iconst 2, 1) := by decide +kernel
theorem dL_law__1388 : decode cL_law_ 1388 = .ok (.iadd, 1) := by decide +kernel
theorem dL_law__1389 : decode cL_law_ 1389 = .ok (.iaload, 1) := by decide +kernel
theorem dL_law__1390 : decode cL_law_ 1390 = .ok (.invokevirtual 191, 3) := by decide +kernel
theorem dL_law__1393 : decode cL_law_ 1393 = .ok (.istore 6, 2) := by decide +kernel
theorem dL_law__1395 : decode cL_law_ 1395 = .ok (.aload_n 2, 1) := by decide +kernel
theorem dL_law__1396 : decode cL_law_ 1396 = .ok (.invokevirtual 136, 3) := by decide +kernel
theorem dL_law__1399 : decode cL_law_ 1399 = .ok (.iload 5, 2) := by decide +kernel
theorem dL_law__1401 : decode cL_law_ 1401 = .ok (.if_icmp .eq 5, 3) := by decide +kernel
theorem dL_law__1404 : decode cL_law_ 1404 = .ok (.iconst 0, 1) := by decide +kernel
theorem dL_law__1405 : decode cL_law_ 1405 = .ok (.ireturn, 1) := by decide +kernel
theorem dL_law__1406 : decode cL_law_ 1406 = .ok (.iload 5, 2) := by decide +kernel
theorem dL_law__1408 : decode cL_law_ 1408 = .ok (.ifCond .ne 15, 3) := by decide +kernel
theorem dL_law__1411 : decode cL_law_ 1411 = .ok (.aload_n 3, 1) := by decide +kernel
theorem dL_law__1412 : decode cL_law_ 1412 = .ok (.iconst 0, 1) := by decide +kernel
theorem dL_law__1413 : decode cL_law_ 1413 = .ok (.laload, 1) := by decide +kernel
theorem dL_law__1414 : decode cL_law_ 1414 = .ok (.iload 6, 2) := by decide +kernel
theorem dL_law__1416 : decode cL_law_ 1416 = .ok (.i2l, 1) := by decide +kernel
theorem dL_law__1417 : decode cL_law_ 1417 = .ok (.lcmp, 1) := by decide +kernel
theorem dL_law__1418 : decode cL_law_ 1418 = .ok (.ifCond .eq 5, 3) := by decide +kernel
theorem dL_law__1421 : decode cL_law_ 1421 = .ok (.iconst 0, 1) := by decide +kernel
theorem dL_law__1422 : decode cL_law_ 1422 = .ok (.ireturn, 1) := by decide +kernel
theorem dL_law__1423 : decode cL_law_ 1423 = .ok (.goto 1252, 3) := by decide +kernel
theorem dL_law__1426 : decode cL_law_ 1426 = .ok (.aload_n 1, 1) := by decide +kernel
theorem dL_law__1427 : decode cL_law_ 1427 = .ok (.aload_n 0, 1) := by decide +kernel
theorem dL_law__1428 : decode cL_law_ 1428 = .ok (.iload 4, 2) := by decide +kernel
theorem dL_law__1430 : decode cL_law_ 1430 = .ok (.iconst 1, 1) := by decide +kernel
theorem dL_law__1431 : decode cL_law_ 1431 = .ok (.iadd, 1) := by decide +kernel
theorem dL_law__1432 : decode cL_law_ 1432 = .ok (.iaload, 1) := by decide +kernel
theorem dL_law__1433 : decode cL_law_ 1433 = .ok (.aload_n 3, 1) := by decide +kernel
theorem dL_law__1434 : decode cL_law_ 1434 = .ok (.invokestatic 192, 3) := by decide +kernel
theorem dL_law__1437 : decode cL_law_ 1437 = .ok (.istore 5, 2) := by decide +kernel
theorem dL_law__1439 : decode cL_law_ 1439 = .ok (.aload_n 2, 1) := by decide +kernel
theorem dL_law__1440 : decode cL_law_ 1440 = .ok (.aload_n 0, 1) := by decide +kernel
theorem dL_law__1441 : decode cL_law_ 1441 = .ok (.iload 4, 2) := by decide +kernel
theorem dL_law__1443 : decode cL_law_ 1443 = .ok (.iconst 1, 1) := by decide +kernel
theorem dL_law__1444 : decode cL_law_ 1444 = .ok (.iadd, 1) := by decide +kernel
theorem dL_law__1445 : decode cL_law_ 1445 = .ok (.iaload, 1) := by decide +kernel
theorem dL_law__1446 : decode cL_law_ 1446 = .ok (.invokevirtual 194, 3) := by decide +kernel
theorem dL_law__1449 : decode cL_law_ 1449 = .ok (.istore 6, 2) := by decide +kernel
theorem dL_law__1451 : decode cL_law_ 1451 = .ok (.aload_n 2, 1) := by decide +kernel
theorem dL_law__1452 : decode cL_law_ 1452 = .ok (.invokevirtual 136, 3) := by decide +kernel
theorem dL_law__1455 : decode cL_law_ 1455 = .ok (.iload 5, 2) := by decide +kernel
theorem dL_law__1457 : decode cL_law_ 1457 = .ok (.if_icmp .eq 5, 3) := by decide +kernel
theorem dL_law__1460 : decode cL_law_ 1460 = .ok (.iconst 0, 1) := by decide +kernel
theorem dL_law__1461 : decode cL_law_ 1461 = .ok (.ireturn, 1) := by decide +kernel
theorem dL_law__1462 : decode cL_law_ 1462 = .ok (.iload 5, 2) := by decide +kernel
theorem dL_law__1464 : decode cL_law_ 1464 = .ok (.ifCond .ne 15, 3) := by decide +kernel
theorem dL_law__1467 : decode cL_law_ 1467 = .ok (.aload_n 3, 1) := by decide +kernel
theorem dL_law__1468 : decode cL_law_ 1468 = .ok (.iconst 0, 1) := by decide +kernel
theorem dL_law__1469 : decode cL_law_ 1469 = .ok (.laload, 1) := by decide +kernel
theorem dL_law__1470 : decode cL_law_ 1470 = .ok (.iload 6, 2) := by decide +kernel
theorem dL_law__1472 : decode cL_law_ 1472 = .ok (.i2l, 1) := by decide +kernel
theorem dL_law__1473 : decode cL_law_ 1473 = .ok (.lcmp, 1) := by decide +kernel
theorem dL_law__1474 : decode cL_law_ 1474 = .ok (.ifCond .eq 5, 3) := by decide +kernel
theorem dL_law__1477 : decode cL_law_ 1477 = .ok (.iconst 0, 1) := by decide +kernel
theorem dL_law__1478 : decode cL_law_ 1478 = .ok (.ireturn, 1) := by decide +kernel
theorem dL_law__1479 : decode cL_law_ 1479 = .ok (.goto 1196, 3) := by decide +kernel
theorem dL_law__1482 : decode cL_law_ 1482 = .ok (.aload_n 1, 1) := by decide +kernel
theorem dL_law__1483 : decode cL_law_ 1483 = .ok (.aload_n 0, 1) := by decide +kernel
theorem dL_law__1484 : decode cL_law_ 1484 = .ok (.iload 4, 2) := by decide +kernel
theorem dL_law__1486 : decode cL_law_ 1486 = .ok (.iconst 1, 1) := by decide +kernel
theorem dL_law__1487 : decode cL_law_ 1487 = .ok (.iadd, 1) := by decide +kernel
theorem dL_law__1488 : decode cL_law_ 1488 = .ok (.iaload, 1) := by decide +kernel
theorem dL_law__1489 : decode cL_law_ 1489 = .ok (.ifCond .eq 7, 3) := by decide +kernel
theorem dL_law__1492 : decode cL_law_ 1492 = .ok (.iconst 1, 1) := by decide +kernel
theorem dL_law__1493 : decode cL_law_ 1493 = .ok (.goto 4, 3) := by decide +kernel
theorem dL_law__1496 : decode cL_law_ 1496 = .ok (.iconst 0, 1) := by decide +kernel
theorem dL_law__1497 : decode cL_law_ 1497 = .ok (.invokevirtual 195, 3) := by decide +kernel
theorem dL_law__1500 : decode cL_law_ 1500 = .ok (.aload_n 2, 1) := by decide +kernel
theorem dL_law__1501 : decode cL_law_ 1501 = .ok (.aload_n 0, 1) := by decide +kernel
theorem dL_law__1502 : decode cL_law_ 1502 = .ok (.iload 4, 2) := by decide +kernel
theorem dL_law__1504 : decode cL_law_ 1504 = .ok (.iconst 1, 1) := by decide +kernel
theorem dL_law__1505 : decode cL_law_ 1505 = .ok (.iadd, 1) := by decide +kernel
theorem dL_law__1506 : decode cL_law_ 1506 = .ok (.iaload, 1) := by decide +kernel
theorem dL_law__1507 : decode cL_law_ 1507 = .ok (.ifCond .eq 7, 3) := by decide +kernel
theorem dL_law__1510 : decode cL_law_ 1510 = .ok (.iconst 1, 1) := by decide +kernel
theorem dL_law__1511 : decode cL_law_ 1511 = .ok (.goto 4, 3) := by decide +kernel
theorem dL_law__1514 : decode cL_law_ 1514 = .ok (.iconst 0, 1) := by decide +kernel
theorem dL_law__1515 : decode cL_law_ 1515 = .ok (.invokevirtual 198, 3) := by decide +kernel
theorem dL_law__1518 : decode cL_law_ 1518 = .ok (.if_icmp .eq 1157, 3) := by decide +kernel
theorem dL_law__1521 : decode cL_law_ 1521 = .ok (.iconst 0, 1) := by decide +kernel
theorem dL_law__1522 : decode cL_law_ 1522 = .ok (.ireturn, 1) := by decide +kernel
theorem dL_law__1523 : decode cL_law_ 1523 = .ok (.aload_n 1, 1) := by decide +kernel
theorem dL_law__1524 : decode cL_law_ 1524 = .ok (.aload_n 0, 1) := by decide +kernel
theorem dL_law__1525 : decode cL_law_ 1525 = .ok (.iload 4, 2) := by decide +kernel
theorem dL_law__1527 : decode cL_law_ 1527 = .ok (.iconst 1, 1) := by decide +kernel
theorem dL_law__1528 : decode cL_law_ 1528 = .ok (.iadd, 1) := by decide +kernel
theorem dL_law__1529 : decode cL_law_ 1529 = .ok (.iaload, 1) := by decide +kernel
theorem dL_law__1530 : decode cL_law_ 1530 = .ok (.aload_n 0, 1) := by decide +kernel
theorem dL_law__1531 : decode cL_law_ 1531 = .ok (.iload 4, 2) := by decide +kernel
theorem dL_law__1533 : decode cL_law_ 1533 = .ok (.iconst 2, 1) := by decide +kernel
theorem dL_law__1534 : decode cL_law_ 1534 = .ok (.iadd, 1) := by decide +kernel
theorem dL_law__1535 : decode cL_law_ 1535 = .ok (.iaload, 1) := by decide +kernel
theorem dL_law__1536 : decode cL_law_ 1536 = .ok (.aload_n 3, 1) := by decide +kernel
theorem dL_law__1537 : decode cL_law_ 1537 = .ok (.invokestatic 199, 3) := by decide +kernel
theorem dL_law__1540 : decode cL_law_ 1540 = .ok (.istore 5, 2) := by decide +kernel
theorem dL_law__1542 : decode cL_law_ 1542 = .ok (.aload_n 2, 1) := by decide +kernel
theorem dL_law__1543 : decode cL_law_ 1543 = .ok (.aload_n 0, 1) := by decide +kernel
theorem dL_law__1544 : decode cL_law_ 1544 = .ok (.iload 4, 2) := by decide +kernel
theorem dL_law__1546 : decode cL_law_ 1546 = .ok (.iconst 1, 1) := by decide +kernel
theorem dL_law__1547 : decode cL_law_ 1547 = .ok (.iadd, 1) := by decide +kernel
theorem dL_law__1548 : decode cL_law_ 1548 = .ok (.iaload, 1) := by decide +kernel
theorem dL_law__1549 : decode cL_law_ 1549 = .ok (.aload_n 0, 1) := by decide +kernel
theorem dL_law__1550 : decode cL_law_ 1550 = .ok (.iload 4, 2) := by decide +kernel
theorem dL_law__1552 : decode cL_law_ 1552 = .ok (.iconst 2, 1) := by decide +kernel
theorem dL_law__1553 : decode cL_law_ 1553 = .ok (.iadd, 1) := by decide +kernel
theorem dL_law__1554 : decode cL_law_ 1554 = .ok (.iaload, 1) := by decide +kernel
theorem dL_law__1555 : decode cL_law_ 1555 = .ok (.invokevirtual 201, 3) := by decide +kernel
theorem dL_law__1558 : decode cL_law_ 1558 = .ok (.istore 6, 2) := by decide +kernel
theorem dL_law__1560 : decode cL_law_ 1560 = .ok (.aload_n 2, 1) := by decide +kernel
theorem dL_law__1561 : decode cL_law_ 1561 = .ok (.invokevirtual 136, 3) := by decide +kernel
theorem dL_law__1564 : decode cL_law_ 1564 = .ok (.iload 5, 2) := by decide +kernel
theorem dL_law__1566 : decode cL_law_ 1566 = .ok (.if_icmp .eq 5, 3) := by decide +kernel
theorem dL_law__1569 : decode cL_law_ 1569 = .ok (.iconst 0, 1) := by decide +kernel
theorem dL_law__1570 : decode cL_law_ 1570 = .ok (.ireturn, 1) := by decide +kernel
theorem dL_law__1571 : decode cL_law_ 1571 = .ok (.iload 5, 2) := by decide +kernel
theorem dL_law__1573 : decode cL_law_ 1573 = .ok (.ifCond .ne 15, 3) := by decide +kernel
theorem dL_law__1576 : decode cL_law_ 1576 = .ok (.aload_n 3, 1) := by decide +kernel
theorem dL_law__1577 : decode cL_law_ 1577 = .ok (.iconst 0, 1) := by decide +kernel
theorem dL_law__1578 : decode cL_law_ 1578 = .ok (.laload, 1) := by decide +kernel
theorem dL_law__1579 : decode cL_law_ 1579 = .ok (.iload 6, 2) := by decide +kernel
theorem dL_law__1581 : decode cL_law_ 1581 = .ok (.i2l, 1) := by decide +kernel
theorem dL_law__1582 : decode cL_law_ 1582 = .ok (.lcmp, 1) := by decide +kernel
theorem dL_law__1583 : decode cL_law_ 1583 = .ok (.ifCond .eq 5, 3) := by decide +kernel
theorem dL_law__1586 : decode cL_law_ 1586 = .ok (.iconst 0, 1) := by decide +kernel
theorem dL_law__1587 : decode cL_law_ 1587 = .ok (.ireturn, 1) := by decide +kernel
theorem dL_law__1588 : decode cL_law_ 1588 = .ok (.goto 1087, 3) := by decide +kernel
theorem dL_law__1591 : decode cL_law_ 1591 = .ok (.aload_n 1, 1) := by decide +kernel
theorem dL_law__1592 : decode cL_law_ 1592 = .ok (.aload_n 0, 1) := by decide +kernel
theorem dL_law__1593 : decode cL_law_ 1593 = .ok (.iload 4, 2) := by decide +kernel
theorem dL_law__1595 : decode cL_law_ 1595 = .ok (.iconst 1, 1) := by decide +kernel
theorem dL_law__1596 : decode cL_law_ 1596 = .ok (.iadd, 1) := by decide +kernel
theorem dL_law__1597 : decode cL_law_ 1597 = .ok (.iaload, 1) := by decide +kernel
theorem dL_law__1598 : decode cL_law_ 1598 = .ok (.ifCond .eq 7, 3) := by decide +kernel
theorem dL_law__1601 : decode cL_law_ 1601 = .ok (.iconst 1, 1) := by decide +kernel
theorem dL_law__1602 : decode cL_law_ 1602 = .ok (.goto 4, 3) := by decide +kernel
theorem dL_law__1605 : decode cL_law_ 1605 = .ok (.iconst 0, 1) := by decide +kernel
theorem dL_law__1606 : decode cL_law_ 1606 = .ok (.aload_n 3, 1) := by decide +kernel
theorem dL_law__1607 : decode cL_law_ 1607 = .ok (.invokestatic 202, 3) := by decide +kernel
theorem dL_law__1610 : decode cL_law_ 1610 = .ok (.istore 5, 2) := by decide +kernel
theorem dL_law__1612 : decode cL_law_ 1612 = .ok (.aload_n 2, 1) := by decide +kernel
theorem dL_law__1613 : decode cL_law_ 1613 = .ok (.aload_n 0, 1) := by decide +kernel
theorem dL_law__1614 : decode cL_law_ 1614 = .ok (.iload 4, 2) := by decide +kernel
theorem dL_law__1616 : decode cL_law_ 1616 = .ok (.iconst 1, 1) := by decide +kernel
theorem dL_law__1617 : decode cL_law_ 1617 = .ok (.iadd, 1) := by decide +kernel
theorem dL_law__1618 : decode cL_law_ 1618 = .ok (.iaload, 1) := by decide +kernel
theorem dL_law__1619 : decode cL_law_ 1619 = .ok (.ifCond .eq 7, 3) := by decide +kernel
theorem dL_law__1622 : decode cL_law_ 1622 = .ok (.iconst 1, 1) := by decide +kernel
theorem dL_law__1623 : decode cL_law_ 1623 = .ok (.goto 4, 3) := by decide +kernel
theorem dL_law__1626 : decode cL_law_ 1626 = .ok (.iconst 0, 1) := by decide +kernel
theorem dL_law__1627 : decode cL_law_ 1627 = .ok (.invokevirtual 205, 3) := by decide +kernel
theorem dL_law__1630 : decode cL_law_ 1630 = .ok (.istore 6, 2) := by decide +kernel
theorem dL_law__1632 : decode cL_law_ 1632 = .ok (.aload_n 2, 1) := by decide +kernel
theorem dL_law__1633 : decode cL_law_ 1633 = .ok (.invokevirtual 136, 3) := by decide +kernel
theorem dL_law__1636 : decode cL_law_ 1636 = .ok (.iload 5, 2) := by decide +kernel
theorem dL_law__1638 : decode cL_law_ 1638 = .ok (.if_icmp .eq 5, 3) := by decide +kernel
theorem dL_law__1641 : decode cL_law_ 1641 = .ok (.iconst 0, 1) := by decide +kernel
theorem dL_law__1642 : decode cL_law_ 1642 = .ok (.ireturn, 1) := by decide +kernel
theorem dL_law__1643 : decode cL_law_ 1643 = .ok (.iload 5, 2) := by decide +kernel
theorem dL_law__1645 : decode cL_law_ 1645 = .ok (.ifCond .ne 15, 3) := by decide +kernel
theorem dL_law__1648 : decode cL_law_ 1648 = .ok (.aload_n 3, 1) := by decide +kernel
theorem dL_law__1649 : decode cL_law_ 1649 = .ok (.iconst 0, 1) := by decide +kernel
theorem dL_law__1650 : decode cL_law_ 1650 = .ok (.laload, 1) := by decide +kernel
theorem dL_law__1651 : decode cL_law_ 1651 = .ok (.iload 6, 2) := by decide +kernel
theorem dL_law__1653 : decode cL_law_ 1653 = .ok (.i2l, 1) := by decide +kernel
theorem dL_law__1654 : decode cL_law_ 1654 = .ok (.lcmp, 1) := by decide +kernel
theorem dL_law__1655 : decode cL_law_ 1655 = .ok (.ifCond .eq 5, 3) := by decide +kernel
theorem dL_law__1658 : decode cL_law_ 1658 = .ok (.iconst 0, 1) := by decide +kernel
theorem dL_law__1659 : decode cL_law_ 1659 = .ok (.ireturn, 1) := by decide +kernel
theorem dL_law__1660 : decode cL_law_ 1660 = .ok (.goto 1015, 3) := by decide +kernel
theorem dL_law__1663 : decode cL_law_ 1663 = .ok (.aload_n 1, 1) := by decide +kernel
theorem dL_law__1664 : decode cL_law_ 1664 = .ok (.invokevirtual 206, 3) := by decide +kernel
theorem dL_law__1667 : decode cL_law_ 1667 = .ok (.aload_n 2, 1) := by decide +kernel
theorem dL_law__1668 : decode cL_law_ 1668 = .ok (.invokevirtual 209, 3) := by decide +kernel
theorem dL_law__1671 : decode cL_law_ 1671 = .ok (.if_icmp .eq 1004, 3) := by decide +kernel
theorem dL_law__1674 : decode cL_law_ 1674 = .ok (.iconst 0, 1) := by decide +kernel
theorem dL_law__1675 : decode cL_law_ 1675 = .ok (.ireturn, 1) := by decide +kernel
theorem dL_law__1676 : decode cL_law_ 1676 = .ok (.aload_n 1, 1) := by decide +kernel
theorem dL_law__1677 : decode cL_law_ 1677 = .ok (.aload_n 0, 1) := by decide +kernel
theorem dL_law__1678 : decode cL_law_ 1678 = .ok (.iload 4, 2) := by decide +kernel
theorem dL_law__1680 : decode cL_law_ 1680 = .ok (.iconst 1, 1) := by decide +kernel
theorem dL_law__1681 : decode cL_law_ 1681 = .ok (.iadd, 1) := by decide +kernel
theorem dL_law__1682 : decode cL_law_ 1682 = .ok (.iaload, 1) := by decide +kernel
theorem dL_law__1683 : decode cL_law_ 1683 = .ok (.aload_n 0, 1) := by decide +kernel
theorem dL_law__1684 : decode cL_law_ 1684 = .ok (.iload 4, 2) := by decide +kernel
theorem dL_law__1686 : decode cL_law_ 1686 = .ok (.iconst 2, 1) := by decide +kernel
theorem dL_law__1687 : decode cL_law_ 1687 = .ok (.iadd, 1) := by decide +kernel
theorem dL_law__1688 : decode cL_law_ 1688 = .ok (.iaload, 1) := by decide +kernel
theorem dL_law__1689 : decode cL_law_ 1689 = .ok (.aload_n 3, 1) := by decide +kernel
theorem dL_law__1690 : decode cL_law_ 1690 = .ok (.invokestatic 210, 3) := by decide +kernel
theorem dL_law__1693 : decode cL_law_ 1693 = .ok (.istore 5, 2) := by decide +kernel
theorem dL_law__1695 : decode cL_law_ 1695 = .ok (.aload_n 2, 1) := by decide +kernel
theorem dL_law__1696 : decode cL_law_ 1696 = .ok (.aload_n 0, 1) := by decide +kernel
theorem dL_law__1697 : decode cL_law_ 1697 = .ok (.iload 4, 2) := by decide +kernel
theorem dL_law__1699 : decode cL_law_ 1699 = .ok (.iconst 1, 1) := by decide +kernel
theorem dL_law__1700 : decode cL_law_ 1700 = .ok (.iadd, 1) := by decide +kernel
theorem dL_law__1701 : decode cL_law_ 1701 = .ok (.iaload, 1) := by decide +kernel
theorem dL_law__1702 : decode cL_law_ 1702 = .ok (.aload_n 0, 1) := by decide +kernel
theorem dL_law__1703 : decode cL_law_ 1703 = .ok (.iload 4, 2) := by decide +kernel
theorem dL_law__1705 : decode cL_law_ 1705 = .ok (.iconst 2, 1) := by decide +kernel
theorem dL_law__1706 : decode cL_law_ 1706 = .ok (.iadd, 1) := by decide +kernel
theorem dL_law__1707 : decode cL_law_ 1707 = .ok (.iaload, 1) := by decide +kernel
theorem dL_law__1708 : decode cL_law_ 1708 = .ok (.invokevirtual 212, 3) := by decide +kernel
theorem dL_law__1711 : decode cL_law_ 1711 = .ok (.istore 6, 2) := by decide +kernel
theorem dL_law__1713 : decode cL_law_ 1713 = .ok (.aload_n 2, 1) := by decide +kernel
theorem dL_law__1714 : decode cL_law_ 1714 = .ok (.invokevirtual 136, 3) := by decide +kernel
theorem dL_law__1717 : decode cL_law_ 1717 = .ok (.iload 5, 2) := by decide +kernel
theorem dL_law__1719 : decode cL_law_ 1719 = .ok (.if_icmp .eq 5, 3) := by decide +kernel
theorem dL_law__1722 : decode cL_law_ 1722 = .ok (.iconst 0, 1) := by decide +kernel
theorem dL_law__1723 : decode cL_law_ 1723 = .ok (.ireturn, 1) := by decide +kernel
theorem dL_law__1724 : decode cL_law_ 1724 = .ok (.iload 5, 2) := by decide +kernel
theorem dL_law__1726 : decode cL_law_ 1726 = .ok (.ifCond .ne 15, 3) := by decide +kernel
theorem dL_law__1729 : decode cL_law_ 1729 = .ok (.aload_n 3, 1) := by decide +kernel
theorem dL_law__1730 : decode cL_law_ 1730 = .ok (.iconst 0, 1) := by decide +kernel
theorem dL_law__1731 : decode cL_law_ 1731 = .ok (.laload, 1) := by decide +kernel
theorem dL_law__1732 : decode cL_law_ 1732 = .ok (.iload 6, 2) := by decide +kernel
theorem dL_law__1734 : decode cL_law_ 1734 = .ok (.i2l, 1) := by decide +kernel
theorem dL_law__1735 : decode cL_law_ 1735 = .ok (.lcmp, 1) := by decide +kernel
theorem dL_law__1736 : decode cL_law_ 1736 = .ok (.ifCond .eq 5, 3) := by decide +kernel
theorem dL_law__1739 : decode cL_law_ 1739 = .ok (.iconst 0, 1) := by decide +kernel
theorem dL_law__1740 : decode cL_law_ 1740 = .ok (.ireturn, 1) := by decide +kernel
theorem dL_law__1741 : decode cL_law_ 1741 = .ok (.goto 934, 3) := by decide +kernel
theorem dL_law__1744 : decode cL_law_ 1744 = .ok (.aload_n 1, 1) := by decide +kernel
theorem dL_law__1745 : decode cL_law_ 1745 = .ok (.aload_n 0, 1) := by decide +kernel
theorem dL_law__1746 : decode cL_law_ 1746 = .ok (.iload 4, 2) := by decide +kernel
theorem dL_law__1748 : decode cL_law_ 1748 = .ok (.iconst 1, 1) := by decide +kernel
theorem dL_law__1749 : decode cL_law_ 1749 = .ok (.iadd, 1) := by decide +kernel
theorem dL_law__1750 : decode cL_law_ 1750 = .ok (.iaload, 1) := by decide +kernel
theorem dL_law__1751 : decode cL_law_ 1751 = .ok (.aload_n 0, 1) := by decide +kernel
theorem dL_law__1752 : decode cL_law_ 1752 = .ok (.iload 4, 2) := by decide +kernel
theorem dL_law__1754 : decode cL_law_ 1754 = .ok (.iconst 2, 1) := by decide +kernel
theorem dL_law__1755 : decode cL_law_ 1755 = .ok (.iadd, 1) := by decide +kernel
theorem dL_law__1756 : decode cL_law_ 1756 = .ok (.iaload, 1) := by decide +kernel
theorem dL_law__1757 : decode cL_law_ 1757 = .ok (.aload_n 0, 1) := by decide +kernel
theorem dL_law__1758 : decode cL_law_ 1758 = .ok (.iload 4, 2) := by decide +kernel
theorem dL_law__1760 : decode cL_law_ 1760 = .ok (.iconst 3, 1) := by decide +kernel
theorem dL_law__1761 : decode cL_law_ 1761 = .ok (.iadd, 1) := by decide +kernel
theorem dL_law__1762 : decode cL_law_ 1762 = .ok (.iaload, 1) := by decide +kernel
theorem dL_law__1763 : decode cL_law_ 1763 = .ok (.ifCond .eq 7, 3) := by decide +kernel
theorem dL_law__1766 : decode cL_law_ 1766 = .ok (.iconst 1, 1) := by decide +kernel
theorem dL_law__1767 : decode cL_law_ 1767 = .ok (.goto 4, 3) := by decide +kernel
theorem dL_law__1770 : decode cL_law_ 1770 = .ok (.iconst 0, 1) := by decide +kernel
theorem dL_law__1771 : decode cL_law_ 1771 = .ok (.aload_n 3, 1) := by decide +kernel
theorem dL_law__1772 : decode cL_law_ 1772 = .ok (.invokestatic 213, 3) := by decide +kernel
theorem dL_law__1775 : decode cL_law_ 1775 = .ok (.istore 5, 2) := by decide +kernel
theorem dL_law__1777 : decode cL_law_ 1777 = .ok (.aload_n 2, 1) := by decide +kernel
theorem dL_law__1778 : decode cL_law_ 1778 = .ok (.aload_n 0, 1) := by decide +kernel
theorem dL_law__1779 : decode cL_law_ 1779 = .ok (.iload 4, 2) := by decide +kernel
theorem dL_law__1781 : decode cL_law_ 1781 = .ok (.iconst 1, 1) := by decide +kernel
theorem dL_law__1782 : decode cL_law_ 1782 = .ok (.iadd, 1) := by decide +kernel
theorem dL_law__1783 : decode cL_law_ 1783 = .ok (.iaload, 1) := by decide +kernel
theorem dL_law__1784 : decode cL_law_ 1784 = .ok (.aload_n 0, 1) := by decide +kernel
theorem dL_law__1785 : decode cL_law_ 1785 = .ok (.iload 4, 2) := by decide +kernel
theorem dL_law__1787 : decode cL_law_ 1787 = .ok (.iconst 2, 1) := by decide +kernel
theorem dL_law__1788 : decode cL_law_ 1788 = .ok (.iadd, 1) := by decide +kernel
theorem dL_law__1789 : decode cL_law_ 1789 = .ok (.iaload, 1) := by decide +kernel
theorem dL_law__1790 : decode cL_law_ 1790 = .ok (.aload_n 0, 1) := by decide +kernel
theorem dL_law__1791 : decode cL_law_ 1791 = .ok (.iload 4, 2) := by decide +kernel
theorem dL_law__1793 : decode cL_law_ 1793 = .ok (.iconst 3, 1) := by decide +kernel
theorem dL_law__1794 : decode cL_law_ 1794 = .ok (.iadd, 1) := by decide +kernel
theorem dL_law__1795 : decode cL_law_ 1795 = .ok (.iaload, 1) := by decide +kernel
theorem dL_law__1796 : decode cL_law_ 1796 = .ok (.ifCond .eq 7, 3) := by decide +kernel
theorem dL_law__1799 : decode cL_law_ 1799 = .ok (.iconst 1, 1) := by decide +kernel
theorem dL_law__1800 : decode cL_law_ 1800 = .ok (.goto 4, 3) := by decide +kernel
theorem dL_law__1803 : decode cL_law_ 1803 = .ok (.iconst 0, 1) := by decide +kernel
theorem dL_law__1804 : decode cL_law_ 1804 = .ok (.invokevirtual 215, 3) := by decide +kernel
theorem dL_law__1807 : decode cL_law_ 1807 = .ok (.istore 6, 2) := by decide +kernel
theorem dL_law__1809 : decode cL_law_ 1809 = .ok (.aload_n 2, 1) := by decide +kernel
theorem dL_law__1810 : decode cL_law_ 1810 = .ok (.invokevirtual 136, 3) := by decide +kernel
theorem dL_law__1813 : decode cL_law_ 1813 = .ok (.iload 5, 2) := by decide +kernel
theorem dL_law__1815 : decode cL_law_ 1815 = .ok (.if_icmp .eq 5, 3) := by decide +kernel
theorem dL_law__1818 : decode cL_law_ 1818 = .ok (.iconst 0, 1) := by decide +kernel
theorem dL_law__1819 : decode cL_law_ 1819 = .ok (.ireturn, 1) := by decide +kernel
theorem dL_law__1820 : decode cL_law_ 1820 = .ok (.iload 5, 2) := by decide +kernel
theorem dL_law__1822 : decode cL_law_ 1822 = .ok (.ifCond .ne 15, 3) := by decide +kernel
theorem dL_law__1825 : decode cL_law_ 1825 = .ok (.aload_n 3, 1) := by decide +kernel
theorem dL_law__1826 : decode cL_law_ 1826 = .ok (.iconst 0, 1) := by decide +kernel
theorem dL_law__1827 : decode cL_law_ 1827 = .ok (.laload, 1) := by decide +kernel
theorem dL_law__1828 : decode cL_law_ 1828 = .ok (.iload 6, 2) := by decide +kernel
theorem dL_law__1830 : decode cL_law_ 1830 = .ok (.i2l, 1) := by decide +kernel
theorem dL_law__1831 : decode cL_law_ 1831 = .ok (.lcmp, 1) := by decide +kernel
theorem dL_law__1832 : decode cL_law_ 1832 = .ok (.ifCond .eq 5, 3) := by decide +kernel
theorem dL_law__1835 : decode cL_law_ 1835 = .ok (.iconst 0, 1) := by decide +kernel
theorem dL_law__1836 : decode cL_law_ 1836 = .ok (.ireturn, 1) := by decide +kernel
theorem dL_law__1837 : decode cL_law_ 1837 = .ok (.goto 838, 3) := by decide +kernel
theorem dL_law__1840 : decode cL_law_ 1840 = .ok (.aload_n 1, 1) := by decide +kernel
theorem dL_law__1841 : decode cL_law_ 1841 = .ok (.aload_n 0, 1) := by decide +kernel
theorem dL_law__1842 : decode cL_law_ 1842 = .ok (.iload 4, 2) := by decide +kernel
theorem dL_law__1844 : decode cL_law_ 1844 = .ok (.iconst 1, 1) := by decide +kernel
theorem dL_law__1845 : decode cL_law_ 1845 = .ok (.iadd, 1) := by decide +kernel
theorem dL_law__1846 : decode cL_law_ 1846 = .ok (.iaload, 1) := by decide +kernel
theorem dL_law__1847 : decode cL_law_ 1847 = .ok (.aload_n 0, 1) := by decide +kernel
theorem dL_law__1848 : decode cL_law_ 1848 = .ok (.iload 4, 2) := by decide +kernel
theorem dL_law__1850 : decode cL_law_ 1850 = .ok (.iconst 2, 1) := by decide +kernel
theorem dL_law__1851 : decode cL_law_ 1851 = .ok (.iadd, 1) := by decide +kernel
theorem dL_law__1852 : decode cL_law_ 1852 = .ok (.iaload, 1) := by decide +kernel
theorem dL_law__1853 : decode cL_law_ 1853 = .ok (.invokevirtual 216, 3) := by decide +kernel
theorem dL_law__1856 : decode cL_law_ 1856 = .ok (.aload_n 2, 1) := by decide +kernel
theorem dL_law__1857 : decode cL_law_ 1857 = .ok (.aload_n 0, 1) := by decide +kernel
theorem dL_law__1858 : decode cL_law_ 1858 = .ok (.iload 4, 2) := by decide +kernel
theorem dL_law__1860 : decode cL_law_ 1860 = .ok (.iconst 1, 1) := by decide +kernel
theorem dL_law__1861 : decode cL_law_ 1861 = .ok (.iadd, 1) := by decide +kernel
theorem dL_law__1862 : decode cL_law_ 1862 = .ok (.iaload, 1) := by decide +kernel
theorem dL_law__1863 : decode cL_law_ 1863 = .ok (.aload_n 0, 1) := by decide +kernel
theorem dL_law__1864 : decode cL_law_ 1864 = .ok (.iload 4, 2) := by decide +kernel
theorem dL_law__1866 : decode cL_law_ 1866 = .ok (.iconst 2, 1) := by decide +kernel
theorem dL_law__1867 : decode cL_law_ 1867 = .ok (.iadd, 1) := by decide +kernel
theorem dL_law__1868 : decode cL_law_ 1868 = .ok (.iaload, 1) := by decide +kernel
theorem dL_law__1869 : decode cL_law_ 1869 = .ok (.invokevirtual 219, 3) := by decide +kernel
theorem dL_law__1872 : decode cL_law_ 1872 = .ok (.if_icmp .eq 803, 3) := by decide +kernel
theorem dL_law__1875 : decode cL_law_ 1875 = .ok (.iconst 0, 1) := by decide +kernel
theorem dL_law__1876 : decode cL_law_ 1876 = .ok (.ireturn, 1) := by decide +kernel
theorem dL_law__1877 : decode cL_law_ 1877 = .ok (.aload_n 1, 1) := by decide +kernel
theorem dL_law__1878 : decode cL_law_ 1878 = .ok (.aload_n 0, 1) := by decide +kernel
theorem dL_law__1879 : decode cL_law_ 1879 = .ok (.iload 4, 2) := by decide +kernel
theorem dL_law__1881 : decode cL_law_ 1881 = .ok (.iconst 1, 1) := by decide +kernel
theorem dL_law__1882 : decode cL_law_ 1882 = .ok (.iadd, 1) := by decide +kernel
theorem dL_law__1883 : decode cL_law_ 1883 = .ok (.iaload, 1) := by decide +kernel
theorem dL_law__1884 : decode cL_law_ 1884 = .ok (.ifCond .eq 7, 3) := by decide +kernel
theorem dL_law__1887 : decode cL_law_ 1887 = .ok (.iconst 1, 1) := by decide +kernel
theorem dL_law__1888 : decode cL_law_ 1888 = .ok (.goto 4, 3) := by decide +kernel
theorem dL_law__1891 : decode cL_law_ 1891 = .ok (.iconst 0, 1) := by decide +kernel
theorem dL_law__1892 : decode cL_law_ 1892 = .ok (.invokevirtual 220, 3) := by decide +kernel
theorem dL_law__1895 : decode cL_law_ 1895 = .ok (.aload_n 2, 1) := by decide +kernel
theorem dL_law__1896 : decode cL_law_ 1896 = .ok (.aload_n 0, 1) := by decide +kernel
theorem dL_law__1897 : decode cL_law_ 1897 = .ok (.iload 4, 2) := by decide +kernel
theorem dL_law__1899 : decode cL_law_ 1899 = .ok (.iconst 1, 1) := by decide +kernel
theorem dL_law__1900 : decode cL_law_ 1900 = .ok (.iadd, 1) := by decide +kernel
theorem dL_law__1901 : decode cL_law_ 1901 = .ok (.iaload, 1) := by decide +kernel
theorem dL_law__1902 : decode cL_law_ 1902 = .ok (.ifCond .eq 7, 3) := by decide +kernel
theorem dL_law__1905 : decode cL_law_ 1905 = .ok (.iconst 1, 1) := by decide +kernel
theorem dL_law__1906 : decode cL_law_ 1906 = .ok (.goto 4, 3) := by decide +kernel
theorem dL_law__1909 : decode cL_law_ 1909 = .ok (.iconst 0, 1) := by decide +kernel
theorem dL_law__1910 : decode cL_law_ 1910 = .ok (.invokevirtual 223, 3) := by decide +kernel
theorem dL_law__1913 : decode cL_law_ 1913 = .ok (.if_icmp .eq 762, 3) := by decide +kernel
theorem dL_law__1916 : decode cL_law_ 1916 = .ok (.iconst 0, 1) := by decide +kernel
theorem dL_law__1917 : decode cL_law_ 1917 = .ok (.ireturn, 1) := by decide +kernel
theorem dL_law__1918 : decode cL_law_ 1918 = .ok (.aload_n 1, 1) := by decide +kernel
theorem dL_law__1919 : decode cL_law_ 1919 = .ok (.aload_n 0, 1) := by decide +kernel
theorem dL_law__1920 : decode cL_law_ 1920 = .ok (.iload 4, 2) := by decide +kernel
theorem dL_law__1922 : decode cL_law_ 1922 = .ok (.iconst 1, 1) := by decide +kernel
theorem dL_law__1923 : decode cL_law_ 1923 = .ok (.iadd, 1) := by decide +kernel
theorem dL_law__1924 : decode cL_law_ 1924 = .ok (.iaload, 1) := by decide +kernel
theorem dL_law__1925 : decode cL_law_ 1925 = .ok (.aload_n 3, 1) := by decide +kernel
theorem dL_law__1926 : decode cL_law_ 1926 = .ok (.invokestatic 224, 3) := by decide +kernel
theorem dL_law__1929 : decode cL_law_ 1929 = .ok (.istore 5, 2) := by decide +kernel
theorem dL_law__1931 : decode cL_law_ 1931 = .ok (.aload_n 2, 1) := by decide +kernel
theorem dL_law__1932 : decode cL_law_ 1932 = .ok (.aload_n 0, 1) := by decide +kernel
theorem dL_law__1933 : decode cL_law_ 1933 = .ok (.iload 4, 2) := by decide +kernel
theorem dL_law__1935 : decode cL_law_ 1935 = .ok (.iconst 1, 1) := by decide +kernel
theorem dL_law__1936 : decode cL_law_ 1936 = .ok (.iadd, 1) := by decide +kernel
theorem dL_law__1937 : decode cL_law_ 1937 = .ok (.iaload, 1) := by decide +kernel
theorem dL_law__1938 : decode cL_law_ 1938 = .ok (.invokevirtual 226, 3) := by decide +kernel
theorem dL_law__1941 : decode cL_law_ 1941 = .ok (.istore 6, 2) := by decide +kernel
theorem dL_law__1943 : decode cL_law_ 1943 = .ok (.aload_n 2, 1) := by decide +kernel
theorem dL_law__1944 : decode cL_law_ 1944 = .ok (.invokevirtual 136, 3) := by decide +kernel
theorem dL_law__1947 : decode cL_law_ 1947 = .ok (.iload 5, 2) := by decide +kernel
theorem dL_law__1949 : decode cL_law_ 1949 = .ok (.if_icmp .eq 5, 3) := by decide +kernel
theorem dL_law__1952 : decode cL_law_ 1952 = .ok (.iconst 0, 1) := by decide +kernel
theorem dL_law__1953 : decode cL_law_ 1953 = .ok (.ireturn, 1) := by decide +kernel
theorem dL_law__1954 : decode cL_law_ 1954 = .ok (.iload 5, 2) := by decide +kernel
theorem dL_law__1956 : decode cL_law_ 1956 = .ok (.ifCond .ne 15, 3) := by decide +kernel
theorem dL_law__1959 : decode cL_law_ 1959 = .ok (.aload_n 3, 1) := by decide +kernel
theorem dL_law__1960 : decode cL_law_ 1960 = .ok (.iconst 0, 1) := by decide +kernel
theorem dL_law__1961 : decode cL_law_ 1961 = .ok (.laload, 1) := by decide +kernel
theorem dL_law__1962 : decode cL_law_ 1962 = .ok (.iload 6, 2) := by decide +kernel
theorem dL_law__1964 : decode cL_law_ 1964 = .ok (.i2l, 1) := by decide +kernel
theorem dL_law__1965 : decode cL_law_ 1965 = .ok (.lcmp, 1) := by decide +kernel
theorem dL_law__1966 : decode cL_law_ 1966 = .ok (.ifCond .eq 5, 3) := by decide +kernel
theorem dL_law__1969 : decode cL_law_ 1969 = .ok (.iconst 0, 1) := by decide +kernel
theorem dL_law__1970 : decode cL_law_ 1970 = .ok (.ireturn, 1) := by decide +kernel
theorem dL_law__1971 : decode cL_law_ 1971 = .ok (.goto 704, 3) := by decide +kernel
theorem dL_law__1974 : decode cL_law_ 1974 = .ok (.aload_n 1, 1) := by decide +kernel
theorem dL_law__1975 : decode cL_law_ 1975 = .ok (.aload_n 0, 1) := by decide +kernel
theorem dL_law__1976 : decode cL_law_ 1976 = .ok (.iload 4, 2) := by decide +kernel
theorem dL_law__1978 : decode cL_law_ 1978 = .ok (.iconst 1, 1) := by decide +kernel
theorem dL_law__1979 : decode cL_law_ 1979 = .ok (.iadd, 1) := by decide +kernel
theorem dL_law__1980 : decode cL_law_ 1980 = .ok (.iaload, 1) := by decide +kernel
theorem dL_law__1981 : decode cL_law_ 1981 = .ok (.aload_n 0, 1) := by decide +kernel
theorem dL_law__1982 : decode cL_law_ 1982 = .ok (.iload 4, 2) := by decide +kernel
theorem dL_law__1984 : decode cL_law_ 1984 = .ok (.iconst 2, 1) := by decide +kernel
theorem dL_law__1985 : decode cL_law_ 1985 = .ok (.iadd, 1) := by decide +kernel
theorem dL_law__1986 : decode cL_law_ 1986 = .ok (.iaload, 1) := by decide +kernel
theorem dL_law__1987 : decode cL_law_ 1987 = .ok (.aload_n 3, 1) := by decide +kernel
theorem dL_law__1988 : decode cL_law_ 1988 = .ok (.invokestatic 227, 3) := by decide +kernel
theorem dL_law__1991 : decode cL_law_ 1991 = .ok (.istore 5, 2) := by decide +kernel
theorem dL_law__1993 : decode cL_law_ 1993 = .ok (.aload_n 2, 1) := by decide +kernel
theorem dL_law__1994 : decode cL_law_ 1994 = .ok (.aload_n 0, 1) := by decide +kernel
theorem dL_law__1995 : decode cL_law_ 1995 = .ok (.iload 4, 2) := by decide +kernel
theorem dL_law__1997 : decode cL_law_ 1997 = .ok (.iconst 1, 1) := by decide +kernel
theorem dL_law__1998 : decode cL_law_ 1998 = .ok (.iadd, 1) := by decide +kernel
theorem dL_law__1999 : decode cL_law_ 1999 = .ok (.iaload, 1) := by decide +kernel
theorem dL_law__2000 : decode cL_law_ 2000 = .ok (.aload_n 0, 1) := by decide +kernel
theorem dL_law__2001 : decode cL_law_ 2001 = .ok (.iload 4, 2) := by decide +kernel
theorem dL_law__2003 : decode cL_law_ 2003 = .ok (.iconst 2, 1) := by decide +kernel
theorem dL_law__2004 : decode cL_law_ 2004 = .ok (.iadd, 1) := by decide +kernel
theorem dL_law__2005 : decode cL_law_ 2005 = .ok (.iaload, 1) := by decide +kernel
theorem dL_law__2006 : decode cL_law_ 2006 = .ok (.invokevirtual 229, 3) := by decide +kernel
theorem dL_law__2009 : decode cL_law_ 2009 = .ok (.istore 6, 2) := by decide +kernel
theorem dL_law__2011 : decode cL_law_ 2011 = .ok (.aload_n 2, 1) := by decide +kernel
theorem dL_law__2012 : decode cL_law_ 2012 = .ok (.invokevirtual 136, 3) := by decide +kernel
theorem dL_law__2015 : decode cL_law_ 2015 = .ok (.iload 5, 2) := by decide +kernel
theorem dL_law__2017 : decode cL_law_ 2017 = .ok (.if_icmp .eq 5, 3) := by decide +kernel
theorem dL_law__2020 : decode cL_law_ 2020 = .ok (.iconst 0, 1) := by decide +kernel
theorem dL_law__2021 : decode cL_law_ 2021 = .ok (.ireturn, 1) := by decide +kernel
theorem dL_law__2022 : decode cL_law_ 2022 = .ok (.iload 5, 2) := by decide +kernel
theorem dL_law__2024 : decode cL_law_ 2024 = .ok (.ifCond .ne 15, 3) := by decide +kernel
theorem dL_law__2027 : decode cL_law_ 2027 = .ok (.aload_n 3, 1) := by decide +kernel
theorem dL_law__2028 : decode cL_law_ 2028 = .ok (.iconst 0, 1) := by decide +kernel
theorem dL_law__2029 : decode cL_law_ 2029 = .ok (.laload, 1) := by decide +kernel
theorem dL_law__2030 : decode cL_law_ 2030 = .ok (.iload 6, 2) := by decide +kernel
theorem dL_law__2032 : decode cL_law_ 2032 = .ok (.i2l, 1) := by decide +kernel
theorem dL_law__2033 : decode cL_law_ 2033 = .ok (.lcmp, 1) := by decide +kernel
theorem dL_law__2034 : decode cL_law_ 2034 = .ok (.ifCond .eq 5, 3) := by decide +kernel
theorem dL_law__2037 : decode cL_law_ 2037 = .ok (.iconst 0, 1) := by decide +kernel
theorem dL_law__2038 : decode cL_law_ 2038 = .ok (.ireturn, 1) := by decide +kernel
theorem dL_law__2039 : decode cL_law_ 2039 = .ok (.goto 636, 3) := by decide +kernel
theorem dL_law__2042 : decode cL_law_ 2042 = .ok (.aload_n 1, 1) := by decide +kernel
theorem dL_law__2043 : decode cL_law_ 2043 = .ok (.aload_n 0, 1) := by decide +kernel
theorem dL_law__2044 : decode cL_law_ 2044 = .ok (.iload 4, 2) := by decide +kernel
theorem dL_law__2046 : decode cL_law_ 2046 = .ok (.iconst 1, 1) := by decide +kernel
theorem dL_law__2047 : decode cL_law_ 2047 = .ok (.iadd, 1) := by decide +kernel
theorem dL_law__2048 : decode cL_law_ 2048 = .ok (.iaload, 1) := by decide +kernel
theorem dL_law__2049 : decode cL_law_ 2049 = .ok (.aload_n 0, 1) := by decide +kernel
theorem dL_law__2050 : decode cL_law_ 2050 = .ok (.iload 4, 2) := by decide +kernel
theorem dL_law__2052 : decode cL_law_ 2052 = .ok (.iconst 2, 1) := by decide +kernel
theorem dL_law__2053 : decode cL_law_ 2053 = .ok (.iadd, 1) := by decide +kernel
theorem dL_law__2054 : decode cL_law_ 2054 = .ok (.iaload, 1) := by decide +kernel
theorem dL_law__2055 : decode cL_law_ 2055 = .ok (.aload_n 3, 1) := by decide +kernel
theorem dL_law__2056 : decode cL_law_ 2056 = .ok (.invokestatic 230, 3) := by decide +kernel
theorem dL_law__2059 : decode cL_law_ 2059 = .ok (.istore 5, 2) := by decide +kernel
theorem dL_law__2061 : decode cL_law_ 2061 = .ok (.aload_n 2, 1) := by decide +kernel
theorem dL_law__2062 : decode cL_law_ 2062 = .ok (.aload_n 0, 1) := by decide +kernel
theorem dL_law__2063 : decode cL_law_ 2063 = .ok (.iload 4, 2) := by decide +kernel
theorem dL_law__2065 : decode cL_law_ 2065 = .ok (.iconst 1, 1) := by decide +kernel
theorem dL_law__2066 : decode cL_law_ 2066 = .ok (.iadd, 1) := by decide +kernel
theorem dL_law__2067 : decode cL_law_ 2067 = .ok (.iaload, 1) := by decide +kernel
theorem dL_law__2068 : decode cL_law_ 2068 = .ok (.aload_n 0, 1) := by decide +kernel
theorem dL_law__2069 : decode cL_law_ 2069 = .ok (.iload 4, 2) := by decide +kernel
theorem dL_law__2071 : decode cL_law_ 2071 = .ok (.iconst 2, 1) := by decide +kernel
theorem dL_law__2072 : decode cL_law_ 2072 = .ok (.iadd, 1) := by decide +kernel
theorem dL_law__2073 : decode cL_law_ 2073 = .ok (.iaload, 1) := by decide +kernel
theorem dL_law__2074 : decode cL_law_ 2074 = .ok (.invokevirtual 232, 3) := by decide +kernel
theorem dL_law__2077 : decode cL_law_ 2077 = .ok (.istore 6, 2) := by decide +kernel
theorem dL_law__2079 : decode cL_law_ 2079 = .ok (.aload_n 2, 1) := by decide +kernel
theorem dL_law__2080 : decode cL_law_ 2080 = .ok (.invokevirtual 136, 3) := by decide +kernel
theorem dL_law__2083 : decode cL_law_ 2083 = .ok (.iload 5, 2) := by decide +kernel
theorem dL_law__2085 : decode cL_law_ 2085 = .ok (.if_icmp .eq 5, 3) := by decide +kernel
theorem dL_law__2088 : decode cL_law_ 2088 = .ok (.iconst 0, 1) := by decide +kernel
theorem dL_law__2089 : decode cL_law_ 2089 = .ok (.ireturn, 1) := by decide +kernel
theorem dL_law__2090 : decode cL_law_ 2090 = .ok (.iload 5, 2) := by decide +kernel
theorem dL_law__2092 : decode cL_law_ 2092 = .ok (.ifCond .ne 15, 3) := by decide +kernel
theorem dL_law__2095 : decode cL_law_ 2095 = .ok (.aload_n 3, 1) := by decide +kernel
theorem dL_law__2096 : decode cL_law_ 2096 = .ok (.iconst 0, 1) := by decide +kernel
theorem dL_law__2097 : decode cL_law_ 2097 = .ok (.laload, 1) := by decide +kernel
theorem dL_law__2098 : decode cL_law_ 2098 = .ok (.iload 6, 2) := by decide +kernel
theorem dL_law__2100 : decode cL_law_ 2100 = .ok (.i2l, 1) := by decide +kernel
theorem dL_law__2101 : decode cL_law_ 2101 = .ok (.lcmp, 1) := by decide +kernel
theorem dL_law__2102 : decode cL_law_ 2102 = .ok (.ifCond .eq 5, 3) := by decide +kernel
theorem dL_law__2105 : decode cL_law_ 2105 = .ok (.iconst 0, 1) := by decide +kernel
theorem dL_law__2106 : decode cL_law_ 2106 = .ok (.ireturn, 1) := by decide +kernel
theorem dL_law__2107 : decode cL_law_ 2107 = .ok (.goto 568, 3) := by decide +kernel
theorem dL_law__2110 : decode cL_law_ 2110 = .ok (.aload_n 1, 1) := by decide +kernel
theorem dL_law__2111 : decode cL_law_ 2111 = .ok (.invokevirtual 233, 3) := by decide +kernel
theorem dL_law__2114 : decode cL_law_ 2114 = .ok (.aload_n 2, 1) := by decide +kernel
theorem dL_law__2115 : decode cL_law_ 2115 = .ok (.invokevirtual 236, 3) := by decide +kernel
theorem dL_law__2118 : decode cL_law_ 2118 = .ok (.if_icmp .eq 557, 3) := by decide +kernel
theorem dL_law__2121 : decode cL_law_ 2121 = .ok (.iconst 0, 1) := by decide +kernel
theorem dL_law__2122 : decode cL_law_ 2122 = .ok (.ireturn, 1) := by decide +kernel
theorem dL_law__2123 : decode cL_law_ 2123 = .ok (.aload_n 1, 1) := by decide +kernel
theorem dL_law__2124 : decode cL_law_ 2124 = .ok (.aload_n 0, 1) := by decide +kernel
theorem dL_law__2125 : decode cL_law_ 2125 = .ok (.iload 4, 2) := by decide +kernel
theorem dL_law__2127 : decode cL_law_ 2127 = .ok (.iconst 1, 1) := by decide +kernel
theorem dL_law__2128 : decode cL_law_ 2128 = .ok (.iadd, 1) := by decide +kernel
theorem dL_law__2129 : decode cL_law_ 2129 = .ok (.iaload, 1) := by decide +kernel
theorem dL_law__2130 : decode cL_law_ 2130 = .ok (.aload_n 0, 1) := by decide +kernel
theorem dL_law__2131 : decode cL_law_ 2131 = .ok (.iload 4, 2) := by decide +kernel
theorem dL_law__2133 : decode cL_law_ 2133 = .ok (.iconst 2, 1) := by decide +kernel
theorem dL_law__2134 : decode cL_law_ 2134 = .ok (.iadd, 1) := by decide +kernel
theorem dL_law__2135 : decode cL_law_ 2135 = .ok (.iaload, 1) := by decide +kernel
theorem dL_law__2136 : decode cL_law_ 2136 = .ok (.aload_n 3, 1) := by decide +kernel
theorem dL_law__2137 : decode cL_law_ 2137 = .ok (.invokestatic 237, 3) := by decide +kernel
theorem dL_law__2140 : decode cL_law_ 2140 = .ok (.istore 5, 2) := by decide +kernel
theorem dL_law__2142 : decode cL_law_ 2142 = .ok (.aload_n 2, 1) := by decide +kernel
theorem dL_law__2143 : decode cL_law_ 2143 = .ok (.aload_n 0, 1) := by decide +kernel
theorem dL_law__2144 : decode cL_law_ 2144 = .ok (.iload 4, 2) := by decide +kernel
theorem dL_law__2146 : decode cL_law_ 2146 = .ok (.iconst 1, 1) := by decide +kernel
theorem dL_law__2147 : decode cL_law_ 2147 = .ok (.iadd, 1) := by decide +kernel
theorem dL_law__2148 : decode cL_law_ 2148 = .ok (.iaload, 1) := by decide +kernel
theorem dL_law__2149 : decode cL_law_ 2149 = .ok (.aload_n 0, 1) := by decide +kernel
theorem dL_law__2150 : decode cL_law_ 2150 = .ok (.iload 4, 2) := by decide +kernel
theorem dL_law__2152 : decode cL_law_ 2152 = .ok (.iconst 2, 1) := by decide +kernel
theorem dL_law__2153 : decode cL_law_ 2153 = .ok (.iadd, 1) := by decide +kernel
theorem dL_law__2154 : decode cL_law_ 2154 = .ok (.iaload, 1) := by decide +kernel
theorem dL_law__2155 : decode cL_law_ 2155 = .ok (.invokevirtual 239, 3) := by decide +kernel
theorem dL_law__2158 : decode cL_law_ 2158 = .ok (.istore 6, 2) := by decide +kernel
theorem dL_law__2160 : decode cL_law_ 2160 = .ok (.aload_n 2, 1) := by decide +kernel
theorem dL_law__2161 : decode cL_law_ 2161 = .ok (.invokevirtual 136, 3) := by decide +kernel
theorem dL_law__2164 : decode cL_law_ 2164 = .ok (.iload 5, 2) := by decide +kernel
theorem dL_law__2166 : decode cL_law_ 2166 = .ok (.if_icmp .eq 5, 3) := by decide +kernel
theorem dL_law__2169 : decode cL_law_ 2169 = .ok (.iconst 0, 1) := by decide +kernel
theorem dL_law__2170 : decode cL_law_ 2170 = .ok (.ireturn, 1) := by decide +kernel
theorem dL_law__2171 : decode cL_law_ 2171 = .ok (.iload 5, 2) := by decide +kernel
theorem dL_law__2173 : decode cL_law_ 2173 = .ok (.ifCond .ne 15, 3) := by decide +kernel
theorem dL_law__2176 : decode cL_law_ 2176 = .ok (.aload_n 3, 1) := by decide +kernel
theorem dL_law__2177 : decode cL_law_ 2177 = .ok (.iconst 0, 1) := by decide +kernel
theorem dL_law__2178 : decode cL_law_ 2178 = .ok (.laload, 1) := by decide +kernel
theorem dL_law__2179 : decode cL_law_ 2179 = .ok (.iload 6, 2) := by decide +kernel
theorem dL_law__2181 : decode cL_law_ 2181 = .ok (.i2l, 1) := by decide +kernel
theorem dL_law__2182 : decode cL_law_ 2182 = .ok (.lcmp, 1) := by decide +kernel
theorem dL_law__2183 : decode cL_law_ 2183 = .ok (.ifCond .eq 5, 3) := by decide +kernel
theorem dL_law__2186 : decode cL_law_ 2186 = .ok (.iconst 0, 1) := by decide +kernel
theorem dL_law__2187 : decode cL_law_ 2187 = .ok (.ireturn, 1) := by decide +kernel
theorem dL_law__2188 : decode cL_law_ 2188 = .ok (.goto 487, 3) := by decide +kernel
theorem dL_law__2191 : decode cL_law_ 2191 = .ok (.aload_n 1, 1) := by decide +kernel
theorem dL_law__2192 : decode cL_law_ 2192 = .ok (.aload_n 0, 1) := by decide +kernel
theorem dL_law__2193 : decode cL_law_ 2193 = .ok (.iload 4, 2) := by decide +kernel
theorem dL_law__2195 : decode cL_law_ 2195 = .ok (.iconst 1, 1) := by decide +kernel
theorem dL_law__2196 : decode cL_law_ 2196 = .ok (.iadd, 1) := by decide +kernel
theorem dL_law__2197 : decode cL_law_ 2197 = .ok (.iaload, 1) := by decide +kernel
theorem dL_law__2198 : decode cL_law_ 2198 = .ok (.aload_n 0, 1) := by decide +kernel
theorem dL_law__2199 : decode cL_law_ 2199 = .ok (.iload 4, 2) := by decide +kernel
theorem dL_law__2201 : decode cL_law_ 2201 = .ok (.iconst 2, 1) := by decide +kernel
theorem dL_law__2202 : decode cL_law_ 2202 = .ok (.iadd, 1) := by decide +kernel
theorem dL_law__2203 : decode cL_law_ 2203 = .ok (.iaload, 1) := by decide +kernel
theorem dL_law__2204 : decode cL_law_ 2204 = .ok (.aload_n 3, 1) := by decide +kernel
theorem dL_law__2205 : decode cL_law_ 2205 = .ok (.invokestatic 240, 3) := by decide +kernel
theorem dL_law__2208 : decode cL_law_ 2208 = .ok (.istore 5, 2) := by decide +kernel
theorem dL_law__2210 : decode cL_law_ 2210 = .ok (.aload_n 2, 1) := by decide +kernel
theorem dL_law__2211 : decode cL_law_ 2211 = .ok (.aload_n 0, 1) := by decide +kernel
theorem dL_law__2212 : decode cL_law_ 2212 = .ok (.iload 4, 2) := by decide +kernel
theorem dL_law__2214 : decode cL_law_ 2214 = .ok (.iconst 1, 1) := by decide +kernel
theorem dL_law__2215 : decode cL_law_ 2215 = .ok (.iadd, 1) := by decide +kernel
theorem dL_law__2216 : decode cL_law_ 2216 = .ok (.iaload, 1) := by decide +kernel
theorem dL_law__2217 : decode cL_law_ 2217 = .ok (.aload_n 0, 1) := by decide +kernel
theorem dL_law__2218 : decode cL_law_ 2218 = .ok (.iload 4, 2) := by decide +kernel
theorem dL_law__2220 : decode cL_law_ 2220 = .ok (.iconst 2, 1) := by decide +kernel
theorem dL_law__2221 : decode cL_law_ 2221 = .ok (.iadd, 1) := by decide +kernel
theorem dL_law__2222 : decode cL_law_ 2222 = .ok (.iaload, 1) := by decide +kernel
theorem dL_law__2223 : decode cL_law_ 2223 = .ok (.invokevirtual 242, 3) := by decide +kernel
theorem dL_law__2226 : decode cL_law_ 2226 = .ok (.istore 6, 2) := by decide +kernel
theorem dL_law__2228 : decode cL_law_ 2228 = .ok (.aload_n 2, 1) := by decide +kernel
theorem dL_law__2229 : decode cL_law_ 2229 = .ok (.invokevirtual 136, 3) := by decide +kernel
theorem dL_law__2232 : decode cL_law_ 2232 = .ok (.iload 5, 2) := by decide +kernel
theorem dL_law__2234 : decode cL_law_ 2234 = .ok (.if_icmp .eq 5, 3) := by decide +kernel
theorem dL_law__2237 : decode cL_law_ 2237 = .ok (.iconst 0, 1) := by decide +kernel
theorem dL_law__2238 : decode cL_law_ 2238 = .ok (.ireturn, 1) := by decide +kernel
theorem dL_law__2239 : decode cL_law_ 2239 = .ok (.iload 5, 2) := by decide +kernel
theorem dL_law__2241 : decode cL_law_ 2241 = .ok (.ifCond .ne 15, 3) := by decide +kernel
theorem dL_law__2244 : decode cL_law_ 2244 = .ok (.aload_n 3, 1) := by decide +kernel
theorem dL_law__2245 : decode cL_law_ 2245 = .ok (.iconst 0, 1) := by decide +kernel
theorem dL_law__2246 : decode cL_law_ 2246 = .ok (.laload, 1) := by decide +kernel
theorem dL_law__2247 : decode cL_law_ 2247 = .ok (.iload 6, 2) := by decide +kernel
theorem dL_law__2249 : decode cL_law_ 2249 = .ok (.i2l, 1) := by decide +kernel
theorem dL_law__2250 : decode cL_law_ 2250 = .ok (.lcmp, 1) := by decide +kernel
theorem dL_law__2251 : decode cL_law_ 2251 = .ok (.ifCond .eq 5, 3) := by decide +kernel
theorem dL_law__2254 : decode cL_law_ 2254 = .ok (.iconst 0, 1) := by decide +kernel
theorem dL_law__2255 : decode cL_law_ 2255 = .ok (.ireturn, 1) := by decide +kernel
theorem dL_law__2256 : decode cL_law_ 2256 = .ok (.goto 419, 3) := by decide +kernel
theorem dL_law__2259 : decode cL_law_ 2259 = .ok (.aload_n 1, 1) := by decide +kernel
theorem dL_law__2260 : decode cL_law_ 2260 = .ok (.aload_n 0, 1) := by decide +kernel
theorem dL_law__2261 : decode cL_law_ 2261 = .ok (.iload 4, 2) := by decide +kernel
theorem dL_law__2263 : decode cL_law_ 2263 = .ok (.iconst 1, 1) := by decide +kernel
theorem dL_law__2264 : decode cL_law_ 2264 = .ok (.iadd, 1) := by decide +kernel
theorem dL_law__2265 : decode cL_law_ 2265 = .ok (.iaload, 1) := by decide +kernel
theorem dL_law__2266 : decode cL_law_ 2266 = .ok (.aload_n 0, 1) := by decide +kernel
theorem dL_law__2267 : decode cL_law_ 2267 = .ok (.iload 4, 2) := by decide +kernel
theorem dL_law__2269 : decode cL_law_ 2269 = .ok (.iconst 2, 1) := by decide +kernel
theorem dL_law__2270 : decode cL_law_ 2270 = .ok (.iadd, 1) := by decide +kernel
theorem dL_law__2271 : decode cL_law_ 2271 = .ok (.iaload, 1) := by decide +kernel
theorem dL_law__2272 : decode cL_law_ 2272 = .ok (.aload_n 3, 1) := by decide +kernel
theorem dL_law__2273 : decode cL_law_ 2273 = .ok (.invokestatic 243, 3) := by decide +kernel
theorem dL_law__2276 : decode cL_law_ 2276 = .ok (.istore 5, 2) := by decide +kernel
theorem dL_law__2278 : decode cL_law_ 2278 = .ok (.aload_n 2, 1) := by decide +kernel
theorem dL_law__2279 : decode cL_law_ 2279 = .ok (.aload_n 0, 1) := by decide +kernel
theorem dL_law__2280 : decode cL_law_ 2280 = .ok (.iload 4, 2) := by decide +kernel
theorem dL_law__2282 : decode cL_law_ 2282 = .ok (.iconst 1, 1) := by decide +kernel
theorem dL_law__2283 : decode cL_law_ 2283 = .ok (.iadd, 1) := by decide +kernel
theorem dL_law__2284 : decode cL_law_ 2284 = .ok (.iaload, 1) := by decide +kernel
theorem dL_law__2285 : decode cL_law_ 2285 = .ok (.aload_n 0, 1) := by decide +kernel
theorem dL_law__2286 : decode cL_law_ 2286 = .ok (.iload 4, 2) := by decide +kernel
theorem dL_law__2288 : decode cL_law_ 2288 = .ok (.iconst 2, 1) := by decide +kernel
theorem dL_law__2289 : decode cL_law_ 2289 = .ok (.iadd, 1) := by decide +kernel
theorem dL_law__2290 : decode cL_law_ 2290 = .ok (.iaload, 1) := by decide +kernel
theorem dL_law__2291 : decode cL_law_ 2291 = .ok (.invokevirtual 245, 3) := by decide +kernel
theorem dL_law__2294 : decode cL_law_ 2294 = .ok (.istore 6, 2) := by decide +kernel
theorem dL_law__2296 : decode cL_law_ 2296 = .ok (.aload_n 2, 1) := by decide +kernel
theorem dL_law__2297 : decode cL_law_ 2297 = .ok (.invokevirtual 136, 3) := by decide +kernel
theorem dL_law__2300 : decode cL_law_ 2300 = .ok (.iload 5, 2) := by decide +kernel
theorem dL_law__2302 : decode cL_law_ 2302 = .ok (.if_icmp .eq 5, 3) := by decide +kernel
theorem dL_law__2305 : decode cL_law_ 2305 = .ok (.iconst 0, 1) := by decide +kernel
theorem dL_law__2306 : decode cL_law_ 2306 = .ok (.ireturn, 1) := by decide +kernel
theorem dL_law__2307 : decode cL_law_ 2307 = .ok (.iload 5, 2) := by decide +kernel
theorem dL_law__2309 : decode cL_law_ 2309 = .ok (.ifCond .ne 15, 3) := by decide +kernel
theorem dL_law__2312 : decode cL_law_ 2312 = .ok (.aload_n 3, 1) := by decide +kernel
theorem dL_law__2313 : decode cL_law_ 2313 = .ok (.iconst 0, 1) := by decide +kernel
theorem dL_law__2314 : decode cL_law_ 2314 = .ok (.laload, 1) := by decide +kernel
theorem dL_law__2315 : decode cL_law_ 2315 = .ok (.iload 6, 2) := by decide +kernel
theorem dL_law__2317 : decode cL_law_ 2317 = .ok (.i2l, 1) := by decide +kernel
theorem dL_law__2318 : decode cL_law_ 2318 = .ok (.lcmp, 1) := by decide +kernel
theorem dL_law__2319 : decode cL_law_ 2319 = .ok (.ifCond .eq 5, 3) := by decide +kernel
theorem dL_law__2322 : decode cL_law_ 2322 = .ok (.iconst 0, 1) := by decide +kernel
theorem dL_law__2323 : decode cL_law_ 2323 = .ok (.ireturn, 1) := by decide +kernel
theorem dL_law__2324 : decode cL_law_ 2324 = .ok (.goto 351, 3) := by decide +kernel
theorem dL_law__2327 : decode cL_law_ 2327 = .ok (.aload_n 1, 1) := by decide +kernel
theorem dL_law__2328 : decode cL_law_ 2328 = .ok (.aload_n 0, 1) := by decide +kernel
theorem dL_law__2329 : decode cL_law_ 2329 = .ok (.iload 4, 2) := by decide +kernel
theorem dL_law__2331 : decode cL_law_ 2331 = .ok (.iconst 1, 1) := by decide +kernel
theorem dL_law__2332 : decode cL_law_ 2332 = .ok (.iadd, 1) := by decide +kernel
theorem dL_law__2333 : decode cL_law_ 2333 = .ok (.iaload, 1) := by decide +kernel
theorem dL_law__2334 : decode cL_law_ 2334 = .ok (.ifCond .eq 7, 3) := by decide +kernel
theorem dL_law__2337 : decode cL_law_ 2337 = .ok (.iconst 1, 1) := by decide +kernel
theorem dL_law__2338 : decode cL_law_ 2338 = .ok (.goto 4, 3) := by decide +kernel
theorem dL_law__2341 : decode cL_law_ 2341 = .ok (.iconst 0, 1) := by decide +kernel
theorem dL_law__2342 : decode cL_law_ 2342 = .ok (.invokevirtual 246, 3) := by decide +kernel
theorem dL_law__2345 : decode cL_law_ 2345 = .ok (.aload_n 2, 1) := by decide +kernel
theorem dL_law__2346 : decode cL_law_ 2346 = .ok (.aload_n 0, 1) := by decide +kernel
theorem dL_law__2347 : decode cL_law_ 2347 = .ok (.iload 4, 2) := by decide +kernel
theorem dL_law__2349 : decode cL_law_ 2349 = .ok (.iconst 1, 1) := by decide +kernel
theorem dL_law__2350 : decode cL_law_ 2350 = .ok (.iadd, 1) := by decide +kernel
theorem dL_law__2351 : decode cL_law_ 2351 = .ok (.iaload, 1) := by decide +kernel
theorem dL_law__2352 : decode cL_law_ 2352 = .ok (.ifCond .eq 7, 3) := by decide +kernel
theorem dL_law__2355 : decode cL_law_ 2355 = .ok (.iconst 1, 1) := by decide +kernel
theorem dL_law__2356 : decode cL_law_ 2356 = .ok (.goto 4, 3) := by decide +kernel
theorem dL_law__2359 : decode cL_law_ 2359 = .ok (.iconst 0, 1) := by decide +kernel
theorem dL_law__2360 : decode cL_law_ 2360 = .ok (.invokevirtual 249, 3) := by decide +kernel
theorem dL_law__2363 : decode cL_law_ 2363 = .ok (.if_icmp .eq 312, 3) := by decide +kernel
theorem dL_law__2366 : decode cL_law_ 2366 = .ok (.iconst 0, 1) := by decide +kernel
theorem dL_law__2367 : decode cL_law_ 2367 = .ok (.ireturn, 1) := by decide +kernel
theorem dL_law__2368 : decode cL_law_ 2368 = .ok (.aload_n 1, 1) := by decide +kernel
theorem dL_law__2369 : decode cL_law_ 2369 = .ok (.aload_n 0, 1) := by decide +kernel
theorem dL_law__2370 : decode cL_law_ 2370 = .ok (.iload 4, 2) := by decide +kernel
theorem dL_law__2372 : decode cL_law_ 2372 = .ok (.iconst 1, 1) := by decide +kernel
theorem dL_law__2373 : decode cL_law_ 2373 = .ok (.iadd, 1) := by decide +kernel
theorem dL_law__2374 : decode cL_law_ 2374 = .ok (.iaload, 1) := by decide +kernel
theorem dL_law__2375 : decode cL_law_ 2375 = .ok (.aload_n 0, 1) := by decide +kernel
theorem dL_law__2376 : decode cL_law_ 2376 = .ok (.iload 4, 2) := by decide +kernel
theorem dL_law__2378 : decode cL_law_ 2378 = .ok (.iconst 2, 1) := by decide +kernel
theorem dL_law__2379 : decode cL_law_ 2379 = .ok (.iadd, 1) := by decide +kernel
theorem dL_law__2380 : decode cL_law_ 2380 = .ok (.iaload, 1) := by decide +kernel
theorem dL_law__2381 : decode cL_law_ 2381 = .ok (.aload_n 3, 1) := by decide +kernel
theorem dL_law__2382 : decode cL_law_ 2382 = .ok (.invokestatic 250, 3) := by decide +kernel
theorem dL_law__2385 : decode cL_law_ 2385 = .ok (.istore 5, 2) := by decide +kernel
theorem dL_law__2387 : decode cL_law_ 2387 = .ok (.aload_n 2, 1) := by decide +kernel
theorem dL_law__2388 : decode cL_law_ 2388 = .ok (.aload_n 0, 1) := by decide +kernel
theorem dL_law__2389 : decode cL_law_ 2389 = .ok (.iload 4, 2) := by decide +kernel
theorem dL_law__2391 : decode cL_law_ 2391 = .ok (.iconst 1, 1) := by decide +kernel
theorem dL_law__2392 : decode cL_law_ 2392 = .ok (.iadd, 1) := by decide +kernel
theorem dL_law__2393 : decode cL_law_ 2393 = .ok (.iaload, 1) := by decide +kernel
theorem dL_law__2394 : decode cL_law_ 2394 = .ok (.aload_n 0, 1) := by decide +kernel
theorem dL_law__2395 : decode cL_law_ 2395 = .ok (.iload 4, 2) := by decide +kernel
theorem dL_law__2397 : decode cL_law_ 2397 = .ok (.iconst 2, 1) := by decide +kernel
theorem dL_law__2398 : decode cL_law_ 2398 = .ok (.iadd, 1) := by decide +kernel
theorem dL_law__2399 : decode cL_law_ 2399 = .ok (.iaload, 1) := by decide +kernel
theorem dL_law__2400 : decode cL_law_ 2400 = .ok (.invokevirtual 252, 3) := by decide +kernel
theorem dL_law__2403 : decode cL_law_ 2403 = .ok (.istore 6, 2) := by decide +kernel
theorem dL_law__2405 : decode cL_law_ 2405 = .ok (.aload_n 2, 1) := by decide +kernel
theorem dL_law__2406 : decode cL_law_ 2406 = .ok (.invokevirtual 136, 3) := by decide +kernel
theorem dL_law__2409 : decode cL_law_ 2409 = .ok (.iload 5, 2) := by decide +kernel
theorem dL_law__2411 : decode cL_law_ 2411 = .ok (.if_icmp .eq 5, 3) := by decide +kernel
theorem dL_law__2414 : decode cL_law_ 2414 = .ok (.iconst 0, 1) := by decide +kernel
theorem dL_law__2415 : decode cL_law_ 2415 = .ok (.ireturn, 1) := by decide +kernel
theorem dL_law__2416 : decode cL_law_ 2416 = .ok (.iload 5, 2) := by decide +kernel
theorem dL_law__2418 : decode cL_law_ 2418 = .ok (.ifCond .ne 15, 3) := by decide +kernel
theorem dL_law__2421 : decode cL_law_ 2421 = .ok (.aload_n 3, 1) := by decide +kernel
theorem dL_law__2422 : decode cL_law_ 2422 = .ok (.iconst 0, 1) := by decide +kernel
theorem dL_law__2423 : decode cL_law_ 2423 = .ok (.laload, 1) := by decide +kernel
theorem dL_law__2424 : decode cL_law_ 2424 = .ok (.iload 6, 2) := by decide +kernel
theorem dL_law__2426 : decode cL_law_ 2426 = .ok (.i2l, 1) := by decide +kernel
theorem dL_law__2427 : decode cL_law_ 2427 = .ok (.lcmp, 1) := by decide +kernel
theorem dL_law__2428 : decode cL_law_ 2428 = .ok (.ifCond .eq 5, 3) := by decide +kernel
theorem dL_law__2431 : decode cL_law_ 2431 = .ok (.iconst 0, 1) := by decide +kernel
theorem dL_law__2432 : decode cL_law_ 2432 = .ok (.ireturn, 1) := by decide +kernel
theorem dL_law__2433 : decode cL_law_ 2433 = .ok (.goto 242, 3) := by decide +kernel
theorem dL_law__2436 : decode cL_law_ 2436 = .ok (.aload_n 1, 1) := by decide +kernel
theorem dL_law__2437 : decode cL_law_ 2437 = .ok (.aload_n 0, 1) := by decide +kernel
theorem dL_law__2438 : decode cL_law_ 2438 = .ok (.iload 4, 2) := by decide +kernel
theorem dL_law__2440 : decode cL_law_ 2440 = .ok (.iconst 1, 1) := by decide +kernel
theorem dL_law__2441 : decode cL_law_ 2441 = .ok (.iadd, 1) := by decide +kernel
theorem dL_law__2442 : decode cL_law_ 2442 = .ok (.iaload, 1) := by decide +kernel
theorem dL_law__2443 : decode cL_law_ 2443 = .ok (.aload_n 0, 1) := by decide +kernel
theorem dL_law__2444 : decode cL_law_ 2444 = .ok (.iload 4, 2) := by decide +kernel
theorem dL_law__2446 : decode cL_law_ 2446 = .ok (.iconst 2, 1) := by decide +kernel
theorem dL_law__2447 : decode cL_law_ 2447 = .ok (.iadd, 1) := by decide +kernel
theorem dL_law__2448 : decode cL_law_ 2448 = .ok (.iaload, 1) := by decide +kernel
theorem dL_law__2449 : decode cL_law_ 2449 = .ok (.ifCond .eq 7, 3) := by decide +kernel
theorem dL_law__2452 : decode cL_law_ 2452 = .ok (.iconst 1, 1) := by decide +kernel
theorem dL_law__2453 : decode cL_law_ 2453 = .ok (.goto 4, 3) := by decide +kernel
theorem dL_law__2456 : decode cL_law_ 2456 = .ok (.iconst 0, 1) := by decide +kernel
theorem dL_law__2457 : decode cL_law_ 2457 = .ok (.aload_n 3, 1) := by decide +kernel
theorem dL_law__2458 : decode cL_law_ 2458 = .ok (.invokestatic 253, 3) := by decide +kernel
theorem dL_law__2461 : decode cL_law_ 2461 = .ok (.istore 5, 2) := by decide +kernel
theorem dL_law__2463 : decode cL_law_ 2463 = .ok (.aload_n 2, 1) := by decide +kernel
theorem dL_law__2464 : decode cL_law_ 2464 = .ok (.aload_n 0, 1) := by decide +kernel
theorem dL_law__2465 : decode cL_law_ 2465 = .ok (.iload 4, 2) := by decide +kernel
theorem dL_law__2467 : decode cL_law_ 2467 = .ok (.iconst 1, 1) := by decide +kernel
theorem dL_law__2468 : decode cL_law_ 2468 = .ok (.iadd, 1) := by decide +kernel
theorem dL_law__2469 : decode cL_law_ 2469 = .ok (.iaload, 1) := by decide +kernel
theorem dL_law__2470 : decode cL_law_ 2470 = .ok (.aload_n 0, 1) := by decide +kernel
theorem dL_law__2471 : decode cL_law_ 2471 = .ok (.iload 4, 2) := by decide +kernel
theorem dL_law__2473 : decode cL_law_ 2473 = .ok (.iconst 2, 1) := by decide +kernel
theorem dL_law__2474 : decode cL_law_ 2474 = .ok (.iadd, 1) := by decide +kernel
theorem dL_law__2475 : decode cL_law_ 2475 = .ok (.iaload, 1) := by decide +kernel
theorem dL_law__2476 : decode cL_law_ 2476 = .ok (.ifCond .eq 7, 3) := by decide +kernel
theorem dL_law__2479 : decode cL_law_ 2479 = .ok (.iconst 1, 1) := by decide +kernel
theorem dL_law__2480 : decode cL_law_ 2480 = .ok (.goto 4, 3) := by decide +kernel
theorem dL_law__2483 : decode cL_law_ 2483 = .ok (.iconst 0, 1) := by decide +kernel
theorem dL_law__2484 : decode cL_law_ 2484 = .ok (.invokevirtual 255, 3) := by decide +kernel
theorem dL_law__2487 : decode cL_law_ 2487 = .ok (.istore 6, 2) := by decide +kernel
theorem dL_law__2489 : decode cL_law_ 2489 = .ok (.aload_n 2, 1) := by decide +kernel
theorem dL_law__2490 : decode cL_law_ 2490 = .ok (.invokevirtual 136, 3) := by decide +kernel
theorem dL_law__2493 : decode cL_law_ 2493 = .ok (.iload 5, 2) := by decide +kernel
theorem dL_law__2495 : decode cL_law_ 2495 = .ok (.if_icmp .eq 5, 3) := by decide +kernel
theorem dL_law__2498 : decode cL_law_ 2498 = .ok (.iconst 0, 1) := by decide +kernel
theorem dL_law__2499 : decode cL_law_ 2499 = .ok (.ireturn, 1) := by decide +kernel
theorem dL_law__2500 : decode cL_law_ 2500 = .ok (.iload 5, 2) := by decide +kernel
theorem dL_law__2502 : decode cL_law_ 2502 = .ok (.ifCond .ne 15, 3) := by decide +kernel
theorem dL_law__2505 : decode cL_law_ 2505 = .ok (.aload_n 3, 1) := by decide +kernel
theorem dL_law__2506 : decode cL_law_ 2506 = .ok (.iconst 0, 1) := by decide +kernel
theorem dL_law__2507 : decode cL_law_ 2507 = .ok (.laload, 1) := by decide +kernel
theorem dL_law__2508 : decode cL_law_ 2508 = .ok (.iload 6, 2) := by decide +kernel
theorem dL_law__2510 : decode cL_law_ 2510 = .ok (.i2l, 1) := by decide +kernel
theorem dL_law__2511 : decode cL_law_ 2511 = .ok (.lcmp, 1) := by decide +kernel
theorem dL_law__2512 : decode cL_law_ 2512 = .ok (.ifCond .eq 5, 3) := by decide +kernel
theorem dL_law__2515 : decode cL_law_ 2515 = .ok (.iconst 0, 1) := by decide +kernel
theorem dL_law__2516 : decode cL_law_ 2516 = .ok (.ireturn, 1) := by decide +kernel
theorem dL_law__2517 : decode cL_law_ 2517 = .ok (.goto 158, 3) := by decide +kernel
theorem dL_law__2520 : decode cL_law_ 2520 = .ok (.aload_n 1, 1) := by decide +kernel
theorem dL_law__2521 : decode cL_law_ 2521 = .ok (.aload_n 0, 1) := by decide +kernel
theorem dL_law__2522 : decode cL_law_ 2522 = .ok (.iload 4, 2) := by decide +kernel
theorem dL_law__2524 : decode cL_law_ 2524 = .ok (.iconst 1, 1) := by decide +kernel
theorem dL_law__2525 : decode cL_law_ 2525 = .ok (.iadd, 1) := by decide +kernel
theorem dL_law__2526 : decode cL_law_ 2526 = .ok (.iaload, 1) := by decide +kernel
theorem dL_law__2527 : decode cL_law_ 2527 = .ok (.aload_n 0, 1) := by decide +kernel
theorem dL_law__2528 : decode cL_law_ 2528 = .ok (.iload 4, 2) := by decide +kernel
theorem dL_law__2530 : decode cL_law_ 2530 = .ok (.iconst 2, 1) := by decide +kernel
theorem dL_law__2531 : decode cL_law_ 2531 = .ok (.iadd, 1) := by decide +kernel
theorem dL_law__2532 : decode cL_law_ 2532 = .ok (.iaload, 1) := by decide +kernel
theorem dL_law__2533 : decode cL_law_ 2533 = .ok (.aload_n 3, 1) := by decide +kernel
theorem dL_law__2534 : decode cL_law_ 2534 = .ok (.invokestatic 256, 3) := by decide +kernel
theorem dL_law__2537 : decode cL_law_ 2537 = .ok (.istore 5, 2) := by decide +kernel
theorem dL_law__2539 : decode cL_law_ 2539 = .ok (.aload_n 2, 1) := by decide +kernel
theorem dL_law__2540 : decode cL_law_ 2540 = .ok (.aload_n 0, 1) := by decide +kernel
theorem dL_law__2541 : decode cL_law_ 2541 = .ok (.iload 4, 2) := by decide +kernel
theorem dL_law__2543 : decode cL_law_ 2543 = .ok (.iconst 1, 1) := by decide +kernel
theorem dL_law__2544 : decode cL_law_ 2544 = .ok (.iadd, 1) := by decide +kernel
theorem dL_law__2545 : decode cL_law_ 2545 = .ok (.iaload, 1) := by decide +kernel
theorem dL_law__2546 : decode cL_law_ 2546 = .ok (.aload_n 0, 1) := by decide +kernel
theorem dL_law__2547 : decode cL_law_ 2547 = .ok (.iload 4, 2) := by decide +kernel
theorem dL_law__2549 : decode cL_law_ 2549 = .ok (.iconst 2, 1) := by decide +kernel
theorem dL_law__2550 : decode cL_law_ 2550 = .ok (.iadd, 1) := by decide +kernel
theorem dL_law__2551 : decode cL_law_ 2551 = .ok (.iaload, 1) := by decide +kernel
theorem dL_law__2552 : decode cL_law_ 2552 = .ok (.invokevirtual 258, 3) := by decide +kernel
theorem dL_law__2555 : decode cL_law_ 2555 = .ok (.istore 6, 2) := by decide +kernel
theorem dL_law__2557 : decode cL_law_ 2557 = .ok (.aload_n 2, 1) := by decide +kernel
theorem dL_law__2558 : decode cL_law_ 2558 = .ok (.invokevirtual 136, 3) := by decide +kernel
theorem dL_law__2561 : decode cL_law_ 2561 = .ok (.iload 5, 2) := by decide +kernel
theorem dL_law__2563 : decode cL_law_ 2563 = .ok (.if_icmp .eq 5, 3) := by decide +kernel
theorem dL_law__2566 : decode cL_law_ 2566 = .ok (.iconst 0, 1) := by decide +kernel
theorem dL_law__2567 : decode cL_law_ 2567 = .ok (.ireturn, 1) := by decide +kernel
theorem dL_law__2568 : decode cL_law_ 2568 = .ok (.iload 5, 2) := by decide +kernel
theorem dL_law__2570 : decode cL_law_ 2570 = .ok (.ifCond .ne 15, 3) := by decide +kernel
theorem dL_law__2573 : decode cL_law_ 2573 = .ok (.aload_n 3, 1) := by decide +kernel
theorem dL_law__2574 : decode cL_law_ 2574 = .ok (.iconst 0, 1) := by decide +kernel
theorem dL_law__2575 : decode cL_law_ 2575 = .ok (.laload, 1) := by decide +kernel
theorem dL_law__2576 : decode cL_law_ 2576 = .ok (.iload 6, 2) := by decide +kernel
theorem dL_law__2578 : decode cL_law_ 2578 = .ok (.i2l, 1) := by decide +kernel
theorem dL_law__2579 : decode cL_law_ 2579 = .ok (.lcmp, 1) := by decide +kernel
theorem dL_law__2580 : decode cL_law_ 2580 = .ok (.ifCond .eq 5, 3) := by decide +kernel
theorem dL_law__2583 : decode cL_law_ 2583 = .ok (.iconst 0, 1) := by decide +kernel
theorem dL_law__2584 : decode cL_law_ 2584 = .ok (.ireturn, 1) := by decide +kernel
theorem dL_law__2585 : decode cL_law_ 2585 = .ok (.goto 90, 3) := by decide +kernel
theorem dL_law__2588 : decode cL_law_ 2588 = .ok (.aload_n 1, 1) := by decide +kernel
theorem dL_law__2589 : decode cL_law_ 2589 = .ok (.aload_n 0, 1) := by decide +kernel
theorem dL_law__2590 : decode cL_law_ 2590 = .ok (.iload 4, 2) := by decide +kernel
theorem dL_law__2592 : decode cL_law_ 2592 = .ok (.iconst 1, 1) := by decide +kernel
theorem dL_law__2593 : decode cL_law_ 2593 = .ok (.iadd, 1) := by decide +kernel
theorem dL_law__2594 : decode cL_law_ 2594 = .ok (.iaload, 1) := by decide +kernel
theorem dL_law__2595 : decode cL_law_ 2595 = .ok (.invokevirtual 259, 3) := by decide +kernel
theorem dL_law__2598 : decode cL_law_ 2598 = .ok (.aload_n 2, 1) := by decide +kernel
theorem dL_law__2599 : decode cL_law_ 2599 = .ok (.aload_n 0, 1) := by decide +kernel
theorem dL_law__2600 : decode cL_law_ 2600 = .ok (.iload 4, 2) := by decide +kernel
theorem dL_law__2602 : decode cL_law_ 2602 = .ok (.iconst 1, 1) := by decide +kernel
theorem dL_law__2603 : decode cL_law_ 2603 = .ok (.iadd, 1) := by decide +kernel
theorem dL_law__2604 : decode cL_law_ 2604 = .ok (.iaload, 1) := by decide +kernel
theorem dL_law__2605 : decode cL_law_ 2605 = .ok (.invokevirtual 262, 3) := by decide +kernel
theorem dL_law__2608 : decode cL_law_ 2608 = .ok (.if_icmp .eq 67, 3) := by decide +kernel
theorem dL_law__2611 : decode cL_law_ 2611 = .ok (.iconst 0, 1) := by decide +kernel
theorem dL_law__2612 : decode cL_law_ 2612 = .ok (.ireturn, 1) := by decide +kernel
theorem dL_law__2613 : decode cL_law_ 2613 = .ok (.aload_n 1, 1) := by decide +kernel
theorem dL_law__2614 : decode cL_law_ 2614 = .ok (.invokevirtual 263, 3) := by decide +kernel
theorem dL_law__2617 : decode cL_law_ 2617 = .ok (.aload_n 2, 1) := by decide +kernel
theorem dL_law__2618 : decode cL_law_ 2618 = .ok (.invokevirtual 267, 3) := by decide +kernel
theorem dL_law__2621 : decode cL_law_ 2621 = .ok (.if_icmp .eq 54, 3) := by decide +kernel
theorem dL_law__2624 : decode cL_law_ 2624 = .ok (.iconst 0, 1) := by decide +kernel
theorem dL_law__2625 : decode cL_law_ 2625 = .ok (.ireturn, 1) := by decide +kernel
theorem dL_law__2626 : decode cL_law_ 2626 = .ok (.aload_n 1, 1) := by decide +kernel
theorem dL_law__2627 : decode cL_law_ 2627 = .ok (.invokevirtual 268, 3) := by decide +kernel
theorem dL_law__2630 : decode cL_law_ 2630 = .ok (.aload_n 2, 1) := by decide +kernel
theorem dL_law__2631 : decode cL_law_ 2631 = .ok (.invokevirtual 271, 3) := by decide +kernel
theorem dL_law__2634 : decode cL_law_ 2634 = .ok (.goto 41, 3) := by decide +kernel
theorem dL_law__2637 : decode cL_law_ 2637 = .ok (.aload_n 1, 1) := by decide +kernel
theorem dL_law__2638 : decode cL_law_ 2638 = .ok (.invokevirtual 272, 3) := by decide +kernel
theorem dL_law__2641 : decode cL_law_ 2641 = .ok (.aload_n 2, 1) := by decide +kernel
theorem dL_law__2642 : decode cL_law_ 2642 = .ok (.invokevirtual 275, 3) := by decide +kernel
theorem dL_law__2645 : decode cL_law_ 2645 = .ok (.if_icmp .eq 30, 3) := by decide +kernel
theorem dL_law__2648 : decode cL_law_ 2648 = .ok (.iconst 0, 1) := by decide +kernel
theorem dL_law__2649 : decode cL_law_ 2649 = .ok (.ireturn, 1) := by decide +kernel
theorem dL_law__2650 : decode cL_law_ 2650 = .ok (.aload_n 1, 1) := by decide +kernel
theorem dL_law__2651 : decode cL_law_ 2651 = .ok (.aload_n 0, 1) := by decide +kernel
theorem dL_law__2652 : decode cL_law_ 2652 = .ok (.iload 4, 2) := by decide +kernel
theorem dL_law__2654 : decode cL_law_ 2654 = .ok (.iconst 1, 1) := by decide +kernel
theorem dL_law__2655 : decode cL_law_ 2655 = .ok (.iadd, 1) := by decide +kernel
theorem dL_law__2656 : decode cL_law_ 2656 = .ok (.iaload, 1) := by decide +kernel
theorem dL_law__2657 : decode cL_law_ 2657 = .ok (.invokevirtual 276, 3) := by decide +kernel
theorem dL_law__2660 : decode cL_law_ 2660 = .ok (.aload_n 2, 1) := by decide +kernel
theorem dL_law__2661 : decode cL_law_ 2661 = .ok (.aload_n 0, 1) := by decide +kernel
theorem dL_law__2662 : decode cL_law_ 2662 = .ok (.iload 4, 2) := by decide +kernel
theorem dL_law__2664 : decode cL_law_ 2664 = .ok (.iconst 1, 1) := by decide +kernel
theorem dL_law__2665 : decode cL_law_ 2665 = .ok (.iadd, 1) := by decide +kernel
theorem dL_law__2666 : decode cL_law_ 2666 = .ok (.iaload, 1) := by decide +kernel
theorem dL_law__2667 : decode cL_law_ 2667 = .ok (.invokevirtual 279, 3) := by decide +kernel
theorem dL_law__2670 : decode cL_law_ 2670 = .ok (.if_icmp .eq 5, 3) := by decide +kernel
theorem dL_law__2673 : decode cL_law_ 2673 = .ok (.iconst 0, 1) := by decide +kernel
theorem dL_law__2674 : decode cL_law_ 2674 = .ok (.ireturn, 1) := by decide +kernel
theorem dL_law__2675 : decode cL_law_ 2675 = .ok (.iinc 4 6, 3) := by decide +kernel
theorem dL_law__2678 : decode cL_law_ 2678 = .ok (.goto (-2655), 3) := by decide +kernel
theorem dL_law__2681 : decode cL_law_ 2681 = .ok (.iconst 1, 1) := by decide +kernel
theorem dL_law__2682 : decode cL_law_ 2682 = .ok (.ireturn, 1) := by decide +kernel
theorem kV_L_120 : CallV "CheekTownLaw" "CheekTown" 120 yX11_feed := ⟨rfl, tb2 94 (by decide +kernel) (by decide +kernel), tb2 95 (by decide +kernel) (by decide +kernel), tb2 96 (by decide +kernel) (by decide +kernel)⟩
theorem kc_X11_feed : CodeOK yX11_feed cX11_feed 6 (some .int) 5 := ⟨tb2 97 (by decide +kernel) (by decide +kernel), tb1 1 (by decide +kernel) (by decide +kernel), by decide +kernel⟩
theorem kV_L_124 : CallV "CheekTownLaw" "CheekTownModel" 124 yX12_feed := ⟨rfl, tb7 85 (by decide +kernel) (by decide +kernel), tb7 86 (by decide +kernel) (by decide +kernel), tb7 87 (by decide +kernel) (by decide +kernel)⟩
theorem kc_X12_feed : CodeOK yX12_feed cX12_feed 8 (some .int) 5 := ⟨tb7 88 (by decide +kernel) (by decide +kernel), tb1 10 (by decide +kernel) (by decide +kernel), by decide +kernel⟩
theorem kV_L_125 : CallV "CheekTownLaw" "CheekTown" 125 yX11_end := ⟨rfl, tb2 102 (by decide +kernel) (by decide +kernel), tb2 103 (by decide +kernel) (by decide +kernel), tb2 104 (by decide +kernel) (by decide +kernel)⟩
theorem kc_X11_end : CodeOK yX11_end cX11_end 2 (some .boolean) 1 := ⟨tb2 105 (by decide +kernel) (by decide +kernel), tb1 1 (by decide +kernel) (by decide +kernel), by decide +kernel⟩
theorem kV_L_129 : CallV "CheekTownLaw" "CheekTownModel" 129 yX12_end := ⟨rfl, tb7 89 (by decide +kernel) (by decide +kernel), tb7 90 (by decide +kernel) (by decide +kernel), tb7 91 (by decide +kernel) (by decide +kernel)⟩
theorem kc_X12_end : CodeOK yX12_end cX12_end 2 (some .boolean) 1 := ⟨tb7 92 (by decide +kernel) (by decide +kernel), tb1 10 (by decide +kernel) (by decide +kernel), by decide +kernel⟩
theorem kS_L_130 : CallS "CheekTownLaw" 130 yL_town := ⟨tb3 65 (by decide +kernel) (by decide +kernel), tb3 66 (by decide +kernel) (by decide +kernel)⟩
theorem kV_L_135 : CallV "CheekTownLaw" "CheekTownModel" 135 yX12_town := ⟨rfl, tb7 96 (by decide +kernel) (by decide +kernel), tb7 97 (by decide +kernel) (by decide +kernel), tb7 98 (by decide +kernel) (by decide +kernel)⟩
theorem kc_X12_town : CodeOK yX12_town cX12_town 2 (some .int) 0 := ⟨tb7 99 (by decide +kernel) (by decide +kernel), tb1 10 (by decide +kernel) (by decide +kernel), by decide +kernel⟩
theorem kV_L_136 : CallV "CheekTownLaw" "CheekTownModel" 136 yX12_thrown := ⟨rfl, tb7 81 (by decide +kernel) (by decide +kernel), tb7 82 (by decide +kernel) (by decide +kernel), tb7 83 (by decide +kernel) (by decide +kernel)⟩
theorem kc_X12_thrown : CodeOK yX12_thrown cX12_thrown 1 (some .int) 0 := ⟨tb7 84 (by decide +kernel) (by decide +kernel), tb1 10 (by decide +kernel) (by decide +kernel), by decide +kernel⟩
theorem kS_L_139 : CallS "CheekTownLaw" 139 yL_law := ⟨tb4 223 (by decide +kernel) (by decide +kernel), tb4 224 (by decide +kernel) (by decide +kernel)⟩
theorem kV_L_141 : CallV "CheekTownLaw" "CheekTownModel" 141 yX12_law := ⟨rfl, tb8 9 (by decide +kernel) (by decide +kernel), tb8 10 (by decide +kernel) (by decide +kernel), tb8 11 (by decide +kernel) (by decide +kernel)⟩
theorem kc_X12_law : CodeOK yX12_law cX12_law 3 (some .int) 0 := ⟨tb8 12 (by decide +kernel) (by decide +kernel), tb1 10 (by decide +kernel) (by decide +kernel), by decide +kernel⟩
theorem kV_L_142 : CallV "CheekTownLaw" "CheekTown" 142 yX11_fault := ⟨rfl, tb2 106 (by decide +kernel) (by decide +kernel), tb2 107 (by decide +kernel) (by decide +kernel), tb2 108 (by decide +kernel) (by decide +kernel)⟩
theorem kc_X11_fault : CodeOK yX11_fault cX11_fault 1 (some .int) 0 := ⟨tb2 109 (by decide +kernel) (by decide +kernel), tb1 1 (by decide +kernel) (by decide +kernel), by decide +kernel⟩
theorem kV_L_145 : CallV "CheekTownLaw" "CheekTownModel" 145 yX12_fault := ⟨rfl, tb8 13 (by decide +kernel) (by decide +kernel), tb8 14 (by decide +kernel) (by decide +kernel), tb8 15 (by decide +kernel) (by decide +kernel)⟩
theorem kc_X12_fault : CodeOK yX12_fault cX12_fault 1 (some .int) 0 := ⟨tb8 16 (by decide +kernel) (by decide +kernel), tb1 10 (by decide +kernel) (by decide +kernel), by decide +kernel⟩
theorem kS_L_146 : CallS "CheekTownLaw" 146 yL_cost := ⟨tb5 39 (by decide +kernel) (by decide +kernel), tb5 40 (by decide +kernel) (by decide +kernel)⟩
theorem kV_L_149 : CallV "CheekTownLaw" "CheekTownModel" 149 yX12_cost := ⟨rfl, tb8 17 (by decide +kernel) (by decide +kernel), tb8 18 (by decide +kernel) (by decide +kernel), tb8 19 (by decide +kernel) (by decide +kernel)⟩
theorem kc_X12_cost : CodeOK yX12_cost cX12_cost 3 (some .int) 2 := ⟨tb8 20 (by decide +kernel) (by decide +kernel), tb1 10 (by decide +kernel) (by decide +kernel), by decide +kernel⟩
theorem kS_L_150 : CallS "CheekTownLaw" 150 yL_habit := ⟨tb5 67 (by decide +kernel) (by decide +kernel), tb5 68 (by decide +kernel) (by decide +kernel)⟩
theorem kV_L_152 : CallV "CheekTownLaw" "CheekTownModel" 152 yX12_habit := ⟨rfl, tb8 31 (by decide +kernel) (by decide +kernel), tb8 32 (by decide +kernel) (by decide +kernel), tb8 33 (by decide +kernel) (by decide +kernel)⟩
theorem kc_X12_habit : CodeOK yX12_habit cX12_habit 3 (some .int) 2 := ⟨tb8 34 (by decide +kernel) (by decide +kernel), tb1 10 (by decide +kernel) (by decide +kernel), by decide +kernel⟩
theorem kS_L_153 : CallS "CheekTownLaw" 153 yL_person := ⟨tb5 83 (by decide +kernel) (by decide +kernel), tb5 84 (by decide +kernel) (by decide +kernel)⟩
theorem kV_L_155 : CallV "CheekTownLaw" "CheekTownModel" 155 yX12_person := ⟨rfl, tb8 43 (by decide +kernel) (by decide +kernel), tb8 44 (by decide +kernel) (by decide +kernel), tb8 45 (by decide +kernel) (by decide +kernel)⟩
theorem kc_X12_person : CodeOK yX12_person cX12_person 3 (some .int) 2 := ⟨tb8 46 (by decide +kernel) (by decide +kernel), tb1 10 (by decide +kernel) (by decide +kernel), by decide +kernel⟩
theorem kS_L_156 : CallS "CheekTownLaw" 156 yL_saw := ⟨tb5 119 (by decide +kernel) (by decide +kernel), tb5 120 (by decide +kernel) (by decide +kernel)⟩
theorem kV_L_159 : CallV "CheekTownLaw" "CheekTownModel" 159 yX12_saw := ⟨rfl, tb8 59 (by decide +kernel) (by decide +kernel), tb8 60 (by decide +kernel) (by decide +kernel), tb8 61 (by decide +kernel) (by decide +kernel)⟩
theorem kc_X12_saw : CodeOK yX12_saw cX12_saw 4 (some .int) 3 := ⟨tb8 62 (by decide +kernel) (by decide +kernel), tb1 10 (by decide +kernel) (by decide +kernel), by decide +kernel⟩
theorem kS_L_160 : CallS "CheekTownLaw" 160 yL_tie := ⟨tb5 131 (by decide +kernel) (by decide +kernel), tb5 132 (by decide +kernel) (by decide +kernel)⟩
theorem kV_L_163 : CallV "CheekTownLaw" "CheekTownModel" 163 yX12_tie := ⟨rfl, tb8 67 (by decide +kernel) (by decide +kernel), tb8 68 (by decide +kernel) (by decide +kernel), tb8 69 (by decide +kernel) (by decide +kernel)⟩
theorem kc_X12_tie : CodeOK yX12_tie cX12_tie 3 (some .int) 2 := ⟨tb8 70 (by decide +kernel) (by decide +kernel), tb1 10 (by decide +kernel) (by decide +kernel), by decide +kernel⟩
theorem kS_L_164 : CallS "CheekTownLaw" 164 yL_will := ⟨tb5 143 (by decide +kernel) (by decide +kernel), tb5 144 (by decide +kernel) (by decide +kernel)⟩
theorem kV_L_166 : CallV "CheekTownLaw" "CheekTownModel" 166 yX12_will := ⟨rfl, tb8 71 (by decide +kernel) (by decide +kernel), tb8 72 (by decide +kernel) (by decide +kernel), tb8 73 (by decide +kernel) (by decide +kernel)⟩
theorem kc_X12_will : CodeOK yX12_will cX12_will 3 (some .int) 2 := ⟨tb8 74 (by decide +kernel) (by decide +kernel), tb1 10 (by decide +kernel) (by decide +kernel), by decide +kernel⟩
theorem kS_L_167 : CallS "CheekTownLaw" 167 yL_meet := ⟨tb5 168 (by decide +kernel) (by decide +kernel), tb5 169 (by decide +kernel) (by decide +kernel)⟩
theorem kV_L_169 : CallV "CheekTownLaw" "CheekTownModel" 169 yX12_meet := ⟨rfl, tb8 79 (by decide +kernel) (by decide +kernel), tb8 80 (by decide +kernel) (by decide +kernel), tb8 81 (by decide +kernel) (by decide +kernel)⟩
theorem kc_X12_meet : CodeOK yX12_meet cX12_meet 3 (some .int) 2 := ⟨tb8 82 (by decide +kernel) (by decide +kernel), tb1 10 (by decide +kernel) (by decide +kernel), by decide +kernel⟩
theorem kS_L_170 : CallS "CheekTownLaw" 170 yL_rounds := ⟨tb5 217 (by decide +kernel) (by decide +kernel), tb5 218 (by decide +kernel) (by decide +kernel)⟩
theorem kV_L_173 : CallV "CheekTownLaw" "CheekTownModel" 173 yX12_rounds := ⟨rfl, tb8 106 (by decide +kernel) (by decide +kernel), tb8 107 (by decide +kernel) (by decide +kernel), tb8 108 (by decide +kernel) (by decide +kernel)⟩
theorem kc_X12_rounds : CodeOK yX12_rounds cX12_rounds 2 (some .int) 1 := ⟨tb8 109 (by decide +kernel) (by decide +kernel), tb1 10 (by decide +kernel) (by decide +kernel), by decide +kernel⟩
theorem kS_L_174 : CallS "CheekTownLaw" 174 yL_own := ⟨tb5 233 (by decide +kernel) (by decide +kernel), tb5 234 (by decide +kernel) (by decide +kernel)⟩
theorem kV_L_176 : CallV "CheekTownLaw" "CheekTownModel" 176 yX12_own := ⟨rfl, tb8 114 (by decide +kernel) (by decide +kernel), tb8 115 (by decide +kernel) (by decide +kernel), tb8 116 (by decide +kernel) (by decide +kernel)⟩
theorem kc_X12_own : CodeOK yX12_own cX12_own 4 (some .int) 2 := ⟨tb8 117 (by decide +kernel) (by decide +kernel), tb1 10 (by decide +kernel) (by decide +kernel), by decide +kernel⟩
theorem kS_L_177 : CallS "CheekTownLaw" 177 yL_cold := ⟨tb6 0 (by decide +kernel) (by decide +kernel), tb6 1 (by decide +kernel) (by decide +kernel)⟩
theorem kV_L_179 : CallV "CheekTownLaw" "CheekTownModel" 179 yX12_cold := ⟨rfl, tb8 118 (by decide +kernel) (by decide +kernel), tb8 119 (by decide +kernel) (by decide +kernel), tb8 120 (by decide +kernel) (by decide +kernel)⟩
theorem kc_X12_cold : CodeOK yX12_cold cX12_cold 4 (some .boolean) 2 := ⟨tb8 121 (by decide +kernel) (by decide +kernel), tb1 10 (by decide +kernel) (by decide +kernel), by decide +kernel⟩
theorem kS_L_180 : CallS "CheekTownLaw" 180 yL_ties := ⟨tb6 7 (by decide +kernel) (by decide +kernel), tb6 8 (by decide +kernel) (by decide +kernel)⟩
theorem kV_L_182 : CallV "CheekTownLaw" "CheekTownModel" 182 yX12_ties := ⟨rfl, tb8 122 (by decide +kernel) (by decide +kernel), tb8 123 (by decide +kernel) (by decide +kernel), tb8 124 (by decide +kernel) (by decide +kernel)⟩
theorem kc_X12_ties : CodeOK yX12_ties cX12_ties 3 (some .int) 2 := ⟨tb8 125 (by decide +kernel) (by decide +kernel), tb1 10 (by decide +kernel) (by decide +kernel), by decide +kernel⟩
theorem kS_L_183 : CallS "CheekTownLaw" 183 yL_cut := ⟨tb6 34 (by decide +kernel) (by decide +kernel), tb6 35 (by decide +kernel) (by decide +kernel)⟩
theorem kV_L_185 : CallV "CheekTownLaw" "CheekTownModel" 185 yX12_cut := ⟨rfl, tb8 126 (by decide +kernel) (by decide +kernel), tb8 127 (by decide +kernel) (by decide +kernel), tb8 128 (by decide +kernel) (by decide +kernel)⟩
theorem kc_X12_cut : CodeOK yX12_cut cX12_cut 3 (some .int) 1 := ⟨tb8 129 (by decide +kernel) (by decide +kernel), tb1 10 (by decide +kernel) (by decide +kernel), by decide +kernel⟩
theorem kS_L_186 : CallS "CheekTownLaw" 186 yL_feast := ⟨tb6 45 (by decide +kernel) (by decide +kernel), tb6 46 (by decide +kernel) (by decide +kernel)⟩
theorem kV_L_188 : CallV "CheekTownLaw" "CheekTownModel" 188 yX12_feast := ⟨rfl, tb8 130 (by decide +kernel) (by decide +kernel), tb8 131 (by decide +kernel) (by decide +kernel), tb8 132 (by decide +kernel) (by decide +kernel)⟩
theorem kc_X12_feast : CodeOK yX12_feast cX12_feast 5 (some .int) 2 := ⟨tb8 133 (by decide +kernel) (by decide +kernel), tb1 10 (by decide +kernel) (by decide +kernel), by decide +kernel⟩
theorem kS_L_189 : CallS "CheekTownLaw" 189 yL_expected := ⟨tb6 52 (by decide +kernel) (by decide +kernel), tb6 53 (by decide +kernel) (by decide +kernel)⟩
theorem kV_L_191 : CallV "CheekTownLaw" "CheekTownModel" 191 yX12_expected := ⟨rfl, tb8 137 (by decide +kernel) (by decide +kernel), tb8 138 (by decide +kernel) (by decide +kernel), tb8 139 (by decide +kernel) (by decide +kernel)⟩
theorem kc_X12_expected : CodeOK yX12_expected cX12_expected 3 (some .int) 2 := ⟨tb8 140 (by decide +kernel) (by decide +kernel), tb1 10 (by decide +kernel) (by decide +kernel), by decide +kernel⟩
theorem kS_L_192 : CallS "CheekTownLaw" 192 yL_best := ⟨tb6 59 (by decide +kernel) (by decide +kernel), tb6 60 (by decide +kernel) (by decide +kernel)⟩
theorem kV_L_194 : CallV "CheekTownLaw" "CheekTownModel" 194 yX12_best := ⟨rfl, tb8 145 (by decide +kernel) (by decide +kernel), tb8 146 (by decide +kernel) (by decide +kernel), tb8 147 (by decide +kernel) (by decide +kernel)⟩
theorem kc_X12_best : CodeOK yX12_best cX12_best 2 (some .int) 1 := ⟨tb8 148 (by decide +kernel) (by decide +kernel), tb1 10 (by decide +kernel) (by decide +kernel), by decide +kernel⟩
theorem kV_L_195 : CallV "CheekTownLaw" "CheekTown" 195 yX11_safest := ⟨rfl, tb2 110 (by decide +kernel) (by decide +kernel), tb2 111 (by decide +kernel) (by decide +kernel), tb2 112 (by decide +kernel) (by decide +kernel)⟩
theorem kc_X11_safest : CodeOK yX11_safest cX11_safest 3 (some .int) 1 := ⟨tb2 113 (by decide +kernel) (by decide +kernel), tb1 1 (by decide +kernel) (by decide +kernel), by decide +kernel⟩
theorem kV_L_198 : CallV "CheekTownLaw" "CheekTownModel" 198 yX12_safest := ⟨rfl, tb8 153 (by decide +kernel) (by decide +kernel), tb8 154 (by decide +kernel) (by decide +kernel), tb8 155 (by decide +kernel) (by decide +kernel)⟩
theorem kc_X12_safest : CodeOK yX12_safest cX12_safest 4 (some .int) 1 := ⟨tb8 156 (by decide +kernel) (by decide +kernel), tb1 10 (by decide +kernel) (by decide +kernel), by decide +kernel⟩
theorem kS_L_199 : CallS "CheekTownLaw" 199 yL_odds := ⟨tb6 66 (by decide +kernel) (by decide +kernel), tb6 67 (by decide +kernel) (by decide +kernel)⟩
theorem kV_L_201 : CallV "CheekTownLaw" "CheekTownModel" 201 yX12_odds := ⟨rfl, tb8 161 (by decide +kernel) (by decide +kernel), tb8 162 (by decide +kernel) (by decide +kernel), tb8 163 (by decide +kernel) (by decide +kernel)⟩
theorem kc_X12_odds : CodeOK yX12_odds cX12_odds 3 (some .int) 2 := ⟨tb8 164 (by decide +kernel) (by decide +kernel), tb1 10 (by decide +kernel) (by decide +kernel), by decide +kernel⟩
theorem kS_L_202 : CallS "CheekTownLaw" 202 yL_from := ⟨tb6 77 (by decide +kernel) (by decide +kernel), tb6 78 (by decide +kernel) (by decide +kernel)⟩
theorem kV_L_205 : CallV "CheekTownLaw" "CheekTownModel" 205 yX12_from := ⟨rfl, tb8 165 (by decide +kernel) (by decide +kernel), tb8 166 (by decide +kernel) (by decide +kernel), tb8 167 (by decide +kernel) (by decide +kernel)⟩
theorem kc_X12_from : CodeOK yX12_from cX12_from 7 (some .int) 1 := ⟨tb8 168 (by decide +kernel) (by decide +kernel), tb1 10 (by decide +kernel) (by decide +kernel), by decide +kernel⟩
theorem kV_L_206 : CallV "CheekTownLaw" "CheekTown" 206 yX11_worth := ⟨rfl, tb2 142 (by decide +kernel) (by decide +kernel), tb2 143 (by decide +kernel) (by decide +kernel), tb2 144 (by decide +kernel) (by decide +kernel)⟩
theorem kc_X11_worth : CodeOK yX11_worth cX11_worth 5 (some .int) 0 := ⟨tb2 145 (by decide +kernel) (by decide +kernel), tb1 1 (by decide +kernel) (by decide +kernel), by decide +kernel⟩
theorem kV_L_209 : CallV "CheekTownLaw" "CheekTownModel" 209 yX12_worth := ⟨rfl, tb8 173 (by decide +kernel) (by decide +kernel), tb8 174 (by decide +kernel) (by decide +kernel), tb8 175 (by decide +kernel) (by decide +kernel)⟩
theorem kc_X12_worth : CodeOK yX12_worth cX12_worth 3 (some .int) 0 := ⟨tb8 176 (by decide +kernel) (by decide +kernel), tb1 10 (by decide +kernel) (by decide +kernel), by decide +kernel⟩
theorem kS_L_210 : CallS "CheekTownLaw" 210 yL_rests := ⟨tb6 101 (by decide +kernel) (by decide +kernel), tb6 102 (by decide +kernel) (by decide +kernel)⟩
theorem kV_L_212 : CallV "CheekTownLaw" "CheekTownModel" 212 yX12_rests := ⟨rfl, tb8 185 (by decide +kernel) (by decide +kernel), tb8 186 (by decide +kernel) (by decide +kernel), tb8 187 (by decide +kernel) (by decide +kernel)⟩
theorem kc_X12_rests : CodeOK yX12_rests cX12_rests 7 (some .int) 2 := ⟨tb8 188 (by decide +kernel) (by decide +kernel), tb1 10 (by decide +kernel) (by decide +kernel), by decide +kernel⟩
theorem kS_L_213 : CallS "CheekTownLaw" 213 yL_sake := ⟨tb6 112 (by decide +kernel) (by decide +kernel), tb6 113 (by decide +kernel) (by decide +kernel)⟩
theorem kV_L_215 : CallV "CheekTownLaw" "CheekTownModel" 215 yX12_sake := ⟨rfl, tb8 193 (by decide +kernel) (by decide +kernel), tb8 194 (by decide +kernel) (by decide +kernel), tb8 195 (by decide +kernel) (by decide +kernel)⟩
theorem kc_X12_sake : CodeOK yX12_sake cX12_sake 8 (some .int) 3 := ⟨tb8 196 (by decide +kernel) (by decide +kernel), tb1 10 (by decide +kernel) (by decide +kernel), by decide +kernel⟩
theorem kV_L_216 : CallV "CheekTownLaw" "CheekTown" 216 yX11_table := ⟨rfl, tb2 164 (by decide +kernel) (by decide +kernel), tb2 165 (by decide +kernel) (by decide +kernel), tb2 166 (by decide +kernel) (by decide +kernel)⟩
theorem kc_X11_table : CodeOK yX11_table cX11_table 4 (some .int) 2 := ⟨tb2 167 (by decide +kernel) (by decide +kernel), tb1 1 (by decide +kernel) (by decide +kernel), by decide +kernel⟩
theorem kV_L_219 : CallV "CheekTownLaw" "CheekTownModel" 219 yX12_table := ⟨rfl, tb8 200 (by decide +kernel) (by decide +kernel), tb8 201 (by decide +kernel) (by decide +kernel), tb8 202 (by decide +kernel) (by decide +kernel)⟩
theorem kc_X12_table : CodeOK yX12_table cX12_table 5 (some .int) 2 := ⟨tb8 203 (by decide +kernel) (by decide +kernel), tb1 10 (by decide +kernel) (by decide +kernel), by decide +kernel⟩
theorem kV_L_220 : CallV "CheekTownLaw" "CheekTown" 220 yX11_pairs := ⟨rfl, tb2 205 (by decide +kernel) (by decide +kernel), tb2 206 (by decide +kernel) (by decide +kernel), tb2 207 (by decide +kernel) (by decide +kernel)⟩
theorem kc_X11_pairs : CodeOK yX11_pairs cX11_pairs 6 (some .int) 1 := ⟨tb2 208 (by decide +kernel) (by decide +kernel), tb1 1 (by decide +kernel) (by decide +kernel), by decide +kernel⟩
theorem kV_L_223 : CallV "CheekTownLaw" "CheekTownModel" 223 yX12_pairs := ⟨rfl, tb8 212 (by decide +kernel) (by decide +kernel), tb8 213 (by decide +kernel) (by decide +kernel), tb8 214 (by decide +kernel) (by decide +kernel)⟩
theorem kc_X12_pairs : CodeOK yX12_pairs cX12_pairs 6 (some .int) 1 := ⟨tb8 215 (by decide +kernel) (by decide +kernel), tb1 10 (by decide +kernel) (by decide +kernel), by decide +kernel⟩
theorem kS_L_224 : CallS "CheekTownLaw" 224 yL_begins := ⟨tb6 122 (by decide +kernel) (by decide +kernel), tb6 123 (by decide +kernel) (by decide +kernel)⟩
theorem kV_L_226 : CallV "CheekTownLaw" "CheekTownModel" 226 yX12_begins_ := ⟨rfl, tb8 220 (by decide +kernel) (by decide +kernel), tb8 221 (by decide +kernel) (by decide +kernel), tb8 222 (by decide +kernel) (by decide +kernel)⟩
theorem kc_X12_begins_ : CodeOK yX12_begins_ cX12_begins_ 4 (some .int) 1 := ⟨tb8 223 (by decide +kernel) (by decide +kernel), tb1 10 (by decide +kernel) (by decide +kernel), by decide +kernel⟩
theorem kS_L_227 : CallS "CheekTownLaw" 227 yL_after := ⟨tb6 137 (by decide +kernel) (by decide +kernel), tb6 138 (by decide +kernel) (by decide +kernel)⟩
theorem kV_L_229 : CallV "CheekTownLaw" "CheekTownModel" 229 yX12_after := ⟨rfl, tb8 232 (by decide +kernel) (by decide +kernel), tb8 233 (by decide +kernel) (by decide +kernel), tb8 234 (by decide +kernel) (by decide +kernel)⟩
theorem kc_X12_after : CodeOK yX12_after cX12_after 6 (some .int) 2 := ⟨tb8 235 (by decide +kernel) (by decide +kernel), tb1 10 (by decide +kernel) (by decide +kernel), by decide +kernel⟩
theorem kS_L_230 : CallS "CheekTownLaw" 230 yL_custom := ⟨tb6 167 (by decide +kernel) (by decide +kernel), tb6 168 (by decide +kernel) (by decide +kernel)⟩
theorem kV_L_232 : CallV "CheekTownLaw" "CheekTownModel" 232 yX12_custom := ⟨rfl, tb9 16 (by decide +kernel) (by decide +kernel), tb9 17 (by decide +kernel) (by decide +kernel), tb9 18 (by decide +kernel) (by decide +kernel)⟩
theorem kc_X12_custom : CodeOK yX12_custom cX12_custom 3 (some .int) 2 := ⟨tb9 19 (by decide +kernel) (by decide +kernel), tb1 10 (by decide +kernel) (by decide +kernel), by decide +kernel⟩
theorem kV_L_233 : CallV "CheekTownLaw" "CheekTown" 233 yX11_still := ⟨rfl, tb2 218 (by decide +kernel) (by decide +kernel), tb2 219 (by decide +kernel) (by decide +kernel), tb2 220 (by decide +kernel) (by decide +kernel)⟩
theorem kc_X11_still : CodeOK yX11_still cX11_still 2 (some .int) 0 := ⟨tb2 221 (by decide +kernel) (by decide +kernel), tb1 1 (by decide +kernel) (by decide +kernel), by decide +kernel⟩
theorem kV_L_236 : CallV "CheekTownLaw" "CheekTownModel" 236 yX12_still := ⟨rfl, tb9 20 (by decide +kernel) (by decide +kernel), tb9 21 (by decide +kernel) (by decide +kernel), tb9 22 (by decide +kernel) (by decide +kernel)⟩
theorem kc_X12_still : CodeOK yX12_still cX12_still 2 (some .int) 0 := ⟨tb9 23 (by decide +kernel) (by decide +kernel), tb1 10 (by decide +kernel) (by decide +kernel), by decide +kernel⟩
theorem kS_L_237 : CallS "CheekTownLaw" 237 yL_told := ⟨tb6 178 (by decide +kernel) (by decide +kernel), tb6 179 (by decide +kernel) (by decide +kernel)⟩
theorem kV_L_239 : CallV "CheekTownLaw" "CheekTownModel" 239 yX12_told := ⟨rfl, tb9 24 (by decide +kernel) (by decide +kernel), tb9 25 (by decide +kernel) (by decide +kernel), tb9 26 (by decide +kernel) (by decide +kernel)⟩
theorem kc_X12_told : CodeOK yX12_told cX12_told 5 (some .int) 2 := ⟨tb9 27 (by decide +kernel) (by decide +kernel), tb1 10 (by decide +kernel) (by decide +kernel), by decide +kernel⟩
theorem kS_L_240 : CallS "CheekTownLaw" 240 yL_colds := ⟨tb6 193 (by decide +kernel) (by decide +kernel), tb6 194 (by decide +kernel) (by decide +kernel)⟩
theorem kV_L_242 : CallV "CheekTownLaw" "CheekTownModel" 242 yX12_colds := ⟨rfl, tb9 32 (by decide +kernel) (by decide +kernel), tb9 33 (by decide +kernel) (by decide +kernel), tb9 34 (by decide +kernel) (by decide +kernel)⟩
theorem kc_X12_colds : CodeOK yX12_colds cX12_colds 3 (some .int) 2 := ⟨tb9 35 (by decide +kernel) (by decide +kernel), tb1 10 (by decide +kernel) (by decide +kernel), by decide +kernel⟩
theorem kS_L_243 : CallS "CheekTownLaw" 243 yL_spared := ⟨tb6 205 (by decide +kernel) (by decide +kernel), tb6 206 (by decide +kernel) (by decide +kernel)⟩
theorem kV_L_245 : CallV "CheekTownLaw" "CheekTownModel" 245 yX12_spared := ⟨rfl, tb9 44 (by decide +kernel) (by decide +kernel), tb9 45 (by decide +kernel) (by decide +kernel), tb9 46 (by decide +kernel) (by decide +kernel)⟩
theorem kc_X12_spared : CodeOK yX12_spared cX12_spared 5 (some .int) 2 := ⟨tb9 47 (by decide +kernel) (by decide +kernel), tb1 10 (by decide +kernel) (by decide +kernel), by decide +kernel⟩
theorem kV_L_246 : CallV "CheekTownLaw" "CheekTown" 246 yX11_changed := ⟨rfl, tb2 237 (by decide +kernel) (by decide +kernel), tb2 238 (by decide +kernel) (by decide +kernel), tb2 239 (by decide +kernel) (by decide +kernel)⟩
theorem kc_X11_changed : CodeOK yX11_changed cX11_changed 6 (some .int) 1 := ⟨tb3 0 (by decide +kernel) (by decide +kernel), tb1 1 (by decide +kernel) (by decide +kernel), by decide +kernel⟩
theorem kV_L_249 : CallV "CheekTownLaw" "CheekTownModel" 249 yX12_changed := ⟨rfl, tb9 48 (by decide +kernel) (by decide +kernel), tb9 49 (by decide +kernel) (by decide +kernel), tb9 50 (by decide +kernel) (by decide +kernel)⟩
theorem kc_X12_changed : CodeOK yX12_changed cX12_changed 9 (some .int) 1 := ⟨tb9 51 (by decide +kernel) (by decide +kernel), tb1 10 (by decide +kernel) (by decide +kernel), by decide +kernel⟩
theorem kS_L_250 : CallS "CheekTownLaw" 250 yL_trial := ⟨tb6 212 (by decide +kernel) (by decide +kernel), tb6 213 (by decide +kernel) (by decide +kernel)⟩
theorem kV_L_252 : CallV "CheekTownLaw" "CheekTownModel" 252 yX12_trial := ⟨rfl, tb9 56 (by decide +kernel) (by decide +kernel), tb9 57 (by decide +kernel) (by decide +kernel), tb9 58 (by decide +kernel) (by decide +kernel)⟩
theorem kc_X12_trial : CodeOK yX12_trial cX12_trial 4 (some .int) 2 := ⟨tb9 59 (by decide +kernel) (by decide +kernel), tb1 10 (by decide +kernel) (by decide +kernel), by decide +kernel⟩
theorem kS_L_253 : CallS "CheekTownLaw" 253 yL_span := ⟨tb6 219 (by decide +kernel) (by decide +kernel), tb6 220 (by decide +kernel) (by decide +kernel)⟩
theorem kV_L_255 : CallV "CheekTownLaw" "CheekTownModel" 255 yX12_span := ⟨rfl, tb9 64 (by decide +kernel) (by decide +kernel), tb9 65 (by decide +kernel) (by decide +kernel), tb9 66 (by decide +kernel) (by decide +kernel)⟩
theorem kc_X12_span : CodeOK yX12_span cX12_span 6 (some .int) 2 := ⟨tb9 67 (by decide +kernel) (by decide +kernel), tb1 10 (by decide +kernel) (by decide +kernel), by decide +kernel⟩
theorem kS_L_256 : CallS "CheekTownLaw" 256 yL_log := ⟨tb6 226 (by decide +kernel) (by decide +kernel), tb6 227 (by decide +kernel) (by decide +kernel)⟩
theorem kV_L_258 : CallV "CheekTownLaw" "CheekTownModel" 258 yX12_log := ⟨rfl, tb9 68 (by decide +kernel) (by decide +kernel), tb9 69 (by decide +kernel) (by decide +kernel), tb9 70 (by decide +kernel) (by decide +kernel)⟩
theorem kc_X12_log : CodeOK yX12_log cX12_log 3 (some .int) 2 := ⟨tb9 71 (by decide +kernel) (by decide +kernel), tb1 10 (by decide +kernel) (by decide +kernel), by decide +kernel⟩
theorem kV_L_259 : CallV "CheekTownLaw" "CheekTown" 259 yX11_seed := ⟨rfl, tb3 17 (by decide +kernel) (by decide +kernel), tb3 18 (by decide +kernel) (by decide +kernel), tb3 19 (by decide +kernel) (by decide +kernel)⟩
theorem kc_X11_seed : CodeOK yX11_seed cX11_seed 3 (some .int) 1 := ⟨tb3 20 (by decide +kernel) (by decide +kernel), tb1 1 (by decide +kernel) (by decide +kernel), by decide +kernel⟩
theorem kV_L_262 : CallV "CheekTownLaw" "CheekTownModel" 262 yX12_seed := ⟨rfl, tb9 72 (by decide +kernel) (by decide +kernel), tb9 73 (by decide +kernel) (by decide +kernel), tb9 74 (by decide +kernel) (by decide +kernel)⟩
theorem kc_X12_seed : CodeOK yX12_seed cX12_seed 3 (some .int) 1 := ⟨tb9 75 (by decide +kernel) (by decide +kernel), tb1 10 (by decide +kernel) (by decide +kernel), by decide +kernel⟩
theorem kV_L_263 : CallV "CheekTownLaw" "CheekTown" 263 yX11_undo := ⟨rfl, tb3 21 (by decide +kernel) (by decide +kernel), tb3 22 (by decide +kernel) (by decide +kernel), tb3 23 (by decide +kernel) (by decide +kernel)⟩
theorem kc_X11_undo : CodeOK yX11_undo cX11_undo 1 (some .boolean) 0 := ⟨tb3 24 (by decide +kernel) (by decide +kernel), tb1 1 (by decide +kernel) (by decide +kernel), by decide +kernel⟩
theorem kV_L_267 : CallV "CheekTownLaw" "CheekTownModel" 267 yX12_undo := ⟨rfl, tb9 76 (by decide +kernel) (by decide +kernel), tb9 77 (by decide +kernel) (by decide +kernel), tb9 78 (by decide +kernel) (by decide +kernel)⟩
theorem kc_X12_undo : CodeOK yX12_undo cX12_undo 2 (some .boolean) 0 := ⟨tb9 79 (by decide +kernel) (by decide +kernel), tb1 10 (by decide +kernel) (by decide +kernel), by decide +kernel⟩
theorem kV_L_268 : CallV "CheekTownLaw" "CheekTown" 268 yX11_image := ⟨rfl, tb3 49 (by decide +kernel) (by decide +kernel), tb3 50 (by decide +kernel) (by decide +kernel), tb3 51 (by decide +kernel) (by decide +kernel)⟩
theorem kc_X11_image : CodeOK yX11_image cX11_image 1 none 0 := ⟨tb3 52 (by decide +kernel) (by decide +kernel), tb1 1 (by decide +kernel) (by decide +kernel), by decide +kernel⟩
theorem kV_L_271 : CallV "CheekTownLaw" "CheekTownModel" 271 yX12_image := ⟨rfl, tb9 80 (by decide +kernel) (by decide +kernel), tb9 81 (by decide +kernel) (by decide +kernel), tb9 82 (by decide +kernel) (by decide +kernel)⟩
theorem kc_X12_image : CodeOK yX12_image cX12_image 2 none 0 := ⟨tb9 83 (by decide +kernel) (by decide +kernel), tb1 10 (by decide +kernel) (by decide +kernel), by decide +kernel⟩
theorem kV_L_272 : CallV "CheekTownLaw" "CheekTown" 272 yX11_back := ⟨rfl, tb3 53 (by decide +kernel) (by decide +kernel), tb3 54 (by decide +kernel) (by decide +kernel), tb3 55 (by decide +kernel) (by decide +kernel)⟩
theorem kc_X11_back : CodeOK yX11_back cX11_back 1 (some .boolean) 0 := ⟨tb3 56 (by decide +kernel) (by decide +kernel), tb1 1 (by decide +kernel) (by decide +kernel), by decide +kernel⟩
theorem kV_L_275 : CallV "CheekTownLaw" "CheekTownModel" 275 yX12_back := ⟨rfl, tb9 84 (by decide +kernel) (by decide +kernel), tb9 85 (by decide +kernel) (by decide +kernel), tb9 86 (by decide +kernel) (by decide +kernel)⟩
theorem kc_X12_back : CodeOK yX12_back cX12_back 2 (some .boolean) 0 := ⟨tb9 87 (by decide +kernel) (by decide +kernel), tb1 10 (by decide +kernel) (by decide +kernel), by decide +kernel⟩
theorem kV_L_276 : CallV "CheekTownLaw" "CheekTown" 276 yX11_count := ⟨rfl, tb3 57 (by decide +kernel) (by decide +kernel), tb3 58 (by decide +kernel) (by decide +kernel), tb3 59 (by decide +kernel) (by decide +kernel)⟩
theorem kc_X11_count : CodeOK yX11_count cX11_count 2 (some .int) 1 := ⟨tb3 60 (by decide +kernel) (by decide +kernel), tb1 1 (by decide +kernel) (by decide +kernel), by decide +kernel⟩
theorem kV_L_279 : CallV "CheekTownLaw" "CheekTownModel" 279 yX12_count := ⟨rfl, tb9 88 (by decide +kernel) (by decide +kernel), tb9 89 (by decide +kernel) (by decide +kernel), tb9 90 (by decide +kernel) (by decide +kernel)⟩
theorem kc_X12_count : CodeOK yX12_count cX12_count 2 (some .int) 1 := ⟨tb9 91 (by decide +kernel) (by decide +kernel), tb1 10 (by decide +kernel) (by decide +kernel), by decide +kernel⟩
