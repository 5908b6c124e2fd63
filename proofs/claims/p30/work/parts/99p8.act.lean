/-! a call of the law on a compiler -/
theorem dg_act_3 : decode m_L_act.2.2.1 3 = .ok (.idiv, 1) := by decide +kernel
theorem dg_act_7 : decode m_L_act.2.2.1 7 = .ok (.iaload, 1) := by decide +kernel
theorem dg_act_8 : decode m_L_act.2.2.1 8 = .ok (.ifCond .ne 7, 3) := by decide +kernel
theorem dg_act_12 : decode m_L_act.2.2.1 12 = .ok (.goto 8, 3) := by decide +kernel
theorem dg_act_18 : decode m_L_act.2.2.1 18 = .ok (.iaload, 1) := by decide +kernel
theorem dg_act_19 : decode m_L_act.2.2.1 19 = .ok (.irem, 1) := by decide +kernel
theorem dg_act_24 : decode m_L_act.2.2.1 24 = .ok (.iaload, 1) := by decide +kernel
theorem dg_act_25 : decode m_L_act.2.2.1 25 = .ok (.ifCond .ne 7, 3) := by decide +kernel
theorem dg_act_29 : decode m_L_act.2.2.1 29 = .ok (.goto 11, 3) := by decide +kernel
theorem dg_act_35 : decode m_L_act.2.2.1 35 = .ok (.idiv, 1) := by decide +kernel
theorem dg_act_38 : decode m_L_act.2.2.1 38 = .ok (.iaload, 1) := by decide +kernel
theorem dg_act_39 : decode m_L_act.2.2.1 39 = .ok (.irem, 1) := by decide +kernel
theorem dg_act_44 : decode m_L_act.2.2.1 44 = .ok (.iaload, 1) := by decide +kernel
theorem dg_act_45 : decode m_L_act.2.2.1 45 = .ok (.ifCond .ne 7, 3) := by decide +kernel
theorem dg_act_49 : decode m_L_act.2.2.1 49 = .ok (.goto 8, 3) := by decide +kernel
theorem dg_act_55 : decode m_L_act.2.2.1 55 = .ok (.iaload, 1) := by decide +kernel
theorem dg_act_56 : decode m_L_act.2.2.1 56 = .ok (.irem, 1) := by decide +kernel
theorem dg_act_62 : decode m_L_act.2.2.1 62 = .ok (.irem, 1) := by decide +kernel
theorem dg_act_63 : decode m_L_act.2.2.1 63 = .ok (.tableswitch 714 0 20 #[97, 150, 159, 220, 280, 285, 298, 298, 339, 339, 386, 386, 395, 408, 446, 492, 601, 601, 601, 637, 691], 97) := by decide +kernel
theorem dg_act_163 : decode m_L_act.2.2.1 163 = .ok (.irem, 1) := by decide +kernel
theorem dg_act_166 : decode m_L_act.2.2.1 166 = .ok (.idiv, 1) := by decide +kernel
theorem dg_act_168 : decode m_L_act.2.2.1 168 = .ok (.irem, 1) := by decide +kernel
theorem dg_act_171 : decode m_L_act.2.2.1 171 = .ok (.idiv, 1) := by decide +kernel
theorem dg_act_173 : decode m_L_act.2.2.1 173 = .ok (.irem, 1) := by decide +kernel
theorem dg_act_174 : decode m_L_act.2.2.1 174 = .ok (.ifCond .le 13, 3) := by decide +kernel
theorem dg_act_180 : decode m_L_act.2.2.1 180 = .ok (.idiv, 1) := by decide +kernel
theorem dg_act_183 : decode m_L_act.2.2.1 183 = .ok (.irem, 1) := by decide +kernel
theorem dg_act_184 : decode m_L_act.2.2.1 184 = .ok (.goto 4, 3) := by decide +kernel
theorem dg_act_190 : decode m_L_act.2.2.1 190 = .ok (.idiv, 1) := by decide +kernel
theorem dg_act_192 : decode m_L_act.2.2.1 192 = .ok (.irem, 1) := by decide +kernel
theorem dg_act_194 : decode m_L_act.2.2.1 194 = .ok (.if_icmp .le 13, 3) := by decide +kernel
theorem dg_act_200 : decode m_L_act.2.2.1 200 = .ok (.idiv, 1) := by decide +kernel
theorem dg_act_203 : decode m_L_act.2.2.1 203 = .ok (.irem, 1) := by decide +kernel
theorem dg_act_204 : decode m_L_act.2.2.1 204 = .ok (.goto 4, 3) := by decide +kernel
theorem dg_act_209 : decode m_L_act.2.2.1 209 = .ok (.invokestatic 102, 3) := by decide +kernel
theorem dg_act_212 : decode m_L_act.2.2.1 212 = .ok (.ireturn, 1) := by decide +kernel
theorem dg_act_217 : decode m_L_act.2.2.1 217 = .ok (.irem, 1) := by decide +kernel
theorem dg_act_218 : decode m_L_act.2.2.1 218 = .ok (.invokestatic 107, 3) := by decide +kernel
theorem dg_act_221 : decode m_L_act.2.2.1 221 = .ok (.ireturn, 1) := by decide +kernel
theorem dg_act_225 : decode m_L_act.2.2.1 225 = .ok (.irem, 1) := by decide +kernel
theorem dg_act_228 : decode m_L_act.2.2.1 228 = .ok (.irem, 1) := by decide +kernel
theorem dg_act_229 : decode m_L_act.2.2.1 229 = .ok (.ifCond .le 12, 3) := by decide +kernel
theorem dg_act_234 : decode m_L_act.2.2.1 234 = .ok (.idiv, 1) := by decide +kernel
theorem dg_act_237 : decode m_L_act.2.2.1 237 = .ok (.irem, 1) := by decide +kernel
theorem dg_act_238 : decode m_L_act.2.2.1 238 = .ok (.goto 4, 3) := by decide +kernel
theorem dg_act_244 : decode m_L_act.2.2.1 244 = .ok (.irem, 1) := by decide +kernel
theorem dg_act_246 : decode m_L_act.2.2.1 246 = .ok (.if_icmp .le 13, 3) := by decide +kernel
theorem dg_act_252 : decode m_L_act.2.2.1 252 = .ok (.idiv, 1) := by decide +kernel
theorem dg_act_255 : decode m_L_act.2.2.1 255 = .ok (.irem, 1) := by decide +kernel
theorem dg_act_256 : decode m_L_act.2.2.1 256 = .ok (.goto 4, 3) := by decide +kernel
theorem dg_act_262 : decode m_L_act.2.2.1 262 = .ok (.irem, 1) := by decide +kernel
theorem dg_act_264 : decode m_L_act.2.2.1 264 = .ok (.if_icmp .le 14, 3) := by decide +kernel
theorem dg_act_271 : decode m_L_act.2.2.1 271 = .ok (.idiv, 1) := by decide +kernel
theorem dg_act_274 : decode m_L_act.2.2.1 274 = .ok (.irem, 1) := by decide +kernel
theorem dg_act_275 : decode m_L_act.2.2.1 275 = .ok (.goto 4, 3) := by decide +kernel
theorem dg_act_279 : decode m_L_act.2.2.1 279 = .ok (.invokestatic 110, 3) := by decide +kernel
theorem dg_act_282 : decode m_L_act.2.2.1 282 = .ok (.ireturn, 1) := by decide +kernel
theorem dg_act_286 : decode m_L_act.2.2.1 286 = .ok (.irem, 1) := by decide +kernel
theorem dg_act_289 : decode m_L_act.2.2.1 289 = .ok (.idiv, 1) := by decide +kernel
theorem dg_act_291 : decode m_L_act.2.2.1 291 = .ok (.irem, 1) := by decide +kernel
theorem dg_act_295 : decode m_L_act.2.2.1 295 = .ok (.idiv, 1) := by decide +kernel
theorem dg_act_297 : decode m_L_act.2.2.1 297 = .ok (.irem, 1) := by decide +kernel
theorem dg_act_298 : decode m_L_act.2.2.1 298 = .ok (.ifCond .ne 7, 3) := by decide +kernel
theorem dg_act_302 : decode m_L_act.2.2.1 302 = .ok (.goto 5, 3) := by decide +kernel
theorem dg_act_310 : decode m_L_act.2.2.1 310 = .ok (.idiv, 1) := by decide +kernel
theorem dg_act_312 : decode m_L_act.2.2.1 312 = .ok (.irem, 1) := by decide +kernel
theorem dg_act_313 : decode m_L_act.2.2.1 313 = .ok (.ifCond .ne 7, 3) := by decide +kernel
theorem dg_act_317 : decode m_L_act.2.2.1 317 = .ok (.goto 21, 3) := by decide +kernel
theorem dg_act_322 : decode m_L_act.2.2.1 322 = .ok (.iaload, 1) := by decide +kernel
theorem dg_act_323 : decode m_L_act.2.2.1 323 = .ok (.ifCond .ne 7, 3) := by decide +kernel
theorem dg_act_327 : decode m_L_act.2.2.1 327 = .ok (.goto 11, 3) := by decide +kernel
theorem dg_act_333 : decode m_L_act.2.2.1 333 = .ok (.idiv, 1) := by decide +kernel
theorem dg_act_336 : decode m_L_act.2.2.1 336 = .ok (.iaload, 1) := by decide +kernel
theorem dg_act_337 : decode m_L_act.2.2.1 337 = .ok (.irem, 1) := by decide +kernel
theorem dg_act_339 : decode m_L_act.2.2.1 339 = .ok (.invokestatic 113, 3) := by decide +kernel
theorem dg_act_342 : decode m_L_act.2.2.1 342 = .ok (.ireturn, 1) := by decide +kernel
theorem dg_act_344 : decode m_L_act.2.2.1 344 = .ok (.invokestatic 162, 3) := by decide +kernel
theorem dg_act_347 : decode m_L_act.2.2.1 347 = .ok (.ireturn, 1) := by decide +kernel
theorem dg_act_352 : decode m_L_act.2.2.1 352 = .ok (.idiv, 1) := by decide +kernel
theorem dg_act_354 : decode m_L_act.2.2.1 354 = .ok (.irem, 1) := by decide +kernel
theorem dg_act_357 : decode m_L_act.2.2.1 357 = .ok (.invokestatic 115, 3) := by decide +kernel
theorem dg_act_360 : decode m_L_act.2.2.1 360 = .ok (.ireturn, 1) := by decide +kernel
theorem dg_act_365 : decode m_L_act.2.2.1 365 = .ok (.irem, 1) := by decide +kernel
theorem dg_act_369 : decode m_L_act.2.2.1 369 = .ok (.irem, 1) := by decide +kernel
theorem dg_act_373 : decode m_L_act.2.2.1 373 = .ok (.idiv, 1) := by decide +kernel
theorem dg_act_375 : decode m_L_act.2.2.1 375 = .ok (.irem, 1) := by decide +kernel
theorem dg_act_379 : decode m_L_act.2.2.1 379 = .ok (.if_icmp .le 8, 3) := by decide +kernel
theorem dg_act_384 : decode m_L_act.2.2.1 384 = .ok (.goto 14, 3) := by decide +kernel
theorem dg_act_390 : decode m_L_act.2.2.1 390 = .ok (.irem, 1) := by decide +kernel
theorem dg_act_394 : decode m_L_act.2.2.1 394 = .ok (.idiv, 1) := by decide +kernel
theorem dg_act_396 : decode m_L_act.2.2.1 396 = .ok (.irem, 1) := by decide +kernel
theorem dg_act_398 : decode m_L_act.2.2.1 398 = .ok (.invokestatic 118, 3) := by decide +kernel
theorem dg_act_401 : decode m_L_act.2.2.1 401 = .ok (.ireturn, 1) := by decide +kernel
theorem dg_act_405 : decode m_L_act.2.2.1 405 = .ok (.idiv, 1) := by decide +kernel
theorem dg_act_407 : decode m_L_act.2.2.1 407 = .ok (.irem, 1) := by decide +kernel
theorem dg_act_411 : decode m_L_act.2.2.1 411 = .ok (.idiv, 1) := by decide +kernel
theorem dg_act_413 : decode m_L_act.2.2.1 413 = .ok (.irem, 1) := by decide +kernel
theorem dg_act_417 : decode m_L_act.2.2.1 417 = .ok (.idiv, 1) := by decide +kernel
theorem dg_act_419 : decode m_L_act.2.2.1 419 = .ok (.irem, 1) := by decide +kernel
theorem dg_act_420 : decode m_L_act.2.2.1 420 = .ok (.ifCond .ne 7, 3) := by decide +kernel
theorem dg_act_424 : decode m_L_act.2.2.1 424 = .ok (.goto 5, 3) := by decide +kernel
theorem dg_act_432 : decode m_L_act.2.2.1 432 = .ok (.idiv, 1) := by decide +kernel
theorem dg_act_434 : decode m_L_act.2.2.1 434 = .ok (.irem, 1) := by decide +kernel
theorem dg_act_435 : decode m_L_act.2.2.1 435 = .ok (.ifCond .ne 7, 3) := by decide +kernel
theorem dg_act_439 : decode m_L_act.2.2.1 439 = .ok (.goto 5, 3) := by decide +kernel
theorem dg_act_445 : decode m_L_act.2.2.1 445 = .ok (.invokestatic 120, 3) := by decide +kernel
theorem dg_act_448 : decode m_L_act.2.2.1 448 = .ok (.ireturn, 1) := by decide +kernel
theorem dg_act_454 : decode m_L_act.2.2.1 454 = .ok (.invokestatic 122, 3) := by decide +kernel
theorem dg_act_457 : decode m_L_act.2.2.1 457 = .ok (.ireturn, 1) := by decide +kernel
theorem dg_act_462 : decode m_L_act.2.2.1 462 = .ok (.idiv, 1) := by decide +kernel
theorem dg_act_464 : decode m_L_act.2.2.1 464 = .ok (.irem, 1) := by decide +kernel
theorem dg_act_467 : decode m_L_act.2.2.1 467 = .ok (.invokestatic 124, 3) := by decide +kernel
theorem dg_act_470 : decode m_L_act.2.2.1 470 = .ok (.ireturn, 1) := by decide +kernel
theorem dg_act_474 : decode m_L_act.2.2.1 474 = .ok (.irem, 1) := by decide +kernel
theorem dg_act_477 : decode m_L_act.2.2.1 477 = .ok (.irem, 1) := by decide +kernel
theorem dg_act_478 : decode m_L_act.2.2.1 478 = .ok (.ifCond .le 8, 3) := by decide +kernel
theorem dg_act_483 : decode m_L_act.2.2.1 483 = .ok (.goto 4, 3) := by decide +kernel
theorem dg_act_489 : decode m_L_act.2.2.1 489 = .ok (.irem, 1) := by decide +kernel
theorem dg_act_491 : decode m_L_act.2.2.1 491 = .ok (.if_icmp .le 8, 3) := by decide +kernel
theorem dg_act_496 : decode m_L_act.2.2.1 496 = .ok (.goto 4, 3) := by decide +kernel
theorem dg_act_502 : decode m_L_act.2.2.1 502 = .ok (.idiv, 1) := by decide +kernel
theorem dg_act_504 : decode m_L_act.2.2.1 504 = .ok (.irem, 1) := by decide +kernel
theorem dg_act_505 : decode m_L_act.2.2.1 505 = .ok (.invokestatic 126, 3) := by decide +kernel
theorem dg_act_508 : decode m_L_act.2.2.1 508 = .ok (.ireturn, 1) := by decide +kernel
theorem dg_act_512 : decode m_L_act.2.2.1 512 = .ok (.irem, 1) := by decide +kernel
theorem dg_act_515 : decode m_L_act.2.2.1 515 = .ok (.idiv, 1) := by decide +kernel
theorem dg_act_518 : decode m_L_act.2.2.1 518 = .ok (.irem, 1) := by decide +kernel
theorem dg_act_525 : decode m_L_act.2.2.1 525 = .ok (.idiv, 1) := by decide +kernel
theorem dg_act_528 : decode m_L_act.2.2.1 528 = .ok (.irem, 1) := by decide +kernel
theorem dg_act_536 : decode m_L_act.2.2.1 536 = .ok (.idiv, 1) := by decide +kernel
theorem dg_act_539 : decode m_L_act.2.2.1 539 = .ok (.irem, 1) := by decide +kernel
theorem dg_act_547 : decode m_L_act.2.2.1 547 = .ok (.idiv, 1) := by decide +kernel
theorem dg_act_549 : decode m_L_act.2.2.1 549 = .ok (.irem, 1) := by decide +kernel
theorem dg_act_551 : decode m_L_act.2.2.1 551 = .ok (.invokestatic 128, 3) := by decide +kernel
theorem dg_act_554 : decode m_L_act.2.2.1 554 = .ok (.ireturn, 1) := by decide +kernel
theorem dg_act_557 : decode m_L_act.2.2.1 557 = .ok (.irem, 1) := by decide +kernel
theorem dg_act_558 : decode m_L_act.2.2.1 558 = .ok (.ifCond .ne 44, 3) := by decide +kernel
theorem dg_act_565 : decode m_L_act.2.2.1 565 = .ok (.idiv, 1) := by decide +kernel
theorem dg_act_567 : decode m_L_act.2.2.1 567 = .ok (.irem, 1) := by decide +kernel
theorem dg_act_572 : decode m_L_act.2.2.1 572 = .ok (.idiv, 1) := by decide +kernel
theorem dg_act_573 : decode m_L_act.2.2.1 573 = .ok (.invokestatic 164, 3) := by decide +kernel
theorem dg_act_578 : decode m_L_act.2.2.1 578 = .ok (.idiv, 1) := by decide +kernel
theorem dg_act_580 : decode m_L_act.2.2.1 580 = .ok (.irem, 1) := by decide +kernel
theorem dg_act_581 : decode m_L_act.2.2.1 581 = .ok (.ifCond .le 13, 3) := by decide +kernel
theorem dg_act_587 : decode m_L_act.2.2.1 587 = .ok (.idiv, 1) := by decide +kernel
theorem dg_act_588 : decode m_L_act.2.2.1 588 = .ok (.invokestatic 164, 3) := by decide +kernel
theorem dg_act_591 : decode m_L_act.2.2.1 591 = .ok (.goto 4, 3) := by decide +kernel
theorem dg_act_596 : decode m_L_act.2.2.1 596 = .ok (.invokestatic 130, 3) := by decide +kernel
theorem dg_act_599 : decode m_L_act.2.2.1 599 = .ok (.goto 64, 3) := by decide +kernel
theorem dg_act_604 : decode m_L_act.2.2.1 604 = .ok (.irem, 1) := by decide +kernel
theorem dg_act_606 : decode m_L_act.2.2.1 606 = .ok (.if_icmp .ne 30, 3) := by decide +kernel
theorem dg_act_612 : decode m_L_act.2.2.1 612 = .ok (.iaload, 1) := by decide +kernel
theorem dg_act_613 : decode m_L_act.2.2.1 613 = .ok (.ifCond .ne 7, 3) := by decide +kernel
theorem dg_act_617 : decode m_L_act.2.2.1 617 = .ok (.goto 10, 3) := by decide +kernel
theorem dg_act_622 : decode m_L_act.2.2.1 622 = .ok (.idiv, 1) := by decide +kernel
theorem dg_act_625 : decode m_L_act.2.2.1 625 = .ok (.iaload, 1) := by decide +kernel
theorem dg_act_626 : decode m_L_act.2.2.1 626 = .ok (.irem, 1) := by decide +kernel
theorem dg_act_629 : decode m_L_act.2.2.1 629 = .ok (.irem, 1) := by decide +kernel
theorem dg_act_630 : decode m_L_act.2.2.1 630 = .ok (.invokestatic 134, 3) := by decide +kernel
theorem dg_act_633 : decode m_L_act.2.2.1 633 = .ok (.goto 30, 3) := by decide +kernel
theorem dg_act_639 : decode m_L_act.2.2.1 639 = .ok (.iaload, 1) := by decide +kernel
theorem dg_act_641 : decode m_L_act.2.2.1 641 = .ok (.if_icmp .ge 7, 3) := by decide +kernel
theorem dg_act_645 : decode m_L_act.2.2.1 645 = .ok (.goto 12, 3) := by decide +kernel
theorem dg_act_650 : decode m_L_act.2.2.1 650 = .ok (.idiv, 1) := by decide +kernel
theorem dg_act_653 : decode m_L_act.2.2.1 653 = .ok (.iaload, 1) := by decide +kernel
theorem dg_act_656 : decode m_L_act.2.2.1 656 = .ok (.irem, 1) := by decide +kernel
theorem dg_act_659 : decode m_L_act.2.2.1 659 = .ok (.irem, 1) := by decide +kernel
theorem dg_act_660 : decode m_L_act.2.2.1 660 = .ok (.invokestatic 136, 3) := by decide +kernel
theorem dg_act_663 : decode m_L_act.2.2.1 663 = .ok (.ireturn, 1) := by decide +kernel
theorem dg_act_669 : decode m_L_act.2.2.1 669 = .ok (.iaload, 1) := by decide +kernel
theorem dg_act_671 : decode m_L_act.2.2.1 671 = .ok (.if_icmp .le 8, 3) := by decide +kernel
theorem dg_act_676 : decode m_L_act.2.2.1 676 = .ok (.goto 4, 3) := by decide +kernel
theorem dg_act_682 : decode m_L_act.2.2.1 682 = .ok (.iaload, 1) := by decide +kernel
theorem dg_act_684 : decode m_L_act.2.2.1 684 = .ok (.if_icmp .le 7, 3) := by decide +kernel
theorem dg_act_688 : decode m_L_act.2.2.1 688 = .ok (.goto 4, 3) := by decide +kernel
theorem dg_act_695 : decode m_L_act.2.2.1 695 = .ok (.irem, 1) := by decide +kernel
theorem dg_act_696 : decode m_L_act.2.2.1 696 = .ok (.invokestatic 155, 3) := by decide +kernel
theorem dg_act_699 : decode m_L_act.2.2.1 699 = .ok (.ireturn, 1) := by decide +kernel
theorem dg_act_703 : decode m_L_act.2.2.1 703 = .ok (.iaload, 1) := by decide +kernel
theorem dg_act_704 : decode m_L_act.2.2.1 704 = .ok (.ifCond .ne 7, 3) := by decide +kernel
theorem dg_act_708 : decode m_L_act.2.2.1 708 = .ok (.goto 8, 3) := by decide +kernel
theorem dg_act_714 : decode m_L_act.2.2.1 714 = .ok (.iaload, 1) := by decide +kernel
theorem dg_act_715 : decode m_L_act.2.2.1 715 = .ok (.irem, 1) := by decide +kernel
theorem dg_act_719 : decode m_L_act.2.2.1 719 = .ok (.idiv, 1) := by decide +kernel
theorem dg_act_721 : decode m_L_act.2.2.1 721 = .ok (.irem, 1) := by decide +kernel
theorem dg_act_727 : decode m_L_act.2.2.1 727 = .ok (.idiv, 1) := by decide +kernel
theorem dg_act_729 : decode m_L_act.2.2.1 729 = .ok (.irem, 1) := by decide +kernel
theorem dg_act_730 : decode m_L_act.2.2.1 730 = .ok (.ifCond .ne 7, 3) := by decide +kernel
theorem dg_act_734 : decode m_L_act.2.2.1 734 = .ok (.goto 9, 3) := by decide +kernel
theorem dg_act_740 : decode m_L_act.2.2.1 740 = .ok (.idiv, 1) := by decide +kernel
theorem dg_act_742 : decode m_L_act.2.2.1 742 = .ok (.irem, 1) := by decide +kernel
theorem dg_act_746 : decode m_L_act.2.2.1 746 = .ok (.idiv, 1) := by decide +kernel
theorem dg_act_749 : decode m_L_act.2.2.1 749 = .ok (.irem, 1) := by decide +kernel
theorem dg_act_750 : decode m_L_act.2.2.1 750 = .ok (.invokestatic 132, 3) := by decide +kernel
theorem dg_act_753 : decode m_L_act.2.2.1 753 = .ok (.ireturn, 1) := by decide +kernel
theorem dg_act_758 : decode m_L_act.2.2.1 758 = .ok (.irem, 1) := by decide +kernel
theorem dg_act_762 : decode m_L_act.2.2.1 762 = .ok (.idiv, 1) := by decide +kernel
theorem dg_act_764 : decode m_L_act.2.2.1 764 = .ok (.irem, 1) := by decide +kernel
theorem dg_act_765 : decode m_L_act.2.2.1 765 = .ok (.ifCond .ne 7, 3) := by decide +kernel
theorem dg_act_769 : decode m_L_act.2.2.1 769 = .ok (.goto 4, 3) := by decide +kernel
theorem dg_act_773 : decode m_L_act.2.2.1 773 = .ok (.invokestatic 152, 3) := by decide +kernel
theorem dg_act_776 : decode m_L_act.2.2.1 776 = .ok (.ireturn, 1) := by decide +kernel
theorem dg_act_781 : decode m_L_act.2.2.1 781 = .ok (.idiv, 1) := by decide +kernel
theorem dg_act_783 : decode m_L_act.2.2.1 783 = .ok (.irem, 1) := by decide +kernel
theorem dg_act_786 : decode m_L_act.2.2.1 786 = .ok (.iaload, 1) := by decide +kernel
theorem dg_act_787 : decode m_L_act.2.2.1 787 = .ok (.ifCond .ne 7, 3) := by decide +kernel
theorem dg_act_791 : decode m_L_act.2.2.1 791 = .ok (.goto 5, 3) := by decide +kernel
theorem dg_act_798 : decode m_L_act.2.2.1 798 = .ok (.iaload, 1) := by decide +kernel
theorem dg_act_800 : decode m_L_act.2.2.1 800 = .ok (.if_icmp .le 24, 3) := by decide +kernel
theorem dg_act_805 : decode m_L_act.2.2.1 805 = .ok (.iaload, 1) := by decide +kernel
theorem dg_act_806 : decode m_L_act.2.2.1 806 = .ok (.ifCond .ne 7, 3) := by decide +kernel
theorem dg_act_810 : decode m_L_act.2.2.1 810 = .ok (.goto 15, 3) := by decide +kernel
theorem dg_act_816 : decode m_L_act.2.2.1 816 = .ok (.idiv, 1) := by decide +kernel
theorem dg_act_819 : decode m_L_act.2.2.1 819 = .ok (.iaload, 1) := by decide +kernel
theorem dg_act_820 : decode m_L_act.2.2.1 820 = .ok (.irem, 1) := by decide +kernel
theorem dg_act_821 : decode m_L_act.2.2.1 821 = .ok (.goto 4, 3) := by decide +kernel
theorem dg_act_827 : decode m_L_act.2.2.1 827 = .ok (.iaload, 1) := by decide +kernel
theorem dg_act_829 : decode m_L_act.2.2.1 829 = .ok (.if_icmp .le 7, 3) := by decide +kernel
theorem dg_act_833 : decode m_L_act.2.2.1 833 = .ok (.goto 4, 3) := by decide +kernel
theorem dg_act_837 : decode m_L_act.2.2.1 837 = .ok (.invokestatic 138, 3) := by decide +kernel
theorem dg_act_840 : decode m_L_act.2.2.1 840 = .ok (.ireturn, 1) := by decide +kernel
theorem og_act_0_2 : oks 12 m_L_act.2.2.1 0 [(.iload_n 2, 1, (0, 0, 0)), (.bipush 24, 2, (0, 0, 0))] = true ∧ plen 0 [(.iload_n 2, 1, (0, 0, 0)), (.bipush 24, 2, (0, 0, 0))] = 3 := by decide +kernel
theorem og_act_4_3 : oks 12 m_L_act.2.2.1 4 [(.istore_n 3, 1, (0, 0, 0)), (.aload_n 1, 1, (0, 0, 0)), (.iconst 1, 1, (0, 0, 0))] = true ∧ plen 4 [(.istore_n 3, 1, (0, 0, 0)), (.aload_n 1, 1, (0, 0, 0)), (.iconst 1, 1, (0, 0, 0))] = 7 := by decide +kernel
theorem og_act_11_1 : oks 12 m_L_act.2.2.1 11 [(.iconst 0, 1, (0, 0, 0))] = true ∧ plen 11 [(.iconst 0, 1, (0, 0, 0))] = 12 := by decide +kernel
theorem og_act_15_3 : oks 12 m_L_act.2.2.1 15 [(.iload_n 3, 1, (0, 0, 0)), (.aload_n 1, 1, (0, 0, 0)), (.iconst 1, 1, (0, 0, 0))] = true ∧ plen 15 [(.iload_n 3, 1, (0, 0, 0)), (.aload_n 1, 1, (0, 0, 0)), (.iconst 1, 1, (0, 0, 0))] = 18 := by decide +kernel
theorem og_act_20_3 : oks 12 m_L_act.2.2.1 20 [(.istore 4, 2, (0, 0, 0)), (.aload_n 1, 1, (0, 0, 0)), (.iconst 1, 1, (0, 0, 0))] = true ∧ plen 20 [(.istore 4, 2, (0, 0, 0)), (.aload_n 1, 1, (0, 0, 0)), (.iconst 1, 1, (0, 0, 0))] = 24 := by decide +kernel
theorem og_act_28_1 : oks 12 m_L_act.2.2.1 28 [(.iconst 0, 1, (0, 0, 0))] = true ∧ plen 28 [(.iconst 0, 1, (0, 0, 0))] = 29 := by decide +kernel
theorem og_act_32_2 : oks 12 m_L_act.2.2.1 32 [(.iload_n 3, 1, (0, 0, 0)), (.bipush 61, 2, (0, 0, 0))] = true ∧ plen 32 [(.iload_n 3, 1, (0, 0, 0)), (.bipush 61, 2, (0, 0, 0))] = 35 := by decide +kernel
theorem og_act_36_2 : oks 12 m_L_act.2.2.1 36 [(.aload_n 1, 1, (0, 0, 0)), (.iconst 1, 1, (0, 0, 0))] = true ∧ plen 36 [(.aload_n 1, 1, (0, 0, 0)), (.iconst 1, 1, (0, 0, 0))] = 38 := by decide +kernel
theorem og_act_40_3 : oks 12 m_L_act.2.2.1 40 [(.istore 5, 2, (0, 0, 0)), (.aload_n 1, 1, (0, 0, 0)), (.iconst 0, 1, (0, 0, 0))] = true ∧ plen 40 [(.istore 5, 2, (0, 0, 0)), (.aload_n 1, 1, (0, 0, 0)), (.iconst 0, 1, (0, 0, 0))] = 44 := by decide +kernel
theorem og_act_48_1 : oks 12 m_L_act.2.2.1 48 [(.iconst 0, 1, (0, 0, 0))] = true ∧ plen 48 [(.iconst 0, 1, (0, 0, 0))] = 49 := by decide +kernel
theorem og_act_52_3 : oks 12 m_L_act.2.2.1 52 [(.iload_n 3, 1, (0, 0, 0)), (.aload_n 1, 1, (0, 0, 0)), (.iconst 0, 1, (0, 0, 0))] = true ∧ plen 52 [(.iload_n 3, 1, (0, 0, 0)), (.aload_n 1, 1, (0, 0, 0)), (.iconst 0, 1, (0, 0, 0))] = 55 := by decide +kernel
theorem og_act_57_3 : oks 12 m_L_act.2.2.1 57 [(.istore 6, 2, (0, 0, 0)), (.iload_n 2, 1, (0, 0, 0)), (.bipush 24, 2, (0, 0, 0))] = true ∧ plen 57 [(.istore 6, 2, (0, 0, 0)), (.iload_n 2, 1, (0, 0, 0)), (.bipush 24, 2, (0, 0, 0))] = 62 := by decide +kernel
theorem og_act_160_3 : oks 12 m_L_act.2.2.1 160 [(.aload_n 0, 1, (0, 0, 0)), (.iload_n 3, 1, (0, 0, 0)), (.iconst 2, 1, (0, 0, 0))] = true ∧ plen 160 [(.aload_n 0, 1, (0, 0, 0)), (.iload_n 3, 1, (0, 0, 0)), (.iconst 2, 1, (0, 0, 0))] = 163 := by decide +kernel
theorem og_act_164_2 : oks 12 m_L_act.2.2.1 164 [(.iload_n 3, 1, (0, 0, 0)), (.iconst 2, 1, (0, 0, 0))] = true ∧ plen 164 [(.iload_n 3, 1, (0, 0, 0)), (.iconst 2, 1, (0, 0, 0))] = 166 := by decide +kernel
theorem og_act_167_1 : oks 12 m_L_act.2.2.1 167 [(.iconst 3, 1, (0, 0, 0))] = true ∧ plen 167 [(.iconst 3, 1, (0, 0, 0))] = 168 := by decide +kernel
theorem og_act_169_2 : oks 12 m_L_act.2.2.1 169 [(.iload_n 3, 1, (0, 0, 0)), (.iconst 2, 1, (0, 0, 0))] = true ∧ plen 169 [(.iload_n 3, 1, (0, 0, 0)), (.iconst 2, 1, (0, 0, 0))] = 171 := by decide +kernel
theorem og_act_172_1 : oks 12 m_L_act.2.2.1 172 [(.iconst 3, 1, (0, 0, 0))] = true ∧ plen 172 [(.iconst 3, 1, (0, 0, 0))] = 173 := by decide +kernel
theorem og_act_177_2 : oks 12 m_L_act.2.2.1 177 [(.iload_n 3, 1, (0, 0, 0)), (.bipush 6, 2, (0, 0, 0))] = true ∧ plen 177 [(.iload_n 3, 1, (0, 0, 0)), (.bipush 6, 2, (0, 0, 0))] = 180 := by decide +kernel
theorem og_act_181_1 : oks 12 m_L_act.2.2.1 181 [(.bipush 6, 2, (0, 0, 0))] = true ∧ plen 181 [(.bipush 6, 2, (0, 0, 0))] = 183 := by decide +kernel
theorem og_act_187_1 : oks 12 m_L_act.2.2.1 187 [(.iconst 0, 1, (0, 0, 0))] = true ∧ plen 187 [(.iconst 0, 1, (0, 0, 0))] = 188 := by decide +kernel
theorem og_act_188_2 : oks 12 m_L_act.2.2.1 188 [(.iload_n 3, 1, (0, 0, 0)), (.iconst 2, 1, (0, 0, 0))] = true ∧ plen 188 [(.iload_n 3, 1, (0, 0, 0)), (.iconst 2, 1, (0, 0, 0))] = 190 := by decide +kernel
theorem og_act_191_1 : oks 12 m_L_act.2.2.1 191 [(.iconst 3, 1, (0, 0, 0))] = true ∧ plen 191 [(.iconst 3, 1, (0, 0, 0))] = 192 := by decide +kernel
theorem og_act_193_1 : oks 12 m_L_act.2.2.1 193 [(.iconst 1, 1, (0, 0, 0))] = true ∧ plen 193 [(.iconst 1, 1, (0, 0, 0))] = 194 := by decide +kernel
theorem og_act_197_2 : oks 12 m_L_act.2.2.1 197 [(.iload_n 3, 1, (0, 0, 0)), (.bipush 36, 2, (0, 0, 0))] = true ∧ plen 197 [(.iload_n 3, 1, (0, 0, 0)), (.bipush 36, 2, (0, 0, 0))] = 200 := by decide +kernel
theorem og_act_201_1 : oks 12 m_L_act.2.2.1 201 [(.bipush 6, 2, (0, 0, 0))] = true ∧ plen 201 [(.bipush 6, 2, (0, 0, 0))] = 203 := by decide +kernel
theorem og_act_207_1 : oks 12 m_L_act.2.2.1 207 [(.iconst 0, 1, (0, 0, 0))] = true ∧ plen 207 [(.iconst 0, 1, (0, 0, 0))] = 208 := by decide +kernel
theorem og_act_208_1 : oks 12 m_L_act.2.2.1 208 [(.iconst 0, 1, (0, 0, 0))] = true ∧ plen 208 [(.iconst 0, 1, (0, 0, 0))] = 209 := by decide +kernel
theorem og_act_213_3 : oks 12 m_L_act.2.2.1 213 [(.aload_n 0, 1, (0, 0, 0)), (.iload_n 3, 1, (0, 0, 0)), (.bipush 10, 2, (0, 0, 0))] = true ∧ plen 213 [(.aload_n 0, 1, (0, 0, 0)), (.iload_n 3, 1, (0, 0, 0)), (.bipush 10, 2, (0, 0, 0))] = 217 := by decide +kernel
theorem og_act_222_3 : oks 12 m_L_act.2.2.1 222 [(.aload_n 0, 1, (0, 0, 0)), (.iload_n 3, 1, (0, 0, 0)), (.iconst 4, 1, (0, 0, 0))] = true ∧ plen 222 [(.aload_n 0, 1, (0, 0, 0)), (.iload_n 3, 1, (0, 0, 0)), (.iconst 4, 1, (0, 0, 0))] = 225 := by decide +kernel
theorem og_act_226_2 : oks 12 m_L_act.2.2.1 226 [(.iload_n 3, 1, (0, 0, 0)), (.iconst 4, 1, (0, 0, 0))] = true ∧ plen 226 [(.iload_n 3, 1, (0, 0, 0)), (.iconst 4, 1, (0, 0, 0))] = 228 := by decide +kernel
theorem og_act_232_2 : oks 12 m_L_act.2.2.1 232 [(.iload_n 3, 1, (0, 0, 0)), (.iconst 4, 1, (0, 0, 0))] = true ∧ plen 232 [(.iload_n 3, 1, (0, 0, 0)), (.iconst 4, 1, (0, 0, 0))] = 234 := by decide +kernel
theorem og_act_235_1 : oks 12 m_L_act.2.2.1 235 [(.bipush 10, 2, (0, 0, 0))] = true ∧ plen 235 [(.bipush 10, 2, (0, 0, 0))] = 237 := by decide +kernel
theorem og_act_241_1 : oks 12 m_L_act.2.2.1 241 [(.iconst 0, 1, (0, 0, 0))] = true ∧ plen 241 [(.iconst 0, 1, (0, 0, 0))] = 242 := by decide +kernel
theorem og_act_242_2 : oks 12 m_L_act.2.2.1 242 [(.iload_n 3, 1, (0, 0, 0)), (.iconst 4, 1, (0, 0, 0))] = true ∧ plen 242 [(.iload_n 3, 1, (0, 0, 0)), (.iconst 4, 1, (0, 0, 0))] = 244 := by decide +kernel
theorem og_act_245_1 : oks 12 m_L_act.2.2.1 245 [(.iconst 1, 1, (0, 0, 0))] = true ∧ plen 245 [(.iconst 1, 1, (0, 0, 0))] = 246 := by decide +kernel
theorem og_act_249_2 : oks 12 m_L_act.2.2.1 249 [(.iload_n 3, 1, (0, 0, 0)), (.bipush 40, 2, (0, 0, 0))] = true ∧ plen 249 [(.iload_n 3, 1, (0, 0, 0)), (.bipush 40, 2, (0, 0, 0))] = 252 := by decide +kernel
theorem og_act_253_1 : oks 12 m_L_act.2.2.1 253 [(.bipush 10, 2, (0, 0, 0))] = true ∧ plen 253 [(.bipush 10, 2, (0, 0, 0))] = 255 := by decide +kernel
theorem og_act_259_1 : oks 12 m_L_act.2.2.1 259 [(.iconst 0, 1, (0, 0, 0))] = true ∧ plen 259 [(.iconst 0, 1, (0, 0, 0))] = 260 := by decide +kernel
theorem og_act_260_2 : oks 12 m_L_act.2.2.1 260 [(.iload_n 3, 1, (0, 0, 0)), (.iconst 4, 1, (0, 0, 0))] = true ∧ plen 260 [(.iload_n 3, 1, (0, 0, 0)), (.iconst 4, 1, (0, 0, 0))] = 262 := by decide +kernel
theorem og_act_263_1 : oks 12 m_L_act.2.2.1 263 [(.iconst 2, 1, (0, 0, 0))] = true ∧ plen 263 [(.iconst 2, 1, (0, 0, 0))] = 264 := by decide +kernel
theorem og_act_267_2 : oks 12 m_L_act.2.2.1 267 [(.iload_n 3, 1, (0, 0, 0)), (.sipush 400, 3, (0, 0, 0))] = true ∧ plen 267 [(.iload_n 3, 1, (0, 0, 0)), (.sipush 400, 3, (0, 0, 0))] = 271 := by decide +kernel
theorem og_act_272_1 : oks 12 m_L_act.2.2.1 272 [(.bipush 10, 2, (0, 0, 0))] = true ∧ plen 272 [(.bipush 10, 2, (0, 0, 0))] = 274 := by decide +kernel
theorem og_act_278_1 : oks 12 m_L_act.2.2.1 278 [(.iconst 0, 1, (0, 0, 0))] = true ∧ plen 278 [(.iconst 0, 1, (0, 0, 0))] = 279 := by decide +kernel
theorem og_act_283_3 : oks 12 m_L_act.2.2.1 283 [(.aload_n 0, 1, (0, 0, 0)), (.iload_n 3, 1, (0, 0, 0)), (.iconst 2, 1, (0, 0, 0))] = true ∧ plen 283 [(.aload_n 0, 1, (0, 0, 0)), (.iload_n 3, 1, (0, 0, 0)), (.iconst 2, 1, (0, 0, 0))] = 286 := by decide +kernel
theorem og_act_287_2 : oks 12 m_L_act.2.2.1 287 [(.iload_n 3, 1, (0, 0, 0)), (.iconst 2, 1, (0, 0, 0))] = true ∧ plen 287 [(.iload_n 3, 1, (0, 0, 0)), (.iconst 2, 1, (0, 0, 0))] = 289 := by decide +kernel
theorem og_act_290_1 : oks 12 m_L_act.2.2.1 290 [(.iconst 3, 1, (0, 0, 0))] = true ∧ plen 290 [(.iconst 3, 1, (0, 0, 0))] = 291 := by decide +kernel
theorem og_act_292_2 : oks 12 m_L_act.2.2.1 292 [(.iload_n 3, 1, (0, 0, 0)), (.bipush 6, 2, (0, 0, 0))] = true ∧ plen 292 [(.iload_n 3, 1, (0, 0, 0)), (.bipush 6, 2, (0, 0, 0))] = 295 := by decide +kernel
theorem og_act_296_1 : oks 12 m_L_act.2.2.1 296 [(.iconst 2, 1, (0, 0, 0))] = true ∧ plen 296 [(.iconst 2, 1, (0, 0, 0))] = 297 := by decide +kernel
theorem og_act_301_1 : oks 12 m_L_act.2.2.1 301 [(.iconst (-1), 1, (0, 0, 0))] = true ∧ plen 301 [(.iconst (-1), 1, (0, 0, 0))] = 302 := by decide +kernel
theorem og_act_305_1 : oks 12 m_L_act.2.2.1 305 [(.iload 6, 2, (0, 0, 0))] = true ∧ plen 305 [(.iload 6, 2, (0, 0, 0))] = 307 := by decide +kernel
theorem og_act_307_2 : oks 12 m_L_act.2.2.1 307 [(.iload_n 3, 1, (0, 0, 0)), (.bipush 12, 2, (0, 0, 0))] = true ∧ plen 307 [(.iload_n 3, 1, (0, 0, 0)), (.bipush 12, 2, (0, 0, 0))] = 310 := by decide +kernel
theorem og_act_311_1 : oks 12 m_L_act.2.2.1 311 [(.iconst 2, 1, (0, 0, 0))] = true ∧ plen 311 [(.iconst 2, 1, (0, 0, 0))] = 312 := by decide +kernel
theorem og_act_316_1 : oks 12 m_L_act.2.2.1 316 [(.iconst (-1), 1, (0, 0, 0))] = true ∧ plen 316 [(.iconst (-1), 1, (0, 0, 0))] = 317 := by decide +kernel
theorem og_act_320_2 : oks 12 m_L_act.2.2.1 320 [(.aload_n 1, 1, (0, 0, 0)), (.iconst 0, 1, (0, 0, 0))] = true ∧ plen 320 [(.aload_n 1, 1, (0, 0, 0)), (.iconst 0, 1, (0, 0, 0))] = 322 := by decide +kernel
theorem og_act_326_1 : oks 12 m_L_act.2.2.1 326 [(.iconst 0, 1, (0, 0, 0))] = true ∧ plen 326 [(.iconst 0, 1, (0, 0, 0))] = 327 := by decide +kernel
theorem og_act_330_2 : oks 12 m_L_act.2.2.1 330 [(.iload_n 3, 1, (0, 0, 0)), (.bipush 61, 2, (0, 0, 0))] = true ∧ plen 330 [(.iload_n 3, 1, (0, 0, 0)), (.bipush 61, 2, (0, 0, 0))] = 333 := by decide +kernel
theorem og_act_334_2 : oks 12 m_L_act.2.2.1 334 [(.aload_n 1, 1, (0, 0, 0)), (.iconst 0, 1, (0, 0, 0))] = true ∧ plen 334 [(.aload_n 1, 1, (0, 0, 0)), (.iconst 0, 1, (0, 0, 0))] = 336 := by decide +kernel
theorem og_act_338_1 : oks 12 m_L_act.2.2.1 338 [(.iconst (-1), 1, (0, 0, 0))] = true ∧ plen 338 [(.iconst (-1), 1, (0, 0, 0))] = 339 := by decide +kernel
theorem og_act_343_1 : oks 12 m_L_act.2.2.1 343 [(.aload_n 0, 1, (0, 0, 0))] = true ∧ plen 343 [(.aload_n 0, 1, (0, 0, 0))] = 344 := by decide +kernel
theorem og_act_348_3 : oks 12 m_L_act.2.2.1 348 [(.aload_n 0, 1, (0, 0, 0)), (.iload_n 3, 1, (0, 0, 0)), (.bipush 61, 2, (0, 0, 0))] = true ∧ plen 348 [(.aload_n 0, 1, (0, 0, 0)), (.iload_n 3, 1, (0, 0, 0)), (.bipush 61, 2, (0, 0, 0))] = 352 := by decide +kernel
theorem og_act_353_1 : oks 12 m_L_act.2.2.1 353 [(.iconst 3, 1, (0, 0, 0))] = true ∧ plen 353 [(.iconst 3, 1, (0, 0, 0))] = 354 := by decide +kernel
theorem og_act_355_1 : oks 12 m_L_act.2.2.1 355 [(.iload 4, 2, (0, 0, 0))] = true ∧ plen 355 [(.iload 4, 2, (0, 0, 0))] = 357 := by decide +kernel
theorem og_act_361_3 : oks 12 m_L_act.2.2.1 361 [(.aload_n 0, 1, (0, 0, 0)), (.iload_n 3, 1, (0, 0, 0)), (.bipush 10, 2, (0, 0, 0))] = true ∧ plen 361 [(.aload_n 0, 1, (0, 0, 0)), (.iload_n 3, 1, (0, 0, 0)), (.bipush 10, 2, (0, 0, 0))] = 365 := by decide +kernel
theorem og_act_366_2 : oks 12 m_L_act.2.2.1 366 [(.iload_n 3, 1, (0, 0, 0)), (.bipush 10, 2, (0, 0, 0))] = true ∧ plen 366 [(.iload_n 3, 1, (0, 0, 0)), (.bipush 10, 2, (0, 0, 0))] = 369 := by decide +kernel
theorem og_act_370_2 : oks 12 m_L_act.2.2.1 370 [(.iload_n 3, 1, (0, 0, 0)), (.bipush 10, 2, (0, 0, 0))] = true ∧ plen 370 [(.iload_n 3, 1, (0, 0, 0)), (.bipush 10, 2, (0, 0, 0))] = 373 := by decide +kernel
theorem og_act_374_1 : oks 12 m_L_act.2.2.1 374 [(.iconst 4, 1, (0, 0, 0))] = true ∧ plen 374 [(.iconst 4, 1, (0, 0, 0))] = 375 := by decide +kernel
theorem og_act_376_2 : oks 12 m_L_act.2.2.1 376 [(.iadd, 1, (0, 0, 0)), (.bipush 9, 2, (0, 0, 0))] = true ∧ plen 376 [(.iadd, 1, (0, 0, 0)), (.bipush 9, 2, (0, 0, 0))] = 379 := by decide +kernel
theorem og_act_382_1 : oks 12 m_L_act.2.2.1 382 [(.bipush 9, 2, (0, 0, 0))] = true ∧ plen 382 [(.bipush 9, 2, (0, 0, 0))] = 384 := by decide +kernel
theorem og_act_387_2 : oks 12 m_L_act.2.2.1 387 [(.iload_n 3, 1, (0, 0, 0)), (.bipush 10, 2, (0, 0, 0))] = true ∧ plen 387 [(.iload_n 3, 1, (0, 0, 0)), (.bipush 10, 2, (0, 0, 0))] = 390 := by decide +kernel
theorem og_act_391_2 : oks 12 m_L_act.2.2.1 391 [(.iload_n 3, 1, (0, 0, 0)), (.bipush 10, 2, (0, 0, 0))] = true ∧ plen 391 [(.iload_n 3, 1, (0, 0, 0)), (.bipush 10, 2, (0, 0, 0))] = 394 := by decide +kernel
theorem og_act_395_1 : oks 12 m_L_act.2.2.1 395 [(.iconst 4, 1, (0, 0, 0))] = true ∧ plen 395 [(.iconst 4, 1, (0, 0, 0))] = 396 := by decide +kernel
theorem og_act_397_1 : oks 12 m_L_act.2.2.1 397 [(.iadd, 1, (0, 0, 0))] = true ∧ plen 397 [(.iadd, 1, (0, 0, 0))] = 398 := by decide +kernel
theorem og_act_402_3 : oks 12 m_L_act.2.2.1 402 [(.aload_n 0, 1, (0, 0, 0)), (.iload_n 3, 1, (0, 0, 0)), (.iconst 3, 1, (0, 0, 0))] = true ∧ plen 402 [(.aload_n 0, 1, (0, 0, 0)), (.iload_n 3, 1, (0, 0, 0)), (.iconst 3, 1, (0, 0, 0))] = 405 := by decide +kernel
theorem og_act_406_1 : oks 12 m_L_act.2.2.1 406 [(.iconst 2, 1, (0, 0, 0))] = true ∧ plen 406 [(.iconst 2, 1, (0, 0, 0))] = 407 := by decide +kernel
theorem og_act_408_2 : oks 12 m_L_act.2.2.1 408 [(.iload_n 3, 1, (0, 0, 0)), (.bipush 7, 2, (0, 0, 0))] = true ∧ plen 408 [(.iload_n 3, 1, (0, 0, 0)), (.bipush 7, 2, (0, 0, 0))] = 411 := by decide +kernel
theorem og_act_412_1 : oks 12 m_L_act.2.2.1 412 [(.iconst 3, 1, (0, 0, 0))] = true ∧ plen 412 [(.iconst 3, 1, (0, 0, 0))] = 413 := by decide +kernel
theorem og_act_414_2 : oks 12 m_L_act.2.2.1 414 [(.iload_n 3, 1, (0, 0, 0)), (.bipush 11, 2, (0, 0, 0))] = true ∧ plen 414 [(.iload_n 3, 1, (0, 0, 0)), (.bipush 11, 2, (0, 0, 0))] = 417 := by decide +kernel
theorem og_act_418_1 : oks 12 m_L_act.2.2.1 418 [(.iconst 2, 1, (0, 0, 0))] = true ∧ plen 418 [(.iconst 2, 1, (0, 0, 0))] = 419 := by decide +kernel
theorem og_act_423_1 : oks 12 m_L_act.2.2.1 423 [(.iconst (-1), 1, (0, 0, 0))] = true ∧ plen 423 [(.iconst (-1), 1, (0, 0, 0))] = 424 := by decide +kernel
theorem og_act_427_1 : oks 12 m_L_act.2.2.1 427 [(.iload 4, 2, (0, 0, 0))] = true ∧ plen 427 [(.iload 4, 2, (0, 0, 0))] = 429 := by decide +kernel
theorem og_act_429_2 : oks 12 m_L_act.2.2.1 429 [(.iload_n 3, 1, (0, 0, 0)), (.bipush 13, 2, (0, 0, 0))] = true ∧ plen 429 [(.iload_n 3, 1, (0, 0, 0)), (.bipush 13, 2, (0, 0, 0))] = 432 := by decide +kernel
theorem og_act_433_1 : oks 12 m_L_act.2.2.1 433 [(.iconst 2, 1, (0, 0, 0))] = true ∧ plen 433 [(.iconst 2, 1, (0, 0, 0))] = 434 := by decide +kernel
theorem og_act_438_1 : oks 12 m_L_act.2.2.1 438 [(.iconst (-1), 1, (0, 0, 0))] = true ∧ plen 438 [(.iconst (-1), 1, (0, 0, 0))] = 439 := by decide +kernel
theorem og_act_442_1 : oks 12 m_L_act.2.2.1 442 [(.iload 5, 2, (0, 0, 0))] = true ∧ plen 442 [(.iload 5, 2, (0, 0, 0))] = 444 := by decide +kernel
theorem og_act_444_1 : oks 12 m_L_act.2.2.1 444 [(.iconst (-1), 1, (0, 0, 0))] = true ∧ plen 444 [(.iconst (-1), 1, (0, 0, 0))] = 445 := by decide +kernel
theorem og_act_449_3 : oks 12 m_L_act.2.2.1 449 [(.aload_n 0, 1, (0, 0, 0)), (.iload 4, 2, (0, 0, 0)), (.iload 5, 2, (0, 0, 0))] = true ∧ plen 449 [(.aload_n 0, 1, (0, 0, 0)), (.iload 4, 2, (0, 0, 0)), (.iload 5, 2, (0, 0, 0))] = 454 := by decide +kernel
theorem og_act_458_3 : oks 12 m_L_act.2.2.1 458 [(.aload_n 0, 1, (0, 0, 0)), (.iload_n 3, 1, (0, 0, 0)), (.bipush 61, 2, (0, 0, 0))] = true ∧ plen 458 [(.aload_n 0, 1, (0, 0, 0)), (.iload_n 3, 1, (0, 0, 0)), (.bipush 61, 2, (0, 0, 0))] = 462 := by decide +kernel
theorem og_act_463_1 : oks 12 m_L_act.2.2.1 463 [(.iconst 3, 1, (0, 0, 0))] = true ∧ plen 463 [(.iconst 3, 1, (0, 0, 0))] = 464 := by decide +kernel
theorem og_act_465_1 : oks 12 m_L_act.2.2.1 465 [(.iload 4, 2, (0, 0, 0))] = true ∧ plen 465 [(.iload 4, 2, (0, 0, 0))] = 467 := by decide +kernel
theorem og_act_471_3 : oks 12 m_L_act.2.2.1 471 [(.aload_n 0, 1, (0, 0, 0)), (.iload_n 3, 1, (0, 0, 0)), (.iconst 3, 1, (0, 0, 0))] = true ∧ plen 471 [(.aload_n 0, 1, (0, 0, 0)), (.iload_n 3, 1, (0, 0, 0)), (.iconst 3, 1, (0, 0, 0))] = 474 := by decide +kernel
theorem og_act_475_2 : oks 12 m_L_act.2.2.1 475 [(.iload_n 3, 1, (0, 0, 0)), (.iconst 3, 1, (0, 0, 0))] = true ∧ plen 475 [(.iload_n 3, 1, (0, 0, 0)), (.iconst 3, 1, (0, 0, 0))] = 477 := by decide +kernel
theorem og_act_481_1 : oks 12 m_L_act.2.2.1 481 [(.iload 4, 2, (0, 0, 0))] = true ∧ plen 481 [(.iload 4, 2, (0, 0, 0))] = 483 := by decide +kernel
theorem og_act_486_1 : oks 12 m_L_act.2.2.1 486 [(.iconst (-1), 1, (0, 0, 0))] = true ∧ plen 486 [(.iconst (-1), 1, (0, 0, 0))] = 487 := by decide +kernel
theorem og_act_487_2 : oks 12 m_L_act.2.2.1 487 [(.iload_n 3, 1, (0, 0, 0)), (.iconst 3, 1, (0, 0, 0))] = true ∧ plen 487 [(.iload_n 3, 1, (0, 0, 0)), (.iconst 3, 1, (0, 0, 0))] = 489 := by decide +kernel
theorem og_act_490_1 : oks 12 m_L_act.2.2.1 490 [(.iconst 1, 1, (0, 0, 0))] = true ∧ plen 490 [(.iconst 1, 1, (0, 0, 0))] = 491 := by decide +kernel
theorem og_act_494_1 : oks 12 m_L_act.2.2.1 494 [(.iload 5, 2, (0, 0, 0))] = true ∧ plen 494 [(.iload 5, 2, (0, 0, 0))] = 496 := by decide +kernel
theorem og_act_499_1 : oks 12 m_L_act.2.2.1 499 [(.iconst (-1), 1, (0, 0, 0))] = true ∧ plen 499 [(.iconst (-1), 1, (0, 0, 0))] = 500 := by decide +kernel
theorem og_act_500_2 : oks 12 m_L_act.2.2.1 500 [(.iload_n 3, 1, (0, 0, 0)), (.iconst 3, 1, (0, 0, 0))] = true ∧ plen 500 [(.iload_n 3, 1, (0, 0, 0)), (.iconst 3, 1, (0, 0, 0))] = 502 := by decide +kernel
theorem og_act_503_1 : oks 12 m_L_act.2.2.1 503 [(.iconst 3, 1, (0, 0, 0))] = true ∧ plen 503 [(.iconst 3, 1, (0, 0, 0))] = 504 := by decide +kernel
theorem og_act_509_3 : oks 12 m_L_act.2.2.1 509 [(.aload_n 0, 1, (0, 0, 0)), (.iload_n 3, 1, (0, 0, 0)), (.iconst 3, 1, (0, 0, 0))] = true ∧ plen 509 [(.aload_n 0, 1, (0, 0, 0)), (.iload_n 3, 1, (0, 0, 0)), (.iconst 3, 1, (0, 0, 0))] = 512 := by decide +kernel
theorem og_act_513_2 : oks 12 m_L_act.2.2.1 513 [(.iload_n 3, 1, (0, 0, 0)), (.iconst 3, 1, (0, 0, 0))] = true ∧ plen 513 [(.iload_n 3, 1, (0, 0, 0)), (.iconst 3, 1, (0, 0, 0))] = 515 := by decide +kernel
theorem og_act_516_1 : oks 12 m_L_act.2.2.1 516 [(.bipush 19, 2, (0, 0, 0))] = true ∧ plen 516 [(.bipush 19, 2, (0, 0, 0))] = 518 := by decide +kernel
theorem og_act_519_4 : oks 12 m_L_act.2.2.1 519 [(.bipush 9, 2, (0, 0, 0)), (.isub, 1, (0, 0, 0)), (.iload_n 3, 1, (0, 0, 0)), (.bipush 57, 2, (0, 0, 0))] = true ∧ plen 519 [(.bipush 9, 2, (0, 0, 0)), (.isub, 1, (0, 0, 0)), (.iload_n 3, 1, (0, 0, 0)), (.bipush 57, 2, (0, 0, 0))] = 525 := by decide +kernel
theorem og_act_526_1 : oks 12 m_L_act.2.2.1 526 [(.bipush 19, 2, (0, 0, 0))] = true ∧ plen 526 [(.bipush 19, 2, (0, 0, 0))] = 528 := by decide +kernel
theorem og_act_529_4 : oks 12 m_L_act.2.2.1 529 [(.bipush 9, 2, (0, 0, 0)), (.isub, 1, (0, 0, 0)), (.iload_n 3, 1, (0, 0, 0)), (.sipush 1083, 3, (0, 0, 0))] = true ∧ plen 529 [(.bipush 9, 2, (0, 0, 0)), (.isub, 1, (0, 0, 0)), (.iload_n 3, 1, (0, 0, 0)), (.sipush 1083, 3, (0, 0, 0))] = 536 := by decide +kernel
theorem og_act_537_1 : oks 12 m_L_act.2.2.1 537 [(.bipush 19, 2, (0, 0, 0))] = true ∧ plen 537 [(.bipush 19, 2, (0, 0, 0))] = 539 := by decide +kernel
theorem og_act_540_5 : oks 12 m_L_act.2.2.1 540 [(.bipush 9, 2, (0, 0, 0)), (.isub, 1, (0, 0, 0)), (.iconst 1, 1, (0, 0, 0)), (.iload_n 3, 1, (0, 0, 0)), (.bipush 7, 2, (0, 0, 0))] = true ∧ plen 540 [(.bipush 9, 2, (0, 0, 0)), (.isub, 1, (0, 0, 0)), (.iconst 1, 1, (0, 0, 0)), (.iload_n 3, 1, (0, 0, 0)), (.bipush 7, 2, (0, 0, 0))] = 547 := by decide +kernel
theorem og_act_548_1 : oks 12 m_L_act.2.2.1 548 [(.iconst 4, 1, (0, 0, 0))] = true ∧ plen 548 [(.iconst 4, 1, (0, 0, 0))] = 549 := by decide +kernel
theorem og_act_550_1 : oks 12 m_L_act.2.2.1 550 [(.iadd, 1, (0, 0, 0))] = true ∧ plen 550 [(.iadd, 1, (0, 0, 0))] = 551 := by decide +kernel
theorem og_act_555_2 : oks 12 m_L_act.2.2.1 555 [(.iload_n 3, 1, (0, 0, 0)), (.iconst 3, 1, (0, 0, 0))] = true ∧ plen 555 [(.iload_n 3, 1, (0, 0, 0)), (.iconst 3, 1, (0, 0, 0))] = 557 := by decide +kernel
theorem og_act_561_4 : oks 12 m_L_act.2.2.1 561 [(.aload_n 0, 1, (0, 0, 0)), (.iconst 1, 1, (0, 0, 0)), (.iload_n 3, 1, (0, 0, 0)), (.iconst 3, 1, (0, 0, 0))] = true ∧ plen 561 [(.aload_n 0, 1, (0, 0, 0)), (.iconst 1, 1, (0, 0, 0)), (.iload_n 3, 1, (0, 0, 0)), (.iconst 3, 1, (0, 0, 0))] = 565 := by decide +kernel
theorem og_act_566_1 : oks 12 m_L_act.2.2.1 566 [(.iconst 2, 1, (0, 0, 0))] = true ∧ plen 566 [(.iconst 2, 1, (0, 0, 0))] = 567 := by decide +kernel
theorem og_act_568_3 : oks 12 m_L_act.2.2.1 568 [(.iadd, 1, (0, 0, 0)), (.iload_n 3, 1, (0, 0, 0)), (.bipush 6, 2, (0, 0, 0))] = true ∧ plen 568 [(.iadd, 1, (0, 0, 0)), (.iload_n 3, 1, (0, 0, 0)), (.bipush 6, 2, (0, 0, 0))] = 572 := by decide +kernel
theorem og_act_576_2 : oks 12 m_L_act.2.2.1 576 [(.iload_n 3, 1, (0, 0, 0)), (.iconst 3, 1, (0, 0, 0))] = true ∧ plen 576 [(.iload_n 3, 1, (0, 0, 0)), (.iconst 3, 1, (0, 0, 0))] = 578 := by decide +kernel
theorem og_act_579_1 : oks 12 m_L_act.2.2.1 579 [(.iconst 2, 1, (0, 0, 0))] = true ∧ plen 579 [(.iconst 2, 1, (0, 0, 0))] = 580 := by decide +kernel
theorem og_act_584_2 : oks 12 m_L_act.2.2.1 584 [(.iload_n 3, 1, (0, 0, 0)), (.bipush 12, 2, (0, 0, 0))] = true ∧ plen 584 [(.iload_n 3, 1, (0, 0, 0)), (.bipush 12, 2, (0, 0, 0))] = 587 := by decide +kernel
theorem og_act_594_1 : oks 12 m_L_act.2.2.1 594 [(.iconst 0, 1, (0, 0, 0))] = true ∧ plen 594 [(.iconst 0, 1, (0, 0, 0))] = 595 := by decide +kernel
theorem og_act_595_1 : oks 12 m_L_act.2.2.1 595 [(.iconst 0, 1, (0, 0, 0))] = true ∧ plen 595 [(.iconst 0, 1, (0, 0, 0))] = 596 := by decide +kernel
theorem og_act_602_2 : oks 12 m_L_act.2.2.1 602 [(.iload_n 3, 1, (0, 0, 0)), (.iconst 3, 1, (0, 0, 0))] = true ∧ plen 602 [(.iload_n 3, 1, (0, 0, 0)), (.iconst 3, 1, (0, 0, 0))] = 604 := by decide +kernel
theorem og_act_605_1 : oks 12 m_L_act.2.2.1 605 [(.iconst 1, 1, (0, 0, 0))] = true ∧ plen 605 [(.iconst 1, 1, (0, 0, 0))] = 606 := by decide +kernel
theorem og_act_609_3 : oks 12 m_L_act.2.2.1 609 [(.aload_n 0, 1, (0, 0, 0)), (.aload_n 1, 1, (0, 0, 0)), (.iconst 2, 1, (0, 0, 0))] = true ∧ plen 609 [(.aload_n 0, 1, (0, 0, 0)), (.aload_n 1, 1, (0, 0, 0)), (.iconst 2, 1, (0, 0, 0))] = 612 := by decide +kernel
theorem og_act_616_1 : oks 12 m_L_act.2.2.1 616 [(.iconst 0, 1, (0, 0, 0))] = true ∧ plen 616 [(.iconst 0, 1, (0, 0, 0))] = 617 := by decide +kernel
theorem og_act_620_2 : oks 12 m_L_act.2.2.1 620 [(.iload_n 3, 1, (0, 0, 0)), (.iconst 3, 1, (0, 0, 0))] = true ∧ plen 620 [(.iload_n 3, 1, (0, 0, 0)), (.iconst 3, 1, (0, 0, 0))] = 622 := by decide +kernel
theorem og_act_623_2 : oks 12 m_L_act.2.2.1 623 [(.aload_n 1, 1, (0, 0, 0)), (.iconst 2, 1, (0, 0, 0))] = true ∧ plen 623 [(.aload_n 1, 1, (0, 0, 0)), (.iconst 2, 1, (0, 0, 0))] = 625 := by decide +kernel
theorem og_act_627_2 : oks 12 m_L_act.2.2.1 627 [(.iload_n 3, 1, (0, 0, 0)), (.iconst 2, 1, (0, 0, 0))] = true ∧ plen 627 [(.iload_n 3, 1, (0, 0, 0)), (.iconst 2, 1, (0, 0, 0))] = 629 := by decide +kernel
theorem og_act_636_3 : oks 12 m_L_act.2.2.1 636 [(.aload_n 0, 1, (0, 0, 0)), (.aload_n 1, 1, (0, 0, 0)), (.iconst 2, 1, (0, 0, 0))] = true ∧ plen 636 [(.aload_n 0, 1, (0, 0, 0)), (.aload_n 1, 1, (0, 0, 0)), (.iconst 2, 1, (0, 0, 0))] = 639 := by decide +kernel
theorem og_act_640_1 : oks 12 m_L_act.2.2.1 640 [(.iconst 2, 1, (0, 0, 0))] = true ∧ plen 640 [(.iconst 2, 1, (0, 0, 0))] = 641 := by decide +kernel
theorem og_act_644_1 : oks 12 m_L_act.2.2.1 644 [(.iconst 0, 1, (0, 0, 0))] = true ∧ plen 644 [(.iconst 0, 1, (0, 0, 0))] = 645 := by decide +kernel
theorem og_act_648_2 : oks 12 m_L_act.2.2.1 648 [(.iload_n 3, 1, (0, 0, 0)), (.iconst 3, 1, (0, 0, 0))] = true ∧ plen 648 [(.iload_n 3, 1, (0, 0, 0)), (.iconst 3, 1, (0, 0, 0))] = 650 := by decide +kernel
theorem og_act_651_2 : oks 12 m_L_act.2.2.1 651 [(.aload_n 1, 1, (0, 0, 0)), (.iconst 2, 1, (0, 0, 0))] = true ∧ plen 651 [(.aload_n 1, 1, (0, 0, 0)), (.iconst 2, 1, (0, 0, 0))] = 653 := by decide +kernel
theorem og_act_654_2 : oks 12 m_L_act.2.2.1 654 [(.iconst 1, 1, (0, 0, 0)), (.isub, 1, (0, 0, 0))] = true ∧ plen 654 [(.iconst 1, 1, (0, 0, 0)), (.isub, 1, (0, 0, 0))] = 656 := by decide +kernel
theorem og_act_657_2 : oks 12 m_L_act.2.2.1 657 [(.iload_n 3, 1, (0, 0, 0)), (.iconst 2, 1, (0, 0, 0))] = true ∧ plen 657 [(.iload_n 3, 1, (0, 0, 0)), (.iconst 2, 1, (0, 0, 0))] = 659 := by decide +kernel
theorem og_act_664_4 : oks 12 m_L_act.2.2.1 664 [(.aload_n 0, 1, (0, 0, 0)), (.iload 4, 2, (0, 0, 0)), (.aload_n 1, 1, (0, 0, 0)), (.iconst 3, 1, (0, 0, 0))] = true ∧ plen 664 [(.aload_n 0, 1, (0, 0, 0)), (.iload 4, 2, (0, 0, 0)), (.aload_n 1, 1, (0, 0, 0)), (.iconst 3, 1, (0, 0, 0))] = 669 := by decide +kernel
theorem og_act_670_1 : oks 12 m_L_act.2.2.1 670 [(.iconst 1, 1, (0, 0, 0))] = true ∧ plen 670 [(.iconst 1, 1, (0, 0, 0))] = 671 := by decide +kernel
theorem og_act_674_1 : oks 12 m_L_act.2.2.1 674 [(.iload 5, 2, (0, 0, 0))] = true ∧ plen 674 [(.iload 5, 2, (0, 0, 0))] = 676 := by decide +kernel
theorem og_act_679_1 : oks 12 m_L_act.2.2.1 679 [(.iconst (-1), 1, (0, 0, 0))] = true ∧ plen 679 [(.iconst (-1), 1, (0, 0, 0))] = 680 := by decide +kernel
theorem og_act_680_2 : oks 12 m_L_act.2.2.1 680 [(.aload_n 1, 1, (0, 0, 0)), (.iconst 3, 1, (0, 0, 0))] = true ∧ plen 680 [(.aload_n 1, 1, (0, 0, 0)), (.iconst 3, 1, (0, 0, 0))] = 682 := by decide +kernel
theorem og_act_683_1 : oks 12 m_L_act.2.2.1 683 [(.iconst 2, 1, (0, 0, 0))] = true ∧ plen 683 [(.iconst 2, 1, (0, 0, 0))] = 684 := by decide +kernel
theorem og_act_687_1 : oks 12 m_L_act.2.2.1 687 [(.iconst 0, 1, (0, 0, 0))] = true ∧ plen 687 [(.iconst 0, 1, (0, 0, 0))] = 688 := by decide +kernel
theorem og_act_691_1 : oks 12 m_L_act.2.2.1 691 [(.iconst (-1), 1, (0, 0, 0))] = true ∧ plen 691 [(.iconst (-1), 1, (0, 0, 0))] = 692 := by decide +kernel
theorem og_act_692_2 : oks 12 m_L_act.2.2.1 692 [(.iload_n 3, 1, (0, 0, 0)), (.bipush 100, 2, (0, 0, 0))] = true ∧ plen 692 [(.iload_n 3, 1, (0, 0, 0)), (.bipush 100, 2, (0, 0, 0))] = 695 := by decide +kernel
theorem og_act_700_3 : oks 12 m_L_act.2.2.1 700 [(.aload_n 0, 1, (0, 0, 0)), (.aload_n 1, 1, (0, 0, 0)), (.iconst 2, 1, (0, 0, 0))] = true ∧ plen 700 [(.aload_n 0, 1, (0, 0, 0)), (.aload_n 1, 1, (0, 0, 0)), (.iconst 2, 1, (0, 0, 0))] = 703 := by decide +kernel
theorem og_act_707_1 : oks 12 m_L_act.2.2.1 707 [(.iconst 0, 1, (0, 0, 0))] = true ∧ plen 707 [(.iconst 0, 1, (0, 0, 0))] = 708 := by decide +kernel
theorem og_act_711_3 : oks 12 m_L_act.2.2.1 711 [(.iload_n 3, 1, (0, 0, 0)), (.aload_n 1, 1, (0, 0, 0)), (.iconst 2, 1, (0, 0, 0))] = true ∧ plen 711 [(.iload_n 3, 1, (0, 0, 0)), (.aload_n 1, 1, (0, 0, 0)), (.iconst 2, 1, (0, 0, 0))] = 714 := by decide +kernel
theorem og_act_716_2 : oks 12 m_L_act.2.2.1 716 [(.iload_n 3, 1, (0, 0, 0)), (.bipush 8, 2, (0, 0, 0))] = true ∧ plen 716 [(.iload_n 3, 1, (0, 0, 0)), (.bipush 8, 2, (0, 0, 0))] = 719 := by decide +kernel
theorem og_act_720_1 : oks 12 m_L_act.2.2.1 720 [(.iconst 5, 1, (0, 0, 0))] = true ∧ plen 720 [(.iconst 5, 1, (0, 0, 0))] = 721 := by decide +kernel
theorem og_act_722_4 : oks 12 m_L_act.2.2.1 722 [(.iconst 1, 1, (0, 0, 0)), (.isub, 1, (0, 0, 0)), (.iload_n 3, 1, (0, 0, 0)), (.bipush 8, 2, (0, 0, 0))] = true ∧ plen 722 [(.iconst 1, 1, (0, 0, 0)), (.isub, 1, (0, 0, 0)), (.iload_n 3, 1, (0, 0, 0)), (.bipush 8, 2, (0, 0, 0))] = 727 := by decide +kernel
theorem og_act_728_1 : oks 12 m_L_act.2.2.1 728 [(.iconst 5, 1, (0, 0, 0))] = true ∧ plen 728 [(.iconst 5, 1, (0, 0, 0))] = 729 := by decide +kernel
theorem og_act_733_1 : oks 12 m_L_act.2.2.1 733 [(.iconst 0, 1, (0, 0, 0))] = true ∧ plen 733 [(.iconst 0, 1, (0, 0, 0))] = 734 := by decide +kernel
theorem og_act_737_2 : oks 12 m_L_act.2.2.1 737 [(.iload_n 3, 1, (0, 0, 0)), (.bipush 40, 2, (0, 0, 0))] = true ∧ plen 737 [(.iload_n 3, 1, (0, 0, 0)), (.bipush 40, 2, (0, 0, 0))] = 740 := by decide +kernel
theorem og_act_741_1 : oks 12 m_L_act.2.2.1 741 [(.iconst 3, 1, (0, 0, 0))] = true ∧ plen 741 [(.iconst 3, 1, (0, 0, 0))] = 742 := by decide +kernel
theorem og_act_743_2 : oks 12 m_L_act.2.2.1 743 [(.iload_n 3, 1, (0, 0, 0)), (.bipush 120, 2, (0, 0, 0))] = true ∧ plen 743 [(.iload_n 3, 1, (0, 0, 0)), (.bipush 120, 2, (0, 0, 0))] = 746 := by decide +kernel
theorem og_act_747_1 : oks 12 m_L_act.2.2.1 747 [(.bipush 10, 2, (0, 0, 0))] = true ∧ plen 747 [(.bipush 10, 2, (0, 0, 0))] = 749 := by decide +kernel
theorem og_act_754_4 : oks 12 m_L_act.2.2.1 754 [(.aload_n 0, 1, (0, 0, 0)), (.iconst 2, 1, (0, 0, 0)), (.iload_n 3, 1, (0, 0, 0)), (.iconst 2, 1, (0, 0, 0))] = true ∧ plen 754 [(.aload_n 0, 1, (0, 0, 0)), (.iconst 2, 1, (0, 0, 0)), (.iload_n 3, 1, (0, 0, 0)), (.iconst 2, 1, (0, 0, 0))] = 758 := by decide +kernel
theorem og_act_759_3 : oks 12 m_L_act.2.2.1 759 [(.iadd, 1, (0, 0, 0)), (.iload_n 3, 1, (0, 0, 0)), (.iconst 2, 1, (0, 0, 0))] = true ∧ plen 759 [(.iadd, 1, (0, 0, 0)), (.iload_n 3, 1, (0, 0, 0)), (.iconst 2, 1, (0, 0, 0))] = 762 := by decide +kernel
theorem og_act_763_1 : oks 12 m_L_act.2.2.1 763 [(.iconst 2, 1, (0, 0, 0))] = true ∧ plen 763 [(.iconst 2, 1, (0, 0, 0))] = 764 := by decide +kernel
theorem og_act_768_1 : oks 12 m_L_act.2.2.1 768 [(.iconst 1, 1, (0, 0, 0))] = true ∧ plen 768 [(.iconst 1, 1, (0, 0, 0))] = 769 := by decide +kernel
theorem og_act_772_1 : oks 12 m_L_act.2.2.1 772 [(.iconst 0, 1, (0, 0, 0))] = true ∧ plen 772 [(.iconst 0, 1, (0, 0, 0))] = 773 := by decide +kernel
theorem og_act_777_3 : oks 12 m_L_act.2.2.1 777 [(.aload_n 0, 1, (0, 0, 0)), (.iload_n 3, 1, (0, 0, 0)), (.bipush 7, 2, (0, 0, 0))] = true ∧ plen 777 [(.aload_n 0, 1, (0, 0, 0)), (.iload_n 3, 1, (0, 0, 0)), (.bipush 7, 2, (0, 0, 0))] = 781 := by decide +kernel
theorem og_act_782_1 : oks 12 m_L_act.2.2.1 782 [(.iconst 4, 1, (0, 0, 0))] = true ∧ plen 782 [(.iconst 4, 1, (0, 0, 0))] = 783 := by decide +kernel
theorem og_act_784_2 : oks 12 m_L_act.2.2.1 784 [(.aload_n 1, 1, (0, 0, 0)), (.iconst 0, 1, (0, 0, 0))] = true ∧ plen 784 [(.aload_n 1, 1, (0, 0, 0)), (.iconst 0, 1, (0, 0, 0))] = 786 := by decide +kernel
theorem og_act_790_1 : oks 12 m_L_act.2.2.1 790 [(.iconst 0, 1, (0, 0, 0))] = true ∧ plen 790 [(.iconst 0, 1, (0, 0, 0))] = 791 := by decide +kernel
theorem og_act_794_1 : oks 12 m_L_act.2.2.1 794 [(.iload 6, 2, (0, 0, 0))] = true ∧ plen 794 [(.iload 6, 2, (0, 0, 0))] = 796 := by decide +kernel
theorem og_act_796_2 : oks 12 m_L_act.2.2.1 796 [(.aload_n 1, 1, (0, 0, 0)), (.iconst 3, 1, (0, 0, 0))] = true ∧ plen 796 [(.aload_n 1, 1, (0, 0, 0)), (.iconst 3, 1, (0, 0, 0))] = 798 := by decide +kernel
theorem og_act_799_1 : oks 12 m_L_act.2.2.1 799 [(.iconst 1, 1, (0, 0, 0))] = true ∧ plen 799 [(.iconst 1, 1, (0, 0, 0))] = 800 := by decide +kernel
theorem og_act_803_2 : oks 12 m_L_act.2.2.1 803 [(.aload_n 1, 1, (0, 0, 0)), (.iconst 0, 1, (0, 0, 0))] = true ∧ plen 803 [(.aload_n 1, 1, (0, 0, 0)), (.iconst 0, 1, (0, 0, 0))] = 805 := by decide +kernel
theorem og_act_809_1 : oks 12 m_L_act.2.2.1 809 [(.iconst 0, 1, (0, 0, 0))] = true ∧ plen 809 [(.iconst 0, 1, (0, 0, 0))] = 810 := by decide +kernel
theorem og_act_813_2 : oks 12 m_L_act.2.2.1 813 [(.iload_n 3, 1, (0, 0, 0)), (.bipush 61, 2, (0, 0, 0))] = true ∧ plen 813 [(.iload_n 3, 1, (0, 0, 0)), (.bipush 61, 2, (0, 0, 0))] = 816 := by decide +kernel
theorem og_act_817_2 : oks 12 m_L_act.2.2.1 817 [(.aload_n 1, 1, (0, 0, 0)), (.iconst 0, 1, (0, 0, 0))] = true ∧ plen 817 [(.aload_n 1, 1, (0, 0, 0)), (.iconst 0, 1, (0, 0, 0))] = 819 := by decide +kernel
theorem og_act_824_1 : oks 12 m_L_act.2.2.1 824 [(.iconst (-1), 1, (0, 0, 0))] = true ∧ plen 824 [(.iconst (-1), 1, (0, 0, 0))] = 825 := by decide +kernel
theorem og_act_825_2 : oks 12 m_L_act.2.2.1 825 [(.aload_n 1, 1, (0, 0, 0)), (.iconst 3, 1, (0, 0, 0))] = true ∧ plen 825 [(.aload_n 1, 1, (0, 0, 0)), (.iconst 3, 1, (0, 0, 0))] = 827 := by decide +kernel
theorem og_act_828_1 : oks 12 m_L_act.2.2.1 828 [(.iconst 2, 1, (0, 0, 0))] = true ∧ plen 828 [(.iconst 2, 1, (0, 0, 0))] = 829 := by decide +kernel
theorem og_act_832_1 : oks 12 m_L_act.2.2.1 832 [(.iconst 0, 1, (0, 0, 0))] = true ∧ plen 832 [(.iconst 0, 1, (0, 0, 0))] = 833 := by decide +kernel
theorem og_act_836_1 : oks 12 m_L_act.2.2.1 836 [(.iconst (-1), 1, (0, 0, 0))] = true ∧ plen 836 [(.iconst (-1), 1, (0, 0, 0))] = 837 := by decide +kernel
def F_act (x n0 n1 n2 n3 : Int) (σ : Sg) : Option (Int × Sg) :=
if jrem x 24 = 0 then
wrq [0, 1, 2] (F_X10_constructor (jrem (jdiv x 24) 2) (jrem (jdiv (jdiv x 24) 2) 3) (if (jrem (jdiv (jdiv x 24) 2) 3) ≤ 0 then 0 else jrem (jdiv (jdiv x 24) 6) 6 : Int) (if (jrem (jdiv (jdiv x 24) 2) 3) ≤ 1 then 0 else jrem (jdiv (jdiv x 24) 36) 6 : Int) 0 σ)
else if jrem x 24 = 1 then
wrq [1, 2] (F_X10_num (jrem (jdiv x 24) 10) σ)
else if jrem x 24 = 2 then
wrq [1, 2] (F_X10_seq (jrem (jdiv x 24) 4) (if (jrem (jdiv x 24) 4) ≤ 0 then 0 else jrem (jdiv (jdiv x 24) 4) 10 : Int) (if (jrem (jdiv x 24) 4) ≤ 1 then 0 else jrem (jdiv (jdiv x 24) 40) 10 : Int) (if (jrem (jdiv x 24) 4) ≤ 2 then 0 else jrem (jdiv (jdiv x 24) 400) 10 : Int) σ)
else if jrem x 24 = 3 then
wrq [0, 1, 2] (F_X10_data (jrem (jdiv x 24) 2) (jrem (jdiv (jdiv x 24) 2) 3) (if (jrem (jdiv (jdiv x 24) 6) 2) = 0 then (-1) else (if (n0) = 0 then 0 else jrem (jdiv x 24) (n0) : Int) : Int) (if (jrem (jdiv (jdiv x 24) 12) 2) = 0 then (-1) else (if (n0) = 0 then 0 else jrem (jdiv (jdiv x 24) 61) (n0) : Int) : Int) (-1) σ)
else if jrem x 24 = 4 then
wrq [2] (F_X10_any σ)
else if jrem x 24 = 5 then
wrq [0, 1, 2] (F_X10_name (jrem (jdiv (jdiv x 24) 61) 3) (if (n1) = 0 then 0 else jrem (jdiv x 24) (n1) : Int) σ)
else if jrem x 24 = 6 then
wrq [1, 2] (F_X10_range (jrem (jdiv x 24) 10) (if (wrap ((jrem (jdiv x 24) 10) + (jrem (jdiv (jdiv x 24) 10) 4))) ≤ 9 then wrap ((jrem (jdiv x 24) 10) + (jrem (jdiv (jdiv x 24) 10) 4)) else 9 : Int) σ)
else if jrem x 24 = 7 then
wrq [1, 2] (F_X10_range (jrem (jdiv x 24) 10) (if (wrap ((jrem (jdiv x 24) 10) + (jrem (jdiv (jdiv x 24) 10) 4))) ≤ 9 then wrap ((jrem (jdiv x 24) 10) + (jrem (jdiv (jdiv x 24) 10) 4)) else 9 : Int) σ)
else if jrem x 24 = 8 then
wrq [0, 1, 2] (F_X10_make (jrem (jdiv (jdiv x 24) 3) 2) (jrem (jdiv (jdiv x 24) 7) 3) (if (jrem (jdiv (jdiv x 24) 11) 2) = 0 then (-1) else (if (n1) = 0 then 0 else jrem (jdiv x 24) (n1) : Int) : Int) (if (jrem (jdiv (jdiv x 24) 13) 2) = 0 then (-1) else (if (n1) = 0 then 0 else jrem (jdiv (jdiv x 24) 61) (n1) : Int) : Int) (-1) σ)
else if jrem x 24 = 9 then
wrq [0, 1, 2] (F_X10_make (jrem (jdiv (jdiv x 24) 3) 2) (jrem (jdiv (jdiv x 24) 7) 3) (if (jrem (jdiv (jdiv x 24) 11) 2) = 0 then (-1) else (if (n1) = 0 then 0 else jrem (jdiv x 24) (n1) : Int) : Int) (if (jrem (jdiv (jdiv x 24) 13) 2) = 0 then (-1) else (if (n1) = 0 then 0 else jrem (jdiv (jdiv x 24) 61) (n1) : Int) : Int) (-1) σ)
else if jrem x 24 = 10 then
wrq [0, 1, 2] (F_X10_either (if (n1) = 0 then 0 else jrem (jdiv x 24) (n1) : Int) (if (n1) = 0 then 0 else jrem (jdiv (jdiv x 24) 61) (n1) : Int) σ)
else if jrem x 24 = 11 then
wrq [0, 1, 2] (F_X10_either (if (n1) = 0 then 0 else jrem (jdiv x 24) (n1) : Int) (if (n1) = 0 then 0 else jrem (jdiv (jdiv x 24) 61) (n1) : Int) σ)
else if jrem x 24 = 12 then
wrq [0, 1, 2] (F_X10_view (jrem (jdiv (jdiv x 24) 61) 3) (if (n1) = 0 then 0 else jrem (jdiv x 24) (n1) : Int) σ)
else if jrem x 24 = 13 then
wrq [0, 1, 2] (F_X10_list (jrem (jdiv x 24) 3) (if (jrem (jdiv x 24) 3) ≤ 0 then (-1) else (if (n1) = 0 then 0 else jrem (jdiv x 24) (n1) : Int) : Int) (if (jrem (jdiv x 24) 3) ≤ 1 then (-1) else (if (n1) = 0 then 0 else jrem (jdiv (jdiv x 24) 61) (n1) : Int) : Int) (jrem (jdiv (jdiv x 24) 3) 3) σ)
else if jrem x 24 = 14 then
wrq [0, 1] (F_X10_setView (jrem (jdiv x 24) 3) (wrap ((jrem (jdiv (jdiv x 24) 3) 19) - 9)) (wrap ((jrem (jdiv (jdiv x 24) 57) 19) - 9)) (wrap ((jrem (jdiv (jdiv x 24) 1083) 19) - 9)) (wrap (1 + (jrem (jdiv (jdiv x 24) 7) 4))) σ)
else if jrem x 24 = 15 then
if (jrem (jdiv x 24) 3) = 0 then
wrq [1] (F_X10_begin (wrap (1 + (jrem (jdiv (jdiv x 24) 3) 2))) (kindF (jdiv (jdiv x 24) 6)) (if (jrem (jdiv (jdiv x 24) 3) 2) ≤ 0 then 0 else kindF (jdiv (jdiv x 24) 12) : Int) 0 σ)
else if (jrem (jdiv x 24) 3) = 1 then
wrq [0, 2] (F_X10_split (if (n2) = 0 then 0 else jrem (jdiv (jdiv x 24) 3) (n2) : Int) (jrem (jdiv x 24) 2) σ)
else wrq [0, 2] (F_X10_merge (if 2 ≤ (n2) then jrem (jdiv (jdiv x 24) 3) (wrap ((n2) - 1)) else 0 : Int) (jrem (jdiv x 24) 2) σ)
else if jrem x 24 = 16 then
wrq [0, 1, 2] (F_X10_add (if (n1) = 0 then 0 else jrem (jdiv x 24) (n1) : Int) (if (n3) ≤ 1 then (-1) else (if (n1) = 0 then 0 else jrem (jdiv (jdiv x 24) 61) (n1) : Int) : Int) (if (n3) ≤ 2 then (-1) else 0 : Int) (jrem (jdiv x 24) 100) σ)
else if jrem x 24 = 17 then
wrq [0, 1, 2] (F_X10_add (if (n1) = 0 then 0 else jrem (jdiv x 24) (n1) : Int) (if (n3) ≤ 1 then (-1) else (if (n1) = 0 then 0 else jrem (jdiv (jdiv x 24) 61) (n1) : Int) : Int) (if (n3) ≤ 2 then (-1) else 0 : Int) (jrem (jdiv x 24) 100) σ)
else if jrem x 24 = 18 then
wrq [0, 1, 2] (F_X10_add (if (n1) = 0 then 0 else jrem (jdiv x 24) (n1) : Int) (if (n3) ≤ 1 then (-1) else (if (n1) = 0 then 0 else jrem (jdiv (jdiv x 24) 61) (n1) : Int) : Int) (if (n3) ≤ 2 then (-1) else 0 : Int) (jrem (jdiv x 24) 100) σ)
else if jrem x 24 = 19 then
wrq [0, 1] (F_X10_guard (if (n2) = 0 then 0 else jrem (jdiv x 24) (n2) : Int) (wrap ((jrem (jdiv (jdiv x 24) 8) 5) - 1)) (if (jrem (jdiv (jdiv x 24) 8) 5) = 0 then 0 else jrem (jdiv (jdiv x 24) 40) 3 : Int) (jrem (jdiv (jdiv x 24) 120) 10) σ)
else if jrem x 24 = 20 then
wrq [0, 2] (F_X10_size (wrap (2 + (jrem (jdiv x 24) 2))) (decide ((jrem (jdiv (jdiv x 24) 2) 2) = 0)) σ)
else wrq [0, 1, 2] (F_X10_run (jrem (jdiv (jdiv x 24) 7) 4) (if (n0) = 0 then 0 else (if (n0) = 0 then 0 else jrem (jdiv x 24) (n0) : Int) : Int) (if (n3) ≤ 1 then (-1) else (if (n0) = 0 then 0 else jrem (jdiv (jdiv x 24) 61) (n0) : Int) : Int) (if (n3) ≤ 2 then (-1) else 0 : Int) σ)
set_option maxHeartbeats 4000000 in
theorem lc_act (l : Launch) (hl : l.stackTraces = false) (d : Nat) (hd : 161 ≤ d) (ax : List Nat) (an a0 : Nat) (hax : ax[0]? = some a0) (x : Int) (σ ν σ' : Sg) (k : Int) (hν : ∀ i : Nat, inR (ν 0 i)) (hA : F_act x (ν 0 0) (ν 0 1) (ν 0 2) (ν 0 3) σ = some (k, σ')) : LC l d 1 m_L_act.2.1 (wsM m_L_act.2.1 m_L_act.2.2.1 m_L_act.2.2.2.1 m_L_act.2.2.2.2) [.inr 0, .inr 1, .inl x] [a0, an] [(ax, LAYC), FN an] [σ, ν] (some k) [σ', ν] :=
  gl_lc (n := 3) (as := [.inr 0, .inr 1, .inl x]) mok_L_act rfl (by decide +kernel) (Nat.le_of_ble_eq_true rfl) (by
    unfold F_act at hA
    show Gl l m_L_act d 1 [(ax, LAYC), FN an] [a0, an] (some k) [σ', ν] 0 0 [some (.inr 0), some (.inr 1), some (.inl x), none, none, none, none] [] [σ, ν]
    refine gl_ops (S := ([], σ)) (S' := ([], σ)) og_act_0_2 (by decide) (L' := [some (.inr 0), some (.inr 1), some (.inl x), none, none, none, none]) (st' := [.inl 24, .inl x]) rfl ?_
    refine gl_div dg_act_3 (by decide) ?_
    refine gl_ops (S := ([], σ)) (S' := ([], σ)) og_act_4_3 (by decide) (L' := [some (.inr 0), some (.inr 1), some (.inl x), some (.inl (jdiv x 24)), none, none, none]) (st' := [.inl 1, .inr 1]) rfl ?_
    refine gl_rdx (jn := 1) (ν := ν) (an := an) (x := ν 0 1) dg_act_7 rfl rfl rfl (by decide) (by decide) rfl ?_
    suffices hJ1 : Gl l m_L_act d 1 [(ax, LAYC), FN an] [a0, an] (some k) [σ', ν] 0 20 [some (.inr 0), some (.inr 1), some (.inl x), some (.inl (jdiv x 24)), none, none, none] [.inl (if (ν 0 1) = 0 then 0 else jrem (jdiv x 24) (ν 0 1) : Int)] [σ, ν] by
      refine gl_if_ne dg_act_8 (tgt := 15) (by rfl) (fun hc2 => ?_) (fun hc2 => ?_)
      · refine gl_ops (S := ([], σ)) (S' := ([], σ)) og_act_15_3 (by decide) (L' := [some (.inr 0), some (.inr 1), some (.inl x), some (.inl (jdiv x 24)), none, none, none]) (st' := [.inl 1, .inr 1, .inl (jdiv x 24)]) rfl ?_
        refine gl_rdx (jn := 1) (ν := ν) (an := an) (x := ν 0 1) dg_act_18 rfl rfl rfl (by decide) (by decide) rfl ?_
        refine gl_rem dg_act_19 hc2 ?_
        exact gl_st (by rw [if_neg hc2]) hJ1
      · refine gl_ops (S := ([], σ)) (S' := ([], σ)) og_act_11_1 (by decide) (L' := [some (.inr 0), some (.inr 1), some (.inl x), some (.inl (jdiv x 24)), none, none, none]) (st' := [.inl 0]) rfl ?_
        refine gl_goto dg_act_12 (tgt := 20) (by rfl) ?_
        exact gl_st (by rw [if_pos hc2]) hJ1
    refine gl_ops (S := ([], σ)) (S' := ([], σ)) og_act_20_3 (by decide) (L' := [some (.inr 0), some (.inr 1), some (.inl x), some (.inl (jdiv x 24)), some (.inl (if (ν 0 1) = 0 then 0 else jrem (jdiv x 24) (ν 0 1) : Int)), none, none]) (st' := [.inl 1, .inr 1]) rfl ?_
    refine gl_rdx (jn := 1) (ν := ν) (an := an) (x := ν 0 1) dg_act_24 rfl rfl rfl (by decide) (by decide) rfl ?_
    suffices hJ3 : Gl l m_L_act d 1 [(ax, LAYC), FN an] [a0, an] (some k) [σ', ν] 0 40 [some (.inr 0), some (.inr 1), some (.inl x), some (.inl (jdiv x 24)), some (.inl (if (ν 0 1) = 0 then 0 else jrem (jdiv x 24) (ν 0 1) : Int)), none, none] [.inl (if (ν 0 1) = 0 then 0 else jrem (jdiv (jdiv x 24) 61) (ν 0 1) : Int)] [σ, ν] by
      refine gl_if_ne dg_act_25 (tgt := 32) (by rfl) (fun hc4 => ?_) (fun hc4 => ?_)
      · refine gl_ops (S := ([], σ)) (S' := ([], σ)) og_act_32_2 (by decide) (L' := [some (.inr 0), some (.inr 1), some (.inl x), some (.inl (jdiv x 24)), some (.inl (if (ν 0 1) = 0 then 0 else jrem (jdiv x 24) (ν 0 1) : Int)), none, none]) (st' := [.inl 61, .inl (jdiv x 24)]) rfl ?_
        refine gl_div dg_act_35 (by decide) ?_
        refine gl_ops (S := ([], σ)) (S' := ([], σ)) og_act_36_2 (by decide) (L' := [some (.inr 0), some (.inr 1), some (.inl x), some (.inl (jdiv x 24)), some (.inl (if (ν 0 1) = 0 then 0 else jrem (jdiv x 24) (ν 0 1) : Int)), none, none]) (st' := [.inl 1, .inr 1, .inl (jdiv (jdiv x 24) 61)]) rfl ?_
        refine gl_rdx (jn := 1) (ν := ν) (an := an) (x := ν 0 1) dg_act_38 rfl rfl rfl (by decide) (by decide) rfl ?_
        refine gl_rem dg_act_39 hc4 ?_
        exact gl_st (by rw [if_neg hc4]) hJ3
      · refine gl_ops (S := ([], σ)) (S' := ([], σ)) og_act_28_1 (by decide) (L' := [some (.inr 0), some (.inr 1), some (.inl x), some (.inl (jdiv x 24)), some (.inl (if (ν 0 1) = 0 then 0 else jrem (jdiv x 24) (ν 0 1) : Int)), none, none]) (st' := [.inl 0]) rfl ?_
        refine gl_goto dg_act_29 (tgt := 40) (by rfl) ?_
        exact gl_st (by rw [if_pos hc4]) hJ3
    refine gl_ops (S := ([], σ)) (S' := ([], σ)) og_act_40_3 (by decide) (L' := [some (.inr 0), some (.inr 1), some (.inl x), some (.inl (jdiv x 24)), some (.inl (if (ν 0 1) = 0 then 0 else jrem (jdiv x 24) (ν 0 1) : Int)), some (.inl (if (ν 0 1) = 0 then 0 else jrem (jdiv (jdiv x 24) 61) (ν 0 1) : Int)), none]) (st' := [.inl 0, .inr 1]) rfl ?_
    refine gl_rdx (jn := 1) (ν := ν) (an := an) (x := ν 0 0) dg_act_44 rfl rfl rfl (by decide) (by decide) rfl ?_
    suffices hJ5 : Gl l m_L_act d 1 [(ax, LAYC), FN an] [a0, an] (some k) [σ', ν] 0 57 [some (.inr 0), some (.inr 1), some (.inl x), some (.inl (jdiv x 24)), some (.inl (if (ν 0 1) = 0 then 0 else jrem (jdiv x 24) (ν 0 1) : Int)), some (.inl (if (ν 0 1) = 0 then 0 else jrem (jdiv (jdiv x 24) 61) (ν 0 1) : Int)), none] [.inl (if (ν 0 0) = 0 then 0 else jrem (jdiv x 24) (ν 0 0) : Int)] [σ, ν] by
      refine gl_if_ne dg_act_45 (tgt := 52) (by rfl) (fun hc6 => ?_) (fun hc6 => ?_)
      · refine gl_ops (S := ([], σ)) (S' := ([], σ)) og_act_52_3 (by decide) (L' := [some (.inr 0), some (.inr 1), some (.inl x), some (.inl (jdiv x 24)), some (.inl (if (ν 0 1) = 0 then 0 else jrem (jdiv x 24) (ν 0 1) : Int)), some (.inl (if (ν 0 1) = 0 then 0 else jrem (jdiv (jdiv x 24) 61) (ν 0 1) : Int)), none]) (st' := [.inl 0, .inr 1, .inl (jdiv x 24)]) rfl ?_
        refine gl_rdx (jn := 1) (ν := ν) (an := an) (x := ν 0 0) dg_act_55 rfl rfl rfl (by decide) (by decide) rfl ?_
        refine gl_rem dg_act_56 hc6 ?_
        exact gl_st (by rw [if_neg hc6]) hJ5
      · refine gl_ops (S := ([], σ)) (S' := ([], σ)) og_act_48_1 (by decide) (L' := [some (.inr 0), some (.inr 1), some (.inl x), some (.inl (jdiv x 24)), some (.inl (if (ν 0 1) = 0 then 0 else jrem (jdiv x 24) (ν 0 1) : Int)), some (.inl (if (ν 0 1) = 0 then 0 else jrem (jdiv (jdiv x 24) 61) (ν 0 1) : Int)), none]) (st' := [.inl 0]) rfl ?_
        refine gl_goto dg_act_49 (tgt := 57) (by rfl) ?_
        exact gl_st (by rw [if_pos hc6]) hJ5
    refine gl_ops (S := ([], σ)) (S' := ([], σ)) og_act_57_3 (by decide) (L' := [some (.inr 0), some (.inr 1), some (.inl x), some (.inl (jdiv x 24)), some (.inl (if (ν 0 1) = 0 then 0 else jrem (jdiv x 24) (ν 0 1) : Int)), some (.inl (if (ν 0 1) = 0 then 0 else jrem (jdiv (jdiv x 24) 61) (ν 0 1) : Int)), some (.inl (if (ν 0 0) = 0 then 0 else jrem (jdiv x 24) (ν 0 0) : Int))]) (st' := [.inl 24, .inl x]) rfl ?_
    refine gl_rem dg_act_62 (by decide) ?_
    by_cases hs0 : jrem x 24 = 0
    · rw [if_pos hs0] at hA
      refine gl_tsw dg_act_63 (by decide) (by decide) (off := 97) (tgt := 160) (tsk hs0 (by decide +kernel)) (by rfl) ?_
      refine gl_ops (S := ([], σ)) (S' := ([], σ)) og_act_160_3 (by decide) (L' := [some (.inr 0), some (.inr 1), some (.inl x), some (.inl (jdiv x 24)), some (.inl (if (ν 0 1) = 0 then 0 else jrem (jdiv x 24) (ν 0 1) : Int)), some (.inl (if (ν 0 1) = 0 then 0 else jrem (jdiv (jdiv x 24) 61) (ν 0 1) : Int)), some (.inl (if (ν 0 0) = 0 then 0 else jrem (jdiv x 24) (ν 0 0) : Int))]) (st' := [.inl 2, .inl (jdiv x 24), .inr 0]) rfl ?_
      refine gl_rem dg_act_163 (by decide) ?_
      refine gl_ops (S := ([], σ)) (S' := ([], σ)) og_act_164_2 (by decide) (L' := [some (.inr 0), some (.inr 1), some (.inl x), some (.inl (jdiv x 24)), some (.inl (if (ν 0 1) = 0 then 0 else jrem (jdiv x 24) (ν 0 1) : Int)), some (.inl (if (ν 0 1) = 0 then 0 else jrem (jdiv (jdiv x 24) 61) (ν 0 1) : Int)), some (.inl (if (ν 0 0) = 0 then 0 else jrem (jdiv x 24) (ν 0 0) : Int))]) (st' := [.inl 2, .inl (jdiv x 24), .inl (jrem (jdiv x 24) 2), .inr 0]) rfl ?_
      refine gl_div dg_act_166 (by decide) ?_
      refine gl_ops (S := ([], σ)) (S' := ([], σ)) og_act_167_1 (by decide) (L' := [some (.inr 0), some (.inr 1), some (.inl x), some (.inl (jdiv x 24)), some (.inl (if (ν 0 1) = 0 then 0 else jrem (jdiv x 24) (ν 0 1) : Int)), some (.inl (if (ν 0 1) = 0 then 0 else jrem (jdiv (jdiv x 24) 61) (ν 0 1) : Int)), some (.inl (if (ν 0 0) = 0 then 0 else jrem (jdiv x 24) (ν 0 0) : Int))]) (st' := [.inl 3, .inl (jdiv (jdiv x 24) 2), .inl (jrem (jdiv x 24) 2), .inr 0]) rfl ?_
      refine gl_rem dg_act_168 (by decide) ?_
      refine gl_ops (S := ([], σ)) (S' := ([], σ)) og_act_169_2 (by decide) (L' := [some (.inr 0), some (.inr 1), some (.inl x), some (.inl (jdiv x 24)), some (.inl (if (ν 0 1) = 0 then 0 else jrem (jdiv x 24) (ν 0 1) : Int)), some (.inl (if (ν 0 1) = 0 then 0 else jrem (jdiv (jdiv x 24) 61) (ν 0 1) : Int)), some (.inl (if (ν 0 0) = 0 then 0 else jrem (jdiv x 24) (ν 0 0) : Int))]) (st' := [.inl 2, .inl (jdiv x 24), .inl (jrem (jdiv (jdiv x 24) 2) 3), .inl (jrem (jdiv x 24) 2), .inr 0]) rfl ?_
      refine gl_div dg_act_171 (by decide) ?_
      refine gl_ops (S := ([], σ)) (S' := ([], σ)) og_act_172_1 (by decide) (L' := [some (.inr 0), some (.inr 1), some (.inl x), some (.inl (jdiv x 24)), some (.inl (if (ν 0 1) = 0 then 0 else jrem (jdiv x 24) (ν 0 1) : Int)), some (.inl (if (ν 0 1) = 0 then 0 else jrem (jdiv (jdiv x 24) 61) (ν 0 1) : Int)), some (.inl (if (ν 0 0) = 0 then 0 else jrem (jdiv x 24) (ν 0 0) : Int))]) (st' := [.inl 3, .inl (jdiv (jdiv x 24) 2), .inl (jrem (jdiv (jdiv x 24) 2) 3), .inl (jrem (jdiv x 24) 2), .inr 0]) rfl ?_
      refine gl_rem dg_act_173 (by decide) ?_
      suffices hJ7 : Gl l m_L_act d 1 [(ax, LAYC), FN an] [a0, an] (some k) [σ', ν] 0 188 [some (.inr 0), some (.inr 1), some (.inl x), some (.inl (jdiv x 24)), some (.inl (if (ν 0 1) = 0 then 0 else jrem (jdiv x 24) (ν 0 1) : Int)), some (.inl (if (ν 0 1) = 0 then 0 else jrem (jdiv (jdiv x 24) 61) (ν 0 1) : Int)), some (.inl (if (ν 0 0) = 0 then 0 else jrem (jdiv x 24) (ν 0 0) : Int))] [.inl (if (jrem (jdiv (jdiv x 24) 2) 3) ≤ 0 then 0 else jrem (jdiv (jdiv x 24) 6) 6 : Int), .inl (jrem (jdiv (jdiv x 24) 2) 3), .inl (jrem (jdiv x 24) 2), .inr 0] [σ, ν] by
        refine gl_if_le dg_act_174 (tgt := 187) (by rfl) (fun hc8 => ?_) (fun hc8 => ?_)
        · refine gl_ops (S := ([], σ)) (S' := ([], σ)) og_act_187_1 (by decide) (L' := [some (.inr 0), some (.inr 1), some (.inl x), some (.inl (jdiv x 24)), some (.inl (if (ν 0 1) = 0 then 0 else jrem (jdiv x 24) (ν 0 1) : Int)), some (.inl (if (ν 0 1) = 0 then 0 else jrem (jdiv (jdiv x 24) 61) (ν 0 1) : Int)), some (.inl (if (ν 0 0) = 0 then 0 else jrem (jdiv x 24) (ν 0 0) : Int))]) (st' := [.inl 0, .inl (jrem (jdiv (jdiv x 24) 2) 3), .inl (jrem (jdiv x 24) 2), .inr 0]) rfl ?_
          exact gl_st (by rw [if_pos hc8]) hJ7
        · refine gl_ops (S := ([], σ)) (S' := ([], σ)) og_act_177_2 (by decide) (L' := [some (.inr 0), some (.inr 1), some (.inl x), some (.inl (jdiv x 24)), some (.inl (if (ν 0 1) = 0 then 0 else jrem (jdiv x 24) (ν 0 1) : Int)), some (.inl (if (ν 0 1) = 0 then 0 else jrem (jdiv (jdiv x 24) 61) (ν 0 1) : Int)), some (.inl (if (ν 0 0) = 0 then 0 else jrem (jdiv x 24) (ν 0 0) : Int))]) (st' := [.inl 6, .inl (jdiv x 24), .inl (jrem (jdiv (jdiv x 24) 2) 3), .inl (jrem (jdiv x 24) 2), .inr 0]) rfl ?_
          refine gl_div dg_act_180 (by decide) ?_
          refine gl_ops (S := ([], σ)) (S' := ([], σ)) og_act_181_1 (by decide) (L' := [some (.inr 0), some (.inr 1), some (.inl x), some (.inl (jdiv x 24)), some (.inl (if (ν 0 1) = 0 then 0 else jrem (jdiv x 24) (ν 0 1) : Int)), some (.inl (if (ν 0 1) = 0 then 0 else jrem (jdiv (jdiv x 24) 61) (ν 0 1) : Int)), some (.inl (if (ν 0 0) = 0 then 0 else jrem (jdiv x 24) (ν 0 0) : Int))]) (st' := [.inl 6, .inl (jdiv (jdiv x 24) 6), .inl (jrem (jdiv (jdiv x 24) 2) 3), .inl (jrem (jdiv x 24) 2), .inr 0]) rfl ?_
          refine gl_rem dg_act_183 (by decide) ?_
          refine gl_goto dg_act_184 (tgt := 188) (by rfl) ?_
          exact gl_st (by rw [if_neg hc8]) hJ7
      refine gl_ops (S := ([], σ)) (S' := ([], σ)) og_act_188_2 (by decide) (L' := [some (.inr 0), some (.inr 1), some (.inl x), some (.inl (jdiv x 24)), some (.inl (if (ν 0 1) = 0 then 0 else jrem (jdiv x 24) (ν 0 1) : Int)), some (.inl (if (ν 0 1) = 0 then 0 else jrem (jdiv (jdiv x 24) 61) (ν 0 1) : Int)), some (.inl (if (ν 0 0) = 0 then 0 else jrem (jdiv x 24) (ν 0 0) : Int))]) (st' := [.inl 2, .inl (jdiv x 24), .inl (if (jrem (jdiv (jdiv x 24) 2) 3) ≤ 0 then 0 else jrem (jdiv (jdiv x 24) 6) 6 : Int), .inl (jrem (jdiv (jdiv x 24) 2) 3), .inl (jrem (jdiv x 24) 2), .inr 0]) rfl ?_
      refine gl_div dg_act_190 (by decide) ?_
      refine gl_ops (S := ([], σ)) (S' := ([], σ)) og_act_191_1 (by decide) (L' := [some (.inr 0), some (.inr 1), some (.inl x), some (.inl (jdiv x 24)), some (.inl (if (ν 0 1) = 0 then 0 else jrem (jdiv x 24) (ν 0 1) : Int)), some (.inl (if (ν 0 1) = 0 then 0 else jrem (jdiv (jdiv x 24) 61) (ν 0 1) : Int)), some (.inl (if (ν 0 0) = 0 then 0 else jrem (jdiv x 24) (ν 0 0) : Int))]) (st' := [.inl 3, .inl (jdiv (jdiv x 24) 2), .inl (if (jrem (jdiv (jdiv x 24) 2) 3) ≤ 0 then 0 else jrem (jdiv (jdiv x 24) 6) 6 : Int), .inl (jrem (jdiv (jdiv x 24) 2) 3), .inl (jrem (jdiv x 24) 2), .inr 0]) rfl ?_
      refine gl_rem dg_act_192 (by decide) ?_
      refine gl_ops (S := ([], σ)) (S' := ([], σ)) og_act_193_1 (by decide) (L' := [some (.inr 0), some (.inr 1), some (.inl x), some (.inl (jdiv x 24)), some (.inl (if (ν 0 1) = 0 then 0 else jrem (jdiv x 24) (ν 0 1) : Int)), some (.inl (if (ν 0 1) = 0 then 0 else jrem (jdiv (jdiv x 24) 61) (ν 0 1) : Int)), some (.inl (if (ν 0 0) = 0 then 0 else jrem (jdiv x 24) (ν 0 0) : Int))]) (st' := [.inl 1, .inl (jrem (jdiv (jdiv x 24) 2) 3), .inl (if (jrem (jdiv (jdiv x 24) 2) 3) ≤ 0 then 0 else jrem (jdiv (jdiv x 24) 6) 6 : Int), .inl (jrem (jdiv (jdiv x 24) 2) 3), .inl (jrem (jdiv x 24) 2), .inr 0]) rfl ?_
      suffices hJ9 : Gl l m_L_act d 1 [(ax, LAYC), FN an] [a0, an] (some k) [σ', ν] 0 208 [some (.inr 0), some (.inr 1), some (.inl x), some (.inl (jdiv x 24)), some (.inl (if (ν 0 1) = 0 then 0 else jrem (jdiv x 24) (ν 0 1) : Int)), some (.inl (if (ν 0 1) = 0 then 0 else jrem (jdiv (jdiv x 24) 61) (ν 0 1) : Int)), some (.inl (if (ν 0 0) = 0 then 0 else jrem (jdiv x 24) (ν 0 0) : Int))] [.inl (if (jrem (jdiv (jdiv x 24) 2) 3) ≤ 1 then 0 else jrem (jdiv (jdiv x 24) 36) 6 : Int), .inl (if (jrem (jdiv (jdiv x 24) 2) 3) ≤ 0 then 0 else jrem (jdiv (jdiv x 24) 6) 6 : Int), .inl (jrem (jdiv (jdiv x 24) 2) 3), .inl (jrem (jdiv x 24) 2), .inr 0] [σ, ν] by
        refine gl_icmp_le dg_act_194 (tgt := 207) (by rfl) (fun hc10 => ?_) (fun hc10 => ?_)
        · refine gl_ops (S := ([], σ)) (S' := ([], σ)) og_act_207_1 (by decide) (L' := [some (.inr 0), some (.inr 1), some (.inl x), some (.inl (jdiv x 24)), some (.inl (if (ν 0 1) = 0 then 0 else jrem (jdiv x 24) (ν 0 1) : Int)), some (.inl (if (ν 0 1) = 0 then 0 else jrem (jdiv (jdiv x 24) 61) (ν 0 1) : Int)), some (.inl (if (ν 0 0) = 0 then 0 else jrem (jdiv x 24) (ν 0 0) : Int))]) (st' := [.inl 0, .inl (if (jrem (jdiv (jdiv x 24) 2) 3) ≤ 0 then 0 else jrem (jdiv (jdiv x 24) 6) 6 : Int), .inl (jrem (jdiv (jdiv x 24) 2) 3), .inl (jrem (jdiv x 24) 2), .inr 0]) rfl ?_
          exact gl_st (by rw [if_pos hc10]) hJ9
        · refine gl_ops (S := ([], σ)) (S' := ([], σ)) og_act_197_2 (by decide) (L' := [some (.inr 0), some (.inr 1), some (.inl x), some (.inl (jdiv x 24)), some (.inl (if (ν 0 1) = 0 then 0 else jrem (jdiv x 24) (ν 0 1) : Int)), some (.inl (if (ν 0 1) = 0 then 0 else jrem (jdiv (jdiv x 24) 61) (ν 0 1) : Int)), some (.inl (if (ν 0 0) = 0 then 0 else jrem (jdiv x 24) (ν 0 0) : Int))]) (st' := [.inl 36, .inl (jdiv x 24), .inl (if (jrem (jdiv (jdiv x 24) 2) 3) ≤ 0 then 0 else jrem (jdiv (jdiv x 24) 6) 6 : Int), .inl (jrem (jdiv (jdiv x 24) 2) 3), .inl (jrem (jdiv x 24) 2), .inr 0]) rfl ?_
          refine gl_div dg_act_200 (by decide) ?_
          refine gl_ops (S := ([], σ)) (S' := ([], σ)) og_act_201_1 (by decide) (L' := [some (.inr 0), some (.inr 1), some (.inl x), some (.inl (jdiv x 24)), some (.inl (if (ν 0 1) = 0 then 0 else jrem (jdiv x 24) (ν 0 1) : Int)), some (.inl (if (ν 0 1) = 0 then 0 else jrem (jdiv (jdiv x 24) 61) (ν 0 1) : Int)), some (.inl (if (ν 0 0) = 0 then 0 else jrem (jdiv x 24) (ν 0 0) : Int))]) (st' := [.inl 6, .inl (jdiv (jdiv x 24) 36), .inl (if (jrem (jdiv (jdiv x 24) 2) 3) ≤ 0 then 0 else jrem (jdiv (jdiv x 24) 6) 6 : Int), .inl (jrem (jdiv (jdiv x 24) 2) 3), .inl (jrem (jdiv x 24) 2), .inr 0]) rfl ?_
          refine gl_rem dg_act_203 (by decide) ?_
          refine gl_goto dg_act_204 (tgt := 208) (by rfl) ?_
          exact gl_st (by rw [if_neg hc10]) hJ9
      refine gl_ops (S := ([], σ)) (S' := ([], σ)) og_act_208_1 (by decide) (L' := [some (.inr 0), some (.inr 1), some (.inl x), some (.inl (jdiv x 24)), some (.inl (if (ν 0 1) = 0 then 0 else jrem (jdiv x 24) (ν 0 1) : Int)), some (.inl (if (ν 0 1) = 0 then 0 else jrem (jdiv (jdiv x 24) 61) (ν 0 1) : Int)), some (.inl (if (ν 0 0) = 0 then 0 else jrem (jdiv x 24) (ν 0 0) : Int))]) (st' := [.inl 0, .inl (if (jrem (jdiv (jdiv x 24) 2) 3) ≤ 1 then 0 else jrem (jdiv (jdiv x 24) 36) 6 : Int), .inl (if (jrem (jdiv (jdiv x 24) 2) 3) ≤ 0 then 0 else jrem (jdiv (jdiv x 24) 6) 6 : Int), .inl (jrem (jdiv (jdiv x 24) 2) 3), .inl (jrem (jdiv x 24) 2), .inr 0]) rfl ?_
      obtain ⟨q, hq1, hq2, hq3⟩ := wrq_inv hA
      subst hq3
      refine h2_constructor hl hax dg_act_209 (by omega) (by decide) (Nat.le_of_ble_eq_true rfl) hq1 hq2 ?_ _ rfl
      exact gl_iret (by decide) dg_act_212 rfl
    rw [if_neg hs0] at hA
    by_cases hs1 : jrem x 24 = 1
    · rw [if_pos hs1] at hA
      refine gl_tsw dg_act_63 (by decide) (by decide) (off := 150) (tgt := 213) (tsk hs1 (by decide +kernel)) (by rfl) ?_
      refine gl_ops (S := ([], σ)) (S' := ([], σ)) og_act_213_3 (by decide) (L' := [some (.inr 0), some (.inr 1), some (.inl x), some (.inl (jdiv x 24)), some (.inl (if (ν 0 1) = 0 then 0 else jrem (jdiv x 24) (ν 0 1) : Int)), some (.inl (if (ν 0 1) = 0 then 0 else jrem (jdiv (jdiv x 24) 61) (ν 0 1) : Int)), some (.inl (if (ν 0 0) = 0 then 0 else jrem (jdiv x 24) (ν 0 0) : Int))]) (st' := [.inl 10, .inl (jdiv x 24), .inr 0]) rfl ?_
      refine gl_rem dg_act_217 (by decide) ?_
      obtain ⟨q, hq1, hq2, hq3⟩ := wrq_inv hA
      subst hq3
      refine h2_num hl hax dg_act_218 (by omega) (by decide) (Nat.le_of_ble_eq_true rfl) hq1 hq2 ?_ _ rfl
      exact gl_iret (by decide) dg_act_221 rfl
    rw [if_neg hs1] at hA
    by_cases hs2 : jrem x 24 = 2
    · rw [if_pos hs2] at hA
      refine gl_tsw dg_act_63 (by decide) (by decide) (off := 159) (tgt := 222) (tsk hs2 (by decide +kernel)) (by rfl) ?_
      refine gl_ops (S := ([], σ)) (S' := ([], σ)) og_act_222_3 (by decide) (L' := [some (.inr 0), some (.inr 1), some (.inl x), some (.inl (jdiv x 24)), some (.inl (if (ν 0 1) = 0 then 0 else jrem (jdiv x 24) (ν 0 1) : Int)), some (.inl (if (ν 0 1) = 0 then 0 else jrem (jdiv (jdiv x 24) 61) (ν 0 1) : Int)), some (.inl (if (ν 0 0) = 0 then 0 else jrem (jdiv x 24) (ν 0 0) : Int))]) (st' := [.inl 4, .inl (jdiv x 24), .inr 0]) rfl ?_
      refine gl_rem dg_act_225 (by decide) ?_
      refine gl_ops (S := ([], σ)) (S' := ([], σ)) og_act_226_2 (by decide) (L' := [some (.inr 0), some (.inr 1), some (.inl x), some (.inl (jdiv x 24)), some (.inl (if (ν 0 1) = 0 then 0 else jrem (jdiv x 24) (ν 0 1) : Int)), some (.inl (if (ν 0 1) = 0 then 0 else jrem (jdiv (jdiv x 24) 61) (ν 0 1) : Int)), some (.inl (if (ν 0 0) = 0 then 0 else jrem (jdiv x 24) (ν 0 0) : Int))]) (st' := [.inl 4, .inl (jdiv x 24), .inl (jrem (jdiv x 24) 4), .inr 0]) rfl ?_
      refine gl_rem dg_act_228 (by decide) ?_
      suffices hJ11 : Gl l m_L_act d 1 [(ax, LAYC), FN an] [a0, an] (some k) [σ', ν] 0 242 [some (.inr 0), some (.inr 1), some (.inl x), some (.inl (jdiv x 24)), some (.inl (if (ν 0 1) = 0 then 0 else jrem (jdiv x 24) (ν 0 1) : Int)), some (.inl (if (ν 0 1) = 0 then 0 else jrem (jdiv (jdiv x 24) 61) (ν 0 1) : Int)), some (.inl (if (ν 0 0) = 0 then 0 else jrem (jdiv x 24) (ν 0 0) : Int))] [.inl (if (jrem (jdiv x 24) 4) ≤ 0 then 0 else jrem (jdiv (jdiv x 24) 4) 10 : Int), .inl (jrem (jdiv x 24) 4), .inr 0] [σ, ν] by
        refine gl_if_le dg_act_229 (tgt := 241) (by rfl) (fun hc12 => ?_) (fun hc12 => ?_)
        · refine gl_ops (S := ([], σ)) (S' := ([], σ)) og_act_241_1 (by decide) (L' := [some (.inr 0), some (.inr 1), some (.inl x), some (.inl (jdiv x 24)), some (.inl (if (ν 0 1) = 0 then 0 else jrem (jdiv x 24) (ν 0 1) : Int)), some (.inl (if (ν 0 1) = 0 then 0 else jrem (jdiv (jdiv x 24) 61) (ν 0 1) : Int)), some (.inl (if (ν 0 0) = 0 then 0 else jrem (jdiv x 24) (ν 0 0) : Int))]) (st' := [.inl 0, .inl (jrem (jdiv x 24) 4), .inr 0]) rfl ?_
          exact gl_st (by rw [if_pos hc12]) hJ11
        · refine gl_ops (S := ([], σ)) (S' := ([], σ)) og_act_232_2 (by decide) (L' := [some (.inr 0), some (.inr 1), some (.inl x), some (.inl (jdiv x 24)), some (.inl (if (ν 0 1) = 0 then 0 else jrem (jdiv x 24) (ν 0 1) : Int)), some (.inl (if (ν 0 1) = 0 then 0 else jrem (jdiv (jdiv x 24) 61) (ν 0 1) : Int)), some (.inl (if (ν 0 0) = 0 then 0 else jrem (jdiv x 24) (ν 0 0) : Int))]) (st' := [.inl 4, .inl (jdiv x 24), .inl (jrem (jdiv x 24) 4), .inr 0]) rfl ?_
          refine gl_div dg_act_234 (by decide) ?_
          refine gl_ops (S := ([], σ)) (S' := ([], σ)) og_act_235_1 (by decide) (L' := [some (.inr 0), some (.inr 1), some (.inl x), some (.inl (jdiv x 24)), some (.inl (if (ν 0 1) = 0 then 0 else jrem (jdiv x 24) (ν 0 1) : Int)), some (.inl (if (ν 0 1) = 0 then 0 else jrem (jdiv (jdiv x 24) 61) (ν 0 1) : Int)), some (.inl (if (ν 0 0) = 0 then 0 else jrem (jdiv x 24) (ν 0 0) : Int))]) (st' := [.inl 10, .inl (jdiv (jdiv x 24) 4), .inl (jrem (jdiv x 24) 4), .inr 0]) rfl ?_
          refine gl_rem dg_act_237 (by decide) ?_
          refine gl_goto dg_act_238 (tgt := 242) (by rfl) ?_
          exact gl_st (by rw [if_neg hc12]) hJ11
      refine gl_ops (S := ([], σ)) (S' := ([], σ)) og_act_242_2 (by decide) (L' := [some (.inr 0), some (.inr 1), some (.inl x), some (.inl (jdiv x 24)), some (.inl (if (ν 0 1) = 0 then 0 else jrem (jdiv x 24) (ν 0 1) : Int)), some (.inl (if (ν 0 1) = 0 then 0 else jrem (jdiv (jdiv x 24) 61) (ν 0 1) : Int)), some (.inl (if (ν 0 0) = 0 then 0 else jrem (jdiv x 24) (ν 0 0) : Int))]) (st' := [.inl 4, .inl (jdiv x 24), .inl (if (jrem (jdiv x 24) 4) ≤ 0 then 0 else jrem (jdiv (jdiv x 24) 4) 10 : Int), .inl (jrem (jdiv x 24) 4), .inr 0]) rfl ?_
      refine gl_rem dg_act_244 (by decide) ?_
      refine gl_ops (S := ([], σ)) (S' := ([], σ)) og_act_245_1 (by decide) (L' := [some (.inr 0), some (.inr 1), some (.inl x), some (.inl (jdiv x 24)), some (.inl (if (ν 0 1) = 0 then 0 else jrem (jdiv x 24) (ν 0 1) : Int)), some (.inl (if (ν 0 1) = 0 then 0 else jrem (jdiv (jdiv x 24) 61) (ν 0 1) : Int)), some (.inl (if (ν 0 0) = 0 then 0 else jrem (jdiv x 24) (ν 0 0) : Int))]) (st' := [.inl 1, .inl (jrem (jdiv x 24) 4), .inl (if (jrem (jdiv x 24) 4) ≤ 0 then 0 else jrem (jdiv (jdiv x 24) 4) 10 : Int), .inl (jrem (jdiv x 24) 4), .inr 0]) rfl ?_
      suffices hJ13 : Gl l m_L_act d 1 [(ax, LAYC), FN an] [a0, an] (some k) [σ', ν] 0 260 [some (.inr 0), some (.inr 1), some (.inl x), some (.inl (jdiv x 24)), some (.inl (if (ν 0 1) = 0 then 0 else jrem (jdiv x 24) (ν 0 1) : Int)), some (.inl (if (ν 0 1) = 0 then 0 else jrem (jdiv (jdiv x 24) 61) (ν 0 1) : Int)), some (.inl (if (ν 0 0) = 0 then 0 else jrem (jdiv x 24) (ν 0 0) : Int))] [.inl (if (jrem (jdiv x 24) 4) ≤ 1 then 0 else jrem (jdiv (jdiv x 24) 40) 10 : Int), .inl (if (jrem (jdiv x 24) 4) ≤ 0 then 0 else jrem (jdiv (jdiv x 24) 4) 10 : Int), .inl (jrem (jdiv x 24) 4), .inr 0] [σ, ν] by
        refine gl_icmp_le dg_act_246 (tgt := 259) (by rfl) (fun hc14 => ?_) (fun hc14 => ?_)
        · refine gl_ops (S := ([], σ)) (S' := ([], σ)) og_act_259_1 (by decide) (L' := [some (.inr 0), some (.inr 1), some (.inl x), some (.inl (jdiv x 24)), some (.inl (if (ν 0 1) = 0 then 0 else jrem (jdiv x 24) (ν 0 1) : Int)), some (.inl (if (ν 0 1) = 0 then 0 else jrem (jdiv (jdiv x 24) 61) (ν 0 1) : Int)), some (.inl (if (ν 0 0) = 0 then 0 else jrem (jdiv x 24) (ν 0 0) : Int))]) (st' := [.inl 0, .inl (if (jrem (jdiv x 24) 4) ≤ 0 then 0 else jrem (jdiv (jdiv x 24) 4) 10 : Int), .inl (jrem (jdiv x 24) 4), .inr 0]) rfl ?_
          exact gl_st (by rw [if_pos hc14]) hJ13
        · refine gl_ops (S := ([], σ)) (S' := ([], σ)) og_act_249_2 (by decide) (L' := [some (.inr 0), some (.inr 1), some (.inl x), some (.inl (jdiv x 24)), some (.inl (if (ν 0 1) = 0 then 0 else jrem (jdiv x 24) (ν 0 1) : Int)), some (.inl (if (ν 0 1) = 0 then 0 else jrem (jdiv (jdiv x 24) 61) (ν 0 1) : Int)), some (.inl (if (ν 0 0) = 0 then 0 else jrem (jdiv x 24) (ν 0 0) : Int))]) (st' := [.inl 40, .inl (jdiv x 24), .inl (if (jrem (jdiv x 24) 4) ≤ 0 then 0 else jrem (jdiv (jdiv x 24) 4) 10 : Int), .inl (jrem (jdiv x 24) 4), .inr 0]) rfl ?_
          refine gl_div dg_act_252 (by decide) ?_
          refine gl_ops (S := ([], σ)) (S' := ([], σ)) og_act_253_1 (by decide) (L' := [some (.inr 0), some (.inr 1), some (.inl x), some (.inl (jdiv x 24)), some (.inl (if (ν 0 1) = 0 then 0 else jrem (jdiv x 24) (ν 0 1) : Int)), some (.inl (if (ν 0 1) = 0 then 0 else jrem (jdiv (jdiv x 24) 61) (ν 0 1) : Int)), some (.inl (if (ν 0 0) = 0 then 0 else jrem (jdiv x 24) (ν 0 0) : Int))]) (st' := [.inl 10, .inl (jdiv (jdiv x 24) 40), .inl (if (jrem (jdiv x 24) 4) ≤ 0 then 0 else jrem (jdiv (jdiv x 24) 4) 10 : Int), .inl (jrem (jdiv x 24) 4), .inr 0]) rfl ?_
          refine gl_rem dg_act_255 (by decide) ?_
          refine gl_goto dg_act_256 (tgt := 260) (by rfl) ?_
          exact gl_st (by rw [if_neg hc14]) hJ13
      refine gl_ops (S := ([], σ)) (S' := ([], σ)) og_act_260_2 (by decide) (L' := [some (.inr 0), some (.inr 1), some (.inl x), some (.inl (jdiv x 24)), some (.inl (if (ν 0 1) = 0 then 0 else jrem (jdiv x 24) (ν 0 1) : Int)), some (.inl (if (ν 0 1) = 0 then 0 else jrem (jdiv (jdiv x 24) 61) (ν 0 1) : Int)), some (.inl (if (ν 0 0) = 0 then 0 else jrem (jdiv x 24) (ν 0 0) : Int))]) (st' := [.inl 4, .inl (jdiv x 24), .inl (if (jrem (jdiv x 24) 4) ≤ 1 then 0 else jrem (jdiv (jdiv x 24) 40) 10 : Int), .inl (if (jrem (jdiv x 24) 4) ≤ 0 then 0 else jrem (jdiv (jdiv x 24) 4) 10 : Int), .inl (jrem (jdiv x 24) 4), .inr 0]) rfl ?_
      refine gl_rem dg_act_262 (by decide) ?_
      refine gl_ops (S := ([], σ)) (S' := ([], σ)) og_act_263_1 (by decide) (L' := [some (.inr 0), some (.inr 1), some (.inl x), some (.inl (jdiv x 24)), some (.inl (if (ν 0 1) = 0 then 0 else jrem (jdiv x 24) (ν 0 1) : Int)), some (.inl (if (ν 0 1) = 0 then 0 else jrem (jdiv (jdiv x 24) 61) (ν 0 1) : Int)), some (.inl (if (ν 0 0) = 0 then 0 else jrem (jdiv x 24) (ν 0 0) : Int))]) (st' := [.inl 2, .inl (jrem (jdiv x 24) 4), .inl (if (jrem (jdiv x 24) 4) ≤ 1 then 0 else jrem (jdiv (jdiv x 24) 40) 10 : Int), .inl (if (jrem (jdiv x 24) 4) ≤ 0 then 0 else jrem (jdiv (jdiv x 24) 4) 10 : Int), .inl (jrem (jdiv x 24) 4), .inr 0]) rfl ?_
      suffices hJ15 : Gl l m_L_act d 1 [(ax, LAYC), FN an] [a0, an] (some k) [σ', ν] 0 279 [some (.inr 0), some (.inr 1), some (.inl x), some (.inl (jdiv x 24)), some (.inl (if (ν 0 1) = 0 then 0 else jrem (jdiv x 24) (ν 0 1) : Int)), some (.inl (if (ν 0 1) = 0 then 0 else jrem (jdiv (jdiv x 24) 61) (ν 0 1) : Int)), some (.inl (if (ν 0 0) = 0 then 0 else jrem (jdiv x 24) (ν 0 0) : Int))] [.inl (if (jrem (jdiv x 24) 4) ≤ 2 then 0 else jrem (jdiv (jdiv x 24) 400) 10 : Int), .inl (if (jrem (jdiv x 24) 4) ≤ 1 then 0 else jrem (jdiv (jdiv x 24) 40) 10 : Int), .inl (if (jrem (jdiv x 24) 4) ≤ 0 then 0 else jrem (jdiv (jdiv x 24) 4) 10 : Int), .inl (jrem (jdiv x 24) 4), .inr 0] [σ, ν] by
        refine gl_icmp_le dg_act_264 (tgt := 278) (by rfl) (fun hc16 => ?_) (fun hc16 => ?_)
        · refine gl_ops (S := ([], σ)) (S' := ([], σ)) og_act_278_1 (by decide) (L' := [some (.inr 0), some (.inr 1), some (.inl x), some (.inl (jdiv x 24)), some (.inl (if (ν 0 1) = 0 then 0 else jrem (jdiv x 24) (ν 0 1) : Int)), some (.inl (if (ν 0 1) = 0 then 0 else jrem (jdiv (jdiv x 24) 61) (ν 0 1) : Int)), some (.inl (if (ν 0 0) = 0 then 0 else jrem (jdiv x 24) (ν 0 0) : Int))]) (st' := [.inl 0, .inl (if (jrem (jdiv x 24) 4) ≤ 1 then 0 else jrem (jdiv (jdiv x 24) 40) 10 : Int), .inl (if (jrem (jdiv x 24) 4) ≤ 0 then 0 else jrem (jdiv (jdiv x 24) 4) 10 : Int), .inl (jrem (jdiv x 24) 4), .inr 0]) rfl ?_
          exact gl_st (by rw [if_pos hc16]) hJ15
        · refine gl_ops (S := ([], σ)) (S' := ([], σ)) og_act_267_2 (by decide) (L' := [some (.inr 0), some (.inr 1), some (.inl x), some (.inl (jdiv x 24)), some (.inl (if (ν 0 1) = 0 then 0 else jrem (jdiv x 24) (ν 0 1) : Int)), some (.inl (if (ν 0 1) = 0 then 0 else jrem (jdiv (jdiv x 24) 61) (ν 0 1) : Int)), some (.inl (if (ν 0 0) = 0 then 0 else jrem (jdiv x 24) (ν 0 0) : Int))]) (st' := [.inl 400, .inl (jdiv x 24), .inl (if (jrem (jdiv x 24) 4) ≤ 1 then 0 else jrem (jdiv (jdiv x 24) 40) 10 : Int), .inl (if (jrem (jdiv x 24) 4) ≤ 0 then 0 else jrem (jdiv (jdiv x 24) 4) 10 : Int), .inl (jrem (jdiv x 24) 4), .inr 0]) rfl ?_
          refine gl_div dg_act_271 (by decide) ?_
          refine gl_ops (S := ([], σ)) (S' := ([], σ)) og_act_272_1 (by decide) (L' := [some (.inr 0), some (.inr 1), some (.inl x), some (.inl (jdiv x 24)), some (.inl (if (ν 0 1) = 0 then 0 else jrem (jdiv x 24) (ν 0 1) : Int)), some (.inl (if (ν 0 1) = 0 then 0 else jrem (jdiv (jdiv x 24) 61) (ν 0 1) : Int)), some (.inl (if (ν 0 0) = 0 then 0 else jrem (jdiv x 24) (ν 0 0) : Int))]) (st' := [.inl 10, .inl (jdiv (jdiv x 24) 400), .inl (if (jrem (jdiv x 24) 4) ≤ 1 then 0 else jrem (jdiv (jdiv x 24) 40) 10 : Int), .inl (if (jrem (jdiv x 24) 4) ≤ 0 then 0 else jrem (jdiv (jdiv x 24) 4) 10 : Int), .inl (jrem (jdiv x 24) 4), .inr 0]) rfl ?_
          refine gl_rem dg_act_274 (by decide) ?_
          refine gl_goto dg_act_275 (tgt := 279) (by rfl) ?_
          exact gl_st (by rw [if_neg hc16]) hJ15
      obtain ⟨q, hq1, hq2, hq3⟩ := wrq_inv hA
      subst hq3
      refine h2_seq hl hax dg_act_279 (by omega) (by decide) (Nat.le_of_ble_eq_true rfl) hq1 hq2 ?_ _ rfl
      exact gl_iret (by decide) dg_act_282 rfl
    rw [if_neg hs2] at hA
    by_cases hs3 : jrem x 24 = 3
    · rw [if_pos hs3] at hA
      refine gl_tsw dg_act_63 (by decide) (by decide) (off := 220) (tgt := 283) (tsk hs3 (by decide +kernel)) (by rfl) ?_
      refine gl_ops (S := ([], σ)) (S' := ([], σ)) og_act_283_3 (by decide) (L' := [some (.inr 0), some (.inr 1), some (.inl x), some (.inl (jdiv x 24)), some (.inl (if (ν 0 1) = 0 then 0 else jrem (jdiv x 24) (ν 0 1) : Int)), some (.inl (if (ν 0 1) = 0 then 0 else jrem (jdiv (jdiv x 24) 61) (ν 0 1) : Int)), some (.inl (if (ν 0 0) = 0 then 0 else jrem (jdiv x 24) (ν 0 0) : Int))]) (st' := [.inl 2, .inl (jdiv x 24), .inr 0]) rfl ?_
      refine gl_rem dg_act_286 (by decide) ?_
      refine gl_ops (S := ([], σ)) (S' := ([], σ)) og_act_287_2 (by decide) (L' := [some (.inr 0), some (.inr 1), some (.inl x), some (.inl (jdiv x 24)), some (.inl (if (ν 0 1) = 0 then 0 else jrem (jdiv x 24) (ν 0 1) : Int)), some (.inl (if (ν 0 1) = 0 then 0 else jrem (jdiv (jdiv x 24) 61) (ν 0 1) : Int)), some (.inl (if (ν 0 0) = 0 then 0 else jrem (jdiv x 24) (ν 0 0) : Int))]) (st' := [.inl 2, .inl (jdiv x 24), .inl (jrem (jdiv x 24) 2), .inr 0]) rfl ?_
      refine gl_div dg_act_289 (by decide) ?_
      refine gl_ops (S := ([], σ)) (S' := ([], σ)) og_act_290_1 (by decide) (L' := [some (.inr 0), some (.inr 1), some (.inl x), some (.inl (jdiv x 24)), some (.inl (if (ν 0 1) = 0 then 0 else jrem (jdiv x 24) (ν 0 1) : Int)), some (.inl (if (ν 0 1) = 0 then 0 else jrem (jdiv (jdiv x 24) 61) (ν 0 1) : Int)), some (.inl (if (ν 0 0) = 0 then 0 else jrem (jdiv x 24) (ν 0 0) : Int))]) (st' := [.inl 3, .inl (jdiv (jdiv x 24) 2), .inl (jrem (jdiv x 24) 2), .inr 0]) rfl ?_
      refine gl_rem dg_act_291 (by decide) ?_
      refine gl_ops (S := ([], σ)) (S' := ([], σ)) og_act_292_2 (by decide) (L' := [some (.inr 0), some (.inr 1), some (.inl x), some (.inl (jdiv x 24)), some (.inl (if (ν 0 1) = 0 then 0 else jrem (jdiv x 24) (ν 0 1) : Int)), some (.inl (if (ν 0 1) = 0 then 0 else jrem (jdiv (jdiv x 24) 61) (ν 0 1) : Int)), some (.inl (if (ν 0 0) = 0 then 0 else jrem (jdiv x 24) (ν 0 0) : Int))]) (st' := [.inl 6, .inl (jdiv x 24), .inl (jrem (jdiv (jdiv x 24) 2) 3), .inl (jrem (jdiv x 24) 2), .inr 0]) rfl ?_
      refine gl_div dg_act_295 (by decide) ?_
      refine gl_ops (S := ([], σ)) (S' := ([], σ)) og_act_296_1 (by decide) (L' := [some (.inr 0), some (.inr 1), some (.inl x), some (.inl (jdiv x 24)), some (.inl (if (ν 0 1) = 0 then 0 else jrem (jdiv x 24) (ν 0 1) : Int)), some (.inl (if (ν 0 1) = 0 then 0 else jrem (jdiv (jdiv x 24) 61) (ν 0 1) : Int)), some (.inl (if (ν 0 0) = 0 then 0 else jrem (jdiv x 24) (ν 0 0) : Int))]) (st' := [.inl 2, .inl (jdiv (jdiv x 24) 6), .inl (jrem (jdiv (jdiv x 24) 2) 3), .inl (jrem (jdiv x 24) 2), .inr 0]) rfl ?_
      refine gl_rem dg_act_297 (by decide) ?_
      suffices hJ17 : Gl l m_L_act d 1 [(ax, LAYC), FN an] [a0, an] (some k) [σ', ν] 0 307 [some (.inr 0), some (.inr 1), some (.inl x), some (.inl (jdiv x 24)), some (.inl (if (ν 0 1) = 0 then 0 else jrem (jdiv x 24) (ν 0 1) : Int)), some (.inl (if (ν 0 1) = 0 then 0 else jrem (jdiv (jdiv x 24) 61) (ν 0 1) : Int)), some (.inl (if (ν 0 0) = 0 then 0 else jrem (jdiv x 24) (ν 0 0) : Int))] [.inl (if (jrem (jdiv (jdiv x 24) 6) 2) = 0 then (-1) else (if (ν 0 0) = 0 then 0 else jrem (jdiv x 24) (ν 0 0) : Int) : Int), .inl (jrem (jdiv (jdiv x 24) 2) 3), .inl (jrem (jdiv x 24) 2), .inr 0] [σ, ν] by
        refine gl_if_ne dg_act_298 (tgt := 305) (by rfl) (fun hc18 => ?_) (fun hc18 => ?_)
        · refine gl_ops (S := ([], σ)) (S' := ([], σ)) og_act_305_1 (by decide) (L' := [some (.inr 0), some (.inr 1), some (.inl x), some (.inl (jdiv x 24)), some (.inl (if (ν 0 1) = 0 then 0 else jrem (jdiv x 24) (ν 0 1) : Int)), some (.inl (if (ν 0 1) = 0 then 0 else jrem (jdiv (jdiv x 24) 61) (ν 0 1) : Int)), some (.inl (if (ν 0 0) = 0 then 0 else jrem (jdiv x 24) (ν 0 0) : Int))]) (st' := [.inl (if (ν 0 0) = 0 then 0 else jrem (jdiv x 24) (ν 0 0) : Int), .inl (jrem (jdiv (jdiv x 24) 2) 3), .inl (jrem (jdiv x 24) 2), .inr 0]) rfl ?_
          exact gl_st (by rw [if_neg hc18]) hJ17
        · refine gl_ops (S := ([], σ)) (S' := ([], σ)) og_act_301_1 (by decide) (L' := [some (.inr 0), some (.inr 1), some (.inl x), some (.inl (jdiv x 24)), some (.inl (if (ν 0 1) = 0 then 0 else jrem (jdiv x 24) (ν 0 1) : Int)), some (.inl (if (ν 0 1) = 0 then 0 else jrem (jdiv (jdiv x 24) 61) (ν 0 1) : Int)), some (.inl (if (ν 0 0) = 0 then 0 else jrem (jdiv x 24) (ν 0 0) : Int))]) (st' := [.inl (-1), .inl (jrem (jdiv (jdiv x 24) 2) 3), .inl (jrem (jdiv x 24) 2), .inr 0]) rfl ?_
          refine gl_goto dg_act_302 (tgt := 307) (by rfl) ?_
          exact gl_st (by rw [if_pos hc18]) hJ17
      refine gl_ops (S := ([], σ)) (S' := ([], σ)) og_act_307_2 (by decide) (L' := [some (.inr 0), some (.inr 1), some (.inl x), some (.inl (jdiv x 24)), some (.inl (if (ν 0 1) = 0 then 0 else jrem (jdiv x 24) (ν 0 1) : Int)), some (.inl (if (ν 0 1) = 0 then 0 else jrem (jdiv (jdiv x 24) 61) (ν 0 1) : Int)), some (.inl (if (ν 0 0) = 0 then 0 else jrem (jdiv x 24) (ν 0 0) : Int))]) (st' := [.inl 12, .inl (jdiv x 24), .inl (if (jrem (jdiv (jdiv x 24) 6) 2) = 0 then (-1) else (if (ν 0 0) = 0 then 0 else jrem (jdiv x 24) (ν 0 0) : Int) : Int), .inl (jrem (jdiv (jdiv x 24) 2) 3), .inl (jrem (jdiv x 24) 2), .inr 0]) rfl ?_
      refine gl_div dg_act_310 (by decide) ?_
      refine gl_ops (S := ([], σ)) (S' := ([], σ)) og_act_311_1 (by decide) (L' := [some (.inr 0), some (.inr 1), some (.inl x), some (.inl (jdiv x 24)), some (.inl (if (ν 0 1) = 0 then 0 else jrem (jdiv x 24) (ν 0 1) : Int)), some (.inl (if (ν 0 1) = 0 then 0 else jrem (jdiv (jdiv x 24) 61) (ν 0 1) : Int)), some (.inl (if (ν 0 0) = 0 then 0 else jrem (jdiv x 24) (ν 0 0) : Int))]) (st' := [.inl 2, .inl (jdiv (jdiv x 24) 12), .inl (if (jrem (jdiv (jdiv x 24) 6) 2) = 0 then (-1) else (if (ν 0 0) = 0 then 0 else jrem (jdiv x 24) (ν 0 0) : Int) : Int), .inl (jrem (jdiv (jdiv x 24) 2) 3), .inl (jrem (jdiv x 24) 2), .inr 0]) rfl ?_
      refine gl_rem dg_act_312 (by decide) ?_
      suffices hJ19 : Gl l m_L_act d 1 [(ax, LAYC), FN an] [a0, an] (some k) [σ', ν] 0 338 [some (.inr 0), some (.inr 1), some (.inl x), some (.inl (jdiv x 24)), some (.inl (if (ν 0 1) = 0 then 0 else jrem (jdiv x 24) (ν 0 1) : Int)), some (.inl (if (ν 0 1) = 0 then 0 else jrem (jdiv (jdiv x 24) 61) (ν 0 1) : Int)), some (.inl (if (ν 0 0) = 0 then 0 else jrem (jdiv x 24) (ν 0 0) : Int))] [.inl (if (jrem (jdiv (jdiv x 24) 12) 2) = 0 then (-1) else (if (ν 0 0) = 0 then 0 else jrem (jdiv (jdiv x 24) 61) (ν 0 0) : Int) : Int), .inl (if (jrem (jdiv (jdiv x 24) 6) 2) = 0 then (-1) else (if (ν 0 0) = 0 then 0 else jrem (jdiv x 24) (ν 0 0) : Int) : Int), .inl (jrem (jdiv (jdiv x 24) 2) 3), .inl (jrem (jdiv x 24) 2), .inr 0] [σ, ν] by
        refine gl_if_ne dg_act_313 (tgt := 320) (by rfl) (fun hc20 => ?_) (fun hc20 => ?_)
        · refine gl_ops (S := ([], σ)) (S' := ([], σ)) og_act_320_2 (by decide) (L' := [some (.inr 0), some (.inr 1), some (.inl x), some (.inl (jdiv x 24)), some (.inl (if (ν 0 1) = 0 then 0 else jrem (jdiv x 24) (ν 0 1) : Int)), some (.inl (if (ν 0 1) = 0 then 0 else jrem (jdiv (jdiv x 24) 61) (ν 0 1) : Int)), some (.inl (if (ν 0 0) = 0 then 0 else jrem (jdiv x 24) (ν 0 0) : Int))]) (st' := [.inl 0, .inr 1, .inl (if (jrem (jdiv (jdiv x 24) 6) 2) = 0 then (-1) else (if (ν 0 0) = 0 then 0 else jrem (jdiv x 24) (ν 0 0) : Int) : Int), .inl (jrem (jdiv (jdiv x 24) 2) 3), .inl (jrem (jdiv x 24) 2), .inr 0]) rfl ?_
          refine gl_rdx (jn := 1) (ν := ν) (an := an) (x := ν 0 0) dg_act_322 rfl rfl rfl (by decide) (by decide) rfl ?_
          refine gl_if_ne dg_act_323 (tgt := 330) (by rfl) (fun hc21 => ?_) (fun hc21 => ?_)
          · refine gl_ops (S := ([], σ)) (S' := ([], σ)) og_act_330_2 (by decide) (L' := [some (.inr 0), some (.inr 1), some (.inl x), some (.inl (jdiv x 24)), some (.inl (if (ν 0 1) = 0 then 0 else jrem (jdiv x 24) (ν 0 1) : Int)), some (.inl (if (ν 0 1) = 0 then 0 else jrem (jdiv (jdiv x 24) 61) (ν 0 1) : Int)), some (.inl (if (ν 0 0) = 0 then 0 else jrem (jdiv x 24) (ν 0 0) : Int))]) (st' := [.inl 61, .inl (jdiv x 24), .inl (if (jrem (jdiv (jdiv x 24) 6) 2) = 0 then (-1) else (if (ν 0 0) = 0 then 0 else jrem (jdiv x 24) (ν 0 0) : Int) : Int), .inl (jrem (jdiv (jdiv x 24) 2) 3), .inl (jrem (jdiv x 24) 2), .inr 0]) rfl ?_
            refine gl_div dg_act_333 (by decide) ?_
            refine gl_ops (S := ([], σ)) (S' := ([], σ)) og_act_334_2 (by decide) (L' := [some (.inr 0), some (.inr 1), some (.inl x), some (.inl (jdiv x 24)), some (.inl (if (ν 0 1) = 0 then 0 else jrem (jdiv x 24) (ν 0 1) : Int)), some (.inl (if (ν 0 1) = 0 then 0 else jrem (jdiv (jdiv x 24) 61) (ν 0 1) : Int)), some (.inl (if (ν 0 0) = 0 then 0 else jrem (jdiv x 24) (ν 0 0) : Int))]) (st' := [.inl 0, .inr 1, .inl (jdiv (jdiv x 24) 61), .inl (if (jrem (jdiv (jdiv x 24) 6) 2) = 0 then (-1) else (if (ν 0 0) = 0 then 0 else jrem (jdiv x 24) (ν 0 0) : Int) : Int), .inl (jrem (jdiv (jdiv x 24) 2) 3), .inl (jrem (jdiv x 24) 2), .inr 0]) rfl ?_
            refine gl_rdx (jn := 1) (ν := ν) (an := an) (x := ν 0 0) dg_act_336 rfl rfl rfl (by decide) (by decide) rfl ?_
            refine gl_rem dg_act_337 hc21 ?_
            exact gl_st (by rw [if_neg hc20, if_neg hc21]) hJ19
          · refine gl_ops (S := ([], σ)) (S' := ([], σ)) og_act_326_1 (by decide) (L' := [some (.inr 0), some (.inr 1), some (.inl x), some (.inl (jdiv x 24)), some (.inl (if (ν 0 1) = 0 then 0 else jrem (jdiv x 24) (ν 0 1) : Int)), some (.inl (if (ν 0 1) = 0 then 0 else jrem (jdiv (jdiv x 24) 61) (ν 0 1) : Int)), some (.inl (if (ν 0 0) = 0 then 0 else jrem (jdiv x 24) (ν 0 0) : Int))]) (st' := [.inl 0, .inl (if (jrem (jdiv (jdiv x 24) 6) 2) = 0 then (-1) else (if (ν 0 0) = 0 then 0 else jrem (jdiv x 24) (ν 0 0) : Int) : Int), .inl (jrem (jdiv (jdiv x 24) 2) 3), .inl (jrem (jdiv x 24) 2), .inr 0]) rfl ?_
            refine gl_goto dg_act_327 (tgt := 338) (by rfl) ?_
            exact gl_st (by rw [if_neg hc20, if_pos hc21]) hJ19
        · refine gl_ops (S := ([], σ)) (S' := ([], σ)) og_act_316_1 (by decide) (L' := [some (.inr 0), some (.inr 1), some (.inl x), some (.inl (jdiv x 24)), some (.inl (if (ν 0 1) = 0 then 0 else jrem (jdiv x 24) (ν 0 1) : Int)), some (.inl (if (ν 0 1) = 0 then 0 else jrem (jdiv (jdiv x 24) 61) (ν 0 1) : Int)), some (.inl (if (ν 0 0) = 0 then 0 else jrem (jdiv x 24) (ν 0 0) : Int))]) (st' := [.inl (-1), .inl (if (jrem (jdiv (jdiv x 24) 6) 2) = 0 then (-1) else (if (ν 0 0) = 0 then 0 else jrem (jdiv x 24) (ν 0 0) : Int) : Int), .inl (jrem (jdiv (jdiv x 24) 2) 3), .inl (jrem (jdiv x 24) 2), .inr 0]) rfl ?_
          refine gl_goto dg_act_317 (tgt := 338) (by rfl) ?_
          exact gl_st (by rw [if_pos hc20]) hJ19
      refine gl_ops (S := ([], σ)) (S' := ([], σ)) og_act_338_1 (by decide) (L' := [some (.inr 0), some (.inr 1), some (.inl x), some (.inl (jdiv x 24)), some (.inl (if (ν 0 1) = 0 then 0 else jrem (jdiv x 24) (ν 0 1) : Int)), some (.inl (if (ν 0 1) = 0 then 0 else jrem (jdiv (jdiv x 24) 61) (ν 0 1) : Int)), some (.inl (if (ν 0 0) = 0 then 0 else jrem (jdiv x 24) (ν 0 0) : Int))]) (st' := [.inl (-1), .inl (if (jrem (jdiv (jdiv x 24) 12) 2) = 0 then (-1) else (if (ν 0 0) = 0 then 0 else jrem (jdiv (jdiv x 24) 61) (ν 0 0) : Int) : Int), .inl (if (jrem (jdiv (jdiv x 24) 6) 2) = 0 then (-1) else (if (ν 0 0) = 0 then 0 else jrem (jdiv x 24) (ν 0 0) : Int) : Int), .inl (jrem (jdiv (jdiv x 24) 2) 3), .inl (jrem (jdiv x 24) 2), .inr 0]) rfl ?_
      obtain ⟨q, hq1, hq2, hq3⟩ := wrq_inv hA
      subst hq3
      refine h2_data hl hax dg_act_339 (by omega) (by decide) (Nat.le_of_ble_eq_true rfl) hq1 hq2 ?_ _ rfl
      exact gl_iret (by decide) dg_act_342 rfl
    rw [if_neg hs3] at hA
    by_cases hs4 : jrem x 24 = 4
    · rw [if_pos hs4] at hA
      refine gl_tsw dg_act_63 (by decide) (by decide) (off := 280) (tgt := 343) (tsk hs4 (by decide +kernel)) (by rfl) ?_
      refine gl_ops (S := ([], σ)) (S' := ([], σ)) og_act_343_1 (by decide) (L' := [some (.inr 0), some (.inr 1), some (.inl x), some (.inl (jdiv x 24)), some (.inl (if (ν 0 1) = 0 then 0 else jrem (jdiv x 24) (ν 0 1) : Int)), some (.inl (if (ν 0 1) = 0 then 0 else jrem (jdiv (jdiv x 24) 61) (ν 0 1) : Int)), some (.inl (if (ν 0 0) = 0 then 0 else jrem (jdiv x 24) (ν 0 0) : Int))]) (st' := [.inr 0]) rfl ?_
      obtain ⟨q, hq1, hq2, hq3⟩ := wrq_inv hA
      subst hq3
      refine h2_any hl hax dg_act_344 (by omega) (by decide) (Nat.le_of_ble_eq_true rfl) hq1 hq2 ?_ _ rfl
      exact gl_iret (by decide) dg_act_347 rfl
    rw [if_neg hs4] at hA
    by_cases hs5 : jrem x 24 = 5
    · rw [if_pos hs5] at hA
      refine gl_tsw dg_act_63 (by decide) (by decide) (off := 285) (tgt := 348) (tsk hs5 (by decide +kernel)) (by rfl) ?_
      refine gl_ops (S := ([], σ)) (S' := ([], σ)) og_act_348_3 (by decide) (L' := [some (.inr 0), some (.inr 1), some (.inl x), some (.inl (jdiv x 24)), some (.inl (if (ν 0 1) = 0 then 0 else jrem (jdiv x 24) (ν 0 1) : Int)), some (.inl (if (ν 0 1) = 0 then 0 else jrem (jdiv (jdiv x 24) 61) (ν 0 1) : Int)), some (.inl (if (ν 0 0) = 0 then 0 else jrem (jdiv x 24) (ν 0 0) : Int))]) (st' := [.inl 61, .inl (jdiv x 24), .inr 0]) rfl ?_
      refine gl_div dg_act_352 (by decide) ?_
      refine gl_ops (S := ([], σ)) (S' := ([], σ)) og_act_353_1 (by decide) (L' := [some (.inr 0), some (.inr 1), some (.inl x), some (.inl (jdiv x 24)), some (.inl (if (ν 0 1) = 0 then 0 else jrem (jdiv x 24) (ν 0 1) : Int)), some (.inl (if (ν 0 1) = 0 then 0 else jrem (jdiv (jdiv x 24) 61) (ν 0 1) : Int)), some (.inl (if (ν 0 0) = 0 then 0 else jrem (jdiv x 24) (ν 0 0) : Int))]) (st' := [.inl 3, .inl (jdiv (jdiv x 24) 61), .inr 0]) rfl ?_
      refine gl_rem dg_act_354 (by decide) ?_
      refine gl_ops (S := ([], σ)) (S' := ([], σ)) og_act_355_1 (by decide) (L' := [some (.inr 0), some (.inr 1), some (.inl x), some (.inl (jdiv x 24)), some (.inl (if (ν 0 1) = 0 then 0 else jrem (jdiv x 24) (ν 0 1) : Int)), some (.inl (if (ν 0 1) = 0 then 0 else jrem (jdiv (jdiv x 24) 61) (ν 0 1) : Int)), some (.inl (if (ν 0 0) = 0 then 0 else jrem (jdiv x 24) (ν 0 0) : Int))]) (st' := [.inl (if (ν 0 1) = 0 then 0 else jrem (jdiv x 24) (ν 0 1) : Int), .inl (jrem (jdiv (jdiv x 24) 61) 3), .inr 0]) rfl ?_
      obtain ⟨q, hq1, hq2, hq3⟩ := wrq_inv hA
      subst hq3
      refine h2_name hl hax dg_act_357 (by omega) (by decide) (Nat.le_of_ble_eq_true rfl) hq1 hq2 ?_ _ rfl
      exact gl_iret (by decide) dg_act_360 rfl
    rw [if_neg hs5] at hA
    by_cases hs6 : jrem x 24 = 6
    · rw [if_pos hs6] at hA
      refine gl_tsw dg_act_63 (by decide) (by decide) (off := 298) (tgt := 361) (tsk hs6 (by decide +kernel)) (by rfl) ?_
      refine gl_ops (S := ([], σ)) (S' := ([], σ)) og_act_361_3 (by decide) (L' := [some (.inr 0), some (.inr 1), some (.inl x), some (.inl (jdiv x 24)), some (.inl (if (ν 0 1) = 0 then 0 else jrem (jdiv x 24) (ν 0 1) : Int)), some (.inl (if (ν 0 1) = 0 then 0 else jrem (jdiv (jdiv x 24) 61) (ν 0 1) : Int)), some (.inl (if (ν 0 0) = 0 then 0 else jrem (jdiv x 24) (ν 0 0) : Int))]) (st' := [.inl 10, .inl (jdiv x 24), .inr 0]) rfl ?_
      refine gl_rem dg_act_365 (by decide) ?_
      refine gl_ops (S := ([], σ)) (S' := ([], σ)) og_act_366_2 (by decide) (L' := [some (.inr 0), some (.inr 1), some (.inl x), some (.inl (jdiv x 24)), some (.inl (if (ν 0 1) = 0 then 0 else jrem (jdiv x 24) (ν 0 1) : Int)), some (.inl (if (ν 0 1) = 0 then 0 else jrem (jdiv (jdiv x 24) 61) (ν 0 1) : Int)), some (.inl (if (ν 0 0) = 0 then 0 else jrem (jdiv x 24) (ν 0 0) : Int))]) (st' := [.inl 10, .inl (jdiv x 24), .inl (jrem (jdiv x 24) 10), .inr 0]) rfl ?_
      refine gl_rem dg_act_369 (by decide) ?_
      refine gl_ops (S := ([], σ)) (S' := ([], σ)) og_act_370_2 (by decide) (L' := [some (.inr 0), some (.inr 1), some (.inl x), some (.inl (jdiv x 24)), some (.inl (if (ν 0 1) = 0 then 0 else jrem (jdiv x 24) (ν 0 1) : Int)), some (.inl (if (ν 0 1) = 0 then 0 else jrem (jdiv (jdiv x 24) 61) (ν 0 1) : Int)), some (.inl (if (ν 0 0) = 0 then 0 else jrem (jdiv x 24) (ν 0 0) : Int))]) (st' := [.inl 10, .inl (jdiv x 24), .inl (jrem (jdiv x 24) 10), .inl (jrem (jdiv x 24) 10), .inr 0]) rfl ?_
      refine gl_div dg_act_373 (by decide) ?_
      refine gl_ops (S := ([], σ)) (S' := ([], σ)) og_act_374_1 (by decide) (L' := [some (.inr 0), some (.inr 1), some (.inl x), some (.inl (jdiv x 24)), some (.inl (if (ν 0 1) = 0 then 0 else jrem (jdiv x 24) (ν 0 1) : Int)), some (.inl (if (ν 0 1) = 0 then 0 else jrem (jdiv (jdiv x 24) 61) (ν 0 1) : Int)), some (.inl (if (ν 0 0) = 0 then 0 else jrem (jdiv x 24) (ν 0 0) : Int))]) (st' := [.inl 4, .inl (jdiv (jdiv x 24) 10), .inl (jrem (jdiv x 24) 10), .inl (jrem (jdiv x 24) 10), .inr 0]) rfl ?_
      refine gl_rem dg_act_375 (by decide) ?_
      refine gl_ops (S := ([], σ)) (S' := ([], σ)) og_act_376_2 (by decide) (L' := [some (.inr 0), some (.inr 1), some (.inl x), some (.inl (jdiv x 24)), some (.inl (if (ν 0 1) = 0 then 0 else jrem (jdiv x 24) (ν 0 1) : Int)), some (.inl (if (ν 0 1) = 0 then 0 else jrem (jdiv (jdiv x 24) 61) (ν 0 1) : Int)), some (.inl (if (ν 0 0) = 0 then 0 else jrem (jdiv x 24) (ν 0 0) : Int))]) (st' := [.inl 9, .inl (wrap ((jrem (jdiv x 24) 10) + (jrem (jdiv (jdiv x 24) 10) 4))), .inl (jrem (jdiv x 24) 10), .inr 0]) rfl ?_
      suffices hJ22 : Gl l m_L_act d 1 [(ax, LAYC), FN an] [a0, an] (some k) [σ', ν] 0 398 [some (.inr 0), some (.inr 1), some (.inl x), some (.inl (jdiv x 24)), some (.inl (if (ν 0 1) = 0 then 0 else jrem (jdiv x 24) (ν 0 1) : Int)), some (.inl (if (ν 0 1) = 0 then 0 else jrem (jdiv (jdiv x 24) 61) (ν 0 1) : Int)), some (.inl (if (ν 0 0) = 0 then 0 else jrem (jdiv x 24) (ν 0 0) : Int))] [.inl (if (wrap ((jrem (jdiv x 24) 10) + (jrem (jdiv (jdiv x 24) 10) 4))) ≤ 9 then wrap ((jrem (jdiv x 24) 10) + (jrem (jdiv (jdiv x 24) 10) 4)) else 9 : Int), .inl (jrem (jdiv x 24) 10), .inr 0] [σ, ν] by
        refine gl_icmp_le dg_act_379 (tgt := 387) (by rfl) (fun hc23 => ?_) (fun hc23 => ?_)
        · refine gl_ops (S := ([], σ)) (S' := ([], σ)) og_act_387_2 (by decide) (L' := [some (.inr 0), some (.inr 1), some (.inl x), some (.inl (jdiv x 24)), some (.inl (if (ν 0 1) = 0 then 0 else jrem (jdiv x 24) (ν 0 1) : Int)), some (.inl (if (ν 0 1) = 0 then 0 else jrem (jdiv (jdiv x 24) 61) (ν 0 1) : Int)), some (.inl (if (ν 0 0) = 0 then 0 else jrem (jdiv x 24) (ν 0 0) : Int))]) (st' := [.inl 10, .inl (jdiv x 24), .inl (jrem (jdiv x 24) 10), .inr 0]) rfl ?_
          refine gl_rem dg_act_390 (by decide) ?_
          refine gl_ops (S := ([], σ)) (S' := ([], σ)) og_act_391_2 (by decide) (L' := [some (.inr 0), some (.inr 1), some (.inl x), some (.inl (jdiv x 24)), some (.inl (if (ν 0 1) = 0 then 0 else jrem (jdiv x 24) (ν 0 1) : Int)), some (.inl (if (ν 0 1) = 0 then 0 else jrem (jdiv (jdiv x 24) 61) (ν 0 1) : Int)), some (.inl (if (ν 0 0) = 0 then 0 else jrem (jdiv x 24) (ν 0 0) : Int))]) (st' := [.inl 10, .inl (jdiv x 24), .inl (jrem (jdiv x 24) 10), .inl (jrem (jdiv x 24) 10), .inr 0]) rfl ?_
          refine gl_div dg_act_394 (by decide) ?_
          refine gl_ops (S := ([], σ)) (S' := ([], σ)) og_act_395_1 (by decide) (L' := [some (.inr 0), some (.inr 1), some (.inl x), some (.inl (jdiv x 24)), some (.inl (if (ν 0 1) = 0 then 0 else jrem (jdiv x 24) (ν 0 1) : Int)), some (.inl (if (ν 0 1) = 0 then 0 else jrem (jdiv (jdiv x 24) 61) (ν 0 1) : Int)), some (.inl (if (ν 0 0) = 0 then 0 else jrem (jdiv x 24) (ν 0 0) : Int))]) (st' := [.inl 4, .inl (jdiv (jdiv x 24) 10), .inl (jrem (jdiv x 24) 10), .inl (jrem (jdiv x 24) 10), .inr 0]) rfl ?_
          refine gl_rem dg_act_396 (by decide) ?_
          refine gl_ops (S := ([], σ)) (S' := ([], σ)) og_act_397_1 (by decide) (L' := [some (.inr 0), some (.inr 1), some (.inl x), some (.inl (jdiv x 24)), some (.inl (if (ν 0 1) = 0 then 0 else jrem (jdiv x 24) (ν 0 1) : Int)), some (.inl (if (ν 0 1) = 0 then 0 else jrem (jdiv (jdiv x 24) 61) (ν 0 1) : Int)), some (.inl (if (ν 0 0) = 0 then 0 else jrem (jdiv x 24) (ν 0 0) : Int))]) (st' := [.inl (wrap ((jrem (jdiv x 24) 10) + (jrem (jdiv (jdiv x 24) 10) 4))), .inl (jrem (jdiv x 24) 10), .inr 0]) rfl ?_
          exact gl_st (by rw [if_pos hc23]) hJ22
        · refine gl_ops (S := ([], σ)) (S' := ([], σ)) og_act_382_1 (by decide) (L' := [some (.inr 0), some (.inr 1), some (.inl x), some (.inl (jdiv x 24)), some (.inl (if (ν 0 1) = 0 then 0 else jrem (jdiv x 24) (ν 0 1) : Int)), some (.inl (if (ν 0 1) = 0 then 0 else jrem (jdiv (jdiv x 24) 61) (ν 0 1) : Int)), some (.inl (if (ν 0 0) = 0 then 0 else jrem (jdiv x 24) (ν 0 0) : Int))]) (st' := [.inl 9, .inl (jrem (jdiv x 24) 10), .inr 0]) rfl ?_
          refine gl_goto dg_act_384 (tgt := 398) (by rfl) ?_
          exact gl_st (by rw [if_neg hc23]) hJ22
      obtain ⟨q, hq1, hq2, hq3⟩ := wrq_inv hA
      subst hq3
      refine h2_range hl hax dg_act_398 (by omega) (by decide) (Nat.le_of_ble_eq_true rfl) hq1 hq2 ?_ _ rfl
      exact gl_iret (by decide) dg_act_401 rfl
    rw [if_neg hs6] at hA
    by_cases hs7 : jrem x 24 = 7
    · rw [if_pos hs7] at hA
      refine gl_tsw dg_act_63 (by decide) (by decide) (off := 298) (tgt := 361) (tsk hs7 (by decide +kernel)) (by rfl) ?_
      refine gl_ops (S := ([], σ)) (S' := ([], σ)) og_act_361_3 (by decide) (L' := [some (.inr 0), some (.inr 1), some (.inl x), some (.inl (jdiv x 24)), some (.inl (if (ν 0 1) = 0 then 0 else jrem (jdiv x 24) (ν 0 1) : Int)), some (.inl (if (ν 0 1) = 0 then 0 else jrem (jdiv (jdiv x 24) 61) (ν 0 1) : Int)), some (.inl (if (ν 0 0) = 0 then 0 else jrem (jdiv x 24) (ν 0 0) : Int))]) (st' := [.inl 10, .inl (jdiv x 24), .inr 0]) rfl ?_
      refine gl_rem dg_act_365 (by decide) ?_
      refine gl_ops (S := ([], σ)) (S' := ([], σ)) og_act_366_2 (by decide) (L' := [some (.inr 0), some (.inr 1), some (.inl x), some (.inl (jdiv x 24)), some (.inl (if (ν 0 1) = 0 then 0 else jrem (jdiv x 24) (ν 0 1) : Int)), some (.inl (if (ν 0 1) = 0 then 0 else jrem (jdiv (jdiv x 24) 61) (ν 0 1) : Int)), some (.inl (if (ν 0 0) = 0 then 0 else jrem (jdiv x 24) (ν 0 0) : Int))]) (st' := [.inl 10, .inl (jdiv x 24), .inl (jrem (jdiv x 24) 10), .inr 0]) rfl ?_
      refine gl_rem dg_act_369 (by decide) ?_
      refine gl_ops (S := ([], σ)) (S' := ([], σ)) og_act_370_2 (by decide) (L' := [some (.inr 0), some (.inr 1), some (.inl x), some (.inl (jdiv x 24)), some (.inl (if (ν 0 1) = 0 then 0 else jrem (jdiv x 24) (ν 0 1) : Int)), some (.inl (if (ν 0 1) = 0 then 0 else jrem (jdiv (jdiv x 24) 61) (ν 0 1) : Int)), some (.inl (if (ν 0 0) = 0 then 0 else jrem (jdiv x 24) (ν 0 0) : Int))]) (st' := [.inl 10, .inl (jdiv x 24), .inl (jrem (jdiv x 24) 10), .inl (jrem (jdiv x 24) 10), .inr 0]) rfl ?_
      refine gl_div dg_act_373 (by decide) ?_
      refine gl_ops (S := ([], σ)) (S' := ([], σ)) og_act_374_1 (by decide) (L' := [some (.inr 0), some (.inr 1), some (.inl x), some (.inl (jdiv x 24)), some (.inl (if (ν 0 1) = 0 then 0 else jrem (jdiv x 24) (ν 0 1) : Int)), some (.inl (if (ν 0 1) = 0 then 0 else jrem (jdiv (jdiv x 24) 61) (ν 0 1) : Int)), some (.inl (if (ν 0 0) = 0 then 0 else jrem (jdiv x 24) (ν 0 0) : Int))]) (st' := [.inl 4, .inl (jdiv (jdiv x 24) 10), .inl (jrem (jdiv x 24) 10), .inl (jrem (jdiv x 24) 10), .inr 0]) rfl ?_
      refine gl_rem dg_act_375 (by decide) ?_
      refine gl_ops (S := ([], σ)) (S' := ([], σ)) og_act_376_2 (by decide) (L' := [some (.inr 0), some (.inr 1), some (.inl x), some (.inl (jdiv x 24)), some (.inl (if (ν 0 1) = 0 then 0 else jrem (jdiv x 24) (ν 0 1) : Int)), some (.inl (if (ν 0 1) = 0 then 0 else jrem (jdiv (jdiv x 24) 61) (ν 0 1) : Int)), some (.inl (if (ν 0 0) = 0 then 0 else jrem (jdiv x 24) (ν 0 0) : Int))]) (st' := [.inl 9, .inl (wrap ((jrem (jdiv x 24) 10) + (jrem (jdiv (jdiv x 24) 10) 4))), .inl (jrem (jdiv x 24) 10), .inr 0]) rfl ?_
      suffices hJ24 : Gl l m_L_act d 1 [(ax, LAYC), FN an] [a0, an] (some k) [σ', ν] 0 398 [some (.inr 0), some (.inr 1), some (.inl x), some (.inl (jdiv x 24)), some (.inl (if (ν 0 1) = 0 then 0 else jrem (jdiv x 24) (ν 0 1) : Int)), some (.inl (if (ν 0 1) = 0 then 0 else jrem (jdiv (jdiv x 24) 61) (ν 0 1) : Int)), some (.inl (if (ν 0 0) = 0 then 0 else jrem (jdiv x 24) (ν 0 0) : Int))] [.inl (if (wrap ((jrem (jdiv x 24) 10) + (jrem (jdiv (jdiv x 24) 10) 4))) ≤ 9 then wrap ((jrem (jdiv x 24) 10) + (jrem (jdiv (jdiv x 24) 10) 4)) else 9 : Int), .inl (jrem (jdiv x 24) 10), .inr 0] [σ, ν] by
        refine gl_icmp_le dg_act_379 (tgt := 387) (by rfl) (fun hc25 => ?_) (fun hc25 => ?_)
        · refine gl_ops (S := ([], σ)) (S' := ([], σ)) og_act_387_2 (by decide) (L' := [some (.inr 0), some (.inr 1), some (.inl x), some (.inl (jdiv x 24)), some (.inl (if (ν 0 1) = 0 then 0 else jrem (jdiv x 24) (ν 0 1) : Int)), some (.inl (if (ν 0 1) = 0 then 0 else jrem (jdiv (jdiv x 24) 61) (ν 0 1) : Int)), some (.inl (if (ν 0 0) = 0 then 0 else jrem (jdiv x 24) (ν 0 0) : Int))]) (st' := [.inl 10, .inl (jdiv x 24), .inl (jrem (jdiv x 24) 10), .inr 0]) rfl ?_
          refine gl_rem dg_act_390 (by decide) ?_
          refine gl_ops (S := ([], σ)) (S' := ([], σ)) og_act_391_2 (by decide) (L' := [some (.inr 0), some (.inr 1), some (.inl x), some (.inl (jdiv x 24)), some (.inl (if (ν 0 1) = 0 then 0 else jrem (jdiv x 24) (ν 0 1) : Int)), some (.inl (if (ν 0 1) = 0 then 0 else jrem (jdiv (jdiv x 24) 61) (ν 0 1) : Int)), some (.inl (if (ν 0 0) = 0 then 0 else jrem (jdiv x 24) (ν 0 0) : Int))]) (st' := [.inl 10, .inl (jdiv x 24), .inl (jrem (jdiv x 24) 10), .inl (jrem (jdiv x 24) 10), .inr 0]) rfl ?_
          refine gl_div dg_act_394 (by decide) ?_
          refine gl_ops (S := ([], σ)) (S' := ([], σ)) og_act_395_1 (by decide) (L' := [some (.inr 0), some (.inr 1), some (.inl x), some (.inl (jdiv x 24)), some (.inl (if (ν 0 1) = 0 then 0 else jrem (jdiv x 24) (ν 0 1) : Int)), some (.inl (if (ν 0 1) = 0 then 0 else jrem (jdiv (jdiv x 24) 61) (ν 0 1) : Int)), some (.inl (if (ν 0 0) = 0 then 0 else jrem (jdiv x 24) (ν 0 0) : Int))]) (st' := [.inl 4, .inl (jdiv (jdiv x 24) 10), .inl (jrem (jdiv x 24) 10), .inl (jrem (jdiv x 24) 10), .inr 0]) rfl ?_
          refine gl_rem dg_act_396 (by decide) ?_
          refine gl_ops (S := ([], σ)) (S' := ([], σ)) og_act_397_1 (by decide) (L' := [some (.inr 0), some (.inr 1), some (.inl x), some (.inl (jdiv x 24)), some (.inl (if (ν 0 1) = 0 then 0 else jrem (jdiv x 24) (ν 0 1) : Int)), some (.inl (if (ν 0 1) = 0 then 0 else jrem (jdiv (jdiv x 24) 61) (ν 0 1) : Int)), some (.inl (if (ν 0 0) = 0 then 0 else jrem (jdiv x 24) (ν 0 0) : Int))]) (st' := [.inl (wrap ((jrem (jdiv x 24) 10) + (jrem (jdiv (jdiv x 24) 10) 4))), .inl (jrem (jdiv x 24) 10), .inr 0]) rfl ?_
          exact gl_st (by rw [if_pos hc25]) hJ24
        · refine gl_ops (S := ([], σ)) (S' := ([], σ)) og_act_382_1 (by decide) (L' := [some (.inr 0), some (.inr 1), some (.inl x), some (.inl (jdiv x 24)), some (.inl (if (ν 0 1) = 0 then 0 else jrem (jdiv x 24) (ν 0 1) : Int)), some (.inl (if (ν 0 1) = 0 then 0 else jrem (jdiv (jdiv x 24) 61) (ν 0 1) : Int)), some (.inl (if (ν 0 0) = 0 then 0 else jrem (jdiv x 24) (ν 0 0) : Int))]) (st' := [.inl 9, .inl (jrem (jdiv x 24) 10), .inr 0]) rfl ?_
          refine gl_goto dg_act_384 (tgt := 398) (by rfl) ?_
          exact gl_st (by rw [if_neg hc25]) hJ24
      obtain ⟨q, hq1, hq2, hq3⟩ := wrq_inv hA
      subst hq3
      refine h2_range hl hax dg_act_398 (by omega) (by decide) (Nat.le_of_ble_eq_true rfl) hq1 hq2 ?_ _ rfl
      exact gl_iret (by decide) dg_act_401 rfl
    rw [if_neg hs7] at hA
    by_cases hs8 : jrem x 24 = 8
    · rw [if_pos hs8] at hA
      refine gl_tsw dg_act_63 (by decide) (by decide) (off := 339) (tgt := 402) (tsk hs8 (by decide +kernel)) (by rfl) ?_
      refine gl_ops (S := ([], σ)) (S' := ([], σ)) og_act_402_3 (by decide) (L' := [some (.inr 0), some (.inr 1), some (.inl x), some (.inl (jdiv x 24)), some (.inl (if (ν 0 1) = 0 then 0 else jrem (jdiv x 24) (ν 0 1) : Int)), some (.inl (if (ν 0 1) = 0 then 0 else jrem (jdiv (jdiv x 24) 61) (ν 0 1) : Int)), some (.inl (if (ν 0 0) = 0 then 0 else jrem (jdiv x 24) (ν 0 0) : Int))]) (st' := [.inl 3, .inl (jdiv x 24), .inr 0]) rfl ?_
      refine gl_div dg_act_405 (by decide) ?_
      refine gl_ops (S := ([], σ)) (S' := ([], σ)) og_act_406_1 (by decide) (L' := [some (.inr 0), some (.inr 1), some (.inl x), some (.inl (jdiv x 24)), some (.inl (if (ν 0 1) = 0 then 0 else jrem (jdiv x 24) (ν 0 1) : Int)), some (.inl (if (ν 0 1) = 0 then 0 else jrem (jdiv (jdiv x 24) 61) (ν 0 1) : Int)), some (.inl (if (ν 0 0) = 0 then 0 else jrem (jdiv x 24) (ν 0 0) : Int))]) (st' := [.inl 2, .inl (jdiv (jdiv x 24) 3), .inr 0]) rfl ?_
      refine gl_rem dg_act_407 (by decide) ?_
      refine gl_ops (S := ([], σ)) (S' := ([], σ)) og_act_408_2 (by decide) (L' := [some (.inr 0), some (.inr 1), some (.inl x), some (.inl (jdiv x 24)), some (.inl (if (ν 0 1) = 0 then 0 else jrem (jdiv x 24) (ν 0 1) : Int)), some (.inl (if (ν 0 1) = 0 then 0 else jrem (jdiv (jdiv x 24) 61) (ν 0 1) : Int)), some (.inl (if (ν 0 0) = 0 then 0 else jrem (jdiv x 24) (ν 0 0) : Int))]) (st' := [.inl 7, .inl (jdiv x 24), .inl (jrem (jdiv (jdiv x 24) 3) 2), .inr 0]) rfl ?_
      refine gl_div dg_act_411 (by decide) ?_
      refine gl_ops (S := ([], σ)) (S' := ([], σ)) og_act_412_1 (by decide) (L' := [some (.inr 0), some (.inr 1), some (.inl x), some (.inl (jdiv x 24)), some (.inl (if (ν 0 1) = 0 then 0 else jrem (jdiv x 24) (ν 0 1) : Int)), some (.inl (if (ν 0 1) = 0 then 0 else jrem (jdiv (jdiv x 24) 61) (ν 0 1) : Int)), some (.inl (if (ν 0 0) = 0 then 0 else jrem (jdiv x 24) (ν 0 0) : Int))]) (st' := [.inl 3, .inl (jdiv (jdiv x 24) 7), .inl (jrem (jdiv (jdiv x 24) 3) 2), .inr 0]) rfl ?_
      refine gl_rem dg_act_413 (by decide) ?_
      refine gl_ops (S := ([], σ)) (S' := ([], σ)) og_act_414_2 (by decide) (L' := [some (.inr 0), some (.inr 1), some (.inl x), some (.inl (jdiv x 24)), some (.inl (if (ν 0 1) = 0 then 0 else jrem (jdiv x 24) (ν 0 1) : Int)), some (.inl (if (ν 0 1) = 0 then 0 else jrem (jdiv (jdiv x 24) 61) (ν 0 1) : Int)), some (.inl (if (ν 0 0) = 0 then 0 else jrem (jdiv x 24) (ν 0 0) : Int))]) (st' := [.inl 11, .inl (jdiv x 24), .inl (jrem (jdiv (jdiv x 24) 7) 3), .inl (jrem (jdiv (jdiv x 24) 3) 2), .inr 0]) rfl ?_
      refine gl_div dg_act_417 (by decide) ?_
      refine gl_ops (S := ([], σ)) (S' := ([], σ)) og_act_418_1 (by decide) (L' := [some (.inr 0), some (.inr 1), some (.inl x), some (.inl (jdiv x 24)), some (.inl (if (ν 0 1) = 0 then 0 else jrem (jdiv x 24) (ν 0 1) : Int)), some (.inl (if (ν 0 1) = 0 then 0 else jrem (jdiv (jdiv x 24) 61) (ν 0 1) : Int)), some (.inl (if (ν 0 0) = 0 then 0 else jrem (jdiv x 24) (ν 0 0) : Int))]) (st' := [.inl 2, .inl (jdiv (jdiv x 24) 11), .inl (jrem (jdiv (jdiv x 24) 7) 3), .inl (jrem (jdiv (jdiv x 24) 3) 2), .inr 0]) rfl ?_
      refine gl_rem dg_act_419 (by decide) ?_
      suffices hJ26 : Gl l m_L_act d 1 [(ax, LAYC), FN an] [a0, an] (some k) [σ', ν] 0 429 [some (.inr 0), some (.inr 1), some (.inl x), some (.inl (jdiv x 24)), some (.inl (if (ν 0 1) = 0 then 0 else jrem (jdiv x 24) (ν 0 1) : Int)), some (.inl (if (ν 0 1) = 0 then 0 else jrem (jdiv (jdiv x 24) 61) (ν 0 1) : Int)), some (.inl (if (ν 0 0) = 0 then 0 else jrem (jdiv x 24) (ν 0 0) : Int))] [.inl (if (jrem (jdiv (jdiv x 24) 11) 2) = 0 then (-1) else (if (ν 0 1) = 0 then 0 else jrem (jdiv x 24) (ν 0 1) : Int) : Int), .inl (jrem (jdiv (jdiv x 24) 7) 3), .inl (jrem (jdiv (jdiv x 24) 3) 2), .inr 0] [σ, ν] by
        refine gl_if_ne dg_act_420 (tgt := 427) (by rfl) (fun hc27 => ?_) (fun hc27 => ?_)
        · refine gl_ops (S := ([], σ)) (S' := ([], σ)) og_act_427_1 (by decide) (L' := [some (.inr 0), some (.inr 1), some (.inl x), some (.inl (jdiv x 24)), some (.inl (if (ν 0 1) = 0 then 0 else jrem (jdiv x 24) (ν 0 1) : Int)), some (.inl (if (ν 0 1) = 0 then 0 else jrem (jdiv (jdiv x 24) 61) (ν 0 1) : Int)), some (.inl (if (ν 0 0) = 0 then 0 else jrem (jdiv x 24) (ν 0 0) : Int))]) (st' := [.inl (if (ν 0 1) = 0 then 0 else jrem (jdiv x 24) (ν 0 1) : Int), .inl (jrem (jdiv (jdiv x 24) 7) 3), .inl (jrem (jdiv (jdiv x 24) 3) 2), .inr 0]) rfl ?_
          exact gl_st (by rw [if_neg hc27]) hJ26
        · refine gl_ops (S := ([], σ)) (S' := ([], σ)) og_act_423_1 (by decide) (L' := [some (.inr 0), some (.inr 1), some (.inl x), some (.inl (jdiv x 24)), some (.inl (if (ν 0 1) = 0 then 0 else jrem (jdiv x 24) (ν 0 1) : Int)), some (.inl (if (ν 0 1) = 0 then 0 else jrem (jdiv (jdiv x 24) 61) (ν 0 1) : Int)), some (.inl (if (ν 0 0) = 0 then 0 else jrem (jdiv x 24) (ν 0 0) : Int))]) (st' := [.inl (-1), .inl (jrem (jdiv (jdiv x 24) 7) 3), .inl (jrem (jdiv (jdiv x 24) 3) 2), .inr 0]) rfl ?_
          refine gl_goto dg_act_424 (tgt := 429) (by rfl) ?_
          exact gl_st (by rw [if_pos hc27]) hJ26
      refine gl_ops (S := ([], σ)) (S' := ([], σ)) og_act_429_2 (by decide) (L' := [some (.inr 0), some (.inr 1), some (.inl x), some (.inl (jdiv x 24)), some (.inl (if (ν 0 1) = 0 then 0 else jrem (jdiv x 24) (ν 0 1) : Int)), some (.inl (if (ν 0 1) = 0 then 0 else jrem (jdiv (jdiv x 24) 61) (ν 0 1) : Int)), some (.inl (if (ν 0 0) = 0 then 0 else jrem (jdiv x 24) (ν 0 0) : Int))]) (st' := [.inl 13, .inl (jdiv x 24), .inl (if (jrem (jdiv (jdiv x 24) 11) 2) = 0 then (-1) else (if (ν 0 1) = 0 then 0 else jrem (jdiv x 24) (ν 0 1) : Int) : Int), .inl (jrem (jdiv (jdiv x 24) 7) 3), .inl (jrem (jdiv (jdiv x 24) 3) 2), .inr 0]) rfl ?_
      refine gl_div dg_act_432 (by decide) ?_
      refine gl_ops (S := ([], σ)) (S' := ([], σ)) og_act_433_1 (by decide) (L' := [some (.inr 0), some (.inr 1), some (.inl x), some (.inl (jdiv x 24)), some (.inl (if (ν 0 1) = 0 then 0 else jrem (jdiv x 24) (ν 0 1) : Int)), some (.inl (if (ν 0 1) = 0 then 0 else jrem (jdiv (jdiv x 24) 61) (ν 0 1) : Int)), some (.inl (if (ν 0 0) = 0 then 0 else jrem (jdiv x 24) (ν 0 0) : Int))]) (st' := [.inl 2, .inl (jdiv (jdiv x 24) 13), .inl (if (jrem (jdiv (jdiv x 24) 11) 2) = 0 then (-1) else (if (ν 0 1) = 0 then 0 else jrem (jdiv x 24) (ν 0 1) : Int) : Int), .inl (jrem (jdiv (jdiv x 24) 7) 3), .inl (jrem (jdiv (jdiv x 24) 3) 2), .inr 0]) rfl ?_
      refine gl_rem dg_act_434 (by decide) ?_
      suffices hJ28 : Gl l m_L_act d 1 [(ax, LAYC), FN an] [a0, an] (some k) [σ', ν] 0 444 [some (.inr 0), some (.inr 1), some (.inl x), some (.inl (jdiv x 24)), some (.inl (if (ν 0 1) = 0 then 0 else jrem (jdiv x 24) (ν 0 1) : Int)), some (.inl (if (ν 0 1) = 0 then 0 else jrem (jdiv (jdiv x 24) 61) (ν 0 1) : Int)), some (.inl (if (ν 0 0) = 0 then 0 else jrem (jdiv x 24) (ν 0 0) : Int))] [.inl (if (jrem (jdiv (jdiv x 24) 13) 2) = 0 then (-1) else (if (ν 0 1) = 0 then 0 else jrem (jdiv (jdiv x 24) 61) (ν 0 1) : Int) : Int), .inl (if (jrem (jdiv (jdiv x 24) 11) 2) = 0 then (-1) else (if (ν 0 1) = 0 then 0 else jrem (jdiv x 24) (ν 0 1) : Int) : Int), .inl (jrem (jdiv (jdiv x 24) 7) 3), .inl (jrem (jdiv (jdiv x 24) 3) 2), .inr 0] [σ, ν] by
        refine gl_if_ne dg_act_435 (tgt := 442) (by rfl) (fun hc29 => ?_) (fun hc29 => ?_)
        · refine gl_ops (S := ([], σ)) (S' := ([], σ)) og_act_442_1 (by decide) (L' := [some (.inr 0), some (.inr 1), some (.inl x), some (.inl (jdiv x 24)), some (.inl (if (ν 0 1) = 0 then 0 else jrem (jdiv x 24) (ν 0 1) : Int)), some (.inl (if (ν 0 1) = 0 then 0 else jrem (jdiv (jdiv x 24) 61) (ν 0 1) : Int)), some (.inl (if (ν 0 0) = 0 then 0 else jrem (jdiv x 24) (ν 0 0) : Int))]) (st' := [.inl (if (ν 0 1) = 0 then 0 else jrem (jdiv (jdiv x 24) 61) (ν 0 1) : Int), .inl (if (jrem (jdiv (jdiv x 24) 11) 2) = 0 then (-1) else (if (ν 0 1) = 0 then 0 else jrem (jdiv x 24) (ν 0 1) : Int) : Int), .inl (jrem (jdiv (jdiv x 24) 7) 3), .inl (jrem (jdiv (jdiv x 24) 3) 2), .inr 0]) rfl ?_
          exact gl_st (by rw [if_neg hc29]) hJ28
        · refine gl_ops (S := ([], σ)) (S' := ([], σ)) og_act_438_1 (by decide) (L' := [some (.inr 0), some (.inr 1), some (.inl x), some (.inl (jdiv x 24)), some (.inl (if (ν 0 1) = 0 then 0 else jrem (jdiv x 24) (ν 0 1) : Int)), some (.inl (if (ν 0 1) = 0 then 0 else jrem (jdiv (jdiv x 24) 61) (ν 0 1) : Int)), some (.inl (if (ν 0 0) = 0 then 0 else jrem (jdiv x 24) (ν 0 0) : Int))]) (st' := [.inl (-1), .inl (if (jrem (jdiv (jdiv x 24) 11) 2) = 0 then (-1) else (if (ν 0 1) = 0 then 0 else jrem (jdiv x 24) (ν 0 1) : Int) : Int), .inl (jrem (jdiv (jdiv x 24) 7) 3), .inl (jrem (jdiv (jdiv x 24) 3) 2), .inr 0]) rfl ?_
          refine gl_goto dg_act_439 (tgt := 444) (by rfl) ?_
          exact gl_st (by rw [if_pos hc29]) hJ28
      refine gl_ops (S := ([], σ)) (S' := ([], σ)) og_act_444_1 (by decide) (L' := [some (.inr 0), some (.inr 1), some (.inl x), some (.inl (jdiv x 24)), some (.inl (if (ν 0 1) = 0 then 0 else jrem (jdiv x 24) (ν 0 1) : Int)), some (.inl (if (ν 0 1) = 0 then 0 else jrem (jdiv (jdiv x 24) 61) (ν 0 1) : Int)), some (.inl (if (ν 0 0) = 0 then 0 else jrem (jdiv x 24) (ν 0 0) : Int))]) (st' := [.inl (-1), .inl (if (jrem (jdiv (jdiv x 24) 13) 2) = 0 then (-1) else (if (ν 0 1) = 0 then 0 else jrem (jdiv (jdiv x 24) 61) (ν 0 1) : Int) : Int), .inl (if (jrem (jdiv (jdiv x 24) 11) 2) = 0 then (-1) else (if (ν 0 1) = 0 then 0 else jrem (jdiv x 24) (ν 0 1) : Int) : Int), .inl (jrem (jdiv (jdiv x 24) 7) 3), .inl (jrem (jdiv (jdiv x 24) 3) 2), .inr 0]) rfl ?_
      obtain ⟨q, hq1, hq2, hq3⟩ := wrq_inv hA
      subst hq3
      refine h2_make hl hax dg_act_445 (by omega) (by decide) (Nat.le_of_ble_eq_true rfl) hq1 hq2 ?_ _ rfl
      exact gl_iret (by decide) dg_act_448 rfl
    rw [if_neg hs8] at hA
    by_cases hs9 : jrem x 24 = 9
    · rw [if_pos hs9] at hA
      refine gl_tsw dg_act_63 (by decide) (by decide) (off := 339) (tgt := 402) (tsk hs9 (by decide +kernel)) (by rfl) ?_
      refine gl_ops (S := ([], σ)) (S' := ([], σ)) og_act_402_3 (by decide) (L' := [some (.inr 0), some (.inr 1), some (.inl x), some (.inl (jdiv x 24)), some (.inl (if (ν 0 1) = 0 then 0 else jrem (jdiv x 24) (ν 0 1) : Int)), some (.inl (if (ν 0 1) = 0 then 0 else jrem (jdiv (jdiv x 24) 61) (ν 0 1) : Int)), some (.inl (if (ν 0 0) = 0 then 0 else jrem (jdiv x 24) (ν 0 0) : Int))]) (st' := [.inl 3, .inl (jdiv x 24), .inr 0]) rfl ?_
      refine gl_div dg_act_405 (by decide) ?_
      refine gl_ops (S := ([], σ)) (S' := ([], σ)) og_act_406_1 (by decide) (L' := [some (.inr 0), some (.inr 1), some (.inl x), some (.inl (jdiv x 24)), some (.inl (if (ν 0 1) = 0 then 0 else jrem (jdiv x 24) (ν 0 1) : Int)), some (.inl (if (ν 0 1) = 0 then 0 else jrem (jdiv (jdiv x 24) 61) (ν 0 1) : Int)), some (.inl (if (ν 0 0) = 0 then 0 else jrem (jdiv x 24) (ν 0 0) : Int))]) (st' := [.inl 2, .inl (jdiv (jdiv x 24) 3), .inr 0]) rfl ?_
      refine gl_rem dg_act_407 (by decide) ?_
      refine gl_ops (S := ([], σ)) (S' := ([], σ)) og_act_408_2 (by decide) (L' := [some (.inr 0), some (.inr 1), some (.inl x), some (.inl (jdiv x 24)), some (.inl (if (ν 0 1) = 0 then 0 else jrem (jdiv x 24) (ν 0 1) : Int)), some (.inl (if (ν 0 1) = 0 then 0 else jrem (jdiv (jdiv x 24) 61) (ν 0 1) : Int)), some (.inl (if (ν 0 0) = 0 then 0 else jrem (jdiv x 24) (ν 0 0) : Int))]) (st' := [.inl 7, .inl (jdiv x 24), .inl (jrem (jdiv (jdiv x 24) 3) 2), .inr 0]) rfl ?_
      refine gl_div dg_act_411 (by decide) ?_
      refine gl_ops (S := ([], σ)) (S' := ([], σ)) og_act_412_1 (by decide) (L' := [some (.inr 0), some (.inr 1), some (.inl x), some (.inl (jdiv x 24)), some (.inl (if (ν 0 1) = 0 then 0 else jrem (jdiv x 24) (ν 0 1) : Int)), some (.inl (if (ν 0 1) = 0 then 0 else jrem (jdiv (jdiv x 24) 61) (ν 0 1) : Int)), some (.inl (if (ν 0 0) = 0 then 0 else jrem (jdiv x 24) (ν 0 0) : Int))]) (st' := [.inl 3, .inl (jdiv (jdiv x 24) 7), .inl (jrem (jdiv (jdiv x 24) 3) 2), .inr 0]) rfl ?_
      refine gl_rem dg_act_413 (by decide) ?_
      refine gl_ops (S := ([], σ)) (S' := ([], σ)) og_act_414_2 (by decide) (L' := [some (.inr 0), some (.inr 1), some (.inl x), some (.inl (jdiv x 24)), some (.inl (if (ν 0 1) = 0 then 0 else jrem (jdiv x 24) (ν 0 1) : Int)), some (.inl (if (ν 0 1) = 0 then 0 else jrem (jdiv (jdiv x 24) 61) (ν 0 1) : Int)), some (.inl (if (ν 0 0) = 0 then 0 else jrem (jdiv x 24) (ν 0 0) : Int))]) (st' := [.inl 11, .inl (jdiv x 24), .inl (jrem (jdiv (jdiv x 24) 7) 3), .inl (jrem (jdiv (jdiv x 24) 3) 2), .inr 0]) rfl ?_
      refine gl_div dg_act_417 (by decide) ?_
      refine gl_ops (S := ([], σ)) (S' := ([], σ)) og_act_418_1 (by decide) (L' := [some (.inr 0), some (.inr 1), some (.inl x), some (.inl (jdiv x 24)), some (.inl (if (ν 0 1) = 0 then 0 else jrem (jdiv x 24) (ν 0 1) : Int)), some (.inl (if (ν 0 1) = 0 then 0 else jrem (jdiv (jdiv x 24) 61) (ν 0 1) : Int)), some (.inl (if (ν 0 0) = 0 then 0 else jrem (jdiv x 24) (ν 0 0) : Int))]) (st' := [.inl 2, .inl (jdiv (jdiv x 24) 11), .inl (jrem (jdiv (jdiv x 24) 7) 3), .inl (jrem (jdiv (jdiv x 24) 3) 2), .inr 0]) rfl ?_
      refine gl_rem dg_act_419 (by decide) ?_
      suffices hJ30 : Gl l m_L_act d 1 [(ax, LAYC), FN an] [a0, an] (some k) [σ', ν] 0 429 [some (.inr 0), some (.inr 1), some (.inl x), some (.inl (jdiv x 24)), some (.inl (if (ν 0 1) = 0 then 0 else jrem (jdiv x 24) (ν 0 1) : Int)), some (.inl (if (ν 0 1) = 0 then 0 else jrem (jdiv (jdiv x 24) 61) (ν 0 1) : Int)), some (.inl (if (ν 0 0) = 0 then 0 else jrem (jdiv x 24) (ν 0 0) : Int))] [.inl (if (jrem (jdiv (jdiv x 24) 11) 2) = 0 then (-1) else (if (ν 0 1) = 0 then 0 else jrem (jdiv x 24) (ν 0 1) : Int) : Int), .inl (jrem (jdiv (jdiv x 24) 7) 3), .inl (jrem (jdiv (jdiv x 24) 3) 2), .inr 0] [σ, ν] by
        refine gl_if_ne dg_act_420 (tgt := 427) (by rfl) (fun hc31 => ?_) (fun hc31 => ?_)
        · refine gl_ops (S := ([], σ)) (S' := ([], σ)) og_act_427_1 (by decide) (L' := [some (.inr 0), some (.inr 1), some (.inl x), some (.inl (jdiv x 24)), some (.inl (if (ν 0 1) = 0 then 0 else jrem (jdiv x 24) (ν 0 1) : Int)), some (.inl (if (ν 0 1) = 0 then 0 else jrem (jdiv (jdiv x 24) 61) (ν 0 1) : Int)), some (.inl (if (ν 0 0) = 0 then 0 else jrem (jdiv x 24) (ν 0 0) : Int))]) (st' := [.inl (if (ν 0 1) = 0 then 0 else jrem (jdiv x 24) (ν 0 1) : Int), .inl (jrem (jdiv (jdiv x 24) 7) 3), .inl (jrem (jdiv (jdiv x 24) 3) 2), .inr 0]) rfl ?_
          exact gl_st (by rw [if_neg hc31]) hJ30
        · refine gl_ops (S := ([], σ)) (S' := ([], σ)) og_act_423_1 (by decide) (L' := [some (.inr 0), some (.inr 1), some (.inl x), some (.inl (jdiv x 24)), some (.inl (if (ν 0 1) = 0 then 0 else jrem (jdiv x 24) (ν 0 1) : Int)), some (.inl (if (ν 0 1) = 0 then 0 else jrem (jdiv (jdiv x 24) 61) (ν 0 1) : Int)), some (.inl (if (ν 0 0) = 0 then 0 else jrem (jdiv x 24) (ν 0 0) : Int))]) (st' := [.inl (-1), .inl (jrem (jdiv (jdiv x 24) 7) 3), .inl (jrem (jdiv (jdiv x 24) 3) 2), .inr 0]) rfl ?_
          refine gl_goto dg_act_424 (tgt := 429) (by rfl) ?_
          exact gl_st (by rw [if_pos hc31]) hJ30
      refine gl_ops (S := ([], σ)) (S' := ([], σ)) og_act_429_2 (by decide) (L' := [some (.inr 0), some (.inr 1), some (.inl x), some (.inl (jdiv x 24)), some (.inl (if (ν 0 1) = 0 then 0 else jrem (jdiv x 24) (ν 0 1) : Int)), some (.inl (if (ν 0 1) = 0 then 0 else jrem (jdiv (jdiv x 24) 61) (ν 0 1) : Int)), some (.inl (if (ν 0 0) = 0 then 0 else jrem (jdiv x 24) (ν 0 0) : Int))]) (st' := [.inl 13, .inl (jdiv x 24), .inl (if (jrem (jdiv (jdiv x 24) 11) 2) = 0 then (-1) else (if (ν 0 1) = 0 then 0 else jrem (jdiv x 24) (ν 0 1) : Int) : Int), .inl (jrem (jdiv (jdiv x 24) 7) 3), .inl (jrem (jdiv (jdiv x 24) 3) 2), .inr 0]) rfl ?_
      refine gl_div dg_act_432 (by decide) ?_
      refine gl_ops (S := ([], σ)) (S' := ([], σ)) og_act_433_1 (by decide) (L' := [some (.inr 0), some (.inr 1), some (.inl x), some (.inl (jdiv x 24)), some (.inl (if (ν 0 1) = 0 then 0 else jrem (jdiv x 24) (ν 0 1) : Int)), some (.inl (if (ν 0 1) = 0 then 0 else jrem (jdiv (jdiv x 24) 61) (ν 0 1) : Int)), some (.inl (if (ν 0 0) = 0 then 0 else jrem (jdiv x 24) (ν 0 0) : Int))]) (st' := [.inl 2, .inl (jdiv (jdiv x 24) 13), .inl (if (jrem (jdiv (jdiv x 24) 11) 2) = 0 then (-1) else (if (ν 0 1) = 0 then 0 else jrem (jdiv x 24) (ν 0 1) : Int) : Int), .inl (jrem (jdiv (jdiv x 24) 7) 3), .inl (jrem (jdiv (jdiv x 24) 3) 2), .inr 0]) rfl ?_
      refine gl_rem dg_act_434 (by decide) ?_
      suffices hJ32 : Gl l m_L_act d 1 [(ax, LAYC), FN an] [a0, an] (some k) [σ', ν] 0 444 [some (.inr 0), some (.inr 1), some (.inl x), some (.inl (jdiv x 24)), some (.inl (if (ν 0 1) = 0 then 0 else jrem (jdiv x 24) (ν 0 1) : Int)), some (.inl (if (ν 0 1) = 0 then 0 else jrem (jdiv (jdiv x 24) 61) (ν 0 1) : Int)), some (.inl (if (ν 0 0) = 0 then 0 else jrem (jdiv x 24) (ν 0 0) : Int))] [.inl (if (jrem (jdiv (jdiv x 24) 13) 2) = 0 then (-1) else (if (ν 0 1) = 0 then 0 else jrem (jdiv (jdiv x 24) 61) (ν 0 1) : Int) : Int), .inl (if (jrem (jdiv (jdiv x 24) 11) 2) = 0 then (-1) else (if (ν 0 1) = 0 then 0 else jrem (jdiv x 24) (ν 0 1) : Int) : Int), .inl (jrem (jdiv (jdiv x 24) 7) 3), .inl (jrem (jdiv (jdiv x 24) 3) 2), .inr 0] [σ, ν] by
        refine gl_if_ne dg_act_435 (tgt := 442) (by rfl) (fun hc33 => ?_) (fun hc33 => ?_)
        · refine gl_ops (S := ([], σ)) (S' := ([], σ)) og_act_442_1 (by decide) (L' := [some (.inr 0), some (.inr 1), some (.inl x), some (.inl (jdiv x 24)), some (.inl (if (ν 0 1) = 0 then 0 else jrem (jdiv x 24) (ν 0 1) : Int)), some (.inl (if (ν 0 1) = 0 then 0 else jrem (jdiv (jdiv x 24) 61) (ν 0 1) : Int)), some (.inl (if (ν 0 0) = 0 then 0 else jrem (jdiv x 24) (ν 0 0) : Int))]) (st' := [.inl (if (ν 0 1) = 0 then 0 else jrem (jdiv (jdiv x 24) 61) (ν 0 1) : Int), .inl (if (jrem (jdiv (jdiv x 24) 11) 2) = 0 then (-1) else (if (ν 0 1) = 0 then 0 else jrem (jdiv x 24) (ν 0 1) : Int) : Int), .inl (jrem (jdiv (jdiv x 24) 7) 3), .inl (jrem (jdiv (jdiv x 24) 3) 2), .inr 0]) rfl ?_
          exact gl_st (by rw [if_neg hc33]) hJ32
        · refine gl_ops (S := ([], σ)) (S' := ([], σ)) og_act_438_1 (by decide) (L' := [some (.inr 0), some (.inr 1), some (.inl x), some (.inl (jdiv x 24)), some (.inl (if (ν 0 1) = 0 then 0 else jrem (jdiv x 24) (ν 0 1) : Int)), some (.inl (if (ν 0 1) = 0 then 0 else jrem (jdiv (jdiv x 24) 61) (ν 0 1) : Int)), some (.inl (if (ν 0 0) = 0 then 0 else jrem (jdiv x 24) (ν 0 0) : Int))]) (st' := [.inl (-1), .inl (if (jrem (jdiv (jdiv x 24) 11) 2) = 0 then (-1) else (if (ν 0 1) = 0 then 0 else jrem (jdiv x 24) (ν 0 1) : Int) : Int), .inl (jrem (jdiv (jdiv x 24) 7) 3), .inl (jrem (jdiv (jdiv x 24) 3) 2), .inr 0]) rfl ?_
          refine gl_goto dg_act_439 (tgt := 444) (by rfl) ?_
          exact gl_st (by rw [if_pos hc33]) hJ32
      refine gl_ops (S := ([], σ)) (S' := ([], σ)) og_act_444_1 (by decide) (L' := [some (.inr 0), some (.inr 1), some (.inl x), some (.inl (jdiv x 24)), some (.inl (if (ν 0 1) = 0 then 0 else jrem (jdiv x 24) (ν 0 1) : Int)), some (.inl (if (ν 0 1) = 0 then 0 else jrem (jdiv (jdiv x 24) 61) (ν 0 1) : Int)), some (.inl (if (ν 0 0) = 0 then 0 else jrem (jdiv x 24) (ν 0 0) : Int))]) (st' := [.inl (-1), .inl (if (jrem (jdiv (jdiv x 24) 13) 2) = 0 then (-1) else (if (ν 0 1) = 0 then 0 else jrem (jdiv (jdiv x 24) 61) (ν 0 1) : Int) : Int), .inl (if (jrem (jdiv (jdiv x 24) 11) 2) = 0 then (-1) else (if (ν 0 1) = 0 then 0 else jrem (jdiv x 24) (ν 0 1) : Int) : Int), .inl (jrem (jdiv (jdiv x 24) 7) 3), .inl (jrem (jdiv (jdiv x 24) 3) 2), .inr 0]) rfl ?_
      obtain ⟨q, hq1, hq2, hq3⟩ := wrq_inv hA
      subst hq3
      refine h2_make hl hax dg_act_445 (by omega) (by decide) (Nat.le_of_ble_eq_true rfl) hq1 hq2 ?_ _ rfl
      exact gl_iret (by decide) dg_act_448 rfl
    rw [if_neg hs9] at hA
    by_cases hs10 : jrem x 24 = 10
    · rw [if_pos hs10] at hA
      refine gl_tsw dg_act_63 (by decide) (by decide) (off := 386) (tgt := 449) (tsk hs10 (by decide +kernel)) (by rfl) ?_
      refine gl_ops (S := ([], σ)) (S' := ([], σ)) og_act_449_3 (by decide) (L' := [some (.inr 0), some (.inr 1), some (.inl x), some (.inl (jdiv x 24)), some (.inl (if (ν 0 1) = 0 then 0 else jrem (jdiv x 24) (ν 0 1) : Int)), some (.inl (if (ν 0 1) = 0 then 0 else jrem (jdiv (jdiv x 24) 61) (ν 0 1) : Int)), some (.inl (if (ν 0 0) = 0 then 0 else jrem (jdiv x 24) (ν 0 0) : Int))]) (st' := [.inl (if (ν 0 1) = 0 then 0 else jrem (jdiv (jdiv x 24) 61) (ν 0 1) : Int), .inl (if (ν 0 1) = 0 then 0 else jrem (jdiv x 24) (ν 0 1) : Int), .inr 0]) rfl ?_
      obtain ⟨q, hq1, hq2, hq3⟩ := wrq_inv hA
      subst hq3
      refine h2_either hl hax dg_act_454 (by omega) (by decide) (Nat.le_of_ble_eq_true rfl) hq1 hq2 ?_ _ rfl
      exact gl_iret (by decide) dg_act_457 rfl
    rw [if_neg hs10] at hA
    by_cases hs11 : jrem x 24 = 11
    · rw [if_pos hs11] at hA
      refine gl_tsw dg_act_63 (by decide) (by decide) (off := 386) (tgt := 449) (tsk hs11 (by decide +kernel)) (by rfl) ?_
      refine gl_ops (S := ([], σ)) (S' := ([], σ)) og_act_449_3 (by decide) (L' := [some (.inr 0), some (.inr 1), some (.inl x), some (.inl (jdiv x 24)), some (.inl (if (ν 0 1) = 0 then 0 else jrem (jdiv x 24) (ν 0 1) : Int)), some (.inl (if (ν 0 1) = 0 then 0 else jrem (jdiv (jdiv x 24) 61) (ν 0 1) : Int)), some (.inl (if (ν 0 0) = 0 then 0 else jrem (jdiv x 24) (ν 0 0) : Int))]) (st' := [.inl (if (ν 0 1) = 0 then 0 else jrem (jdiv (jdiv x 24) 61) (ν 0 1) : Int), .inl (if (ν 0 1) = 0 then 0 else jrem (jdiv x 24) (ν 0 1) : Int), .inr 0]) rfl ?_
      obtain ⟨q, hq1, hq2, hq3⟩ := wrq_inv hA
      subst hq3
      refine h2_either hl hax dg_act_454 (by omega) (by decide) (Nat.le_of_ble_eq_true rfl) hq1 hq2 ?_ _ rfl
      exact gl_iret (by decide) dg_act_457 rfl
    rw [if_neg hs11] at hA
    by_cases hs12 : jrem x 24 = 12
    · rw [if_pos hs12] at hA
      refine gl_tsw dg_act_63 (by decide) (by decide) (off := 395) (tgt := 458) (tsk hs12 (by decide +kernel)) (by rfl) ?_
      refine gl_ops (S := ([], σ)) (S' := ([], σ)) og_act_458_3 (by decide) (L' := [some (.inr 0), some (.inr 1), some (.inl x), some (.inl (jdiv x 24)), some (.inl (if (ν 0 1) = 0 then 0 else jrem (jdiv x 24) (ν 0 1) : Int)), some (.inl (if (ν 0 1) = 0 then 0 else jrem (jdiv (jdiv x 24) 61) (ν 0 1) : Int)), some (.inl (if (ν 0 0) = 0 then 0 else jrem (jdiv x 24) (ν 0 0) : Int))]) (st' := [.inl 61, .inl (jdiv x 24), .inr 0]) rfl ?_
      refine gl_div dg_act_462 (by decide) ?_
      refine gl_ops (S := ([], σ)) (S' := ([], σ)) og_act_463_1 (by decide) (L' := [some (.inr 0), some (.inr 1), some (.inl x), some (.inl (jdiv x 24)), some (.inl (if (ν 0 1) = 0 then 0 else jrem (jdiv x 24) (ν 0 1) : Int)), some (.inl (if (ν 0 1) = 0 then 0 else jrem (jdiv (jdiv x 24) 61) (ν 0 1) : Int)), some (.inl (if (ν 0 0) = 0 then 0 else jrem (jdiv x 24) (ν 0 0) : Int))]) (st' := [.inl 3, .inl (jdiv (jdiv x 24) 61), .inr 0]) rfl ?_
      refine gl_rem dg_act_464 (by decide) ?_
      refine gl_ops (S := ([], σ)) (S' := ([], σ)) og_act_465_1 (by decide) (L' := [some (.inr 0), some (.inr 1), some (.inl x), some (.inl (jdiv x 24)), some (.inl (if (ν 0 1) = 0 then 0 else jrem (jdiv x 24) (ν 0 1) : Int)), some (.inl (if (ν 0 1) = 0 then 0 else jrem (jdiv (jdiv x 24) 61) (ν 0 1) : Int)), some (.inl (if (ν 0 0) = 0 then 0 else jrem (jdiv x 24) (ν 0 0) : Int))]) (st' := [.inl (if (ν 0 1) = 0 then 0 else jrem (jdiv x 24) (ν 0 1) : Int), .inl (jrem (jdiv (jdiv x 24) 61) 3), .inr 0]) rfl ?_
      obtain ⟨q, hq1, hq2, hq3⟩ := wrq_inv hA
      subst hq3
      refine h2_view hl hax dg_act_467 (by omega) (by decide) (Nat.le_of_ble_eq_true rfl) hq1 hq2 ?_ _ rfl
      exact gl_iret (by decide) dg_act_470 rfl
    rw [if_neg hs12] at hA
    by_cases hs13 : jrem x 24 = 13
    · rw [if_pos hs13] at hA
      refine gl_tsw dg_act_63 (by decide) (by decide) (off := 408) (tgt := 471) (tsk hs13 (by decide +kernel)) (by rfl) ?_
      refine gl_ops (S := ([], σ)) (S' := ([], σ)) og_act_471_3 (by decide) (L' := [some (.inr 0), some (.inr 1), some (.inl x), some (.inl (jdiv x 24)), some (.inl (if (ν 0 1) = 0 then 0 else jrem (jdiv x 24) (ν 0 1) : Int)), some (.inl (if (ν 0 1) = 0 then 0 else jrem (jdiv (jdiv x 24) 61) (ν 0 1) : Int)), some (.inl (if (ν 0 0) = 0 then 0 else jrem (jdiv x 24) (ν 0 0) : Int))]) (st' := [.inl 3, .inl (jdiv x 24), .inr 0]) rfl ?_
      refine gl_rem dg_act_474 (by decide) ?_
      refine gl_ops (S := ([], σ)) (S' := ([], σ)) og_act_475_2 (by decide) (L' := [some (.inr 0), some (.inr 1), some (.inl x), some (.inl (jdiv x 24)), some (.inl (if (ν 0 1) = 0 then 0 else jrem (jdiv x 24) (ν 0 1) : Int)), some (.inl (if (ν 0 1) = 0 then 0 else jrem (jdiv (jdiv x 24) 61) (ν 0 1) : Int)), some (.inl (if (ν 0 0) = 0 then 0 else jrem (jdiv x 24) (ν 0 0) : Int))]) (st' := [.inl 3, .inl (jdiv x 24), .inl (jrem (jdiv x 24) 3), .inr 0]) rfl ?_
      refine gl_rem dg_act_477 (by decide) ?_
      suffices hJ34 : Gl l m_L_act d 1 [(ax, LAYC), FN an] [a0, an] (some k) [σ', ν] 0 487 [some (.inr 0), some (.inr 1), some (.inl x), some (.inl (jdiv x 24)), some (.inl (if (ν 0 1) = 0 then 0 else jrem (jdiv x 24) (ν 0 1) : Int)), some (.inl (if (ν 0 1) = 0 then 0 else jrem (jdiv (jdiv x 24) 61) (ν 0 1) : Int)), some (.inl (if (ν 0 0) = 0 then 0 else jrem (jdiv x 24) (ν 0 0) : Int))] [.inl (if (jrem (jdiv x 24) 3) ≤ 0 then (-1) else (if (ν 0 1) = 0 then 0 else jrem (jdiv x 24) (ν 0 1) : Int) : Int), .inl (jrem (jdiv x 24) 3), .inr 0] [σ, ν] by
        refine gl_if_le dg_act_478 (tgt := 486) (by rfl) (fun hc35 => ?_) (fun hc35 => ?_)
        · refine gl_ops (S := ([], σ)) (S' := ([], σ)) og_act_486_1 (by decide) (L' := [some (.inr 0), some (.inr 1), some (.inl x), some (.inl (jdiv x 24)), some (.inl (if (ν 0 1) = 0 then 0 else jrem (jdiv x 24) (ν 0 1) : Int)), some (.inl (if (ν 0 1) = 0 then 0 else jrem (jdiv (jdiv x 24) 61) (ν 0 1) : Int)), some (.inl (if (ν 0 0) = 0 then 0 else jrem (jdiv x 24) (ν 0 0) : Int))]) (st' := [.inl (-1), .inl (jrem (jdiv x 24) 3), .inr 0]) rfl ?_
          exact gl_st (by rw [if_pos hc35]) hJ34
        · refine gl_ops (S := ([], σ)) (S' := ([], σ)) og_act_481_1 (by decide) (L' := [some (.inr 0), some (.inr 1), some (.inl x), some (.inl (jdiv x 24)), some (.inl (if (ν 0 1) = 0 then 0 else jrem (jdiv x 24) (ν 0 1) : Int)), some (.inl (if (ν 0 1) = 0 then 0 else jrem (jdiv (jdiv x 24) 61) (ν 0 1) : Int)), some (.inl (if (ν 0 0) = 0 then 0 else jrem (jdiv x 24) (ν 0 0) : Int))]) (st' := [.inl (if (ν 0 1) = 0 then 0 else jrem (jdiv x 24) (ν 0 1) : Int), .inl (jrem (jdiv x 24) 3), .inr 0]) rfl ?_
          refine gl_goto dg_act_483 (tgt := 487) (by rfl) ?_
          exact gl_st (by rw [if_neg hc35]) hJ34
      refine gl_ops (S := ([], σ)) (S' := ([], σ)) og_act_487_2 (by decide) (L' := [some (.inr 0), some (.inr 1), some (.inl x), some (.inl (jdiv x 24)), some (.inl (if (ν 0 1) = 0 then 0 else jrem (jdiv x 24) (ν 0 1) : Int)), some (.inl (if (ν 0 1) = 0 then 0 else jrem (jdiv (jdiv x 24) 61) (ν 0 1) : Int)), some (.inl (if (ν 0 0) = 0 then 0 else jrem (jdiv x 24) (ν 0 0) : Int))]) (st' := [.inl 3, .inl (jdiv x 24), .inl (if (jrem (jdiv x 24) 3) ≤ 0 then (-1) else (if (ν 0 1) = 0 then 0 else jrem (jdiv x 24) (ν 0 1) : Int) : Int), .inl (jrem (jdiv x 24) 3), .inr 0]) rfl ?_
      refine gl_rem dg_act_489 (by decide) ?_
      refine gl_ops (S := ([], σ)) (S' := ([], σ)) og_act_490_1 (by decide) (L' := [some (.inr 0), some (.inr 1), some (.inl x), some (.inl (jdiv x 24)), some (.inl (if (ν 0 1) = 0 then 0 else jrem (jdiv x 24) (ν 0 1) : Int)), some (.inl (if (ν 0 1) = 0 then 0 else jrem (jdiv (jdiv x 24) 61) (ν 0 1) : Int)), some (.inl (if (ν 0 0) = 0 then 0 else jrem (jdiv x 24) (ν 0 0) : Int))]) (st' := [.inl 1, .inl (jrem (jdiv x 24) 3), .inl (if (jrem (jdiv x 24) 3) ≤ 0 then (-1) else (if (ν 0 1) = 0 then 0 else jrem (jdiv x 24) (ν 0 1) : Int) : Int), .inl (jrem (jdiv x 24) 3), .inr 0]) rfl ?_
      suffices hJ36 : Gl l m_L_act d 1 [(ax, LAYC), FN an] [a0, an] (some k) [σ', ν] 0 500 [some (.inr 0), some (.inr 1), some (.inl x), some (.inl (jdiv x 24)), some (.inl (if (ν 0 1) = 0 then 0 else jrem (jdiv x 24) (ν 0 1) : Int)), some (.inl (if (ν 0 1) = 0 then 0 else jrem (jdiv (jdiv x 24) 61) (ν 0 1) : Int)), some (.inl (if (ν 0 0) = 0 then 0 else jrem (jdiv x 24) (ν 0 0) : Int))] [.inl (if (jrem (jdiv x 24) 3) ≤ 1 then (-1) else (if (ν 0 1) = 0 then 0 else jrem (jdiv (jdiv x 24) 61) (ν 0 1) : Int) : Int), .inl (if (jrem (jdiv x 24) 3) ≤ 0 then (-1) else (if (ν 0 1) = 0 then 0 else jrem (jdiv x 24) (ν 0 1) : Int) : Int), .inl (jrem (jdiv x 24) 3), .inr 0] [σ, ν] by
        refine gl_icmp_le dg_act_491 (tgt := 499) (by rfl) (fun hc37 => ?_) (fun hc37 => ?_)
        · refine gl_ops (S := ([], σ)) (S' := ([], σ)) og_act_499_1 (by decide) (L' := [some (.inr 0), some (.inr 1), some (.inl x), some (.inl (jdiv x 24)), some (.inl (if (ν 0 1) = 0 then 0 else jrem (jdiv x 24) (ν 0 1) : Int)), some (.inl (if (ν 0 1) = 0 then 0 else jrem (jdiv (jdiv x 24) 61) (ν 0 1) : Int)), some (.inl (if (ν 0 0) = 0 then 0 else jrem (jdiv x 24) (ν 0 0) : Int))]) (st' := [.inl (-1), .inl (if (jrem (jdiv x 24) 3) ≤ 0 then (-1) else (if (ν 0 1) = 0 then 0 else jrem (jdiv x 24) (ν 0 1) : Int) : Int), .inl (jrem (jdiv x 24) 3), .inr 0]) rfl ?_
          exact gl_st (by rw [if_pos hc37]) hJ36
        · refine gl_ops (S := ([], σ)) (S' := ([], σ)) og_act_494_1 (by decide) (L' := [some (.inr 0), some (.inr 1), some (.inl x), some (.inl (jdiv x 24)), some (.inl (if (ν 0 1) = 0 then 0 else jrem (jdiv x 24) (ν 0 1) : Int)), some (.inl (if (ν 0 1) = 0 then 0 else jrem (jdiv (jdiv x 24) 61) (ν 0 1) : Int)), some (.inl (if (ν 0 0) = 0 then 0 else jrem (jdiv x 24) (ν 0 0) : Int))]) (st' := [.inl (if (ν 0 1) = 0 then 0 else jrem (jdiv (jdiv x 24) 61) (ν 0 1) : Int), .inl (if (jrem (jdiv x 24) 3) ≤ 0 then (-1) else (if (ν 0 1) = 0 then 0 else jrem (jdiv x 24) (ν 0 1) : Int) : Int), .inl (jrem (jdiv x 24) 3), .inr 0]) rfl ?_
          refine gl_goto dg_act_496 (tgt := 500) (by rfl) ?_
          exact gl_st (by rw [if_neg hc37]) hJ36
      refine gl_ops (S := ([], σ)) (S' := ([], σ)) og_act_500_2 (by decide) (L' := [some (.inr 0), some (.inr 1), some (.inl x), some (.inl (jdiv x 24)), some (.inl (if (ν 0 1) = 0 then 0 else jrem (jdiv x 24) (ν 0 1) : Int)), some (.inl (if (ν 0 1) = 0 then 0 else jrem (jdiv (jdiv x 24) 61) (ν 0 1) : Int)), some (.inl (if (ν 0 0) = 0 then 0 else jrem (jdiv x 24) (ν 0 0) : Int))]) (st' := [.inl 3, .inl (jdiv x 24), .inl (if (jrem (jdiv x 24) 3) ≤ 1 then (-1) else (if (ν 0 1) = 0 then 0 else jrem (jdiv (jdiv x 24) 61) (ν 0 1) : Int) : Int), .inl (if (jrem (jdiv x 24) 3) ≤ 0 then (-1) else (if (ν 0 1) = 0 then 0 else jrem (jdiv x 24) (ν 0 1) : Int) : Int), .inl (jrem (jdiv x 24) 3), .inr 0]) rfl ?_
      refine gl_div dg_act_502 (by decide) ?_
      refine gl_ops (S := ([], σ)) (S' := ([], σ)) og_act_503_1 (by decide) (L' := [some (.inr 0), some (.inr 1), some (.inl x), some (.inl (jdiv x 24)), some (.inl (if (ν 0 1) = 0 then 0 else jrem (jdiv x 24) (ν 0 1) : Int)), some (.inl (if (ν 0 1) = 0 then 0 else jrem (jdiv (jdiv x 24) 61) (ν 0 1) : Int)), some (.inl (if (ν 0 0) = 0 then 0 else jrem (jdiv x 24) (ν 0 0) : Int))]) (st' := [.inl 3, .inl (jdiv (jdiv x 24) 3), .inl (if (jrem (jdiv x 24) 3) ≤ 1 then (-1) else (if (ν 0 1) = 0 then 0 else jrem (jdiv (jdiv x 24) 61) (ν 0 1) : Int) : Int), .inl (if (jrem (jdiv x 24) 3) ≤ 0 then (-1) else (if (ν 0 1) = 0 then 0 else jrem (jdiv x 24) (ν 0 1) : Int) : Int), .inl (jrem (jdiv x 24) 3), .inr 0]) rfl ?_
      refine gl_rem dg_act_504 (by decide) ?_
      obtain ⟨q, hq1, hq2, hq3⟩ := wrq_inv hA
      subst hq3
      refine h2_list hl hax dg_act_505 (by omega) (by decide) (Nat.le_of_ble_eq_true rfl) hq1 hq2 ?_ _ rfl
      exact gl_iret (by decide) dg_act_508 rfl
    rw [if_neg hs13] at hA
    by_cases hs14 : jrem x 24 = 14
    · rw [if_pos hs14] at hA
      refine gl_tsw dg_act_63 (by decide) (by decide) (off := 446) (tgt := 509) (tsk hs14 (by decide +kernel)) (by rfl) ?_
      refine gl_ops (S := ([], σ)) (S' := ([], σ)) og_act_509_3 (by decide) (L' := [some (.inr 0), some (.inr 1), some (.inl x), some (.inl (jdiv x 24)), some (.inl (if (ν 0 1) = 0 then 0 else jrem (jdiv x 24) (ν 0 1) : Int)), some (.inl (if (ν 0 1) = 0 then 0 else jrem (jdiv (jdiv x 24) 61) (ν 0 1) : Int)), some (.inl (if (ν 0 0) = 0 then 0 else jrem (jdiv x 24) (ν 0 0) : Int))]) (st' := [.inl 3, .inl (jdiv x 24), .inr 0]) rfl ?_
      refine gl_rem dg_act_512 (by decide) ?_
      refine gl_ops (S := ([], σ)) (S' := ([], σ)) og_act_513_2 (by decide) (L' := [some (.inr 0), some (.inr 1), some (.inl x), some (.inl (jdiv x 24)), some (.inl (if (ν 0 1) = 0 then 0 else jrem (jdiv x 24) (ν 0 1) : Int)), some (.inl (if (ν 0 1) = 0 then 0 else jrem (jdiv (jdiv x 24) 61) (ν 0 1) : Int)), some (.inl (if (ν 0 0) = 0 then 0 else jrem (jdiv x 24) (ν 0 0) : Int))]) (st' := [.inl 3, .inl (jdiv x 24), .inl (jrem (jdiv x 24) 3), .inr 0]) rfl ?_
      refine gl_div dg_act_515 (by decide) ?_
      refine gl_ops (S := ([], σ)) (S' := ([], σ)) og_act_516_1 (by decide) (L' := [some (.inr 0), some (.inr 1), some (.inl x), some (.inl (jdiv x 24)), some (.inl (if (ν 0 1) = 0 then 0 else jrem (jdiv x 24) (ν 0 1) : Int)), some (.inl (if (ν 0 1) = 0 then 0 else jrem (jdiv (jdiv x 24) 61) (ν 0 1) : Int)), some (.inl (if (ν 0 0) = 0 then 0 else jrem (jdiv x 24) (ν 0 0) : Int))]) (st' := [.inl 19, .inl (jdiv (jdiv x 24) 3), .inl (jrem (jdiv x 24) 3), .inr 0]) rfl ?_
      refine gl_rem dg_act_518 (by decide) ?_
      refine gl_ops (S := ([], σ)) (S' := ([], σ)) og_act_519_4 (by decide) (L' := [some (.inr 0), some (.inr 1), some (.inl x), some (.inl (jdiv x 24)), some (.inl (if (ν 0 1) = 0 then 0 else jrem (jdiv x 24) (ν 0 1) : Int)), some (.inl (if (ν 0 1) = 0 then 0 else jrem (jdiv (jdiv x 24) 61) (ν 0 1) : Int)), some (.inl (if (ν 0 0) = 0 then 0 else jrem (jdiv x 24) (ν 0 0) : Int))]) (st' := [.inl 57, .inl (jdiv x 24), .inl (wrap ((jrem (jdiv (jdiv x 24) 3) 19) - 9)), .inl (jrem (jdiv x 24) 3), .inr 0]) rfl ?_
      refine gl_div dg_act_525 (by decide) ?_
      refine gl_ops (S := ([], σ)) (S' := ([], σ)) og_act_526_1 (by decide) (L' := [some (.inr 0), some (.inr 1), some (.inl x), some (.inl (jdiv x 24)), some (.inl (if (ν 0 1) = 0 then 0 else jrem (jdiv x 24) (ν 0 1) : Int)), some (.inl (if (ν 0 1) = 0 then 0 else jrem (jdiv (jdiv x 24) 61) (ν 0 1) : Int)), some (.inl (if (ν 0 0) = 0 then 0 else jrem (jdiv x 24) (ν 0 0) : Int))]) (st' := [.inl 19, .inl (jdiv (jdiv x 24) 57), .inl (wrap ((jrem (jdiv (jdiv x 24) 3) 19) - 9)), .inl (jrem (jdiv x 24) 3), .inr 0]) rfl ?_
      refine gl_rem dg_act_528 (by decide) ?_
      refine gl_ops (S := ([], σ)) (S' := ([], σ)) og_act_529_4 (by decide) (L' := [some (.inr 0), some (.inr 1), some (.inl x), some (.inl (jdiv x 24)), some (.inl (if (ν 0 1) = 0 then 0 else jrem (jdiv x 24) (ν 0 1) : Int)), some (.inl (if (ν 0 1) = 0 then 0 else jrem (jdiv (jdiv x 24) 61) (ν 0 1) : Int)), some (.inl (if (ν 0 0) = 0 then 0 else jrem (jdiv x 24) (ν 0 0) : Int))]) (st' := [.inl 1083, .inl (jdiv x 24), .inl (wrap ((jrem (jdiv (jdiv x 24) 57) 19) - 9)), .inl (wrap ((jrem (jdiv (jdiv x 24) 3) 19) - 9)), .inl (jrem (jdiv x 24) 3), .inr 0]) rfl ?_
      refine gl_div dg_act_536 (by decide) ?_
      refine gl_ops (S := ([], σ)) (S' := ([], σ)) og_act_537_1 (by decide) (L' := [some (.inr 0), some (.inr 1), some (.inl x), some (.inl (jdiv x 24)), some (.inl (if (ν 0 1) = 0 then 0 else jrem (jdiv x 24) (ν 0 1) : Int)), some (.inl (if (ν 0 1) = 0 then 0 else jrem (jdiv (jdiv x 24) 61) (ν 0 1) : Int)), some (.inl (if (ν 0 0) = 0 then 0 else jrem (jdiv x 24) (ν 0 0) : Int))]) (st' := [.inl 19, .inl (jdiv (jdiv x 24) 1083), .inl (wrap ((jrem (jdiv (jdiv x 24) 57) 19) - 9)), .inl (wrap ((jrem (jdiv (jdiv x 24) 3) 19) - 9)), .inl (jrem (jdiv x 24) 3), .inr 0]) rfl ?_
      refine gl_rem dg_act_539 (by decide) ?_
      refine gl_ops (S := ([], σ)) (S' := ([], σ)) og_act_540_5 (by decide) (L' := [some (.inr 0), some (.inr 1), some (.inl x), some (.inl (jdiv x 24)), some (.inl (if (ν 0 1) = 0 then 0 else jrem (jdiv x 24) (ν 0 1) : Int)), some (.inl (if (ν 0 1) = 0 then 0 else jrem (jdiv (jdiv x 24) 61) (ν 0 1) : Int)), some (.inl (if (ν 0 0) = 0 then 0 else jrem (jdiv x 24) (ν 0 0) : Int))]) (st' := [.inl 7, .inl (jdiv x 24), .inl 1, .inl (wrap ((jrem (jdiv (jdiv x 24) 1083) 19) - 9)), .inl (wrap ((jrem (jdiv (jdiv x 24) 57) 19) - 9)), .inl (wrap ((jrem (jdiv (jdiv x 24) 3) 19) - 9)), .inl (jrem (jdiv x 24) 3), .inr 0]) rfl ?_
      refine gl_div dg_act_547 (by decide) ?_
      refine gl_ops (S := ([], σ)) (S' := ([], σ)) og_act_548_1 (by decide) (L' := [some (.inr 0), some (.inr 1), some (.inl x), some (.inl (jdiv x 24)), some (.inl (if (ν 0 1) = 0 then 0 else jrem (jdiv x 24) (ν 0 1) : Int)), some (.inl (if (ν 0 1) = 0 then 0 else jrem (jdiv (jdiv x 24) 61) (ν 0 1) : Int)), some (.inl (if (ν 0 0) = 0 then 0 else jrem (jdiv x 24) (ν 0 0) : Int))]) (st' := [.inl 4, .inl (jdiv (jdiv x 24) 7), .inl 1, .inl (wrap ((jrem (jdiv (jdiv x 24) 1083) 19) - 9)), .inl (wrap ((jrem (jdiv (jdiv x 24) 57) 19) - 9)), .inl (wrap ((jrem (jdiv (jdiv x 24) 3) 19) - 9)), .inl (jrem (jdiv x 24) 3), .inr 0]) rfl ?_
      refine gl_rem dg_act_549 (by decide) ?_
      refine gl_ops (S := ([], σ)) (S' := ([], σ)) og_act_550_1 (by decide) (L' := [some (.inr 0), some (.inr 1), some (.inl x), some (.inl (jdiv x 24)), some (.inl (if (ν 0 1) = 0 then 0 else jrem (jdiv x 24) (ν 0 1) : Int)), some (.inl (if (ν 0 1) = 0 then 0 else jrem (jdiv (jdiv x 24) 61) (ν 0 1) : Int)), some (.inl (if (ν 0 0) = 0 then 0 else jrem (jdiv x 24) (ν 0 0) : Int))]) (st' := [.inl (wrap (1 + (jrem (jdiv (jdiv x 24) 7) 4))), .inl (wrap ((jrem (jdiv (jdiv x 24) 1083) 19) - 9)), .inl (wrap ((jrem (jdiv (jdiv x 24) 57) 19) - 9)), .inl (wrap ((jrem (jdiv (jdiv x 24) 3) 19) - 9)), .inl (jrem (jdiv x 24) 3), .inr 0]) rfl ?_
      obtain ⟨q, hq1, hq2, hq3⟩ := wrq_inv hA
      subst hq3
      refine h2_setView hl hax dg_act_551 (by omega) (by decide) (Nat.le_of_ble_eq_true rfl) hq1 hq2 ?_ _ rfl
      exact gl_iret (by decide) dg_act_554 rfl
    rw [if_neg hs14] at hA
    by_cases hs15 : jrem x 24 = 15
    · rw [if_pos hs15] at hA
      refine gl_tsw dg_act_63 (by decide) (by decide) (off := 492) (tgt := 555) (tsk hs15 (by decide +kernel)) (by rfl) ?_
      refine gl_ops (S := ([], σ)) (S' := ([], σ)) og_act_555_2 (by decide) (L' := [some (.inr 0), some (.inr 1), some (.inl x), some (.inl (jdiv x 24)), some (.inl (if (ν 0 1) = 0 then 0 else jrem (jdiv x 24) (ν 0 1) : Int)), some (.inl (if (ν 0 1) = 0 then 0 else jrem (jdiv (jdiv x 24) 61) (ν 0 1) : Int)), some (.inl (if (ν 0 0) = 0 then 0 else jrem (jdiv x 24) (ν 0 0) : Int))]) (st' := [.inl 3, .inl (jdiv x 24)]) rfl ?_
      refine gl_rem dg_act_557 (by decide) ?_
      refine gl_if_ne dg_act_558 (tgt := 602) (by rfl) (fun hc38 => ?_) (fun hc38 => ?_)
      · rw [if_neg hc38] at hA
        refine gl_ops (S := ([], σ)) (S' := ([], σ)) og_act_602_2 (by decide) (L' := [some (.inr 0), some (.inr 1), some (.inl x), some (.inl (jdiv x 24)), some (.inl (if (ν 0 1) = 0 then 0 else jrem (jdiv x 24) (ν 0 1) : Int)), some (.inl (if (ν 0 1) = 0 then 0 else jrem (jdiv (jdiv x 24) 61) (ν 0 1) : Int)), some (.inl (if (ν 0 0) = 0 then 0 else jrem (jdiv x 24) (ν 0 0) : Int))]) (st' := [.inl 3, .inl (jdiv x 24)]) rfl ?_
        refine gl_rem dg_act_604 (by decide) ?_
        refine gl_ops (S := ([], σ)) (S' := ([], σ)) og_act_605_1 (by decide) (L' := [some (.inr 0), some (.inr 1), some (.inl x), some (.inl (jdiv x 24)), some (.inl (if (ν 0 1) = 0 then 0 else jrem (jdiv x 24) (ν 0 1) : Int)), some (.inl (if (ν 0 1) = 0 then 0 else jrem (jdiv (jdiv x 24) 61) (ν 0 1) : Int)), some (.inl (if (ν 0 0) = 0 then 0 else jrem (jdiv x 24) (ν 0 0) : Int))]) (st' := [.inl 1, .inl (jrem (jdiv x 24) 3)]) rfl ?_
        refine gl_icmp_ne dg_act_606 (tgt := 636) (by rfl) (fun hc39 => ?_) (fun hc39 => ?_)
        · rw [if_neg hc39] at hA
          refine gl_ops (S := ([], σ)) (S' := ([], σ)) og_act_636_3 (by decide) (L' := [some (.inr 0), some (.inr 1), some (.inl x), some (.inl (jdiv x 24)), some (.inl (if (ν 0 1) = 0 then 0 else jrem (jdiv x 24) (ν 0 1) : Int)), some (.inl (if (ν 0 1) = 0 then 0 else jrem (jdiv (jdiv x 24) 61) (ν 0 1) : Int)), some (.inl (if (ν 0 0) = 0 then 0 else jrem (jdiv x 24) (ν 0 0) : Int))]) (st' := [.inl 2, .inr 1, .inr 0]) rfl ?_
          refine gl_rdx (jn := 1) (ν := ν) (an := an) (x := ν 0 2) dg_act_639 rfl rfl rfl (by decide) (by decide) rfl ?_
          refine gl_ops (S := ([], σ)) (S' := ([], σ)) og_act_640_1 (by decide) (L' := [some (.inr 0), some (.inr 1), some (.inl x), some (.inl (jdiv x 24)), some (.inl (if (ν 0 1) = 0 then 0 else jrem (jdiv x 24) (ν 0 1) : Int)), some (.inl (if (ν 0 1) = 0 then 0 else jrem (jdiv (jdiv x 24) 61) (ν 0 1) : Int)), some (.inl (if (ν 0 0) = 0 then 0 else jrem (jdiv x 24) (ν 0 0) : Int))]) (st' := [.inl 2, .inl (ν 0 2), .inr 0]) rfl ?_
          suffices hJ40 : Gl l m_L_act d 1 [(ax, LAYC), FN an] [a0, an] (some k) [σ', ν] 0 657 [some (.inr 0), some (.inr 1), some (.inl x), some (.inl (jdiv x 24)), some (.inl (if (ν 0 1) = 0 then 0 else jrem (jdiv x 24) (ν 0 1) : Int)), some (.inl (if (ν 0 1) = 0 then 0 else jrem (jdiv (jdiv x 24) 61) (ν 0 1) : Int)), some (.inl (if (ν 0 0) = 0 then 0 else jrem (jdiv x 24) (ν 0 0) : Int))] [.inl (if 2 ≤ (ν 0 2) then jrem (jdiv (jdiv x 24) 3) (wrap ((ν 0 2) - 1)) else 0 : Int), .inr 0] [σ, ν] by
            refine gl_icmp_ge dg_act_641 (tgt := 648) (by rfl) (fun hc41 => ?_) (fun hc41 => ?_)
            · refine gl_ops (S := ([], σ)) (S' := ([], σ)) og_act_648_2 (by decide) (L' := [some (.inr 0), some (.inr 1), some (.inl x), some (.inl (jdiv x 24)), some (.inl (if (ν 0 1) = 0 then 0 else jrem (jdiv x 24) (ν 0 1) : Int)), some (.inl (if (ν 0 1) = 0 then 0 else jrem (jdiv (jdiv x 24) 61) (ν 0 1) : Int)), some (.inl (if (ν 0 0) = 0 then 0 else jrem (jdiv x 24) (ν 0 0) : Int))]) (st' := [.inl 3, .inl (jdiv x 24), .inr 0]) rfl ?_
              refine gl_div dg_act_650 (by decide) ?_
              refine gl_ops (S := ([], σ)) (S' := ([], σ)) og_act_651_2 (by decide) (L' := [some (.inr 0), some (.inr 1), some (.inl x), some (.inl (jdiv x 24)), some (.inl (if (ν 0 1) = 0 then 0 else jrem (jdiv x 24) (ν 0 1) : Int)), some (.inl (if (ν 0 1) = 0 then 0 else jrem (jdiv (jdiv x 24) 61) (ν 0 1) : Int)), some (.inl (if (ν 0 0) = 0 then 0 else jrem (jdiv x 24) (ν 0 0) : Int))]) (st' := [.inl 2, .inr 1, .inl (jdiv (jdiv x 24) 3), .inr 0]) rfl ?_
              refine gl_rdx (jn := 1) (ν := ν) (an := an) (x := ν 0 2) dg_act_653 rfl rfl rfl (by decide) (by decide) rfl ?_
              refine gl_ops (S := ([], σ)) (S' := ([], σ)) og_act_654_2 (by decide) (L' := [some (.inr 0), some (.inr 1), some (.inl x), some (.inl (jdiv x 24)), some (.inl (if (ν 0 1) = 0 then 0 else jrem (jdiv x 24) (ν 0 1) : Int)), some (.inl (if (ν 0 1) = 0 then 0 else jrem (jdiv (jdiv x 24) 61) (ν 0 1) : Int)), some (.inl (if (ν 0 0) = 0 then 0 else jrem (jdiv x 24) (ν 0 0) : Int))]) (st' := [.inl (wrap ((ν 0 2) - 1)), .inl (jdiv (jdiv x 24) 3), .inr 0]) rfl ?_
              refine gl_rem dg_act_656 (by have := hν 2; unfold inR at this; unfold wrap; omega) ?_
              exact gl_st (by rw [if_pos hc41]) hJ40
            · refine gl_ops (S := ([], σ)) (S' := ([], σ)) og_act_644_1 (by decide) (L' := [some (.inr 0), some (.inr 1), some (.inl x), some (.inl (jdiv x 24)), some (.inl (if (ν 0 1) = 0 then 0 else jrem (jdiv x 24) (ν 0 1) : Int)), some (.inl (if (ν 0 1) = 0 then 0 else jrem (jdiv (jdiv x 24) 61) (ν 0 1) : Int)), some (.inl (if (ν 0 0) = 0 then 0 else jrem (jdiv x 24) (ν 0 0) : Int))]) (st' := [.inl 0, .inr 0]) rfl ?_
              refine gl_goto dg_act_645 (tgt := 657) (by rfl) ?_
              exact gl_st (by rw [if_neg hc41]) hJ40
          refine gl_ops (S := ([], σ)) (S' := ([], σ)) og_act_657_2 (by decide) (L' := [some (.inr 0), some (.inr 1), some (.inl x), some (.inl (jdiv x 24)), some (.inl (if (ν 0 1) = 0 then 0 else jrem (jdiv x 24) (ν 0 1) : Int)), some (.inl (if (ν 0 1) = 0 then 0 else jrem (jdiv (jdiv x 24) 61) (ν 0 1) : Int)), some (.inl (if (ν 0 0) = 0 then 0 else jrem (jdiv x 24) (ν 0 0) : Int))]) (st' := [.inl 2, .inl (jdiv x 24), .inl (if 2 ≤ (ν 0 2) then jrem (jdiv (jdiv x 24) 3) (wrap ((ν 0 2) - 1)) else 0 : Int), .inr 0]) rfl ?_
          refine gl_rem dg_act_659 (by decide) ?_
          obtain ⟨q, hq1, hq2, hq3⟩ := wrq_inv hA
          subst hq3
          refine h2_merge hl hax dg_act_660 (by omega) (by decide) (Nat.le_of_ble_eq_true rfl) hq1 hq2 ?_ _ rfl
          exact gl_iret (by decide) dg_act_663 rfl
        · rw [if_pos hc39] at hA
          refine gl_ops (S := ([], σ)) (S' := ([], σ)) og_act_609_3 (by decide) (L' := [some (.inr 0), some (.inr 1), some (.inl x), some (.inl (jdiv x 24)), some (.inl (if (ν 0 1) = 0 then 0 else jrem (jdiv x 24) (ν 0 1) : Int)), some (.inl (if (ν 0 1) = 0 then 0 else jrem (jdiv (jdiv x 24) 61) (ν 0 1) : Int)), some (.inl (if (ν 0 0) = 0 then 0 else jrem (jdiv x 24) (ν 0 0) : Int))]) (st' := [.inl 2, .inr 1, .inr 0]) rfl ?_
          refine gl_rdx (jn := 1) (ν := ν) (an := an) (x := ν 0 2) dg_act_612 rfl rfl rfl (by decide) (by decide) rfl ?_
          suffices hJ42 : Gl l m_L_act d 1 [(ax, LAYC), FN an] [a0, an] (some k) [σ', ν] 0 627 [some (.inr 0), some (.inr 1), some (.inl x), some (.inl (jdiv x 24)), some (.inl (if (ν 0 1) = 0 then 0 else jrem (jdiv x 24) (ν 0 1) : Int)), some (.inl (if (ν 0 1) = 0 then 0 else jrem (jdiv (jdiv x 24) 61) (ν 0 1) : Int)), some (.inl (if (ν 0 0) = 0 then 0 else jrem (jdiv x 24) (ν 0 0) : Int))] [.inl (if (ν 0 2) = 0 then 0 else jrem (jdiv (jdiv x 24) 3) (ν 0 2) : Int), .inr 0] [σ, ν] by
            refine gl_if_ne dg_act_613 (tgt := 620) (by rfl) (fun hc43 => ?_) (fun hc43 => ?_)
            · refine gl_ops (S := ([], σ)) (S' := ([], σ)) og_act_620_2 (by decide) (L' := [some (.inr 0), some (.inr 1), some (.inl x), some (.inl (jdiv x 24)), some (.inl (if (ν 0 1) = 0 then 0 else jrem (jdiv x 24) (ν 0 1) : Int)), some (.inl (if (ν 0 1) = 0 then 0 else jrem (jdiv (jdiv x 24) 61) (ν 0 1) : Int)), some (.inl (if (ν 0 0) = 0 then 0 else jrem (jdiv x 24) (ν 0 0) : Int))]) (st' := [.inl 3, .inl (jdiv x 24), .inr 0]) rfl ?_
              refine gl_div dg_act_622 (by decide) ?_
              refine gl_ops (S := ([], σ)) (S' := ([], σ)) og_act_623_2 (by decide) (L' := [some (.inr 0), some (.inr 1), some (.inl x), some (.inl (jdiv x 24)), some (.inl (if (ν 0 1) = 0 then 0 else jrem (jdiv x 24) (ν 0 1) : Int)), some (.inl (if (ν 0 1) = 0 then 0 else jrem (jdiv (jdiv x 24) 61) (ν 0 1) : Int)), some (.inl (if (ν 0 0) = 0 then 0 else jrem (jdiv x 24) (ν 0 0) : Int))]) (st' := [.inl 2, .inr 1, .inl (jdiv (jdiv x 24) 3), .inr 0]) rfl ?_
              refine gl_rdx (jn := 1) (ν := ν) (an := an) (x := ν 0 2) dg_act_625 rfl rfl rfl (by decide) (by decide) rfl ?_
              refine gl_rem dg_act_626 hc43 ?_
              exact gl_st (by rw [if_neg hc43]) hJ42
            · refine gl_ops (S := ([], σ)) (S' := ([], σ)) og_act_616_1 (by decide) (L' := [some (.inr 0), some (.inr 1), some (.inl x), some (.inl (jdiv x 24)), some (.inl (if (ν 0 1) = 0 then 0 else jrem (jdiv x 24) (ν 0 1) : Int)), some (.inl (if (ν 0 1) = 0 then 0 else jrem (jdiv (jdiv x 24) 61) (ν 0 1) : Int)), some (.inl (if (ν 0 0) = 0 then 0 else jrem (jdiv x 24) (ν 0 0) : Int))]) (st' := [.inl 0, .inr 0]) rfl ?_
              refine gl_goto dg_act_617 (tgt := 627) (by rfl) ?_
              exact gl_st (by rw [if_pos hc43]) hJ42
          refine gl_ops (S := ([], σ)) (S' := ([], σ)) og_act_627_2 (by decide) (L' := [some (.inr 0), some (.inr 1), some (.inl x), some (.inl (jdiv x 24)), some (.inl (if (ν 0 1) = 0 then 0 else jrem (jdiv x 24) (ν 0 1) : Int)), some (.inl (if (ν 0 1) = 0 then 0 else jrem (jdiv (jdiv x 24) 61) (ν 0 1) : Int)), some (.inl (if (ν 0 0) = 0 then 0 else jrem (jdiv x 24) (ν 0 0) : Int))]) (st' := [.inl 2, .inl (jdiv x 24), .inl (if (ν 0 2) = 0 then 0 else jrem (jdiv (jdiv x 24) 3) (ν 0 2) : Int), .inr 0]) rfl ?_
          refine gl_rem dg_act_629 (by decide) ?_
          obtain ⟨q, hq1, hq2, hq3⟩ := wrq_inv hA
          subst hq3
          refine h2_split hl hax dg_act_630 (by omega) (by decide) (Nat.le_of_ble_eq_true rfl) hq1 hq2 ?_ _ rfl
          refine gl_goto dg_act_633 (tgt := 663) (by rfl) ?_
          exact gl_iret (by decide) dg_act_663 rfl
      · rw [if_pos hc38] at hA
        refine gl_ops (S := ([], σ)) (S' := ([], σ)) og_act_561_4 (by decide) (L' := [some (.inr 0), some (.inr 1), some (.inl x), some (.inl (jdiv x 24)), some (.inl (if (ν 0 1) = 0 then 0 else jrem (jdiv x 24) (ν 0 1) : Int)), some (.inl (if (ν 0 1) = 0 then 0 else jrem (jdiv (jdiv x 24) 61) (ν 0 1) : Int)), some (.inl (if (ν 0 0) = 0 then 0 else jrem (jdiv x 24) (ν 0 0) : Int))]) (st' := [.inl 3, .inl (jdiv x 24), .inl 1, .inr 0]) rfl ?_
        refine gl_div dg_act_565 (by decide) ?_
        refine gl_ops (S := ([], σ)) (S' := ([], σ)) og_act_566_1 (by decide) (L' := [some (.inr 0), some (.inr 1), some (.inl x), some (.inl (jdiv x 24)), some (.inl (if (ν 0 1) = 0 then 0 else jrem (jdiv x 24) (ν 0 1) : Int)), some (.inl (if (ν 0 1) = 0 then 0 else jrem (jdiv (jdiv x 24) 61) (ν 0 1) : Int)), some (.inl (if (ν 0 0) = 0 then 0 else jrem (jdiv x 24) (ν 0 0) : Int))]) (st' := [.inl 2, .inl (jdiv (jdiv x 24) 3), .inl 1, .inr 0]) rfl ?_
        refine gl_rem dg_act_567 (by decide) ?_
        refine gl_ops (S := ([], σ)) (S' := ([], σ)) og_act_568_3 (by decide) (L' := [some (.inr 0), some (.inr 1), some (.inl x), some (.inl (jdiv x 24)), some (.inl (if (ν 0 1) = 0 then 0 else jrem (jdiv x 24) (ν 0 1) : Int)), some (.inl (if (ν 0 1) = 0 then 0 else jrem (jdiv (jdiv x 24) 61) (ν 0 1) : Int)), some (.inl (if (ν 0 0) = 0 then 0 else jrem (jdiv x 24) (ν 0 0) : Int))]) (st' := [.inl 6, .inl (jdiv x 24), .inl (wrap (1 + (jrem (jdiv (jdiv x 24) 3) 2))), .inr 0]) rfl ?_
        refine gl_div dg_act_572 (by decide) ?_
        refine gl_kind dg_act_573 (by omega) (by decide) (Nat.le_of_ble_eq_true rfl) ?_
        refine gl_ops (S := ([], σ)) (S' := ([], σ)) og_act_576_2 (by decide) (L' := [some (.inr 0), some (.inr 1), some (.inl x), some (.inl (jdiv x 24)), some (.inl (if (ν 0 1) = 0 then 0 else jrem (jdiv x 24) (ν 0 1) : Int)), some (.inl (if (ν 0 1) = 0 then 0 else jrem (jdiv (jdiv x 24) 61) (ν 0 1) : Int)), some (.inl (if (ν 0 0) = 0 then 0 else jrem (jdiv x 24) (ν 0 0) : Int))]) (st' := [.inl 3, .inl (jdiv x 24), .inl (kindF (jdiv (jdiv x 24) 6)), .inl (wrap (1 + (jrem (jdiv (jdiv x 24) 3) 2))), .inr 0]) rfl ?_
        refine gl_div dg_act_578 (by decide) ?_
        refine gl_ops (S := ([], σ)) (S' := ([], σ)) og_act_579_1 (by decide) (L' := [some (.inr 0), some (.inr 1), some (.inl x), some (.inl (jdiv x 24)), some (.inl (if (ν 0 1) = 0 then 0 else jrem (jdiv x 24) (ν 0 1) : Int)), some (.inl (if (ν 0 1) = 0 then 0 else jrem (jdiv (jdiv x 24) 61) (ν 0 1) : Int)), some (.inl (if (ν 0 0) = 0 then 0 else jrem (jdiv x 24) (ν 0 0) : Int))]) (st' := [.inl 2, .inl (jdiv (jdiv x 24) 3), .inl (kindF (jdiv (jdiv x 24) 6)), .inl (wrap (1 + (jrem (jdiv (jdiv x 24) 3) 2))), .inr 0]) rfl ?_
        refine gl_rem dg_act_580 (by decide) ?_
        suffices hJ44 : Gl l m_L_act d 1 [(ax, LAYC), FN an] [a0, an] (some k) [σ', ν] 0 595 [some (.inr 0), some (.inr 1), some (.inl x), some (.inl (jdiv x 24)), some (.inl (if (ν 0 1) = 0 then 0 else jrem (jdiv x 24) (ν 0 1) : Int)), some (.inl (if (ν 0 1) = 0 then 0 else jrem (jdiv (jdiv x 24) 61) (ν 0 1) : Int)), some (.inl (if (ν 0 0) = 0 then 0 else jrem (jdiv x 24) (ν 0 0) : Int))] [.inl (if (jrem (jdiv (jdiv x 24) 3) 2) ≤ 0 then 0 else kindF (jdiv (jdiv x 24) 12) : Int), .inl (kindF (jdiv (jdiv x 24) 6)), .inl (wrap (1 + (jrem (jdiv (jdiv x 24) 3) 2))), .inr 0] [σ, ν] by
          refine gl_if_le dg_act_581 (tgt := 594) (by rfl) (fun hc45 => ?_) (fun hc45 => ?_)
          · refine gl_ops (S := ([], σ)) (S' := ([], σ)) og_act_594_1 (by decide) (L' := [some (.inr 0), some (.inr 1), some (.inl x), some (.inl (jdiv x 24)), some (.inl (if (ν 0 1) = 0 then 0 else jrem (jdiv x 24) (ν 0 1) : Int)), some (.inl (if (ν 0 1) = 0 then 0 else jrem (jdiv (jdiv x 24) 61) (ν 0 1) : Int)), some (.inl (if (ν 0 0) = 0 then 0 else jrem (jdiv x 24) (ν 0 0) : Int))]) (st' := [.inl 0, .inl (kindF (jdiv (jdiv x 24) 6)), .inl (wrap (1 + (jrem (jdiv (jdiv x 24) 3) 2))), .inr 0]) rfl ?_
            exact gl_st (by rw [if_pos hc45]) hJ44
          · refine gl_ops (S := ([], σ)) (S' := ([], σ)) og_act_584_2 (by decide) (L' := [some (.inr 0), some (.inr 1), some (.inl x), some (.inl (jdiv x 24)), some (.inl (if (ν 0 1) = 0 then 0 else jrem (jdiv x 24) (ν 0 1) : Int)), some (.inl (if (ν 0 1) = 0 then 0 else jrem (jdiv (jdiv x 24) 61) (ν 0 1) : Int)), some (.inl (if (ν 0 0) = 0 then 0 else jrem (jdiv x 24) (ν 0 0) : Int))]) (st' := [.inl 12, .inl (jdiv x 24), .inl (kindF (jdiv (jdiv x 24) 6)), .inl (wrap (1 + (jrem (jdiv (jdiv x 24) 3) 2))), .inr 0]) rfl ?_
            refine gl_div dg_act_587 (by decide) ?_
            refine gl_kind dg_act_588 (by omega) (by decide) (Nat.le_of_ble_eq_true rfl) ?_
            refine gl_goto dg_act_591 (tgt := 595) (by rfl) ?_
            exact gl_st (by rw [if_neg hc45]) hJ44
        refine gl_ops (S := ([], σ)) (S' := ([], σ)) og_act_595_1 (by decide) (L' := [some (.inr 0), some (.inr 1), some (.inl x), some (.inl (jdiv x 24)), some (.inl (if (ν 0 1) = 0 then 0 else jrem (jdiv x 24) (ν 0 1) : Int)), some (.inl (if (ν 0 1) = 0 then 0 else jrem (jdiv (jdiv x 24) 61) (ν 0 1) : Int)), some (.inl (if (ν 0 0) = 0 then 0 else jrem (jdiv x 24) (ν 0 0) : Int))]) (st' := [.inl 0, .inl (if (jrem (jdiv (jdiv x 24) 3) 2) ≤ 0 then 0 else kindF (jdiv (jdiv x 24) 12) : Int), .inl (kindF (jdiv (jdiv x 24) 6)), .inl (wrap (1 + (jrem (jdiv (jdiv x 24) 3) 2))), .inr 0]) rfl ?_
        obtain ⟨q, hq1, hq2, hq3⟩ := wrq_inv hA
        subst hq3
        refine h2_begin hl hax dg_act_596 (by omega) (by decide) (Nat.le_of_ble_eq_true rfl) hq1 hq2 ?_ _ rfl
        refine gl_goto dg_act_599 (tgt := 663) (by rfl) ?_
        exact gl_iret (by decide) dg_act_663 rfl
    rw [if_neg hs15] at hA
    by_cases hs16 : jrem x 24 = 16
    · rw [if_pos hs16] at hA
      refine gl_tsw dg_act_63 (by decide) (by decide) (off := 601) (tgt := 664) (tsk hs16 (by decide +kernel)) (by rfl) ?_
      refine gl_ops (S := ([], σ)) (S' := ([], σ)) og_act_664_4 (by decide) (L' := [some (.inr 0), some (.inr 1), some (.inl x), some (.inl (jdiv x 24)), some (.inl (if (ν 0 1) = 0 then 0 else jrem (jdiv x 24) (ν 0 1) : Int)), some (.inl (if (ν 0 1) = 0 then 0 else jrem (jdiv (jdiv x 24) 61) (ν 0 1) : Int)), some (.inl (if (ν 0 0) = 0 then 0 else jrem (jdiv x 24) (ν 0 0) : Int))]) (st' := [.inl 3, .inr 1, .inl (if (ν 0 1) = 0 then 0 else jrem (jdiv x 24) (ν 0 1) : Int), .inr 0]) rfl ?_
      refine gl_rdx (jn := 1) (ν := ν) (an := an) (x := ν 0 3) dg_act_669 rfl rfl rfl (by decide) (by decide) rfl ?_
      refine gl_ops (S := ([], σ)) (S' := ([], σ)) og_act_670_1 (by decide) (L' := [some (.inr 0), some (.inr 1), some (.inl x), some (.inl (jdiv x 24)), some (.inl (if (ν 0 1) = 0 then 0 else jrem (jdiv x 24) (ν 0 1) : Int)), some (.inl (if (ν 0 1) = 0 then 0 else jrem (jdiv (jdiv x 24) 61) (ν 0 1) : Int)), some (.inl (if (ν 0 0) = 0 then 0 else jrem (jdiv x 24) (ν 0 0) : Int))]) (st' := [.inl 1, .inl (ν 0 3), .inl (if (ν 0 1) = 0 then 0 else jrem (jdiv x 24) (ν 0 1) : Int), .inr 0]) rfl ?_
      suffices hJ46 : Gl l m_L_act d 1 [(ax, LAYC), FN an] [a0, an] (some k) [σ', ν] 0 680 [some (.inr 0), some (.inr 1), some (.inl x), some (.inl (jdiv x 24)), some (.inl (if (ν 0 1) = 0 then 0 else jrem (jdiv x 24) (ν 0 1) : Int)), some (.inl (if (ν 0 1) = 0 then 0 else jrem (jdiv (jdiv x 24) 61) (ν 0 1) : Int)), some (.inl (if (ν 0 0) = 0 then 0 else jrem (jdiv x 24) (ν 0 0) : Int))] [.inl (if (ν 0 3) ≤ 1 then (-1) else (if (ν 0 1) = 0 then 0 else jrem (jdiv (jdiv x 24) 61) (ν 0 1) : Int) : Int), .inl (if (ν 0 1) = 0 then 0 else jrem (jdiv x 24) (ν 0 1) : Int), .inr 0] [σ, ν] by
        refine gl_icmp_le dg_act_671 (tgt := 679) (by rfl) (fun hc47 => ?_) (fun hc47 => ?_)
        · refine gl_ops (S := ([], σ)) (S' := ([], σ)) og_act_679_1 (by decide) (L' := [some (.inr 0), some (.inr 1), some (.inl x), some (.inl (jdiv x 24)), some (.inl (if (ν 0 1) = 0 then 0 else jrem (jdiv x 24) (ν 0 1) : Int)), some (.inl (if (ν 0 1) = 0 then 0 else jrem (jdiv (jdiv x 24) 61) (ν 0 1) : Int)), some (.inl (if (ν 0 0) = 0 then 0 else jrem (jdiv x 24) (ν 0 0) : Int))]) (st' := [.inl (-1), .inl (if (ν 0 1) = 0 then 0 else jrem (jdiv x 24) (ν 0 1) : Int), .inr 0]) rfl ?_
          exact gl_st (by rw [if_pos hc47]) hJ46
        · refine gl_ops (S := ([], σ)) (S' := ([], σ)) og_act_674_1 (by decide) (L' := [some (.inr 0), some (.inr 1), some (.inl x), some (.inl (jdiv x 24)), some (.inl (if (ν 0 1) = 0 then 0 else jrem (jdiv x 24) (ν 0 1) : Int)), some (.inl (if (ν 0 1) = 0 then 0 else jrem (jdiv (jdiv x 24) 61) (ν 0 1) : Int)), some (.inl (if (ν 0 0) = 0 then 0 else jrem (jdiv x 24) (ν 0 0) : Int))]) (st' := [.inl (if (ν 0 1) = 0 then 0 else jrem (jdiv (jdiv x 24) 61) (ν 0 1) : Int), .inl (if (ν 0 1) = 0 then 0 else jrem (jdiv x 24) (ν 0 1) : Int), .inr 0]) rfl ?_
          refine gl_goto dg_act_676 (tgt := 680) (by rfl) ?_
          exact gl_st (by rw [if_neg hc47]) hJ46
      refine gl_ops (S := ([], σ)) (S' := ([], σ)) og_act_680_2 (by decide) (L' := [some (.inr 0), some (.inr 1), some (.inl x), some (.inl (jdiv x 24)), some (.inl (if (ν 0 1) = 0 then 0 else jrem (jdiv x 24) (ν 0 1) : Int)), some (.inl (if (ν 0 1) = 0 then 0 else jrem (jdiv (jdiv x 24) 61) (ν 0 1) : Int)), some (.inl (if (ν 0 0) = 0 then 0 else jrem (jdiv x 24) (ν 0 0) : Int))]) (st' := [.inl 3, .inr 1, .inl (if (ν 0 3) ≤ 1 then (-1) else (if (ν 0 1) = 0 then 0 else jrem (jdiv (jdiv x 24) 61) (ν 0 1) : Int) : Int), .inl (if (ν 0 1) = 0 then 0 else jrem (jdiv x 24) (ν 0 1) : Int), .inr 0]) rfl ?_
      refine gl_rdx (jn := 1) (ν := ν) (an := an) (x := ν 0 3) dg_act_682 rfl rfl rfl (by decide) (by decide) rfl ?_
      refine gl_ops (S := ([], σ)) (S' := ([], σ)) og_act_683_1 (by decide) (L' := [some (.inr 0), some (.inr 1), some (.inl x), some (.inl (jdiv x 24)), some (.inl (if (ν 0 1) = 0 then 0 else jrem (jdiv x 24) (ν 0 1) : Int)), some (.inl (if (ν 0 1) = 0 then 0 else jrem (jdiv (jdiv x 24) 61) (ν 0 1) : Int)), some (.inl (if (ν 0 0) = 0 then 0 else jrem (jdiv x 24) (ν 0 0) : Int))]) (st' := [.inl 2, .inl (ν 0 3), .inl (if (ν 0 3) ≤ 1 then (-1) else (if (ν 0 1) = 0 then 0 else jrem (jdiv (jdiv x 24) 61) (ν 0 1) : Int) : Int), .inl (if (ν 0 1) = 0 then 0 else jrem (jdiv x 24) (ν 0 1) : Int), .inr 0]) rfl ?_
      suffices hJ48 : Gl l m_L_act d 1 [(ax, LAYC), FN an] [a0, an] (some k) [σ', ν] 0 692 [some (.inr 0), some (.inr 1), some (.inl x), some (.inl (jdiv x 24)), some (.inl (if (ν 0 1) = 0 then 0 else jrem (jdiv x 24) (ν 0 1) : Int)), some (.inl (if (ν 0 1) = 0 then 0 else jrem (jdiv (jdiv x 24) 61) (ν 0 1) : Int)), some (.inl (if (ν 0 0) = 0 then 0 else jrem (jdiv x 24) (ν 0 0) : Int))] [.inl (if (ν 0 3) ≤ 2 then (-1) else 0 : Int), .inl (if (ν 0 3) ≤ 1 then (-1) else (if (ν 0 1) = 0 then 0 else jrem (jdiv (jdiv x 24) 61) (ν 0 1) : Int) : Int), .inl (if (ν 0 1) = 0 then 0 else jrem (jdiv x 24) (ν 0 1) : Int), .inr 0] [σ, ν] by
        refine gl_icmp_le dg_act_684 (tgt := 691) (by rfl) (fun hc49 => ?_) (fun hc49 => ?_)
        · refine gl_ops (S := ([], σ)) (S' := ([], σ)) og_act_691_1 (by decide) (L' := [some (.inr 0), some (.inr 1), some (.inl x), some (.inl (jdiv x 24)), some (.inl (if (ν 0 1) = 0 then 0 else jrem (jdiv x 24) (ν 0 1) : Int)), some (.inl (if (ν 0 1) = 0 then 0 else jrem (jdiv (jdiv x 24) 61) (ν 0 1) : Int)), some (.inl (if (ν 0 0) = 0 then 0 else jrem (jdiv x 24) (ν 0 0) : Int))]) (st' := [.inl (-1), .inl (if (ν 0 3) ≤ 1 then (-1) else (if (ν 0 1) = 0 then 0 else jrem (jdiv (jdiv x 24) 61) (ν 0 1) : Int) : Int), .inl (if (ν 0 1) = 0 then 0 else jrem (jdiv x 24) (ν 0 1) : Int), .inr 0]) rfl ?_
          exact gl_st (by rw [if_pos hc49]) hJ48
        · refine gl_ops (S := ([], σ)) (S' := ([], σ)) og_act_687_1 (by decide) (L' := [some (.inr 0), some (.inr 1), some (.inl x), some (.inl (jdiv x 24)), some (.inl (if (ν 0 1) = 0 then 0 else jrem (jdiv x 24) (ν 0 1) : Int)), some (.inl (if (ν 0 1) = 0 then 0 else jrem (jdiv (jdiv x 24) 61) (ν 0 1) : Int)), some (.inl (if (ν 0 0) = 0 then 0 else jrem (jdiv x 24) (ν 0 0) : Int))]) (st' := [.inl 0, .inl (if (ν 0 3) ≤ 1 then (-1) else (if (ν 0 1) = 0 then 0 else jrem (jdiv (jdiv x 24) 61) (ν 0 1) : Int) : Int), .inl (if (ν 0 1) = 0 then 0 else jrem (jdiv x 24) (ν 0 1) : Int), .inr 0]) rfl ?_
          refine gl_goto dg_act_688 (tgt := 692) (by rfl) ?_
          exact gl_st (by rw [if_neg hc49]) hJ48
      refine gl_ops (S := ([], σ)) (S' := ([], σ)) og_act_692_2 (by decide) (L' := [some (.inr 0), some (.inr 1), some (.inl x), some (.inl (jdiv x 24)), some (.inl (if (ν 0 1) = 0 then 0 else jrem (jdiv x 24) (ν 0 1) : Int)), some (.inl (if (ν 0 1) = 0 then 0 else jrem (jdiv (jdiv x 24) 61) (ν 0 1) : Int)), some (.inl (if (ν 0 0) = 0 then 0 else jrem (jdiv x 24) (ν 0 0) : Int))]) (st' := [.inl 100, .inl (jdiv x 24), .inl (if (ν 0 3) ≤ 2 then (-1) else 0 : Int), .inl (if (ν 0 3) ≤ 1 then (-1) else (if (ν 0 1) = 0 then 0 else jrem (jdiv (jdiv x 24) 61) (ν 0 1) : Int) : Int), .inl (if (ν 0 1) = 0 then 0 else jrem (jdiv x 24) (ν 0 1) : Int), .inr 0]) rfl ?_
      refine gl_rem dg_act_695 (by decide) ?_
      obtain ⟨q, hq1, hq2, hq3⟩ := wrq_inv hA
      subst hq3
      refine h2_add hl hax dg_act_696 (by omega) (by decide) (Nat.le_of_ble_eq_true rfl) hq1 hq2 ?_ _ rfl
      exact gl_iret (by decide) dg_act_699 rfl
    rw [if_neg hs16] at hA
    by_cases hs17 : jrem x 24 = 17
    · rw [if_pos hs17] at hA
      refine gl_tsw dg_act_63 (by decide) (by decide) (off := 601) (tgt := 664) (tsk hs17 (by decide +kernel)) (by rfl) ?_
      refine gl_ops (S := ([], σ)) (S' := ([], σ)) og_act_664_4 (by decide) (L' := [some (.inr 0), some (.inr 1), some (.inl x), some (.inl (jdiv x 24)), some (.inl (if (ν 0 1) = 0 then 0 else jrem (jdiv x 24) (ν 0 1) : Int)), some (.inl (if (ν 0 1) = 0 then 0 else jrem (jdiv (jdiv x 24) 61) (ν 0 1) : Int)), some (.inl (if (ν 0 0) = 0 then 0 else jrem (jdiv x 24) (ν 0 0) : Int))]) (st' := [.inl 3, .inr 1, .inl (if (ν 0 1) = 0 then 0 else jrem (jdiv x 24) (ν 0 1) : Int), .inr 0]) rfl ?_
      refine gl_rdx (jn := 1) (ν := ν) (an := an) (x := ν 0 3) dg_act_669 rfl rfl rfl (by decide) (by decide) rfl ?_
      refine gl_ops (S := ([], σ)) (S' := ([], σ)) og_act_670_1 (by decide) (L' := [some (.inr 0), some (.inr 1), some (.inl x), some (.inl (jdiv x 24)), some (.inl (if (ν 0 1) = 0 then 0 else jrem (jdiv x 24) (ν 0 1) : Int)), some (.inl (if (ν 0 1) = 0 then 0 else jrem (jdiv (jdiv x 24) 61) (ν 0 1) : Int)), some (.inl (if (ν 0 0) = 0 then 0 else jrem (jdiv x 24) (ν 0 0) : Int))]) (st' := [.inl 1, .inl (ν 0 3), .inl (if (ν 0 1) = 0 then 0 else jrem (jdiv x 24) (ν 0 1) : Int), .inr 0]) rfl ?_
      suffices hJ50 : Gl l m_L_act d 1 [(ax, LAYC), FN an] [a0, an] (some k) [σ', ν] 0 680 [some (.inr 0), some (.inr 1), some (.inl x), some (.inl (jdiv x 24)), some (.inl (if (ν 0 1) = 0 then 0 else jrem (jdiv x 24) (ν 0 1) : Int)), some (.inl (if (ν 0 1) = 0 then 0 else jrem (jdiv (jdiv x 24) 61) (ν 0 1) : Int)), some (.inl (if (ν 0 0) = 0 then 0 else jrem (jdiv x 24) (ν 0 0) : Int))] [.inl (if (ν 0 3) ≤ 1 then (-1) else (if (ν 0 1) = 0 then 0 else jrem (jdiv (jdiv x 24) 61) (ν 0 1) : Int) : Int), .inl (if (ν 0 1) = 0 then 0 else jrem (jdiv x 24) (ν 0 1) : Int), .inr 0] [σ, ν] by
        refine gl_icmp_le dg_act_671 (tgt := 679) (by rfl) (fun hc51 => ?_) (fun hc51 => ?_)
        · refine gl_ops (S := ([], σ)) (S' := ([], σ)) og_act_679_1 (by decide) (L' := [some (.inr 0), some (.inr 1), some (.inl x), some (.inl (jdiv x 24)), some (.inl (if (ν 0 1) = 0 then 0 else jrem (jdiv x 24) (ν 0 1) : Int)), some (.inl (if (ν 0 1) = 0 then 0 else jrem (jdiv (jdiv x 24) 61) (ν 0 1) : Int)), some (.inl (if (ν 0 0) = 0 then 0 else jrem (jdiv x 24) (ν 0 0) : Int))]) (st' := [.inl (-1), .inl (if (ν 0 1) = 0 then 0 else jrem (jdiv x 24) (ν 0 1) : Int), .inr 0]) rfl ?_
          exact gl_st (by rw [if_pos hc51]) hJ50
        · refine gl_ops (S := ([], σ)) (S' := ([], σ)) og_act_674_1 (by decide) (L' := [some (.inr 0), some (.inr 1), some (.inl x), some (.inl (jdiv x 24)), some (.inl (if (ν 0 1) = 0 then 0 else jrem (jdiv x 24) (ν 0 1) : Int)), some (.inl (if (ν 0 1) = 0 then 0 else jrem (jdiv (jdiv x 24) 61) (ν 0 1) : Int)), some (.inl (if (ν 0 0) = 0 then 0 else jrem (jdiv x 24) (ν 0 0) : Int))]) (st' := [.inl (if (ν 0 1) = 0 then 0 else jrem (jdiv (jdiv x 24) 61) (ν 0 1) : Int), .inl (if (ν 0 1) = 0 then 0 else jrem (jdiv x 24) (ν 0 1) : Int), .inr 0]) rfl ?_
          refine gl_goto dg_act_676 (tgt := 680) (by rfl) ?_
          exact gl_st (by rw [if_neg hc51]) hJ50
      refine gl_ops (S := ([], σ)) (S' := ([], σ)) og_act_680_2 (by decide) (L' := [some (.inr 0), some (.inr 1), some (.inl x), some (.inl (jdiv x 24)), some (.inl (if (ν 0 1) = 0 then 0 else jrem (jdiv x 24) (ν 0 1) : Int)), some (.inl (if (ν 0 1) = 0 then 0 else jrem (jdiv (jdiv x 24) 61) (ν 0 1) : Int)), some (.inl (if (ν 0 0) = 0 then 0 else jrem (jdiv x 24) (ν 0 0) : Int))]) (st' := [.inl 3, .inr 1, .inl (if (ν 0 3) ≤ 1 then (-1) else (if (ν 0 1) = 0 then 0 else jrem (jdiv (jdiv x 24) 61) (ν 0 1) : Int) : Int), .inl (if (ν 0 1) = 0 then 0 else jrem (jdiv x 24) (ν 0 1) : Int), .inr 0]) rfl ?_
      refine gl_rdx (jn := 1) (ν := ν) (an := an) (x := ν 0 3) dg_act_682 rfl rfl rfl (by decide) (by decide) rfl ?_
      refine gl_ops (S := ([], σ)) (S' := ([], σ)) og_act_683_1 (by decide) (L' := [some (.inr 0), some (.inr 1), some (.inl x), some (.inl (jdiv x 24)), some (.inl (if (ν 0 1) = 0 then 0 else jrem (jdiv x 24) (ν 0 1) : Int)), some (.inl (if (ν 0 1) = 0 then 0 else jrem (jdiv (jdiv x 24) 61) (ν 0 1) : Int)), some (.inl (if (ν 0 0) = 0 then 0 else jrem (jdiv x 24) (ν 0 0) : Int))]) (st' := [.inl 2, .inl (ν 0 3), .inl (if (ν 0 3) ≤ 1 then (-1) else (if (ν 0 1) = 0 then 0 else jrem (jdiv (jdiv x 24) 61) (ν 0 1) : Int) : Int), .inl (if (ν 0 1) = 0 then 0 else jrem (jdiv x 24) (ν 0 1) : Int), .inr 0]) rfl ?_
      suffices hJ52 : Gl l m_L_act d 1 [(ax, LAYC), FN an] [a0, an] (some k) [σ', ν] 0 692 [some (.inr 0), some (.inr 1), some (.inl x), some (.inl (jdiv x 24)), some (.inl (if (ν 0 1) = 0 then 0 else jrem (jdiv x 24) (ν 0 1) : Int)), some (.inl (if (ν 0 1) = 0 then 0 else jrem (jdiv (jdiv x 24) 61) (ν 0 1) : Int)), some (.inl (if (ν 0 0) = 0 then 0 else jrem (jdiv x 24) (ν 0 0) : Int))] [.inl (if (ν 0 3) ≤ 2 then (-1) else 0 : Int), .inl (if (ν 0 3) ≤ 1 then (-1) else (if (ν 0 1) = 0 then 0 else jrem (jdiv (jdiv x 24) 61) (ν 0 1) : Int) : Int), .inl (if (ν 0 1) = 0 then 0 else jrem (jdiv x 24) (ν 0 1) : Int), .inr 0] [σ, ν] by
        refine gl_icmp_le dg_act_684 (tgt := 691) (by rfl) (fun hc53 => ?_) (fun hc53 => ?_)
        · refine gl_ops (S := ([], σ)) (S' := ([], σ)) og_act_691_1 (by decide) (L' := [some (.inr 0), some (.inr 1), some (.inl x), some (.inl (jdiv x 24)), some (.inl (if (ν 0 1) = 0 then 0 else jrem (jdiv x 24) (ν 0 1) : Int)), some (.inl (if (ν 0 1) = 0 then 0 else jrem (jdiv (jdiv x 24) 61) (ν 0 1) : Int)), some (.inl (if (ν 0 0) = 0 then 0 else jrem (jdiv x 24) (ν 0 0) : Int))]) (st' := [.inl (-1), .inl (if (ν 0 3) ≤ 1 then (-1) else (if (ν 0 1) = 0 then 0 else jrem (jdiv (jdiv x 24) 61) (ν 0 1) : Int) : Int), .inl (if (ν 0 1) = 0 then 0 else jrem (jdiv x 24) (ν 0 1) : Int), .inr 0]) rfl ?_
          exact gl_st (by rw [if_pos hc53]) hJ52
        · refine gl_ops (S := ([], σ)) (S' := ([], σ)) og_act_687_1 (by decide) (L' := [some (.inr 0), some (.inr 1), some (.inl x), some (.inl (jdiv x 24)), some (.inl (if (ν 0 1) = 0 then 0 else jrem (jdiv x 24) (ν 0 1) : Int)), some (.inl (if (ν 0 1) = 0 then 0 else jrem (jdiv (jdiv x 24) 61) (ν 0 1) : Int)), some (.inl (if (ν 0 0) = 0 then 0 else jrem (jdiv x 24) (ν 0 0) : Int))]) (st' := [.inl 0, .inl (if (ν 0 3) ≤ 1 then (-1) else (if (ν 0 1) = 0 then 0 else jrem (jdiv (jdiv x 24) 61) (ν 0 1) : Int) : Int), .inl (if (ν 0 1) = 0 then 0 else jrem (jdiv x 24) (ν 0 1) : Int), .inr 0]) rfl ?_
          refine gl_goto dg_act_688 (tgt := 692) (by rfl) ?_
          exact gl_st (by rw [if_neg hc53]) hJ52
      refine gl_ops (S := ([], σ)) (S' := ([], σ)) og_act_692_2 (by decide) (L' := [some (.inr 0), some (.inr 1), some (.inl x), some (.inl (jdiv x 24)), some (.inl (if (ν 0 1) = 0 then 0 else jrem (jdiv x 24) (ν 0 1) : Int)), some (.inl (if (ν 0 1) = 0 then 0 else jrem (jdiv (jdiv x 24) 61) (ν 0 1) : Int)), some (.inl (if (ν 0 0) = 0 then 0 else jrem (jdiv x 24) (ν 0 0) : Int))]) (st' := [.inl 100, .inl (jdiv x 24), .inl (if (ν 0 3) ≤ 2 then (-1) else 0 : Int), .inl (if (ν 0 3) ≤ 1 then (-1) else (if (ν 0 1) = 0 then 0 else jrem (jdiv (jdiv x 24) 61) (ν 0 1) : Int) : Int), .inl (if (ν 0 1) = 0 then 0 else jrem (jdiv x 24) (ν 0 1) : Int), .inr 0]) rfl ?_
      refine gl_rem dg_act_695 (by decide) ?_
      obtain ⟨q, hq1, hq2, hq3⟩ := wrq_inv hA
      subst hq3
      refine h2_add hl hax dg_act_696 (by omega) (by decide) (Nat.le_of_ble_eq_true rfl) hq1 hq2 ?_ _ rfl
      exact gl_iret (by decide) dg_act_699 rfl
    rw [if_neg hs17] at hA
    by_cases hs18 : jrem x 24 = 18
    · rw [if_pos hs18] at hA
      refine gl_tsw dg_act_63 (by decide) (by decide) (off := 601) (tgt := 664) (tsk hs18 (by decide +kernel)) (by rfl) ?_
      refine gl_ops (S := ([], σ)) (S' := ([], σ)) og_act_664_4 (by decide) (L' := [some (.inr 0), some (.inr 1), some (.inl x), some (.inl (jdiv x 24)), some (.inl (if (ν 0 1) = 0 then 0 else jrem (jdiv x 24) (ν 0 1) : Int)), some (.inl (if (ν 0 1) = 0 then 0 else jrem (jdiv (jdiv x 24) 61) (ν 0 1) : Int)), some (.inl (if (ν 0 0) = 0 then 0 else jrem (jdiv x 24) (ν 0 0) : Int))]) (st' := [.inl 3, .inr 1, .inl (if (ν 0 1) = 0 then 0 else jrem (jdiv x 24) (ν 0 1) : Int), .inr 0]) rfl ?_
      refine gl_rdx (jn := 1) (ν := ν) (an := an) (x := ν 0 3) dg_act_669 rfl rfl rfl (by decide) (by decide) rfl ?_
      refine gl_ops (S := ([], σ)) (S' := ([], σ)) og_act_670_1 (by decide) (L' := [some (.inr 0), some (.inr 1), some (.inl x), some (.inl (jdiv x 24)), some (.inl (if (ν 0 1) = 0 then 0 else jrem (jdiv x 24) (ν 0 1) : Int)), some (.inl (if (ν 0 1) = 0 then 0 else jrem (jdiv (jdiv x 24) 61) (ν 0 1) : Int)), some (.inl (if (ν 0 0) = 0 then 0 else jrem (jdiv x 24) (ν 0 0) : Int))]) (st' := [.inl 1, .inl (ν 0 3), .inl (if (ν 0 1) = 0 then 0 else jrem (jdiv x 24) (ν 0 1) : Int), .inr 0]) rfl ?_
      suffices hJ54 : Gl l m_L_act d 1 [(ax, LAYC), FN an] [a0, an] (some k) [σ', ν] 0 680 [some (.inr 0), some (.inr 1), some (.inl x), some (.inl (jdiv x 24)), some (.inl (if (ν 0 1) = 0 then 0 else jrem (jdiv x 24) (ν 0 1) : Int)), some (.inl (if (ν 0 1) = 0 then 0 else jrem (jdiv (jdiv x 24) 61) (ν 0 1) : Int)), some (.inl (if (ν 0 0) = 0 then 0 else jrem (jdiv x 24) (ν 0 0) : Int))] [.inl (if (ν 0 3) ≤ 1 then (-1) else (if (ν 0 1) = 0 then 0 else jrem (jdiv (jdiv x 24) 61) (ν 0 1) : Int) : Int), .inl (if (ν 0 1) = 0 then 0 else jrem (jdiv x 24) (ν 0 1) : Int), .inr 0] [σ, ν] by
        refine gl_icmp_le dg_act_671 (tgt := 679) (by rfl) (fun hc55 => ?_) (fun hc55 => ?_)
        · refine gl_ops (S := ([], σ)) (S' := ([], σ)) og_act_679_1 (by decide) (L' := [some (.inr 0), some (.inr 1), some (.inl x), some (.inl (jdiv x 24)), some (.inl (if (ν 0 1) = 0 then 0 else jrem (jdiv x 24) (ν 0 1) : Int)), some (.inl (if (ν 0 1) = 0 then 0 else jrem (jdiv (jdiv x 24) 61) (ν 0 1) : Int)), some (.inl (if (ν 0 0) = 0 then 0 else jrem (jdiv x 24) (ν 0 0) : Int))]) (st' := [.inl (-1), .inl (if (ν 0 1) = 0 then 0 else jrem (jdiv x 24) (ν 0 1) : Int), .inr 0]) rfl ?_
          exact gl_st (by rw [if_pos hc55]) hJ54
        · refine gl_ops (S := ([], σ)) (S' := ([], σ)) og_act_674_1 (by decide) (L' := [some (.inr 0), some (.inr 1), some (.inl x), some (.inl (jdiv x 24)), some (.inl (if (ν 0 1) = 0 then 0 else jrem (jdiv x 24) (ν 0 1) : Int)), some (.inl (if (ν 0 1) = 0 then 0 else jrem (jdiv (jdiv x 24) 61) (ν 0 1) : Int)), some (.inl (if (ν 0 0) = 0 then 0 else jrem (jdiv x 24) (ν 0 0) : Int))]) (st' := [.inl (if (ν 0 1) = 0 then 0 else jrem (jdiv (jdiv x 24) 61) (ν 0 1) : Int), .inl (if (ν 0 1) = 0 then 0 else jrem (jdiv x 24) (ν 0 1) : Int), .inr 0]) rfl ?_
          refine gl_goto dg_act_676 (tgt := 680) (by rfl) ?_
          exact gl_st (by rw [if_neg hc55]) hJ54
      refine gl_ops (S := ([], σ)) (S' := ([], σ)) og_act_680_2 (by decide) (L' := [some (.inr 0), some (.inr 1), some (.inl x), some (.inl (jdiv x 24)), some (.inl (if (ν 0 1) = 0 then 0 else jrem (jdiv x 24) (ν 0 1) : Int)), some (.inl (if (ν 0 1) = 0 then 0 else jrem (jdiv (jdiv x 24) 61) (ν 0 1) : Int)), some (.inl (if (ν 0 0) = 0 then 0 else jrem (jdiv x 24) (ν 0 0) : Int))]) (st' := [.inl 3, .inr 1, .inl (if (ν 0 3) ≤ 1 then (-1) else (if (ν 0 1) = 0 then 0 else jrem (jdiv (jdiv x 24) 61) (ν 0 1) : Int) : Int), .inl (if (ν 0 1) = 0 then 0 else jrem (jdiv x 24) (ν 0 1) : Int), .inr 0]) rfl ?_
      refine gl_rdx (jn := 1) (ν := ν) (an := an) (x := ν 0 3) dg_act_682 rfl rfl rfl (by decide) (by decide) rfl ?_
      refine gl_ops (S := ([], σ)) (S' := ([], σ)) og_act_683_1 (by decide) (L' := [some (.inr 0), some (.inr 1), some (.inl x), some (.inl (jdiv x 24)), some (.inl (if (ν 0 1) = 0 then 0 else jrem (jdiv x 24) (ν 0 1) : Int)), some (.inl (if (ν 0 1) = 0 then 0 else jrem (jdiv (jdiv x 24) 61) (ν 0 1) : Int)), some (.inl (if (ν 0 0) = 0 then 0 else jrem (jdiv x 24) (ν 0 0) : Int))]) (st' := [.inl 2, .inl (ν 0 3), .inl (if (ν 0 3) ≤ 1 then (-1) else (if (ν 0 1) = 0 then 0 else jrem (jdiv (jdiv x 24) 61) (ν 0 1) : Int) : Int), .inl (if (ν 0 1) = 0 then 0 else jrem (jdiv x 24) (ν 0 1) : Int), .inr 0]) rfl ?_
      suffices hJ56 : Gl l m_L_act d 1 [(ax, LAYC), FN an] [a0, an] (some k) [σ', ν] 0 692 [some (.inr 0), some (.inr 1), some (.inl x), some (.inl (jdiv x 24)), some (.inl (if (ν 0 1) = 0 then 0 else jrem (jdiv x 24) (ν 0 1) : Int)), some (.inl (if (ν 0 1) = 0 then 0 else jrem (jdiv (jdiv x 24) 61) (ν 0 1) : Int)), some (.inl (if (ν 0 0) = 0 then 0 else jrem (jdiv x 24) (ν 0 0) : Int))] [.inl (if (ν 0 3) ≤ 2 then (-1) else 0 : Int), .inl (if (ν 0 3) ≤ 1 then (-1) else (if (ν 0 1) = 0 then 0 else jrem (jdiv (jdiv x 24) 61) (ν 0 1) : Int) : Int), .inl (if (ν 0 1) = 0 then 0 else jrem (jdiv x 24) (ν 0 1) : Int), .inr 0] [σ, ν] by
        refine gl_icmp_le dg_act_684 (tgt := 691) (by rfl) (fun hc57 => ?_) (fun hc57 => ?_)
        · refine gl_ops (S := ([], σ)) (S' := ([], σ)) og_act_691_1 (by decide) (L' := [some (.inr 0), some (.inr 1), some (.inl x), some (.inl (jdiv x 24)), some (.inl (if (ν 0 1) = 0 then 0 else jrem (jdiv x 24) (ν 0 1) : Int)), some (.inl (if (ν 0 1) = 0 then 0 else jrem (jdiv (jdiv x 24) 61) (ν 0 1) : Int)), some (.inl (if (ν 0 0) = 0 then 0 else jrem (jdiv x 24) (ν 0 0) : Int))]) (st' := [.inl (-1), .inl (if (ν 0 3) ≤ 1 then (-1) else (if (ν 0 1) = 0 then 0 else jrem (jdiv (jdiv x 24) 61) (ν 0 1) : Int) : Int), .inl (if (ν 0 1) = 0 then 0 else jrem (jdiv x 24) (ν 0 1) : Int), .inr 0]) rfl ?_
          exact gl_st (by rw [if_pos hc57]) hJ56
        · refine gl_ops (S := ([], σ)) (S' := ([], σ)) og_act_687_1 (by decide) (L' := [some (.inr 0), some (.inr 1), some (.inl x), some (.inl (jdiv x 24)), some (.inl (if (ν 0 1) = 0 then 0 else jrem (jdiv x 24) (ν 0 1) : Int)), some (.inl (if (ν 0 1) = 0 then 0 else jrem (jdiv (jdiv x 24) 61) (ν 0 1) : Int)), some (.inl (if (ν 0 0) = 0 then 0 else jrem (jdiv x 24) (ν 0 0) : Int))]) (st' := [.inl 0, .inl (if (ν 0 3) ≤ 1 then (-1) else (if (ν 0 1) = 0 then 0 else jrem (jdiv (jdiv x 24) 61) (ν 0 1) : Int) : Int), .inl (if (ν 0 1) = 0 then 0 else jrem (jdiv x 24) (ν 0 1) : Int), .inr 0]) rfl ?_
          refine gl_goto dg_act_688 (tgt := 692) (by rfl) ?_
          exact gl_st (by rw [if_neg hc57]) hJ56
      refine gl_ops (S := ([], σ)) (S' := ([], σ)) og_act_692_2 (by decide) (L' := [some (.inr 0), some (.inr 1), some (.inl x), some (.inl (jdiv x 24)), some (.inl (if (ν 0 1) = 0 then 0 else jrem (jdiv x 24) (ν 0 1) : Int)), some (.inl (if (ν 0 1) = 0 then 0 else jrem (jdiv (jdiv x 24) 61) (ν 0 1) : Int)), some (.inl (if (ν 0 0) = 0 then 0 else jrem (jdiv x 24) (ν 0 0) : Int))]) (st' := [.inl 100, .inl (jdiv x 24), .inl (if (ν 0 3) ≤ 2 then (-1) else 0 : Int), .inl (if (ν 0 3) ≤ 1 then (-1) else (if (ν 0 1) = 0 then 0 else jrem (jdiv (jdiv x 24) 61) (ν 0 1) : Int) : Int), .inl (if (ν 0 1) = 0 then 0 else jrem (jdiv x 24) (ν 0 1) : Int), .inr 0]) rfl ?_
      refine gl_rem dg_act_695 (by decide) ?_
      obtain ⟨q, hq1, hq2, hq3⟩ := wrq_inv hA
      subst hq3
      refine h2_add hl hax dg_act_696 (by omega) (by decide) (Nat.le_of_ble_eq_true rfl) hq1 hq2 ?_ _ rfl
      exact gl_iret (by decide) dg_act_699 rfl
    rw [if_neg hs18] at hA
    by_cases hs19 : jrem x 24 = 19
    · rw [if_pos hs19] at hA
      refine gl_tsw dg_act_63 (by decide) (by decide) (off := 637) (tgt := 700) (tsk hs19 (by decide +kernel)) (by rfl) ?_
      refine gl_ops (S := ([], σ)) (S' := ([], σ)) og_act_700_3 (by decide) (L' := [some (.inr 0), some (.inr 1), some (.inl x), some (.inl (jdiv x 24)), some (.inl (if (ν 0 1) = 0 then 0 else jrem (jdiv x 24) (ν 0 1) : Int)), some (.inl (if (ν 0 1) = 0 then 0 else jrem (jdiv (jdiv x 24) 61) (ν 0 1) : Int)), some (.inl (if (ν 0 0) = 0 then 0 else jrem (jdiv x 24) (ν 0 0) : Int))]) (st' := [.inl 2, .inr 1, .inr 0]) rfl ?_
      refine gl_rdx (jn := 1) (ν := ν) (an := an) (x := ν 0 2) dg_act_703 rfl rfl rfl (by decide) (by decide) rfl ?_
      suffices hJ58 : Gl l m_L_act d 1 [(ax, LAYC), FN an] [a0, an] (some k) [σ', ν] 0 716 [some (.inr 0), some (.inr 1), some (.inl x), some (.inl (jdiv x 24)), some (.inl (if (ν 0 1) = 0 then 0 else jrem (jdiv x 24) (ν 0 1) : Int)), some (.inl (if (ν 0 1) = 0 then 0 else jrem (jdiv (jdiv x 24) 61) (ν 0 1) : Int)), some (.inl (if (ν 0 0) = 0 then 0 else jrem (jdiv x 24) (ν 0 0) : Int))] [.inl (if (ν 0 2) = 0 then 0 else jrem (jdiv x 24) (ν 0 2) : Int), .inr 0] [σ, ν] by
        refine gl_if_ne dg_act_704 (tgt := 711) (by rfl) (fun hc59 => ?_) (fun hc59 => ?_)
        · refine gl_ops (S := ([], σ)) (S' := ([], σ)) og_act_711_3 (by decide) (L' := [some (.inr 0), some (.inr 1), some (.inl x), some (.inl (jdiv x 24)), some (.inl (if (ν 0 1) = 0 then 0 else jrem (jdiv x 24) (ν 0 1) : Int)), some (.inl (if (ν 0 1) = 0 then 0 else jrem (jdiv (jdiv x 24) 61) (ν 0 1) : Int)), some (.inl (if (ν 0 0) = 0 then 0 else jrem (jdiv x 24) (ν 0 0) : Int))]) (st' := [.inl 2, .inr 1, .inl (jdiv x 24), .inr 0]) rfl ?_
          refine gl_rdx (jn := 1) (ν := ν) (an := an) (x := ν 0 2) dg_act_714 rfl rfl rfl (by decide) (by decide) rfl ?_
          refine gl_rem dg_act_715 hc59 ?_
          exact gl_st (by rw [if_neg hc59]) hJ58
        · refine gl_ops (S := ([], σ)) (S' := ([], σ)) og_act_707_1 (by decide) (L' := [some (.inr 0), some (.inr 1), some (.inl x), some (.inl (jdiv x 24)), some (.inl (if (ν 0 1) = 0 then 0 else jrem (jdiv x 24) (ν 0 1) : Int)), some (.inl (if (ν 0 1) = 0 then 0 else jrem (jdiv (jdiv x 24) 61) (ν 0 1) : Int)), some (.inl (if (ν 0 0) = 0 then 0 else jrem (jdiv x 24) (ν 0 0) : Int))]) (st' := [.inl 0, .inr 0]) rfl ?_
          refine gl_goto dg_act_708 (tgt := 716) (by rfl) ?_
          exact gl_st (by rw [if_pos hc59]) hJ58
      refine gl_ops (S := ([], σ)) (S' := ([], σ)) og_act_716_2 (by decide) (L' := [some (.inr 0), some (.inr 1), some (.inl x), some (.inl (jdiv x 24)), some (.inl (if (ν 0 1) = 0 then 0 else jrem (jdiv x 24) (ν 0 1) : Int)), some (.inl (if (ν 0 1) = 0 then 0 else jrem (jdiv (jdiv x 24) 61) (ν 0 1) : Int)), some (.inl (if (ν 0 0) = 0 then 0 else jrem (jdiv x 24) (ν 0 0) : Int))]) (st' := [.inl 8, .inl (jdiv x 24), .inl (if (ν 0 2) = 0 then 0 else jrem (jdiv x 24) (ν 0 2) : Int), .inr 0]) rfl ?_
      refine gl_div dg_act_719 (by decide) ?_
      refine gl_ops (S := ([], σ)) (S' := ([], σ)) og_act_720_1 (by decide) (L' := [some (.inr 0), some (.inr 1), some (.inl x), some (.inl (jdiv x 24)), some (.inl (if (ν 0 1) = 0 then 0 else jrem (jdiv x 24) (ν 0 1) : Int)), some (.inl (if (ν 0 1) = 0 then 0 else jrem (jdiv (jdiv x 24) 61) (ν 0 1) : Int)), some (.inl (if (ν 0 0) = 0 then 0 else jrem (jdiv x 24) (ν 0 0) : Int))]) (st' := [.inl 5, .inl (jdiv (jdiv x 24) 8), .inl (if (ν 0 2) = 0 then 0 else jrem (jdiv x 24) (ν 0 2) : Int), .inr 0]) rfl ?_
      refine gl_rem dg_act_721 (by decide) ?_
      refine gl_ops (S := ([], σ)) (S' := ([], σ)) og_act_722_4 (by decide) (L' := [some (.inr 0), some (.inr 1), some (.inl x), some (.inl (jdiv x 24)), some (.inl (if (ν 0 1) = 0 then 0 else jrem (jdiv x 24) (ν 0 1) : Int)), some (.inl (if (ν 0 1) = 0 then 0 else jrem (jdiv (jdiv x 24) 61) (ν 0 1) : Int)), some (.inl (if (ν 0 0) = 0 then 0 else jrem (jdiv x 24) (ν 0 0) : Int))]) (st' := [.inl 8, .inl (jdiv x 24), .inl (wrap ((jrem (jdiv (jdiv x 24) 8) 5) - 1)), .inl (if (ν 0 2) = 0 then 0 else jrem (jdiv x 24) (ν 0 2) : Int), .inr 0]) rfl ?_
      refine gl_div dg_act_727 (by decide) ?_
      refine gl_ops (S := ([], σ)) (S' := ([], σ)) og_act_728_1 (by decide) (L' := [some (.inr 0), some (.inr 1), some (.inl x), some (.inl (jdiv x 24)), some (.inl (if (ν 0 1) = 0 then 0 else jrem (jdiv x 24) (ν 0 1) : Int)), some (.inl (if (ν 0 1) = 0 then 0 else jrem (jdiv (jdiv x 24) 61) (ν 0 1) : Int)), some (.inl (if (ν 0 0) = 0 then 0 else jrem (jdiv x 24) (ν 0 0) : Int))]) (st' := [.inl 5, .inl (jdiv (jdiv x 24) 8), .inl (wrap ((jrem (jdiv (jdiv x 24) 8) 5) - 1)), .inl (if (ν 0 2) = 0 then 0 else jrem (jdiv x 24) (ν 0 2) : Int), .inr 0]) rfl ?_
      refine gl_rem dg_act_729 (by decide) ?_
      suffices hJ60 : Gl l m_L_act d 1 [(ax, LAYC), FN an] [a0, an] (some k) [σ', ν] 0 743 [some (.inr 0), some (.inr 1), some (.inl x), some (.inl (jdiv x 24)), some (.inl (if (ν 0 1) = 0 then 0 else jrem (jdiv x 24) (ν 0 1) : Int)), some (.inl (if (ν 0 1) = 0 then 0 else jrem (jdiv (jdiv x 24) 61) (ν 0 1) : Int)), some (.inl (if (ν 0 0) = 0 then 0 else jrem (jdiv x 24) (ν 0 0) : Int))] [.inl (if (jrem (jdiv (jdiv x 24) 8) 5) = 0 then 0 else jrem (jdiv (jdiv x 24) 40) 3 : Int), .inl (wrap ((jrem (jdiv (jdiv x 24) 8) 5) - 1)), .inl (if (ν 0 2) = 0 then 0 else jrem (jdiv x 24) (ν 0 2) : Int), .inr 0] [σ, ν] by
        refine gl_if_ne dg_act_730 (tgt := 737) (by rfl) (fun hc61 => ?_) (fun hc61 => ?_)
        · refine gl_ops (S := ([], σ)) (S' := ([], σ)) og_act_737_2 (by decide) (L' := [some (.inr 0), some (.inr 1), some (.inl x), some (.inl (jdiv x 24)), some (.inl (if (ν 0 1) = 0 then 0 else jrem (jdiv x 24) (ν 0 1) : Int)), some (.inl (if (ν 0 1) = 0 then 0 else jrem (jdiv (jdiv x 24) 61) (ν 0 1) : Int)), some (.inl (if (ν 0 0) = 0 then 0 else jrem (jdiv x 24) (ν 0 0) : Int))]) (st' := [.inl 40, .inl (jdiv x 24), .inl (wrap ((jrem (jdiv (jdiv x 24) 8) 5) - 1)), .inl (if (ν 0 2) = 0 then 0 else jrem (jdiv x 24) (ν 0 2) : Int), .inr 0]) rfl ?_
          refine gl_div dg_act_740 (by decide) ?_
          refine gl_ops (S := ([], σ)) (S' := ([], σ)) og_act_741_1 (by decide) (L' := [some (.inr 0), some (.inr 1), some (.inl x), some (.inl (jdiv x 24)), some (.inl (if (ν 0 1) = 0 then 0 else jrem (jdiv x 24) (ν 0 1) : Int)), some (.inl (if (ν 0 1) = 0 then 0 else jrem (jdiv (jdiv x 24) 61) (ν 0 1) : Int)), some (.inl (if (ν 0 0) = 0 then 0 else jrem (jdiv x 24) (ν 0 0) : Int))]) (st' := [.inl 3, .inl (jdiv (jdiv x 24) 40), .inl (wrap ((jrem (jdiv (jdiv x 24) 8) 5) - 1)), .inl (if (ν 0 2) = 0 then 0 else jrem (jdiv x 24) (ν 0 2) : Int), .inr 0]) rfl ?_
          refine gl_rem dg_act_742 (by decide) ?_
          exact gl_st (by rw [if_neg hc61]) hJ60
        · refine gl_ops (S := ([], σ)) (S' := ([], σ)) og_act_733_1 (by decide) (L' := [some (.inr 0), some (.inr 1), some (.inl x), some (.inl (jdiv x 24)), some (.inl (if (ν 0 1) = 0 then 0 else jrem (jdiv x 24) (ν 0 1) : Int)), some (.inl (if (ν 0 1) = 0 then 0 else jrem (jdiv (jdiv x 24) 61) (ν 0 1) : Int)), some (.inl (if (ν 0 0) = 0 then 0 else jrem (jdiv x 24) (ν 0 0) : Int))]) (st' := [.inl 0, .inl (wrap ((jrem (jdiv (jdiv x 24) 8) 5) - 1)), .inl (if (ν 0 2) = 0 then 0 else jrem (jdiv x 24) (ν 0 2) : Int), .inr 0]) rfl ?_
          refine gl_goto dg_act_734 (tgt := 743) (by rfl) ?_
          exact gl_st (by rw [if_pos hc61]) hJ60
      refine gl_ops (S := ([], σ)) (S' := ([], σ)) og_act_743_2 (by decide) (L' := [some (.inr 0), some (.inr 1), some (.inl x), some (.inl (jdiv x 24)), some (.inl (if (ν 0 1) = 0 then 0 else jrem (jdiv x 24) (ν 0 1) : Int)), some (.inl (if (ν 0 1) = 0 then 0 else jrem (jdiv (jdiv x 24) 61) (ν 0 1) : Int)), some (.inl (if (ν 0 0) = 0 then 0 else jrem (jdiv x 24) (ν 0 0) : Int))]) (st' := [.inl 120, .inl (jdiv x 24), .inl (if (jrem (jdiv (jdiv x 24) 8) 5) = 0 then 0 else jrem (jdiv (jdiv x 24) 40) 3 : Int), .inl (wrap ((jrem (jdiv (jdiv x 24) 8) 5) - 1)), .inl (if (ν 0 2) = 0 then 0 else jrem (jdiv x 24) (ν 0 2) : Int), .inr 0]) rfl ?_
      refine gl_div dg_act_746 (by decide) ?_
      refine gl_ops (S := ([], σ)) (S' := ([], σ)) og_act_747_1 (by decide) (L' := [some (.inr 0), some (.inr 1), some (.inl x), some (.inl (jdiv x 24)), some (.inl (if (ν 0 1) = 0 then 0 else jrem (jdiv x 24) (ν 0 1) : Int)), some (.inl (if (ν 0 1) = 0 then 0 else jrem (jdiv (jdiv x 24) 61) (ν 0 1) : Int)), some (.inl (if (ν 0 0) = 0 then 0 else jrem (jdiv x 24) (ν 0 0) : Int))]) (st' := [.inl 10, .inl (jdiv (jdiv x 24) 120), .inl (if (jrem (jdiv (jdiv x 24) 8) 5) = 0 then 0 else jrem (jdiv (jdiv x 24) 40) 3 : Int), .inl (wrap ((jrem (jdiv (jdiv x 24) 8) 5) - 1)), .inl (if (ν 0 2) = 0 then 0 else jrem (jdiv x 24) (ν 0 2) : Int), .inr 0]) rfl ?_
      refine gl_rem dg_act_749 (by decide) ?_
      obtain ⟨q, hq1, hq2, hq3⟩ := wrq_inv hA
      subst hq3
      refine h2_guard hl hax dg_act_750 (by omega) (by decide) (Nat.le_of_ble_eq_true rfl) hq1 hq2 ?_ _ rfl
      exact gl_iret (by decide) dg_act_753 rfl
    rw [if_neg hs19] at hA
    by_cases hs20 : jrem x 24 = 20
    · rw [if_pos hs20] at hA
      refine gl_tsw dg_act_63 (by decide) (by decide) (off := 691) (tgt := 754) (tsk hs20 (by decide +kernel)) (by rfl) ?_
      refine gl_ops (S := ([], σ)) (S' := ([], σ)) og_act_754_4 (by decide) (L' := [some (.inr 0), some (.inr 1), some (.inl x), some (.inl (jdiv x 24)), some (.inl (if (ν 0 1) = 0 then 0 else jrem (jdiv x 24) (ν 0 1) : Int)), some (.inl (if (ν 0 1) = 0 then 0 else jrem (jdiv (jdiv x 24) 61) (ν 0 1) : Int)), some (.inl (if (ν 0 0) = 0 then 0 else jrem (jdiv x 24) (ν 0 0) : Int))]) (st' := [.inl 2, .inl (jdiv x 24), .inl 2, .inr 0]) rfl ?_
      refine gl_rem dg_act_758 (by decide) ?_
      refine gl_ops (S := ([], σ)) (S' := ([], σ)) og_act_759_3 (by decide) (L' := [some (.inr 0), some (.inr 1), some (.inl x), some (.inl (jdiv x 24)), some (.inl (if (ν 0 1) = 0 then 0 else jrem (jdiv x 24) (ν 0 1) : Int)), some (.inl (if (ν 0 1) = 0 then 0 else jrem (jdiv (jdiv x 24) 61) (ν 0 1) : Int)), some (.inl (if (ν 0 0) = 0 then 0 else jrem (jdiv x 24) (ν 0 0) : Int))]) (st' := [.inl 2, .inl (jdiv x 24), .inl (wrap (2 + (jrem (jdiv x 24) 2))), .inr 0]) rfl ?_
      refine gl_div dg_act_762 (by decide) ?_
      refine gl_ops (S := ([], σ)) (S' := ([], σ)) og_act_763_1 (by decide) (L' := [some (.inr 0), some (.inr 1), some (.inl x), some (.inl (jdiv x 24)), some (.inl (if (ν 0 1) = 0 then 0 else jrem (jdiv x 24) (ν 0 1) : Int)), some (.inl (if (ν 0 1) = 0 then 0 else jrem (jdiv (jdiv x 24) 61) (ν 0 1) : Int)), some (.inl (if (ν 0 0) = 0 then 0 else jrem (jdiv x 24) (ν 0 0) : Int))]) (st' := [.inl 2, .inl (jdiv (jdiv x 24) 2), .inl (wrap (2 + (jrem (jdiv x 24) 2))), .inr 0]) rfl ?_
      refine gl_rem dg_act_764 (by decide) ?_
      suffices hJ62 : Gl l m_L_act d 1 [(ax, LAYC), FN an] [a0, an] (some k) [σ', ν] 0 773 [some (.inr 0), some (.inr 1), some (.inl x), some (.inl (jdiv x 24)), some (.inl (if (ν 0 1) = 0 then 0 else jrem (jdiv x 24) (ν 0 1) : Int)), some (.inl (if (ν 0 1) = 0 then 0 else jrem (jdiv (jdiv x 24) 61) (ν 0 1) : Int)), some (.inl (if (ν 0 0) = 0 then 0 else jrem (jdiv x 24) (ν 0 0) : Int))] [.inl (b2i (decide ((jrem (jdiv (jdiv x 24) 2) 2) = 0))), .inl (wrap (2 + (jrem (jdiv x 24) 2))), .inr 0] [σ, ν] by
        refine gl_if_ne dg_act_765 (tgt := 772) (by rfl) (fun hc63 => ?_) (fun hc63 => ?_)
        · refine gl_ops (S := ([], σ)) (S' := ([], σ)) og_act_772_1 (by decide) (L' := [some (.inr 0), some (.inr 1), some (.inl x), some (.inl (jdiv x 24)), some (.inl (if (ν 0 1) = 0 then 0 else jrem (jdiv x 24) (ν 0 1) : Int)), some (.inl (if (ν 0 1) = 0 then 0 else jrem (jdiv (jdiv x 24) 61) (ν 0 1) : Int)), some (.inl (if (ν 0 0) = 0 then 0 else jrem (jdiv x 24) (ν 0 0) : Int))]) (st' := [.inl 0, .inl (wrap (2 + (jrem (jdiv x 24) 2))), .inr 0]) rfl ?_
          exact gl_st (by rw [decide_eq_false hc63]; rfl) hJ62
        · refine gl_ops (S := ([], σ)) (S' := ([], σ)) og_act_768_1 (by decide) (L' := [some (.inr 0), some (.inr 1), some (.inl x), some (.inl (jdiv x 24)), some (.inl (if (ν 0 1) = 0 then 0 else jrem (jdiv x 24) (ν 0 1) : Int)), some (.inl (if (ν 0 1) = 0 then 0 else jrem (jdiv (jdiv x 24) 61) (ν 0 1) : Int)), some (.inl (if (ν 0 0) = 0 then 0 else jrem (jdiv x 24) (ν 0 0) : Int))]) (st' := [.inl 1, .inl (wrap (2 + (jrem (jdiv x 24) 2))), .inr 0]) rfl ?_
          refine gl_goto dg_act_769 (tgt := 773) (by rfl) ?_
          exact gl_st (by rw [decide_eq_true hc63]; rfl) hJ62
      obtain ⟨q, hq1, hq2, hq3⟩ := wrq_inv hA
      subst hq3
      refine h2_size hl hax dg_act_773 (by omega) (by decide) (Nat.le_of_ble_eq_true rfl) hq1 hq2 ?_ _ rfl
      exact gl_iret (by decide) dg_act_776 rfl
    rw [if_neg hs20] at hA
    refine gl_tsw dg_act_63 (by decide) (by decide) (off := 714) (tgt := 777) (ts_d [0, 1, 2, 3, 4, 5, 6, 7, 8, 9, 10, 11, 12, 13, 14, 15, 16, 17, 18, 19, 20] (nn1 hs0 (nn1 hs1 (nn1 hs2 (nn1 hs3 (nn1 hs4 (nn1 hs5 (nn1 hs6 (nn1 hs7 (nn1 hs8 (nn1 hs9 (nn1 hs10 (nn1 hs11 (nn1 hs12 (nn1 hs13 (nn1 hs14 (nn1 hs15 (nn1 hs16 (nn1 hs17 (nn1 hs18 (nn1 hs19 (nn1 hs20 (nn0)))))))))))))))))))))) (by decide +kernel)) (by rfl) ?_
    refine gl_ops (S := ([], σ)) (S' := ([], σ)) og_act_777_3 (by decide) (L' := [some (.inr 0), some (.inr 1), some (.inl x), some (.inl (jdiv x 24)), some (.inl (if (ν 0 1) = 0 then 0 else jrem (jdiv x 24) (ν 0 1) : Int)), some (.inl (if (ν 0 1) = 0 then 0 else jrem (jdiv (jdiv x 24) 61) (ν 0 1) : Int)), some (.inl (if (ν 0 0) = 0 then 0 else jrem (jdiv x 24) (ν 0 0) : Int))]) (st' := [.inl 7, .inl (jdiv x 24), .inr 0]) rfl ?_
    refine gl_div dg_act_781 (by decide) ?_
    refine gl_ops (S := ([], σ)) (S' := ([], σ)) og_act_782_1 (by decide) (L' := [some (.inr 0), some (.inr 1), some (.inl x), some (.inl (jdiv x 24)), some (.inl (if (ν 0 1) = 0 then 0 else jrem (jdiv x 24) (ν 0 1) : Int)), some (.inl (if (ν 0 1) = 0 then 0 else jrem (jdiv (jdiv x 24) 61) (ν 0 1) : Int)), some (.inl (if (ν 0 0) = 0 then 0 else jrem (jdiv x 24) (ν 0 0) : Int))]) (st' := [.inl 4, .inl (jdiv (jdiv x 24) 7), .inr 0]) rfl ?_
    refine gl_rem dg_act_783 (by decide) ?_
    refine gl_ops (S := ([], σ)) (S' := ([], σ)) og_act_784_2 (by decide) (L' := [some (.inr 0), some (.inr 1), some (.inl x), some (.inl (jdiv x 24)), some (.inl (if (ν 0 1) = 0 then 0 else jrem (jdiv x 24) (ν 0 1) : Int)), some (.inl (if (ν 0 1) = 0 then 0 else jrem (jdiv (jdiv x 24) 61) (ν 0 1) : Int)), some (.inl (if (ν 0 0) = 0 then 0 else jrem (jdiv x 24) (ν 0 0) : Int))]) (st' := [.inl 0, .inr 1, .inl (jrem (jdiv (jdiv x 24) 7) 4), .inr 0]) rfl ?_
    refine gl_rdx (jn := 1) (ν := ν) (an := an) (x := ν 0 0) dg_act_786 rfl rfl rfl (by decide) (by decide) rfl ?_
    suffices hJ64 : Gl l m_L_act d 1 [(ax, LAYC), FN an] [a0, an] (some k) [σ', ν] 0 796 [some (.inr 0), some (.inr 1), some (.inl x), some (.inl (jdiv x 24)), some (.inl (if (ν 0 1) = 0 then 0 else jrem (jdiv x 24) (ν 0 1) : Int)), some (.inl (if (ν 0 1) = 0 then 0 else jrem (jdiv (jdiv x 24) 61) (ν 0 1) : Int)), some (.inl (if (ν 0 0) = 0 then 0 else jrem (jdiv x 24) (ν 0 0) : Int))] [.inl (if (ν 0 0) = 0 then 0 else (if (ν 0 0) = 0 then 0 else jrem (jdiv x 24) (ν 0 0) : Int) : Int), .inl (jrem (jdiv (jdiv x 24) 7) 4), .inr 0] [σ, ν] by
      refine gl_if_ne dg_act_787 (tgt := 794) (by rfl) (fun hc65 => ?_) (fun hc65 => ?_)
      · refine gl_ops (S := ([], σ)) (S' := ([], σ)) og_act_794_1 (by decide) (L' := [some (.inr 0), some (.inr 1), some (.inl x), some (.inl (jdiv x 24)), some (.inl (if (ν 0 1) = 0 then 0 else jrem (jdiv x 24) (ν 0 1) : Int)), some (.inl (if (ν 0 1) = 0 then 0 else jrem (jdiv (jdiv x 24) 61) (ν 0 1) : Int)), some (.inl (if (ν 0 0) = 0 then 0 else jrem (jdiv x 24) (ν 0 0) : Int))]) (st' := [.inl (if (ν 0 0) = 0 then 0 else jrem (jdiv x 24) (ν 0 0) : Int), .inl (jrem (jdiv (jdiv x 24) 7) 4), .inr 0]) rfl ?_
        exact gl_st (by rw [if_neg hc65]) hJ64
      · refine gl_ops (S := ([], σ)) (S' := ([], σ)) og_act_790_1 (by decide) (L' := [some (.inr 0), some (.inr 1), some (.inl x), some (.inl (jdiv x 24)), some (.inl (if (ν 0 1) = 0 then 0 else jrem (jdiv x 24) (ν 0 1) : Int)), some (.inl (if (ν 0 1) = 0 then 0 else jrem (jdiv (jdiv x 24) 61) (ν 0 1) : Int)), some (.inl (if (ν 0 0) = 0 then 0 else jrem (jdiv x 24) (ν 0 0) : Int))]) (st' := [.inl 0, .inl (jrem (jdiv (jdiv x 24) 7) 4), .inr 0]) rfl ?_
        refine gl_goto dg_act_791 (tgt := 796) (by rfl) ?_
        exact gl_st (by rw [if_pos hc65]) hJ64
    refine gl_ops (S := ([], σ)) (S' := ([], σ)) og_act_796_2 (by decide) (L' := [some (.inr 0), some (.inr 1), some (.inl x), some (.inl (jdiv x 24)), some (.inl (if (ν 0 1) = 0 then 0 else jrem (jdiv x 24) (ν 0 1) : Int)), some (.inl (if (ν 0 1) = 0 then 0 else jrem (jdiv (jdiv x 24) 61) (ν 0 1) : Int)), some (.inl (if (ν 0 0) = 0 then 0 else jrem (jdiv x 24) (ν 0 0) : Int))]) (st' := [.inl 3, .inr 1, .inl (if (ν 0 0) = 0 then 0 else (if (ν 0 0) = 0 then 0 else jrem (jdiv x 24) (ν 0 0) : Int) : Int), .inl (jrem (jdiv (jdiv x 24) 7) 4), .inr 0]) rfl ?_
    refine gl_rdx (jn := 1) (ν := ν) (an := an) (x := ν 0 3) dg_act_798 rfl rfl rfl (by decide) (by decide) rfl ?_
    refine gl_ops (S := ([], σ)) (S' := ([], σ)) og_act_799_1 (by decide) (L' := [some (.inr 0), some (.inr 1), some (.inl x), some (.inl (jdiv x 24)), some (.inl (if (ν 0 1) = 0 then 0 else jrem (jdiv x 24) (ν 0 1) : Int)), some (.inl (if (ν 0 1) = 0 then 0 else jrem (jdiv (jdiv x 24) 61) (ν 0 1) : Int)), some (.inl (if (ν 0 0) = 0 then 0 else jrem (jdiv x 24) (ν 0 0) : Int))]) (st' := [.inl 1, .inl (ν 0 3), .inl (if (ν 0 0) = 0 then 0 else (if (ν 0 0) = 0 then 0 else jrem (jdiv x 24) (ν 0 0) : Int) : Int), .inl (jrem (jdiv (jdiv x 24) 7) 4), .inr 0]) rfl ?_
    suffices hJ66 : Gl l m_L_act d 1 [(ax, LAYC), FN an] [a0, an] (some k) [σ', ν] 0 825 [some (.inr 0), some (.inr 1), some (.inl x), some (.inl (jdiv x 24)), some (.inl (if (ν 0 1) = 0 then 0 else jrem (jdiv x 24) (ν 0 1) : Int)), some (.inl (if (ν 0 1) = 0 then 0 else jrem (jdiv (jdiv x 24) 61) (ν 0 1) : Int)), some (.inl (if (ν 0 0) = 0 then 0 else jrem (jdiv x 24) (ν 0 0) : Int))] [.inl (if (ν 0 3) ≤ 1 then (-1) else (if (ν 0 0) = 0 then 0 else jrem (jdiv (jdiv x 24) 61) (ν 0 0) : Int) : Int), .inl (if (ν 0 0) = 0 then 0 else (if (ν 0 0) = 0 then 0 else jrem (jdiv x 24) (ν 0 0) : Int) : Int), .inl (jrem (jdiv (jdiv x 24) 7) 4), .inr 0] [σ, ν] by
      refine gl_icmp_le dg_act_800 (tgt := 824) (by rfl) (fun hc67 => ?_) (fun hc67 => ?_)
      · refine gl_ops (S := ([], σ)) (S' := ([], σ)) og_act_824_1 (by decide) (L' := [some (.inr 0), some (.inr 1), some (.inl x), some (.inl (jdiv x 24)), some (.inl (if (ν 0 1) = 0 then 0 else jrem (jdiv x 24) (ν 0 1) : Int)), some (.inl (if (ν 0 1) = 0 then 0 else jrem (jdiv (jdiv x 24) 61) (ν 0 1) : Int)), some (.inl (if (ν 0 0) = 0 then 0 else jrem (jdiv x 24) (ν 0 0) : Int))]) (st' := [.inl (-1), .inl (if (ν 0 0) = 0 then 0 else (if (ν 0 0) = 0 then 0 else jrem (jdiv x 24) (ν 0 0) : Int) : Int), .inl (jrem (jdiv (jdiv x 24) 7) 4), .inr 0]) rfl ?_
        exact gl_st (by rw [if_pos hc67]) hJ66
      · refine gl_ops (S := ([], σ)) (S' := ([], σ)) og_act_803_2 (by decide) (L' := [some (.inr 0), some (.inr 1), some (.inl x), some (.inl (jdiv x 24)), some (.inl (if (ν 0 1) = 0 then 0 else jrem (jdiv x 24) (ν 0 1) : Int)), some (.inl (if (ν 0 1) = 0 then 0 else jrem (jdiv (jdiv x 24) 61) (ν 0 1) : Int)), some (.inl (if (ν 0 0) = 0 then 0 else jrem (jdiv x 24) (ν 0 0) : Int))]) (st' := [.inl 0, .inr 1, .inl (if (ν 0 0) = 0 then 0 else (if (ν 0 0) = 0 then 0 else jrem (jdiv x 24) (ν 0 0) : Int) : Int), .inl (jrem (jdiv (jdiv x 24) 7) 4), .inr 0]) rfl ?_
        refine gl_rdx (jn := 1) (ν := ν) (an := an) (x := ν 0 0) dg_act_805 rfl rfl rfl (by decide) (by decide) rfl ?_
        refine gl_if_ne dg_act_806 (tgt := 813) (by rfl) (fun hc68 => ?_) (fun hc68 => ?_)
        · refine gl_ops (S := ([], σ)) (S' := ([], σ)) og_act_813_2 (by decide) (L' := [some (.inr 0), some (.inr 1), some (.inl x), some (.inl (jdiv x 24)), some (.inl (if (ν 0 1) = 0 then 0 else jrem (jdiv x 24) (ν 0 1) : Int)), some (.inl (if (ν 0 1) = 0 then 0 else jrem (jdiv (jdiv x 24) 61) (ν 0 1) : Int)), some (.inl (if (ν 0 0) = 0 then 0 else jrem (jdiv x 24) (ν 0 0) : Int))]) (st' := [.inl 61, .inl (jdiv x 24), .inl (if (ν 0 0) = 0 then 0 else (if (ν 0 0) = 0 then 0 else jrem (jdiv x 24) (ν 0 0) : Int) : Int), .inl (jrem (jdiv (jdiv x 24) 7) 4), .inr 0]) rfl ?_
          refine gl_div dg_act_816 (by decide) ?_
          refine gl_ops (S := ([], σ)) (S' := ([], σ)) og_act_817_2 (by decide) (L' := [some (.inr 0), some (.inr 1), some (.inl x), some (.inl (jdiv x 24)), some (.inl (if (ν 0 1) = 0 then 0 else jrem (jdiv x 24) (ν 0 1) : Int)), some (.inl (if (ν 0 1) = 0 then 0 else jrem (jdiv (jdiv x 24) 61) (ν 0 1) : Int)), some (.inl (if (ν 0 0) = 0 then 0 else jrem (jdiv x 24) (ν 0 0) : Int))]) (st' := [.inl 0, .inr 1, .inl (jdiv (jdiv x 24) 61), .inl (if (ν 0 0) = 0 then 0 else (if (ν 0 0) = 0 then 0 else jrem (jdiv x 24) (ν 0 0) : Int) : Int), .inl (jrem (jdiv (jdiv x 24) 7) 4), .inr 0]) rfl ?_
          refine gl_rdx (jn := 1) (ν := ν) (an := an) (x := ν 0 0) dg_act_819 rfl rfl rfl (by decide) (by decide) rfl ?_
          refine gl_rem dg_act_820 hc68 ?_
          refine gl_goto dg_act_821 (tgt := 825) (by rfl) ?_
          exact gl_st (by rw [if_neg hc67, if_neg hc68]) hJ66
        · refine gl_ops (S := ([], σ)) (S' := ([], σ)) og_act_809_1 (by decide) (L' := [some (.inr 0), some (.inr 1), some (.inl x), some (.inl (jdiv x 24)), some (.inl (if (ν 0 1) = 0 then 0 else jrem (jdiv x 24) (ν 0 1) : Int)), some (.inl (if (ν 0 1) = 0 then 0 else jrem (jdiv (jdiv x 24) 61) (ν 0 1) : Int)), some (.inl (if (ν 0 0) = 0 then 0 else jrem (jdiv x 24) (ν 0 0) : Int))]) (st' := [.inl 0, .inl (if (ν 0 0) = 0 then 0 else (if (ν 0 0) = 0 then 0 else jrem (jdiv x 24) (ν 0 0) : Int) : Int), .inl (jrem (jdiv (jdiv x 24) 7) 4), .inr 0]) rfl ?_
          refine gl_goto dg_act_810 (tgt := 825) (by rfl) ?_
          exact gl_st (by rw [if_neg hc67, if_pos hc68]) hJ66
    refine gl_ops (S := ([], σ)) (S' := ([], σ)) og_act_825_2 (by decide) (L' := [some (.inr 0), some (.inr 1), some (.inl x), some (.inl (jdiv x 24)), some (.inl (if (ν 0 1) = 0 then 0 else jrem (jdiv x 24) (ν 0 1) : Int)), some (.inl (if (ν 0 1) = 0 then 0 else jrem (jdiv (jdiv x 24) 61) (ν 0 1) : Int)), some (.inl (if (ν 0 0) = 0 then 0 else jrem (jdiv x 24) (ν 0 0) : Int))]) (st' := [.inl 3, .inr 1, .inl (if (ν 0 3) ≤ 1 then (-1) else (if (ν 0 0) = 0 then 0 else jrem (jdiv (jdiv x 24) 61) (ν 0 0) : Int) : Int), .inl (if (ν 0 0) = 0 then 0 else (if (ν 0 0) = 0 then 0 else jrem (jdiv x 24) (ν 0 0) : Int) : Int), .inl (jrem (jdiv (jdiv x 24) 7) 4), .inr 0]) rfl ?_
    refine gl_rdx (jn := 1) (ν := ν) (an := an) (x := ν 0 3) dg_act_827 rfl rfl rfl (by decide) (by decide) rfl ?_
    refine gl_ops (S := ([], σ)) (S' := ([], σ)) og_act_828_1 (by decide) (L' := [some (.inr 0), some (.inr 1), some (.inl x), some (.inl (jdiv x 24)), some (.inl (if (ν 0 1) = 0 then 0 else jrem (jdiv x 24) (ν 0 1) : Int)), some (.inl (if (ν 0 1) = 0 then 0 else jrem (jdiv (jdiv x 24) 61) (ν 0 1) : Int)), some (.inl (if (ν 0 0) = 0 then 0 else jrem (jdiv x 24) (ν 0 0) : Int))]) (st' := [.inl 2, .inl (ν 0 3), .inl (if (ν 0 3) ≤ 1 then (-1) else (if (ν 0 0) = 0 then 0 else jrem (jdiv (jdiv x 24) 61) (ν 0 0) : Int) : Int), .inl (if (ν 0 0) = 0 then 0 else (if (ν 0 0) = 0 then 0 else jrem (jdiv x 24) (ν 0 0) : Int) : Int), .inl (jrem (jdiv (jdiv x 24) 7) 4), .inr 0]) rfl ?_
    suffices hJ69 : Gl l m_L_act d 1 [(ax, LAYC), FN an] [a0, an] (some k) [σ', ν] 0 837 [some (.inr 0), some (.inr 1), some (.inl x), some (.inl (jdiv x 24)), some (.inl (if (ν 0 1) = 0 then 0 else jrem (jdiv x 24) (ν 0 1) : Int)), some (.inl (if (ν 0 1) = 0 then 0 else jrem (jdiv (jdiv x 24) 61) (ν 0 1) : Int)), some (.inl (if (ν 0 0) = 0 then 0 else jrem (jdiv x 24) (ν 0 0) : Int))] [.inl (if (ν 0 3) ≤ 2 then (-1) else 0 : Int), .inl (if (ν 0 3) ≤ 1 then (-1) else (if (ν 0 0) = 0 then 0 else jrem (jdiv (jdiv x 24) 61) (ν 0 0) : Int) : Int), .inl (if (ν 0 0) = 0 then 0 else (if (ν 0 0) = 0 then 0 else jrem (jdiv x 24) (ν 0 0) : Int) : Int), .inl (jrem (jdiv (jdiv x 24) 7) 4), .inr 0] [σ, ν] by
      refine gl_icmp_le dg_act_829 (tgt := 836) (by rfl) (fun hc70 => ?_) (fun hc70 => ?_)
      · refine gl_ops (S := ([], σ)) (S' := ([], σ)) og_act_836_1 (by decide) (L' := [some (.inr 0), some (.inr 1), some (.inl x), some (.inl (jdiv x 24)), some (.inl (if (ν 0 1) = 0 then 0 else jrem (jdiv x 24) (ν 0 1) : Int)), some (.inl (if (ν 0 1) = 0 then 0 else jrem (jdiv (jdiv x 24) 61) (ν 0 1) : Int)), some (.inl (if (ν 0 0) = 0 then 0 else jrem (jdiv x 24) (ν 0 0) : Int))]) (st' := [.inl (-1), .inl (if (ν 0 3) ≤ 1 then (-1) else (if (ν 0 0) = 0 then 0 else jrem (jdiv (jdiv x 24) 61) (ν 0 0) : Int) : Int), .inl (if (ν 0 0) = 0 then 0 else (if (ν 0 0) = 0 then 0 else jrem (jdiv x 24) (ν 0 0) : Int) : Int), .inl (jrem (jdiv (jdiv x 24) 7) 4), .inr 0]) rfl ?_
        exact gl_st (by rw [if_pos hc70]) hJ69
      · refine gl_ops (S := ([], σ)) (S' := ([], σ)) og_act_832_1 (by decide) (L' := [some (.inr 0), some (.inr 1), some (.inl x), some (.inl (jdiv x 24)), some (.inl (if (ν 0 1) = 0 then 0 else jrem (jdiv x 24) (ν 0 1) : Int)), some (.inl (if (ν 0 1) = 0 then 0 else jrem (jdiv (jdiv x 24) 61) (ν 0 1) : Int)), some (.inl (if (ν 0 0) = 0 then 0 else jrem (jdiv x 24) (ν 0 0) : Int))]) (st' := [.inl 0, .inl (if (ν 0 3) ≤ 1 then (-1) else (if (ν 0 0) = 0 then 0 else jrem (jdiv (jdiv x 24) 61) (ν 0 0) : Int) : Int), .inl (if (ν 0 0) = 0 then 0 else (if (ν 0 0) = 0 then 0 else jrem (jdiv x 24) (ν 0 0) : Int) : Int), .inl (jrem (jdiv (jdiv x 24) 7) 4), .inr 0]) rfl ?_
        refine gl_goto dg_act_833 (tgt := 837) (by rfl) ?_
        exact gl_st (by rw [if_neg hc70]) hJ69
    obtain ⟨q, hq1, hq2, hq3⟩ := wrq_inv hA
    subst hq3
    refine h2_run hl hax dg_act_837 (by omega) (by decide) (Nat.le_of_ble_eq_true rfl) hq1 hq2 ?_ _ rfl
    exact gl_iret (by decide) dg_act_840 rfl)
