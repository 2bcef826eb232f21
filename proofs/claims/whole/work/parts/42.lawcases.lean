/-! THE LAW, case by case: both sides are called with the same numbers, and answer alike (laid by program) -/
theorem wm_282 : Cond.methodLink "RoadLinksLaw" 13 ⟨"RoadLinks", "posts", "(I)I"⟩ ∈ Wd := Wd_mem 282 (by decide +kernel) (by decide +kernel)
theorem wm_290 : Cond.methodLink "RoadLinksLaw" 18 ⟨"RoadLinks", "road", "(III)I"⟩ ∈ Wd := Wd_mem 290 (by decide +kernel) (by decide +kernel)
theorem wm_302 : Cond.methodLink "RoadLinksLaw" 23 ⟨"RoadLinks", "isRoad", "(II)I"⟩ ∈ Wd := Wd_mem 302 (by decide +kernel) (by decide +kernel)
theorem wm_303 : Cond.instanceMethod ⟨"RoadLinks", "isRoad", "(II)I"⟩ ∈ Wd := Wd_mem 303 (by decide +kernel) (by decide +kernel)
theorem wm_304 : Cond.selects "RoadLinks" ⟨"RoadLinks", "isRoad", "(II)I"⟩ ⟨"RoadLinks", "isRoad", "(II)I"⟩ ∈ Wd := Wd_mem 304 (by decide +kernel) (by decide +kernel)
theorem wm_305 : Cond.code ⟨"RoadLinks", "isRoad", "(II)I"⟩ prog_1_method_4_code 3 (Option.some FieldType.int) ∈ Wd := Wd_mem 305 (by decide +kernel) (by decide +kernel)
theorem wm_306 : Cond.methodLink "RoadLinksLaw" 28 ⟨"RoadLinks", "targets", "(I)I"⟩ ∈ Wd := Wd_mem 306 (by decide +kernel) (by decide +kernel)
theorem wm_322 : Cond.methodLink "RoadLinksLaw" 32 ⟨"RoadLinks", "weigh", "(II)I"⟩ ∈ Wd := Wd_mem 322 (by decide +kernel) (by decide +kernel)
theorem wm_330 : Cond.methodLink "RoadLinksLaw" 36 ⟨"RoadLinks", "add", "(I)I"⟩ ∈ Wd := Wd_mem 330 (by decide +kernel) (by decide +kernel)
theorem wm_338 : Cond.methodLink "RoadLinksLaw" 40 ⟨"RoadLinks", "change", "(II)I"⟩ ∈ Wd := Wd_mem 338 (by decide +kernel) (by decide +kernel)
theorem wm_339 : Cond.instanceMethod ⟨"RoadLinks", "change", "(II)I"⟩ ∈ Wd := Wd_mem 339 (by decide +kernel) (by decide +kernel)
theorem wm_340 : Cond.selects "RoadLinks" ⟨"RoadLinks", "change", "(II)I"⟩ ⟨"RoadLinks", "change", "(II)I"⟩ ∈ Wd := Wd_mem 340 (by decide +kernel) (by decide +kernel)
theorem wm_341 : Cond.code ⟨"RoadLinks", "change", "(II)I"⟩ prog_1_method_8_code 4 (Option.some FieldType.int) ∈ Wd := Wd_mem 341 (by decide +kernel) (by decide +kernel)
theorem wm_350 : Cond.methodLink "RoadLinksLaw" 44 ⟨"RoadLinks", "drop", "(I)I"⟩ ∈ Wd := Wd_mem 350 (by decide +kernel) (by decide +kernel)
theorem wm_351 : Cond.instanceMethod ⟨"RoadLinks", "drop", "(I)I"⟩ ∈ Wd := Wd_mem 351 (by decide +kernel) (by decide +kernel)
theorem wm_352 : Cond.selects "RoadLinks" ⟨"RoadLinks", "drop", "(I)I"⟩ ⟨"RoadLinks", "drop", "(I)I"⟩ ∈ Wd := Wd_mem 352 (by decide +kernel) (by decide +kernel)
theorem wm_353 : Cond.code ⟨"RoadLinks", "drop", "(I)I"⟩ prog_1_method_9_code 2 (Option.some FieldType.int) ∈ Wd := Wd_mem 353 (by decide +kernel) (by decide +kernel)
theorem wm_358 : Cond.methodLink "RoadLinksLaw" 48 ⟨"RoadLinks", "set", "(I)I"⟩ ∈ Wd := Wd_mem 358 (by decide +kernel) (by decide +kernel)
theorem wm_359 : Cond.instanceMethod ⟨"RoadLinks", "set", "(I)I"⟩ ∈ Wd := Wd_mem 359 (by decide +kernel) (by decide +kernel)
theorem wm_360 : Cond.selects "RoadLinks" ⟨"RoadLinks", "set", "(I)I"⟩ ⟨"RoadLinks", "set", "(I)I"⟩ ∈ Wd := Wd_mem 360 (by decide +kernel) (by decide +kernel)
theorem wm_361 : Cond.code ⟨"RoadLinks", "set", "(I)I"⟩ prog_1_method_10_code 2 (Option.some FieldType.int) ∈ Wd := Wd_mem 361 (by decide +kernel) (by decide +kernel)
theorem wm_362 : Cond.methodLink "RoadLinksLaw" 52 ⟨"RoadLinks", "rank", "(II)I"⟩ ∈ Wd := Wd_mem 362 (by decide +kernel) (by decide +kernel)
theorem wm_363 : Cond.instanceMethod ⟨"RoadLinks", "rank", "(II)I"⟩ ∈ Wd := Wd_mem 363 (by decide +kernel) (by decide +kernel)
theorem wm_364 : Cond.selects "RoadLinks" ⟨"RoadLinks", "rank", "(II)I"⟩ ⟨"RoadLinks", "rank", "(II)I"⟩ ∈ Wd := Wd_mem 364 (by decide +kernel) (by decide +kernel)
theorem wm_365 : Cond.code ⟨"RoadLinks", "rank", "(II)I"⟩ prog_1_method_11_code 3 (Option.some FieldType.int) ∈ Wd := Wd_mem 365 (by decide +kernel) (by decide +kernel)
theorem wm_421 : Cond.methodLink "RoadLinksLaw" 56 ⟨"RoadLinks", "free", "(II)I"⟩ ∈ Wd := Wd_mem 421 (by decide +kernel) (by decide +kernel)
theorem wm_422 : Cond.instanceMethod ⟨"RoadLinks", "free", "(II)I"⟩ ∈ Wd := Wd_mem 422 (by decide +kernel) (by decide +kernel)
theorem wm_423 : Cond.selects "RoadLinks" ⟨"RoadLinks", "free", "(II)I"⟩ ⟨"RoadLinks", "free", "(II)I"⟩ ∈ Wd := Wd_mem 423 (by decide +kernel) (by decide +kernel)
theorem wm_424 : Cond.code ⟨"RoadLinks", "free", "(II)I"⟩ prog_1_method_12_code 3 (Option.some FieldType.int) ∈ Wd := Wd_mem 424 (by decide +kernel) (by decide +kernel)
theorem wm_430 : Cond.methodLink "RoadLinksLaw" 60 ⟨"RoadLinks", "base", "(II)I"⟩ ∈ Wd := Wd_mem 430 (by decide +kernel) (by decide +kernel)
theorem wm_431 : Cond.instanceMethod ⟨"RoadLinks", "base", "(II)I"⟩ ∈ Wd := Wd_mem 431 (by decide +kernel) (by decide +kernel)
theorem wm_432 : Cond.selects "RoadLinks" ⟨"RoadLinks", "base", "(II)I"⟩ ⟨"RoadLinks", "base", "(II)I"⟩ ∈ Wd := Wd_mem 432 (by decide +kernel) (by decide +kernel)
theorem wm_433 : Cond.code ⟨"RoadLinks", "base", "(II)I"⟩ prog_1_method_13_code 3 (Option.some FieldType.int) ∈ Wd := Wd_mem 433 (by decide +kernel) (by decide +kernel)
theorem wm_456 : Cond.methodLink "RoadLinksLaw" 64 ⟨"RoadLinks", "circuit", "(II)I"⟩ ∈ Wd := Wd_mem 456 (by decide +kernel) (by decide +kernel)
theorem wm_457 : Cond.instanceMethod ⟨"RoadLinks", "circuit", "(II)I"⟩ ∈ Wd := Wd_mem 457 (by decide +kernel) (by decide +kernel)
theorem wm_458 : Cond.selects "RoadLinks" ⟨"RoadLinks", "circuit", "(II)I"⟩ ⟨"RoadLinks", "circuit", "(II)I"⟩ ∈ Wd := Wd_mem 458 (by decide +kernel) (by decide +kernel)
theorem wm_459 : Cond.code ⟨"RoadLinks", "circuit", "(II)I"⟩ prog_1_method_14_code 3 (Option.some FieldType.int) ∈ Wd := Wd_mem 459 (by decide +kernel) (by decide +kernel)
theorem wm_460 : Cond.methodLink "RoadLinksLaw" 68 ⟨"RoadLinks", "flat", "(II)I"⟩ ∈ Wd := Wd_mem 460 (by decide +kernel) (by decide +kernel)
theorem wm_461 : Cond.instanceMethod ⟨"RoadLinks", "flat", "(II)I"⟩ ∈ Wd := Wd_mem 461 (by decide +kernel) (by decide +kernel)
theorem wm_462 : Cond.selects "RoadLinks" ⟨"RoadLinks", "flat", "(II)I"⟩ ⟨"RoadLinks", "flat", "(II)I"⟩ ∈ Wd := Wd_mem 462 (by decide +kernel) (by decide +kernel)
theorem wm_463 : Cond.code ⟨"RoadLinks", "flat", "(II)I"⟩ prog_1_method_15_code 3 (Option.some FieldType.int) ∈ Wd := Wd_mem 463 (by decide +kernel) (by decide +kernel)
theorem wm_464 : Cond.methodLink "RoadLinksLaw" 72 ⟨"RoadLinks", "shut", "(II)I"⟩ ∈ Wd := Wd_mem 464 (by decide +kernel) (by decide +kernel)
theorem wm_465 : Cond.instanceMethod ⟨"RoadLinks", "shut", "(II)I"⟩ ∈ Wd := Wd_mem 465 (by decide +kernel) (by decide +kernel)
theorem wm_466 : Cond.selects "RoadLinks" ⟨"RoadLinks", "shut", "(II)I"⟩ ⟨"RoadLinks", "shut", "(II)I"⟩ ∈ Wd := Wd_mem 466 (by decide +kernel) (by decide +kernel)
theorem wm_467 : Cond.code ⟨"RoadLinks", "shut", "(II)I"⟩ prog_1_method_16_code 3 (Option.some FieldType.int) ∈ Wd := Wd_mem 467 (by decide +kernel) (by decide +kernel)
theorem wm_469 : Cond.methodLink "RoadLinksLaw" 76 ⟨"RoadLinks", "loops", "(II)I"⟩ ∈ Wd := Wd_mem 469 (by decide +kernel) (by decide +kernel)
theorem wm_470 : Cond.instanceMethod ⟨"RoadLinks", "loops", "(II)I"⟩ ∈ Wd := Wd_mem 470 (by decide +kernel) (by decide +kernel)
theorem wm_471 : Cond.selects "RoadLinks" ⟨"RoadLinks", "loops", "(II)I"⟩ ⟨"RoadLinks", "loops", "(II)I"⟩ ∈ Wd := Wd_mem 471 (by decide +kernel) (by decide +kernel)
theorem wm_472 : Cond.code ⟨"RoadLinks", "loops", "(II)I"⟩ prog_1_method_17_code 4 (Option.some FieldType.int) ∈ Wd := Wd_mem 472 (by decide +kernel) (by decide +kernel)
theorem wm_480 : Cond.methodLink "RoadLinksLaw" 80 ⟨"RoadLinks", "round", "(III)I"⟩ ∈ Wd := Wd_mem 480 (by decide +kernel) (by decide +kernel)
theorem wm_481 : Cond.instanceMethod ⟨"RoadLinks", "round", "(III)I"⟩ ∈ Wd := Wd_mem 481 (by decide +kernel) (by decide +kernel)
theorem wm_482 : Cond.selects "RoadLinks" ⟨"RoadLinks", "round", "(III)I"⟩ ⟨"RoadLinks", "round", "(III)I"⟩ ∈ Wd := Wd_mem 482 (by decide +kernel) (by decide +kernel)
theorem wm_483 : Cond.code ⟨"RoadLinks", "round", "(III)I"⟩ prog_1_method_18_code 5 (Option.some FieldType.int) ∈ Wd := Wd_mem 483 (by decide +kernel) (by decide +kernel)
theorem wm_490 : Cond.methodLink "RoadLinksLaw" 84 ⟨"RoadLinks", "swap", "(IIII)I"⟩ ∈ Wd := Wd_mem 490 (by decide +kernel) (by decide +kernel)
theorem wm_491 : Cond.instanceMethod ⟨"RoadLinks", "swap", "(IIII)I"⟩ ∈ Wd := Wd_mem 491 (by decide +kernel) (by decide +kernel)
theorem wm_492 : Cond.selects "RoadLinks" ⟨"RoadLinks", "swap", "(IIII)I"⟩ ⟨"RoadLinks", "swap", "(IIII)I"⟩ ∈ Wd := Wd_mem 492 (by decide +kernel) (by decide +kernel)
theorem wm_493 : Cond.code ⟨"RoadLinks", "swap", "(IIII)I"⟩ prog_1_method_19_code 6 (Option.some FieldType.int) ∈ Wd := Wd_mem 493 (by decide +kernel) (by decide +kernel)
theorem wm_498 : Cond.methodLink "RoadLinksLaw" 89 ⟨"RoadLinks", "steps", "(I)I"⟩ ∈ Wd := Wd_mem 498 (by decide +kernel) (by decide +kernel)
theorem wm_499 : Cond.instanceMethod ⟨"RoadLinks", "steps", "(I)I"⟩ ∈ Wd := Wd_mem 499 (by decide +kernel) (by decide +kernel)
theorem wm_500 : Cond.selects "RoadLinks" ⟨"RoadLinks", "steps", "(I)I"⟩ ⟨"RoadLinks", "steps", "(I)I"⟩ ∈ Wd := Wd_mem 500 (by decide +kernel) (by decide +kernel)
theorem wm_501 : Cond.code ⟨"RoadLinks", "steps", "(I)I"⟩ prog_1_method_20_code 6 (Option.some FieldType.int) ∈ Wd := Wd_mem 501 (by decide +kernel) (by decide +kernel)
theorem wm_506 : Cond.methodLink "RoadLinksLaw" 93 ⟨"RoadLinks", "less", "(IIII)I"⟩ ∈ Wd := Wd_mem 506 (by decide +kernel) (by decide +kernel)
theorem wm_507 : Cond.instanceMethod ⟨"RoadLinks", "less", "(IIII)I"⟩ ∈ Wd := Wd_mem 507 (by decide +kernel) (by decide +kernel)
theorem wm_508 : Cond.selects "RoadLinks" ⟨"RoadLinks", "less", "(IIII)I"⟩ ⟨"RoadLinks", "less", "(IIII)I"⟩ ∈ Wd := Wd_mem 508 (by decide +kernel) (by decide +kernel)
theorem wm_509 : Cond.code ⟨"RoadLinks", "less", "(IIII)I"⟩ prog_1_method_21_code 6 (Option.some FieldType.int) ∈ Wd := Wd_mem 509 (by decide +kernel) (by decide +kernel)
theorem wm_510 : Cond.methodLink "RoadLinksLaw" 97 ⟨"RoadLinks", "heaviest", "(II)I"⟩ ∈ Wd := Wd_mem 510 (by decide +kernel) (by decide +kernel)
theorem wm_511 : Cond.instanceMethod ⟨"RoadLinks", "heaviest", "(II)I"⟩ ∈ Wd := Wd_mem 511 (by decide +kernel) (by decide +kernel)
theorem wm_512 : Cond.selects "RoadLinks" ⟨"RoadLinks", "heaviest", "(II)I"⟩ ⟨"RoadLinks", "heaviest", "(II)I"⟩ ∈ Wd := Wd_mem 512 (by decide +kernel) (by decide +kernel)
theorem wm_513 : Cond.code ⟨"RoadLinks", "heaviest", "(II)I"⟩ prog_1_method_22_code 8 (Option.some FieldType.int) ∈ Wd := Wd_mem 513 (by decide +kernel) (by decide +kernel)
theorem wm_519 : Cond.methodLink "RoadLinksLaw" 101 ⟨"RoadLinks", "alike", "(II)I"⟩ ∈ Wd := Wd_mem 519 (by decide +kernel) (by decide +kernel)
theorem wm_520 : Cond.instanceMethod ⟨"RoadLinks", "alike", "(II)I"⟩ ∈ Wd := Wd_mem 520 (by decide +kernel) (by decide +kernel)
theorem wm_521 : Cond.selects "RoadLinks" ⟨"RoadLinks", "alike", "(II)I"⟩ ⟨"RoadLinks", "alike", "(II)I"⟩ ∈ Wd := Wd_mem 521 (by decide +kernel) (by decide +kernel)
theorem wm_522 : Cond.code ⟨"RoadLinks", "alike", "(II)I"⟩ prog_1_method_23_code 6 (Option.some FieldType.int) ∈ Wd := Wd_mem 522 (by decide +kernel) (by decide +kernel)
theorem wm_523 : Cond.methodLink "RoadLinksLaw" 105 ⟨"RoadLinks", "cut", "(I)I"⟩ ∈ Wd := Wd_mem 523 (by decide +kernel) (by decide +kernel)
theorem wm_524 : Cond.instanceMethod ⟨"RoadLinks", "cut", "(I)I"⟩ ∈ Wd := Wd_mem 524 (by decide +kernel) (by decide +kernel)
theorem wm_525 : Cond.selects "RoadLinks" ⟨"RoadLinks", "cut", "(I)I"⟩ ⟨"RoadLinks", "cut", "(I)I"⟩ ∈ Wd := Wd_mem 525 (by decide +kernel) (by decide +kernel)
theorem wm_526 : Cond.code ⟨"RoadLinks", "cut", "(I)I"⟩ prog_1_method_24_code 5 (Option.some FieldType.int) ∈ Wd := Wd_mem 526 (by decide +kernel) (by decide +kernel)
theorem wm_536 : Cond.methodLink "RoadLinksLaw" 109 ⟨"RoadLinks", "reach", "(I)I"⟩ ∈ Wd := Wd_mem 536 (by decide +kernel) (by decide +kernel)
theorem wm_537 : Cond.instanceMethod ⟨"RoadLinks", "reach", "(I)I"⟩ ∈ Wd := Wd_mem 537 (by decide +kernel) (by decide +kernel)
theorem wm_538 : Cond.selects "RoadLinks" ⟨"RoadLinks", "reach", "(I)I"⟩ ⟨"RoadLinks", "reach", "(I)I"⟩ ∈ Wd := Wd_mem 538 (by decide +kernel) (by decide +kernel)
theorem wm_539 : Cond.code ⟨"RoadLinks", "reach", "(I)I"⟩ prog_1_method_25_code 2 (Option.some FieldType.int) ∈ Wd := Wd_mem 539 (by decide +kernel) (by decide +kernel)
theorem wm_541 : Cond.methodLink "RoadLinksLaw" 113 ⟨"RoadLinks", "partners", "(I)I"⟩ ∈ Wd := Wd_mem 541 (by decide +kernel) (by decide +kernel)
theorem wm_542 : Cond.instanceMethod ⟨"RoadLinks", "partners", "(I)I"⟩ ∈ Wd := Wd_mem 542 (by decide +kernel) (by decide +kernel)
theorem wm_543 : Cond.selects "RoadLinks" ⟨"RoadLinks", "partners", "(I)I"⟩ ⟨"RoadLinks", "partners", "(I)I"⟩ ∈ Wd := Wd_mem 543 (by decide +kernel) (by decide +kernel)
theorem wm_544 : Cond.code ⟨"RoadLinks", "partners", "(I)I"⟩ prog_1_method_26_code 4 (Option.some FieldType.int) ∈ Wd := Wd_mem 544 (by decide +kernel) (by decide +kernel)
theorem wm_567 : Cond.methodLink "RoadLinksLaw" 117 ⟨"RoadLinks", "turned", "()I"⟩ ∈ Wd := Wd_mem 567 (by decide +kernel) (by decide +kernel)
theorem wm_568 : Cond.instanceMethod ⟨"RoadLinks", "turned", "()I"⟩ ∈ Wd := Wd_mem 568 (by decide +kernel) (by decide +kernel)
theorem wm_569 : Cond.selects "RoadLinks" ⟨"RoadLinks", "turned", "()I"⟩ ⟨"RoadLinks", "turned", "()I"⟩ ∈ Wd := Wd_mem 569 (by decide +kernel) (by decide +kernel)
theorem wm_570 : Cond.code ⟨"RoadLinks", "turned", "()I"⟩ prog_1_method_27_code 1 (Option.some FieldType.int) ∈ Wd := Wd_mem 570 (by decide +kernel) (by decide +kernel)
theorem wm_576 : Cond.methodLink "RoadLinksLaw" 122 ⟨"RoadLinks", "strict", "()I"⟩ ∈ Wd := Wd_mem 576 (by decide +kernel) (by decide +kernel)
theorem wm_577 : Cond.instanceMethod ⟨"RoadLinks", "strict", "()I"⟩ ∈ Wd := Wd_mem 577 (by decide +kernel) (by decide +kernel)
theorem wm_578 : Cond.selects "RoadLinks" ⟨"RoadLinks", "strict", "()I"⟩ ⟨"RoadLinks", "strict", "()I"⟩ ∈ Wd := Wd_mem 578 (by decide +kernel) (by decide +kernel)
theorem wm_579 : Cond.code ⟨"RoadLinks", "strict", "()I"⟩ prog_1_method_28_code 2 (Option.some FieldType.int) ∈ Wd := Wd_mem 579 (by decide +kernel) (by decide +kernel)
theorem wm_589 : Cond.methodLink "RoadLinksLaw" 126 ⟨"RoadLinks", "spare", "(I)I"⟩ ∈ Wd := Wd_mem 589 (by decide +kernel) (by decide +kernel)
theorem wm_590 : Cond.instanceMethod ⟨"RoadLinks", "spare", "(I)I"⟩ ∈ Wd := Wd_mem 590 (by decide +kernel) (by decide +kernel)
theorem wm_591 : Cond.selects "RoadLinks" ⟨"RoadLinks", "spare", "(I)I"⟩ ⟨"RoadLinks", "spare", "(I)I"⟩ ∈ Wd := Wd_mem 591 (by decide +kernel) (by decide +kernel)
theorem wm_592 : Cond.code ⟨"RoadLinks", "spare", "(I)I"⟩ prog_1_method_29_code 2 (Option.some FieldType.int) ∈ Wd := Wd_mem 592 (by decide +kernel) (by decide +kernel)
theorem wm_605 : Cond.methodLink "RoadLinksLaw" 130 ⟨"RoadLinks", "room", "(I)I"⟩ ∈ Wd := Wd_mem 605 (by decide +kernel) (by decide +kernel)
theorem wm_606 : Cond.instanceMethod ⟨"RoadLinks", "room", "(I)I"⟩ ∈ Wd := Wd_mem 606 (by decide +kernel) (by decide +kernel)
theorem wm_607 : Cond.selects "RoadLinks" ⟨"RoadLinks", "room", "(I)I"⟩ ⟨"RoadLinks", "room", "(I)I"⟩ ∈ Wd := Wd_mem 607 (by decide +kernel) (by decide +kernel)
theorem wm_608 : Cond.code ⟨"RoadLinks", "room", "(I)I"⟩ prog_1_method_30_code 2 (Option.some FieldType.int) ∈ Wd := Wd_mem 608 (by decide +kernel) (by decide +kernel)
theorem wm_609 : Cond.methodLink "RoadLinksLaw" 134 ⟨"RoadLinks", "idle", "()I"⟩ ∈ Wd := Wd_mem 609 (by decide +kernel) (by decide +kernel)
theorem wm_610 : Cond.instanceMethod ⟨"RoadLinks", "idle", "()I"⟩ ∈ Wd := Wd_mem 610 (by decide +kernel) (by decide +kernel)
theorem wm_611 : Cond.selects "RoadLinks" ⟨"RoadLinks", "idle", "()I"⟩ ⟨"RoadLinks", "idle", "()I"⟩ ∈ Wd := Wd_mem 611 (by decide +kernel) (by decide +kernel)
theorem wm_612 : Cond.code ⟨"RoadLinks", "idle", "()I"⟩ prog_1_method_31_code 4 (Option.some FieldType.int) ∈ Wd := Wd_mem 612 (by decide +kernel) (by decide +kernel)
theorem wm_613 : Cond.methodLink "RoadLinksLaw" 138 ⟨"RoadLinks", "small", "()I"⟩ ∈ Wd := Wd_mem 613 (by decide +kernel) (by decide +kernel)
theorem wm_614 : Cond.instanceMethod ⟨"RoadLinks", "small", "()I"⟩ ∈ Wd := Wd_mem 614 (by decide +kernel) (by decide +kernel)
theorem wm_615 : Cond.selects "RoadLinks" ⟨"RoadLinks", "small", "()I"⟩ ⟨"RoadLinks", "small", "()I"⟩ ∈ Wd := Wd_mem 615 (by decide +kernel) (by decide +kernel)
theorem wm_616 : Cond.code ⟨"RoadLinks", "small", "()I"⟩ prog_1_method_32_code 6 (Option.some FieldType.int) ∈ Wd := Wd_mem 616 (by decide +kernel) (by decide +kernel)
theorem wm_621 : Cond.methodLink "RoadLinksLaw" 142 ⟨"RoadLinks", "row", "(II)I"⟩ ∈ Wd := Wd_mem 621 (by decide +kernel) (by decide +kernel)
theorem wm_622 : Cond.instanceMethod ⟨"RoadLinks", "row", "(II)I"⟩ ∈ Wd := Wd_mem 622 (by decide +kernel) (by decide +kernel)
theorem wm_623 : Cond.selects "RoadLinks" ⟨"RoadLinks", "row", "(II)I"⟩ ⟨"RoadLinks", "row", "(II)I"⟩ ∈ Wd := Wd_mem 623 (by decide +kernel) (by decide +kernel)
theorem wm_624 : Cond.code ⟨"RoadLinks", "row", "(II)I"⟩ prog_1_method_33_code 4 (Option.some FieldType.int) ∈ Wd := Wd_mem 624 (by decide +kernel) (by decide +kernel)
theorem wm_628 : Cond.methodLink "RoadLinksLaw" 146 ⟨"RoadLinks", "lose", "(I)I"⟩ ∈ Wd := Wd_mem 628 (by decide +kernel) (by decide +kernel)
theorem wm_629 : Cond.instanceMethod ⟨"RoadLinks", "lose", "(I)I"⟩ ∈ Wd := Wd_mem 629 (by decide +kernel) (by decide +kernel)
theorem wm_630 : Cond.selects "RoadLinks" ⟨"RoadLinks", "lose", "(I)I"⟩ ⟨"RoadLinks", "lose", "(I)I"⟩ ∈ Wd := Wd_mem 630 (by decide +kernel) (by decide +kernel)
theorem wm_631 : Cond.code ⟨"RoadLinks", "lose", "(I)I"⟩ prog_1_method_34_code 3 (Option.some FieldType.int) ∈ Wd := Wd_mem 631 (by decide +kernel) (by decide +kernel)
theorem wm_636 : Cond.methodLink "RoadLinksLaw" 150 ⟨"RoadLinks", "put", "(III)I"⟩ ∈ Wd := Wd_mem 636 (by decide +kernel) (by decide +kernel)
theorem wm_637 : Cond.instanceMethod ⟨"RoadLinks", "put", "(III)I"⟩ ∈ Wd := Wd_mem 637 (by decide +kernel) (by decide +kernel)
theorem wm_638 : Cond.selects "RoadLinks" ⟨"RoadLinks", "put", "(III)I"⟩ ⟨"RoadLinks", "put", "(III)I"⟩ ∈ Wd := Wd_mem 638 (by decide +kernel) (by decide +kernel)
theorem wm_639 : Cond.code ⟨"RoadLinks", "put", "(III)I"⟩ prog_1_method_35_code 4 (Option.some FieldType.int) ∈ Wd := Wd_mem 639 (by decide +kernel) (by decide +kernel)
theorem wm_640 : Cond.methodLink "RoadLinksLaw" 154 ⟨"RoadLinks", "get", "(II)J"⟩ ∈ Wd := Wd_mem 640 (by decide +kernel) (by decide +kernel)
theorem wm_641 : Cond.instanceMethod ⟨"RoadLinks", "get", "(II)J"⟩ ∈ Wd := Wd_mem 641 (by decide +kernel) (by decide +kernel)
theorem wm_642 : Cond.selects "RoadLinks" ⟨"RoadLinks", "get", "(II)J"⟩ ⟨"RoadLinks", "get", "(II)J"⟩ ∈ Wd := Wd_mem 642 (by decide +kernel) (by decide +kernel)
theorem wm_643 : Cond.code ⟨"RoadLinks", "get", "(II)J"⟩ prog_1_method_36_code 3 (Option.some FieldType.long) ∈ Wd := Wd_mem 643 (by decide +kernel) (by decide +kernel)
theorem wm_645 : Cond.methodLink "RoadLinksLaw" 159 ⟨"RoadLinks", "copy", "(IIIII)I"⟩ ∈ Wd := Wd_mem 645 (by decide +kernel) (by decide +kernel)
theorem wm_646 : Cond.instanceMethod ⟨"RoadLinks", "copy", "(IIIII)I"⟩ ∈ Wd := Wd_mem 646 (by decide +kernel) (by decide +kernel)
theorem wm_647 : Cond.selects "RoadLinks" ⟨"RoadLinks", "copy", "(IIIII)I"⟩ ⟨"RoadLinks", "copy", "(IIIII)I"⟩ ∈ Wd := Wd_mem 647 (by decide +kernel) (by decide +kernel)
theorem wm_648 : Cond.code ⟨"RoadLinks", "copy", "(IIIII)I"⟩ prog_1_method_37_code 6 (Option.some FieldType.int) ∈ Wd := Wd_mem 648 (by decide +kernel) (by decide +kernel)
theorem wm_652 : Cond.methodLink "RoadLinksLaw" 164 ⟨"RoadLinks", "film", "(IIII)I"⟩ ∈ Wd := Wd_mem 652 (by decide +kernel) (by decide +kernel)
theorem wm_653 : Cond.instanceMethod ⟨"RoadLinks", "film", "(IIII)I"⟩ ∈ Wd := Wd_mem 653 (by decide +kernel) (by decide +kernel)
theorem wm_654 : Cond.selects "RoadLinks" ⟨"RoadLinks", "film", "(IIII)I"⟩ ⟨"RoadLinks", "film", "(IIII)I"⟩ ∈ Wd := Wd_mem 654 (by decide +kernel) (by decide +kernel)
theorem wm_655 : Cond.code ⟨"RoadLinks", "film", "(IIII)I"⟩ prog_1_method_38_code 8 (Option.some FieldType.int) ∈ Wd := Wd_mem 655 (by decide +kernel) (by decide +kernel)
theorem wm_659 : Cond.methodLink "RoadLinksLaw" 168 ⟨"RoadLinks", "judge", "(III)I"⟩ ∈ Wd := Wd_mem 659 (by decide +kernel) (by decide +kernel)
theorem wm_660 : Cond.instanceMethod ⟨"RoadLinks", "judge", "(III)I"⟩ ∈ Wd := Wd_mem 660 (by decide +kernel) (by decide +kernel)
theorem wm_661 : Cond.selects "RoadLinks" ⟨"RoadLinks", "judge", "(III)I"⟩ ⟨"RoadLinks", "judge", "(III)I"⟩ ∈ Wd := Wd_mem 661 (by decide +kernel) (by decide +kernel)
theorem wm_662 : Cond.code ⟨"RoadLinks", "judge", "(III)I"⟩ prog_1_method_39_code 6 (Option.some FieldType.int) ∈ Wd := Wd_mem 662 (by decide +kernel) (by decide +kernel)
theorem wm_663 : Cond.methodLink "RoadLinksLaw" 172 ⟨"RoadLinks", "feed", "(I)I"⟩ ∈ Wd := Wd_mem 663 (by decide +kernel) (by decide +kernel)
theorem wm_664 : Cond.instanceMethod ⟨"RoadLinks", "feed", "(I)I"⟩ ∈ Wd := Wd_mem 664 (by decide +kernel) (by decide +kernel)
theorem wm_665 : Cond.selects "RoadLinks" ⟨"RoadLinks", "feed", "(I)I"⟩ ⟨"RoadLinks", "feed", "(I)I"⟩ ∈ Wd := Wd_mem 665 (by decide +kernel) (by decide +kernel)
theorem wm_666 : Cond.code ⟨"RoadLinks", "feed", "(I)I"⟩ prog_1_method_40_code 2 (Option.some FieldType.int) ∈ Wd := Wd_mem 666 (by decide +kernel) (by decide +kernel)
theorem wm_667 : Cond.methodLink "RoadLinksLaw" 176 ⟨"RoadLinks", "wipe", "()I"⟩ ∈ Wd := Wd_mem 667 (by decide +kernel) (by decide +kernel)
theorem wm_668 : Cond.instanceMethod ⟨"RoadLinks", "wipe", "()I"⟩ ∈ Wd := Wd_mem 668 (by decide +kernel) (by decide +kernel)
theorem wm_669 : Cond.selects "RoadLinks" ⟨"RoadLinks", "wipe", "()I"⟩ ⟨"RoadLinks", "wipe", "()I"⟩ ∈ Wd := Wd_mem 669 (by decide +kernel) (by decide +kernel)
theorem wm_670 : Cond.code ⟨"RoadLinks", "wipe", "()I"⟩ prog_1_method_41_code 2 (Option.some FieldType.int) ∈ Wd := Wd_mem 670 (by decide +kernel) (by decide +kernel)
theorem wm_671 : Cond.methodLink "RoadLinksLaw" 180 ⟨"RoadLinks", "read", "()I"⟩ ∈ Wd := Wd_mem 671 (by decide +kernel) (by decide +kernel)
theorem wm_672 : Cond.instanceMethod ⟨"RoadLinks", "read", "()I"⟩ ∈ Wd := Wd_mem 672 (by decide +kernel) (by decide +kernel)
theorem wm_673 : Cond.selects "RoadLinks" ⟨"RoadLinks", "read", "()I"⟩ ⟨"RoadLinks", "read", "()I"⟩ ∈ Wd := Wd_mem 673 (by decide +kernel) (by decide +kernel)
theorem wm_674 : Cond.code ⟨"RoadLinks", "read", "()I"⟩ prog_1_method_42_code 3 (Option.some FieldType.int) ∈ Wd := Wd_mem 674 (by decide +kernel) (by decide +kernel)
theorem wm_782 : Cond.methodLink "RoadLinksLaw" 184 ⟨"RoadLinks", "spelled", "(I)I"⟩ ∈ Wd := Wd_mem 782 (by decide +kernel) (by decide +kernel)
theorem wm_783 : Cond.instanceMethod ⟨"RoadLinks", "spelled", "(I)I"⟩ ∈ Wd := Wd_mem 783 (by decide +kernel) (by decide +kernel)
theorem wm_784 : Cond.selects "RoadLinks" ⟨"RoadLinks", "spelled", "(I)I"⟩ ⟨"RoadLinks", "spelled", "(I)I"⟩ ∈ Wd := Wd_mem 784 (by decide +kernel) (by decide +kernel)
theorem wm_785 : Cond.code ⟨"RoadLinks", "spelled", "(I)I"⟩ prog_1_method_43_code 2 (Option.some FieldType.int) ∈ Wd := Wd_mem 785 (by decide +kernel) (by decide +kernel)
theorem wm_827 : Cond.methodLink "RoadLinksLaw" 188 ⟨"RoadLinks", "image", "()I"⟩ ∈ Wd := Wd_mem 827 (by decide +kernel) (by decide +kernel)
theorem wm_828 : Cond.instanceMethod ⟨"RoadLinks", "image", "()I"⟩ ∈ Wd := Wd_mem 828 (by decide +kernel) (by decide +kernel)
theorem wm_829 : Cond.selects "RoadLinks" ⟨"RoadLinks", "image", "()I"⟩ ⟨"RoadLinks", "image", "()I"⟩ ∈ Wd := Wd_mem 829 (by decide +kernel) (by decide +kernel)
theorem wm_830 : Cond.code ⟨"RoadLinks", "image", "()I"⟩ prog_1_method_44_code 1 (Option.some FieldType.int) ∈ Wd := Wd_mem 830 (by decide +kernel) (by decide +kernel)
theorem wm_836 : Cond.methodLink "RoadLinksLaw" 192 ⟨"RoadLinks", "undo", "()I"⟩ ∈ Wd := Wd_mem 836 (by decide +kernel) (by decide +kernel)
theorem wm_837 : Cond.instanceMethod ⟨"RoadLinks", "undo", "()I"⟩ ∈ Wd := Wd_mem 837 (by decide +kernel) (by decide +kernel)
theorem wm_838 : Cond.selects "RoadLinks" ⟨"RoadLinks", "undo", "()I"⟩ ⟨"RoadLinks", "undo", "()I"⟩ ∈ Wd := Wd_mem 838 (by decide +kernel) (by decide +kernel)
theorem wm_839 : Cond.code ⟨"RoadLinks", "undo", "()I"⟩ prog_1_method_45_code 1 (Option.some FieldType.int) ∈ Wd := Wd_mem 839 (by decide +kernel) (by decide +kernel)
theorem wm_840 : Cond.methodLink "RoadLinksLaw" 196 ⟨"RoadLinks", "count", "(I)I"⟩ ∈ Wd := Wd_mem 840 (by decide +kernel) (by decide +kernel)
theorem wm_841 : Cond.instanceMethod ⟨"RoadLinks", "count", "(I)I"⟩ ∈ Wd := Wd_mem 841 (by decide +kernel) (by decide +kernel)
theorem wm_842 : Cond.selects "RoadLinks" ⟨"RoadLinks", "count", "(I)I"⟩ ⟨"RoadLinks", "count", "(I)I"⟩ ∈ Wd := Wd_mem 842 (by decide +kernel) (by decide +kernel)
theorem wm_843 : Cond.code ⟨"RoadLinks", "count", "(I)I"⟩ prog_1_method_46_code 2 (Option.some FieldType.int) ∈ Wd := Wd_mem 843 (by decide +kernel) (by decide +kernel)
theorem wm_942 : Cond.methodLink "RoadLinksLaw" 17 ⟨"RoadLinksModel", "posts", "(I)I"⟩ ∈ Wd := Wd_mem 942 (by decide +kernel) (by decide +kernel)
theorem wm_953 : Cond.methodLink "RoadLinksLaw" 22 ⟨"RoadLinksModel", "road", "(III)I"⟩ ∈ Wd := Wd_mem 953 (by decide +kernel) (by decide +kernel)
theorem wm_961 : Cond.methodLink "RoadLinksLaw" 27 ⟨"RoadLinksModel", "isRoad", "(II)I"⟩ ∈ Wd := Wd_mem 961 (by decide +kernel) (by decide +kernel)
theorem wm_962 : Cond.instanceMethod ⟨"RoadLinksModel", "isRoad", "(II)I"⟩ ∈ Wd := Wd_mem 962 (by decide +kernel) (by decide +kernel)
theorem wm_963 : Cond.selects "RoadLinksModel" ⟨"RoadLinksModel", "isRoad", "(II)I"⟩ ⟨"RoadLinksModel", "isRoad", "(II)I"⟩ ∈ Wd := Wd_mem 963 (by decide +kernel) (by decide +kernel)
theorem wm_964 : Cond.code ⟨"RoadLinksModel", "isRoad", "(II)I"⟩ prog_9_method_20_code 3 (Option.some FieldType.int) ∈ Wd := Wd_mem 964 (by decide +kernel) (by decide +kernel)
theorem wm_965 : Cond.methodLink "RoadLinksLaw" 31 ⟨"RoadLinksModel", "targets", "(I)I"⟩ ∈ Wd := Wd_mem 965 (by decide +kernel) (by decide +kernel)
theorem wm_977 : Cond.methodLink "RoadLinksLaw" 35 ⟨"RoadLinksModel", "weigh", "(II)I"⟩ ∈ Wd := Wd_mem 977 (by decide +kernel) (by decide +kernel)
theorem wm_981 : Cond.methodLink "RoadLinksLaw" 39 ⟨"RoadLinksModel", "add", "(I)I"⟩ ∈ Wd := Wd_mem 981 (by decide +kernel) (by decide +kernel)
theorem wm_985 : Cond.methodLink "RoadLinksLaw" 43 ⟨"RoadLinksModel", "change", "(II)I"⟩ ∈ Wd := Wd_mem 985 (by decide +kernel) (by decide +kernel)
theorem wm_986 : Cond.instanceMethod ⟨"RoadLinksModel", "change", "(II)I"⟩ ∈ Wd := Wd_mem 986 (by decide +kernel) (by decide +kernel)
theorem wm_987 : Cond.selects "RoadLinksModel" ⟨"RoadLinksModel", "change", "(II)I"⟩ ⟨"RoadLinksModel", "change", "(II)I"⟩ ∈ Wd := Wd_mem 987 (by decide +kernel) (by decide +kernel)
theorem wm_988 : Cond.code ⟨"RoadLinksModel", "change", "(II)I"⟩ prog_9_method_24_code 4 (Option.some FieldType.int) ∈ Wd := Wd_mem 988 (by decide +kernel) (by decide +kernel)
theorem wm_993 : Cond.methodLink "RoadLinksLaw" 47 ⟨"RoadLinksModel", "drop", "(I)I"⟩ ∈ Wd := Wd_mem 993 (by decide +kernel) (by decide +kernel)
theorem wm_994 : Cond.instanceMethod ⟨"RoadLinksModel", "drop", "(I)I"⟩ ∈ Wd := Wd_mem 994 (by decide +kernel) (by decide +kernel)
theorem wm_995 : Cond.selects "RoadLinksModel" ⟨"RoadLinksModel", "drop", "(I)I"⟩ ⟨"RoadLinksModel", "drop", "(I)I"⟩ ∈ Wd := Wd_mem 995 (by decide +kernel) (by decide +kernel)
theorem wm_996 : Cond.code ⟨"RoadLinksModel", "drop", "(I)I"⟩ prog_9_method_26_code 2 (Option.some FieldType.int) ∈ Wd := Wd_mem 996 (by decide +kernel) (by decide +kernel)
theorem wm_1001 : Cond.methodLink "RoadLinksLaw" 51 ⟨"RoadLinksModel", "set", "(I)I"⟩ ∈ Wd := Wd_mem 1001 (by decide +kernel) (by decide +kernel)
theorem wm_1002 : Cond.instanceMethod ⟨"RoadLinksModel", "set", "(I)I"⟩ ∈ Wd := Wd_mem 1002 (by decide +kernel) (by decide +kernel)
theorem wm_1003 : Cond.selects "RoadLinksModel" ⟨"RoadLinksModel", "set", "(I)I"⟩ ⟨"RoadLinksModel", "set", "(I)I"⟩ ∈ Wd := Wd_mem 1003 (by decide +kernel) (by decide +kernel)
theorem wm_1004 : Cond.code ⟨"RoadLinksModel", "set", "(I)I"⟩ prog_9_method_27_code 2 (Option.some FieldType.int) ∈ Wd := Wd_mem 1004 (by decide +kernel) (by decide +kernel)
theorem wm_1005 : Cond.methodLink "RoadLinksLaw" 55 ⟨"RoadLinksModel", "rank", "(II)I"⟩ ∈ Wd := Wd_mem 1005 (by decide +kernel) (by decide +kernel)
theorem wm_1006 : Cond.instanceMethod ⟨"RoadLinksModel", "rank", "(II)I"⟩ ∈ Wd := Wd_mem 1006 (by decide +kernel) (by decide +kernel)
theorem wm_1007 : Cond.selects "RoadLinksModel" ⟨"RoadLinksModel", "rank", "(II)I"⟩ ⟨"RoadLinksModel", "rank", "(II)I"⟩ ∈ Wd := Wd_mem 1007 (by decide +kernel) (by decide +kernel)
theorem wm_1008 : Cond.code ⟨"RoadLinksModel", "rank", "(II)I"⟩ prog_9_method_28_code 3 (Option.some FieldType.int) ∈ Wd := Wd_mem 1008 (by decide +kernel) (by decide +kernel)
theorem wm_1049 : Cond.methodLink "RoadLinksLaw" 59 ⟨"RoadLinksModel", "free", "(II)I"⟩ ∈ Wd := Wd_mem 1049 (by decide +kernel) (by decide +kernel)
theorem wm_1050 : Cond.instanceMethod ⟨"RoadLinksModel", "free", "(II)I"⟩ ∈ Wd := Wd_mem 1050 (by decide +kernel) (by decide +kernel)
theorem wm_1051 : Cond.selects "RoadLinksModel" ⟨"RoadLinksModel", "free", "(II)I"⟩ ⟨"RoadLinksModel", "free", "(II)I"⟩ ∈ Wd := Wd_mem 1051 (by decide +kernel) (by decide +kernel)
theorem wm_1052 : Cond.code ⟨"RoadLinksModel", "free", "(II)I"⟩ prog_9_method_29_code 3 (Option.some FieldType.int) ∈ Wd := Wd_mem 1052 (by decide +kernel) (by decide +kernel)
theorem wm_1053 : Cond.methodLink "RoadLinksLaw" 63 ⟨"RoadLinksModel", "base", "(II)I"⟩ ∈ Wd := Wd_mem 1053 (by decide +kernel) (by decide +kernel)
theorem wm_1054 : Cond.instanceMethod ⟨"RoadLinksModel", "base", "(II)I"⟩ ∈ Wd := Wd_mem 1054 (by decide +kernel) (by decide +kernel)
theorem wm_1055 : Cond.selects "RoadLinksModel" ⟨"RoadLinksModel", "base", "(II)I"⟩ ⟨"RoadLinksModel", "base", "(II)I"⟩ ∈ Wd := Wd_mem 1055 (by decide +kernel) (by decide +kernel)
theorem wm_1056 : Cond.code ⟨"RoadLinksModel", "base", "(II)I"⟩ prog_9_method_33_code 3 (Option.some FieldType.int) ∈ Wd := Wd_mem 1056 (by decide +kernel) (by decide +kernel)
theorem wm_1069 : Cond.methodLink "RoadLinksLaw" 67 ⟨"RoadLinksModel", "circuit", "(II)I"⟩ ∈ Wd := Wd_mem 1069 (by decide +kernel) (by decide +kernel)
theorem wm_1070 : Cond.instanceMethod ⟨"RoadLinksModel", "circuit", "(II)I"⟩ ∈ Wd := Wd_mem 1070 (by decide +kernel) (by decide +kernel)
theorem wm_1071 : Cond.selects "RoadLinksModel" ⟨"RoadLinksModel", "circuit", "(II)I"⟩ ⟨"RoadLinksModel", "circuit", "(II)I"⟩ ∈ Wd := Wd_mem 1071 (by decide +kernel) (by decide +kernel)
theorem wm_1072 : Cond.code ⟨"RoadLinksModel", "circuit", "(II)I"⟩ prog_9_method_34_code 3 (Option.some FieldType.int) ∈ Wd := Wd_mem 1072 (by decide +kernel) (by decide +kernel)
theorem wm_1073 : Cond.methodLink "RoadLinksLaw" 71 ⟨"RoadLinksModel", "flat", "(II)I"⟩ ∈ Wd := Wd_mem 1073 (by decide +kernel) (by decide +kernel)
theorem wm_1074 : Cond.instanceMethod ⟨"RoadLinksModel", "flat", "(II)I"⟩ ∈ Wd := Wd_mem 1074 (by decide +kernel) (by decide +kernel)
theorem wm_1075 : Cond.selects "RoadLinksModel" ⟨"RoadLinksModel", "flat", "(II)I"⟩ ⟨"RoadLinksModel", "flat", "(II)I"⟩ ∈ Wd := Wd_mem 1075 (by decide +kernel) (by decide +kernel)
theorem wm_1076 : Cond.code ⟨"RoadLinksModel", "flat", "(II)I"⟩ prog_9_method_35_code 3 (Option.some FieldType.int) ∈ Wd := Wd_mem 1076 (by decide +kernel) (by decide +kernel)
theorem wm_1077 : Cond.methodLink "RoadLinksLaw" 75 ⟨"RoadLinksModel", "shut", "(II)I"⟩ ∈ Wd := Wd_mem 1077 (by decide +kernel) (by decide +kernel)
theorem wm_1078 : Cond.instanceMethod ⟨"RoadLinksModel", "shut", "(II)I"⟩ ∈ Wd := Wd_mem 1078 (by decide +kernel) (by decide +kernel)
theorem wm_1079 : Cond.selects "RoadLinksModel" ⟨"RoadLinksModel", "shut", "(II)I"⟩ ⟨"RoadLinksModel", "shut", "(II)I"⟩ ∈ Wd := Wd_mem 1079 (by decide +kernel) (by decide +kernel)
theorem wm_1080 : Cond.code ⟨"RoadLinksModel", "shut", "(II)I"⟩ prog_9_method_36_code 3 (Option.some FieldType.int) ∈ Wd := Wd_mem 1080 (by decide +kernel) (by decide +kernel)
theorem wm_1081 : Cond.methodLink "RoadLinksLaw" 79 ⟨"RoadLinksModel", "loops", "(II)I"⟩ ∈ Wd := Wd_mem 1081 (by decide +kernel) (by decide +kernel)
theorem wm_1082 : Cond.instanceMethod ⟨"RoadLinksModel", "loops", "(II)I"⟩ ∈ Wd := Wd_mem 1082 (by decide +kernel) (by decide +kernel)
theorem wm_1083 : Cond.selects "RoadLinksModel" ⟨"RoadLinksModel", "loops", "(II)I"⟩ ⟨"RoadLinksModel", "loops", "(II)I"⟩ ∈ Wd := Wd_mem 1083 (by decide +kernel) (by decide +kernel)
theorem wm_1084 : Cond.code ⟨"RoadLinksModel", "loops", "(II)I"⟩ prog_9_method_37_code 6 (Option.some FieldType.int) ∈ Wd := Wd_mem 1084 (by decide +kernel) (by decide +kernel)
theorem wm_1085 : Cond.methodLink "RoadLinksLaw" 83 ⟨"RoadLinksModel", "round", "(III)I"⟩ ∈ Wd := Wd_mem 1085 (by decide +kernel) (by decide +kernel)
theorem wm_1086 : Cond.instanceMethod ⟨"RoadLinksModel", "round", "(III)I"⟩ ∈ Wd := Wd_mem 1086 (by decide +kernel) (by decide +kernel)
theorem wm_1087 : Cond.selects "RoadLinksModel" ⟨"RoadLinksModel", "round", "(III)I"⟩ ⟨"RoadLinksModel", "round", "(III)I"⟩ ∈ Wd := Wd_mem 1087 (by decide +kernel) (by decide +kernel)
theorem wm_1088 : Cond.code ⟨"RoadLinksModel", "round", "(III)I"⟩ prog_9_method_38_code 7 (Option.some FieldType.int) ∈ Wd := Wd_mem 1088 (by decide +kernel) (by decide +kernel)
theorem wm_1089 : Cond.methodLink "RoadLinksLaw" 88 ⟨"RoadLinksModel", "swap", "(IIII)I"⟩ ∈ Wd := Wd_mem 1089 (by decide +kernel) (by decide +kernel)
theorem wm_1090 : Cond.instanceMethod ⟨"RoadLinksModel", "swap", "(IIII)I"⟩ ∈ Wd := Wd_mem 1090 (by decide +kernel) (by decide +kernel)
theorem wm_1091 : Cond.selects "RoadLinksModel" ⟨"RoadLinksModel", "swap", "(IIII)I"⟩ ⟨"RoadLinksModel", "swap", "(IIII)I"⟩ ∈ Wd := Wd_mem 1091 (by decide +kernel) (by decide +kernel)
theorem wm_1092 : Cond.code ⟨"RoadLinksModel", "swap", "(IIII)I"⟩ prog_9_method_39_code 6 (Option.some FieldType.int) ∈ Wd := Wd_mem 1092 (by decide +kernel) (by decide +kernel)
theorem wm_1093 : Cond.methodLink "RoadLinksLaw" 92 ⟨"RoadLinksModel", "steps", "(I)I"⟩ ∈ Wd := Wd_mem 1093 (by decide +kernel) (by decide +kernel)
theorem wm_1094 : Cond.instanceMethod ⟨"RoadLinksModel", "steps", "(I)I"⟩ ∈ Wd := Wd_mem 1094 (by decide +kernel) (by decide +kernel)
theorem wm_1095 : Cond.selects "RoadLinksModel" ⟨"RoadLinksModel", "steps", "(I)I"⟩ ⟨"RoadLinksModel", "steps", "(I)I"⟩ ∈ Wd := Wd_mem 1095 (by decide +kernel) (by decide +kernel)
theorem wm_1096 : Cond.code ⟨"RoadLinksModel", "steps", "(I)I"⟩ prog_9_method_40_code 5 (Option.some FieldType.int) ∈ Wd := Wd_mem 1096 (by decide +kernel) (by decide +kernel)
theorem wm_1097 : Cond.methodLink "RoadLinksLaw" 96 ⟨"RoadLinksModel", "less", "(IIII)I"⟩ ∈ Wd := Wd_mem 1097 (by decide +kernel) (by decide +kernel)
theorem wm_1098 : Cond.instanceMethod ⟨"RoadLinksModel", "less", "(IIII)I"⟩ ∈ Wd := Wd_mem 1098 (by decide +kernel) (by decide +kernel)
theorem wm_1099 : Cond.selects "RoadLinksModel" ⟨"RoadLinksModel", "less", "(IIII)I"⟩ ⟨"RoadLinksModel", "less", "(IIII)I"⟩ ∈ Wd := Wd_mem 1099 (by decide +kernel) (by decide +kernel)
theorem wm_1100 : Cond.code ⟨"RoadLinksModel", "less", "(IIII)I"⟩ prog_9_method_41_code 5 (Option.some FieldType.int) ∈ Wd := Wd_mem 1100 (by decide +kernel) (by decide +kernel)
theorem wm_1101 : Cond.methodLink "RoadLinksLaw" 100 ⟨"RoadLinksModel", "heaviest", "(II)I"⟩ ∈ Wd := Wd_mem 1101 (by decide +kernel) (by decide +kernel)
theorem wm_1102 : Cond.instanceMethod ⟨"RoadLinksModel", "heaviest", "(II)I"⟩ ∈ Wd := Wd_mem 1102 (by decide +kernel) (by decide +kernel)
theorem wm_1103 : Cond.selects "RoadLinksModel" ⟨"RoadLinksModel", "heaviest", "(II)I"⟩ ⟨"RoadLinksModel", "heaviest", "(II)I"⟩ ∈ Wd := Wd_mem 1103 (by decide +kernel) (by decide +kernel)
theorem wm_1104 : Cond.code ⟨"RoadLinksModel", "heaviest", "(II)I"⟩ prog_9_method_43_code 5 (Option.some FieldType.int) ∈ Wd := Wd_mem 1104 (by decide +kernel) (by decide +kernel)
theorem wm_1109 : Cond.methodLink "RoadLinksLaw" 104 ⟨"RoadLinksModel", "alike", "(II)I"⟩ ∈ Wd := Wd_mem 1109 (by decide +kernel) (by decide +kernel)
theorem wm_1110 : Cond.instanceMethod ⟨"RoadLinksModel", "alike", "(II)I"⟩ ∈ Wd := Wd_mem 1110 (by decide +kernel) (by decide +kernel)
theorem wm_1111 : Cond.selects "RoadLinksModel" ⟨"RoadLinksModel", "alike", "(II)I"⟩ ⟨"RoadLinksModel", "alike", "(II)I"⟩ ∈ Wd := Wd_mem 1111 (by decide +kernel) (by decide +kernel)
theorem wm_1112 : Cond.code ⟨"RoadLinksModel", "alike", "(II)I"⟩ prog_9_method_44_code 4 (Option.some FieldType.int) ∈ Wd := Wd_mem 1112 (by decide +kernel) (by decide +kernel)
theorem wm_1113 : Cond.methodLink "RoadLinksLaw" 108 ⟨"RoadLinksModel", "cut", "(I)I"⟩ ∈ Wd := Wd_mem 1113 (by decide +kernel) (by decide +kernel)
theorem wm_1114 : Cond.instanceMethod ⟨"RoadLinksModel", "cut", "(I)I"⟩ ∈ Wd := Wd_mem 1114 (by decide +kernel) (by decide +kernel)
theorem wm_1115 : Cond.selects "RoadLinksModel" ⟨"RoadLinksModel", "cut", "(I)I"⟩ ⟨"RoadLinksModel", "cut", "(I)I"⟩ ∈ Wd := Wd_mem 1115 (by decide +kernel) (by decide +kernel)
theorem wm_1116 : Cond.code ⟨"RoadLinksModel", "cut", "(I)I"⟩ prog_9_method_45_code 2 (Option.some FieldType.int) ∈ Wd := Wd_mem 1116 (by decide +kernel) (by decide +kernel)
theorem wm_1117 : Cond.methodLink "RoadLinksLaw" 112 ⟨"RoadLinksModel", "reach", "(I)I"⟩ ∈ Wd := Wd_mem 1117 (by decide +kernel) (by decide +kernel)
theorem wm_1118 : Cond.instanceMethod ⟨"RoadLinksModel", "reach", "(I)I"⟩ ∈ Wd := Wd_mem 1118 (by decide +kernel) (by decide +kernel)
theorem wm_1119 : Cond.selects "RoadLinksModel" ⟨"RoadLinksModel", "reach", "(I)I"⟩ ⟨"RoadLinksModel", "reach", "(I)I"⟩ ∈ Wd := Wd_mem 1119 (by decide +kernel) (by decide +kernel)
theorem wm_1120 : Cond.code ⟨"RoadLinksModel", "reach", "(I)I"⟩ prog_9_method_46_code 5 (Option.some FieldType.int) ∈ Wd := Wd_mem 1120 (by decide +kernel) (by decide +kernel)
theorem wm_1121 : Cond.methodLink "RoadLinksLaw" 116 ⟨"RoadLinksModel", "partners", "(I)I"⟩ ∈ Wd := Wd_mem 1121 (by decide +kernel) (by decide +kernel)
theorem wm_1122 : Cond.instanceMethod ⟨"RoadLinksModel", "partners", "(I)I"⟩ ∈ Wd := Wd_mem 1122 (by decide +kernel) (by decide +kernel)
theorem wm_1123 : Cond.selects "RoadLinksModel" ⟨"RoadLinksModel", "partners", "(I)I"⟩ ⟨"RoadLinksModel", "partners", "(I)I"⟩ ∈ Wd := Wd_mem 1123 (by decide +kernel) (by decide +kernel)
theorem wm_1124 : Cond.code ⟨"RoadLinksModel", "partners", "(I)I"⟩ prog_9_method_48_code 7 (Option.some FieldType.int) ∈ Wd := Wd_mem 1124 (by decide +kernel) (by decide +kernel)
theorem wm_1129 : Cond.methodLink "RoadLinksLaw" 121 ⟨"RoadLinksModel", "turned", "()I"⟩ ∈ Wd := Wd_mem 1129 (by decide +kernel) (by decide +kernel)
theorem wm_1130 : Cond.instanceMethod ⟨"RoadLinksModel", "turned", "()I"⟩ ∈ Wd := Wd_mem 1130 (by decide +kernel) (by decide +kernel)
theorem wm_1131 : Cond.selects "RoadLinksModel" ⟨"RoadLinksModel", "turned", "()I"⟩ ⟨"RoadLinksModel", "turned", "()I"⟩ ∈ Wd := Wd_mem 1131 (by decide +kernel) (by decide +kernel)
theorem wm_1132 : Cond.code ⟨"RoadLinksModel", "turned", "()I"⟩ prog_9_method_49_code 2 (Option.some FieldType.int) ∈ Wd := Wd_mem 1132 (by decide +kernel) (by decide +kernel)
theorem wm_1133 : Cond.methodLink "RoadLinksLaw" 125 ⟨"RoadLinksModel", "strict", "()I"⟩ ∈ Wd := Wd_mem 1133 (by decide +kernel) (by decide +kernel)
theorem wm_1134 : Cond.instanceMethod ⟨"RoadLinksModel", "strict", "()I"⟩ ∈ Wd := Wd_mem 1134 (by decide +kernel) (by decide +kernel)
theorem wm_1135 : Cond.selects "RoadLinksModel" ⟨"RoadLinksModel", "strict", "()I"⟩ ⟨"RoadLinksModel", "strict", "()I"⟩ ∈ Wd := Wd_mem 1135 (by decide +kernel) (by decide +kernel)
theorem wm_1136 : Cond.code ⟨"RoadLinksModel", "strict", "()I"⟩ prog_9_method_51_code 4 (Option.some FieldType.int) ∈ Wd := Wd_mem 1136 (by decide +kernel) (by decide +kernel)
theorem wm_1141 : Cond.methodLink "RoadLinksLaw" 129 ⟨"RoadLinksModel", "spare", "(I)I"⟩ ∈ Wd := Wd_mem 1141 (by decide +kernel) (by decide +kernel)
theorem wm_1142 : Cond.instanceMethod ⟨"RoadLinksModel", "spare", "(I)I"⟩ ∈ Wd := Wd_mem 1142 (by decide +kernel) (by decide +kernel)
theorem wm_1143 : Cond.selects "RoadLinksModel" ⟨"RoadLinksModel", "spare", "(I)I"⟩ ⟨"RoadLinksModel", "spare", "(I)I"⟩ ∈ Wd := Wd_mem 1143 (by decide +kernel) (by decide +kernel)
theorem wm_1144 : Cond.code ⟨"RoadLinksModel", "spare", "(I)I"⟩ prog_9_method_55_code 2 (Option.some FieldType.int) ∈ Wd := Wd_mem 1144 (by decide +kernel) (by decide +kernel)
theorem wm_1157 : Cond.methodLink "RoadLinksLaw" 133 ⟨"RoadLinksModel", "room", "(I)I"⟩ ∈ Wd := Wd_mem 1157 (by decide +kernel) (by decide +kernel)
theorem wm_1158 : Cond.instanceMethod ⟨"RoadLinksModel", "room", "(I)I"⟩ ∈ Wd := Wd_mem 1158 (by decide +kernel) (by decide +kernel)
theorem wm_1159 : Cond.selects "RoadLinksModel" ⟨"RoadLinksModel", "room", "(I)I"⟩ ⟨"RoadLinksModel", "room", "(I)I"⟩ ∈ Wd := Wd_mem 1159 (by decide +kernel) (by decide +kernel)
theorem wm_1160 : Cond.code ⟨"RoadLinksModel", "room", "(I)I"⟩ prog_9_method_56_code 2 (Option.some FieldType.int) ∈ Wd := Wd_mem 1160 (by decide +kernel) (by decide +kernel)
theorem wm_1161 : Cond.methodLink "RoadLinksLaw" 137 ⟨"RoadLinksModel", "idle", "()I"⟩ ∈ Wd := Wd_mem 1161 (by decide +kernel) (by decide +kernel)
theorem wm_1162 : Cond.instanceMethod ⟨"RoadLinksModel", "idle", "()I"⟩ ∈ Wd := Wd_mem 1162 (by decide +kernel) (by decide +kernel)
theorem wm_1163 : Cond.selects "RoadLinksModel" ⟨"RoadLinksModel", "idle", "()I"⟩ ⟨"RoadLinksModel", "idle", "()I"⟩ ∈ Wd := Wd_mem 1163 (by decide +kernel) (by decide +kernel)
theorem wm_1164 : Cond.code ⟨"RoadLinksModel", "idle", "()I"⟩ prog_9_method_57_code 4 (Option.some FieldType.int) ∈ Wd := Wd_mem 1164 (by decide +kernel) (by decide +kernel)
theorem wm_1165 : Cond.methodLink "RoadLinksLaw" 141 ⟨"RoadLinksModel", "small", "()I"⟩ ∈ Wd := Wd_mem 1165 (by decide +kernel) (by decide +kernel)
theorem wm_1166 : Cond.instanceMethod ⟨"RoadLinksModel", "small", "()I"⟩ ∈ Wd := Wd_mem 1166 (by decide +kernel) (by decide +kernel)
theorem wm_1167 : Cond.selects "RoadLinksModel" ⟨"RoadLinksModel", "small", "()I"⟩ ⟨"RoadLinksModel", "small", "()I"⟩ ∈ Wd := Wd_mem 1167 (by decide +kernel) (by decide +kernel)
theorem wm_1168 : Cond.code ⟨"RoadLinksModel", "small", "()I"⟩ prog_9_method_58_code 4 (Option.some FieldType.int) ∈ Wd := Wd_mem 1168 (by decide +kernel) (by decide +kernel)
theorem wm_1169 : Cond.methodLink "RoadLinksLaw" 145 ⟨"RoadLinksModel", "row", "(II)I"⟩ ∈ Wd := Wd_mem 1169 (by decide +kernel) (by decide +kernel)
theorem wm_1170 : Cond.instanceMethod ⟨"RoadLinksModel", "row", "(II)I"⟩ ∈ Wd := Wd_mem 1170 (by decide +kernel) (by decide +kernel)
theorem wm_1171 : Cond.selects "RoadLinksModel" ⟨"RoadLinksModel", "row", "(II)I"⟩ ⟨"RoadLinksModel", "row", "(II)I"⟩ ∈ Wd := Wd_mem 1171 (by decide +kernel) (by decide +kernel)
theorem wm_1172 : Cond.code ⟨"RoadLinksModel", "row", "(II)I"⟩ prog_9_method_60_code 4 (Option.some FieldType.int) ∈ Wd := Wd_mem 1172 (by decide +kernel) (by decide +kernel)
theorem wm_1176 : Cond.methodLink "RoadLinksLaw" 149 ⟨"RoadLinksModel", "lose", "(I)I"⟩ ∈ Wd := Wd_mem 1176 (by decide +kernel) (by decide +kernel)
theorem wm_1177 : Cond.instanceMethod ⟨"RoadLinksModel", "lose", "(I)I"⟩ ∈ Wd := Wd_mem 1177 (by decide +kernel) (by decide +kernel)
theorem wm_1178 : Cond.selects "RoadLinksModel" ⟨"RoadLinksModel", "lose", "(I)I"⟩ ⟨"RoadLinksModel", "lose", "(I)I"⟩ ∈ Wd := Wd_mem 1178 (by decide +kernel) (by decide +kernel)
theorem wm_1179 : Cond.code ⟨"RoadLinksModel", "lose", "(I)I"⟩ prog_9_method_61_code 3 (Option.some FieldType.int) ∈ Wd := Wd_mem 1179 (by decide +kernel) (by decide +kernel)
theorem wm_1180 : Cond.methodLink "RoadLinksLaw" 153 ⟨"RoadLinksModel", "put", "(III)I"⟩ ∈ Wd := Wd_mem 1180 (by decide +kernel) (by decide +kernel)
theorem wm_1181 : Cond.instanceMethod ⟨"RoadLinksModel", "put", "(III)I"⟩ ∈ Wd := Wd_mem 1181 (by decide +kernel) (by decide +kernel)
theorem wm_1182 : Cond.selects "RoadLinksModel" ⟨"RoadLinksModel", "put", "(III)I"⟩ ⟨"RoadLinksModel", "put", "(III)I"⟩ ∈ Wd := Wd_mem 1182 (by decide +kernel) (by decide +kernel)
theorem wm_1183 : Cond.code ⟨"RoadLinksModel", "put", "(III)I"⟩ prog_9_method_62_code 4 (Option.some FieldType.int) ∈ Wd := Wd_mem 1183 (by decide +kernel) (by decide +kernel)
theorem wm_1184 : Cond.methodLink "RoadLinksLaw" 158 ⟨"RoadLinksModel", "get", "(II)J"⟩ ∈ Wd := Wd_mem 1184 (by decide +kernel) (by decide +kernel)
theorem wm_1185 : Cond.instanceMethod ⟨"RoadLinksModel", "get", "(II)J"⟩ ∈ Wd := Wd_mem 1185 (by decide +kernel) (by decide +kernel)
theorem wm_1186 : Cond.selects "RoadLinksModel" ⟨"RoadLinksModel", "get", "(II)J"⟩ ⟨"RoadLinksModel", "get", "(II)J"⟩ ∈ Wd := Wd_mem 1186 (by decide +kernel) (by decide +kernel)
theorem wm_1187 : Cond.code ⟨"RoadLinksModel", "get", "(II)J"⟩ prog_9_method_63_code 3 (Option.some FieldType.long) ∈ Wd := Wd_mem 1187 (by decide +kernel) (by decide +kernel)
theorem wm_1189 : Cond.methodLink "RoadLinksLaw" 163 ⟨"RoadLinksModel", "copy", "(IIIII)I"⟩ ∈ Wd := Wd_mem 1189 (by decide +kernel) (by decide +kernel)
theorem wm_1190 : Cond.instanceMethod ⟨"RoadLinksModel", "copy", "(IIIII)I"⟩ ∈ Wd := Wd_mem 1190 (by decide +kernel) (by decide +kernel)
theorem wm_1191 : Cond.selects "RoadLinksModel" ⟨"RoadLinksModel", "copy", "(IIIII)I"⟩ ⟨"RoadLinksModel", "copy", "(IIIII)I"⟩ ∈ Wd := Wd_mem 1191 (by decide +kernel) (by decide +kernel)
theorem wm_1192 : Cond.code ⟨"RoadLinksModel", "copy", "(IIIII)I"⟩ prog_9_method_64_code 7 (Option.some FieldType.int) ∈ Wd := Wd_mem 1192 (by decide +kernel) (by decide +kernel)
theorem wm_1193 : Cond.methodLink "RoadLinksLaw" 167 ⟨"RoadLinksModel", "film", "(IIII)I"⟩ ∈ Wd := Wd_mem 1193 (by decide +kernel) (by decide +kernel)
theorem wm_1194 : Cond.instanceMethod ⟨"RoadLinksModel", "film", "(IIII)I"⟩ ∈ Wd := Wd_mem 1194 (by decide +kernel) (by decide +kernel)
theorem wm_1195 : Cond.selects "RoadLinksModel" ⟨"RoadLinksModel", "film", "(IIII)I"⟩ ⟨"RoadLinksModel", "film", "(IIII)I"⟩ ∈ Wd := Wd_mem 1195 (by decide +kernel) (by decide +kernel)
theorem wm_1196 : Cond.code ⟨"RoadLinksModel", "film", "(IIII)I"⟩ prog_9_method_65_code 6 (Option.some FieldType.int) ∈ Wd := Wd_mem 1196 (by decide +kernel) (by decide +kernel)
theorem wm_1198 : Cond.methodLink "RoadLinksLaw" 171 ⟨"RoadLinksModel", "judge", "(III)I"⟩ ∈ Wd := Wd_mem 1198 (by decide +kernel) (by decide +kernel)
theorem wm_1199 : Cond.instanceMethod ⟨"RoadLinksModel", "judge", "(III)I"⟩ ∈ Wd := Wd_mem 1199 (by decide +kernel) (by decide +kernel)
theorem wm_1200 : Cond.selects "RoadLinksModel" ⟨"RoadLinksModel", "judge", "(III)I"⟩ ⟨"RoadLinksModel", "judge", "(III)I"⟩ ∈ Wd := Wd_mem 1200 (by decide +kernel) (by decide +kernel)
theorem wm_1201 : Cond.code ⟨"RoadLinksModel", "judge", "(III)I"⟩ prog_9_method_66_code 5 (Option.some FieldType.int) ∈ Wd := Wd_mem 1201 (by decide +kernel) (by decide +kernel)
theorem wm_1202 : Cond.methodLink "RoadLinksLaw" 175 ⟨"RoadLinksModel", "feed", "(I)I"⟩ ∈ Wd := Wd_mem 1202 (by decide +kernel) (by decide +kernel)
theorem wm_1203 : Cond.instanceMethod ⟨"RoadLinksModel", "feed", "(I)I"⟩ ∈ Wd := Wd_mem 1203 (by decide +kernel) (by decide +kernel)
theorem wm_1204 : Cond.selects "RoadLinksModel" ⟨"RoadLinksModel", "feed", "(I)I"⟩ ⟨"RoadLinksModel", "feed", "(I)I"⟩ ∈ Wd := Wd_mem 1204 (by decide +kernel) (by decide +kernel)
theorem wm_1205 : Cond.code ⟨"RoadLinksModel", "feed", "(I)I"⟩ prog_9_method_67_code 2 (Option.some FieldType.int) ∈ Wd := Wd_mem 1205 (by decide +kernel) (by decide +kernel)
theorem wm_1206 : Cond.methodLink "RoadLinksLaw" 179 ⟨"RoadLinksModel", "wipe", "()I"⟩ ∈ Wd := Wd_mem 1206 (by decide +kernel) (by decide +kernel)
theorem wm_1207 : Cond.instanceMethod ⟨"RoadLinksModel", "wipe", "()I"⟩ ∈ Wd := Wd_mem 1207 (by decide +kernel) (by decide +kernel)
theorem wm_1208 : Cond.selects "RoadLinksModel" ⟨"RoadLinksModel", "wipe", "()I"⟩ ⟨"RoadLinksModel", "wipe", "()I"⟩ ∈ Wd := Wd_mem 1208 (by decide +kernel) (by decide +kernel)
theorem wm_1209 : Cond.code ⟨"RoadLinksModel", "wipe", "()I"⟩ prog_9_method_68_code 2 (Option.some FieldType.int) ∈ Wd := Wd_mem 1209 (by decide +kernel) (by decide +kernel)
theorem wm_1210 : Cond.methodLink "RoadLinksLaw" 183 ⟨"RoadLinksModel", "read", "()I"⟩ ∈ Wd := Wd_mem 1210 (by decide +kernel) (by decide +kernel)
theorem wm_1211 : Cond.instanceMethod ⟨"RoadLinksModel", "read", "()I"⟩ ∈ Wd := Wd_mem 1211 (by decide +kernel) (by decide +kernel)
theorem wm_1212 : Cond.selects "RoadLinksModel" ⟨"RoadLinksModel", "read", "()I"⟩ ⟨"RoadLinksModel", "read", "()I"⟩ ∈ Wd := Wd_mem 1212 (by decide +kernel) (by decide +kernel)
theorem wm_1213 : Cond.code ⟨"RoadLinksModel", "read", "()I"⟩ prog_9_method_79_code 2 (Option.some FieldType.int) ∈ Wd := Wd_mem 1213 (by decide +kernel) (by decide +kernel)
theorem wm_1266 : Cond.methodLink "RoadLinksLaw" 187 ⟨"RoadLinksModel", "spelled", "(I)I"⟩ ∈ Wd := Wd_mem 1266 (by decide +kernel) (by decide +kernel)
theorem wm_1267 : Cond.instanceMethod ⟨"RoadLinksModel", "spelled", "(I)I"⟩ ∈ Wd := Wd_mem 1267 (by decide +kernel) (by decide +kernel)
theorem wm_1268 : Cond.selects "RoadLinksModel" ⟨"RoadLinksModel", "spelled", "(I)I"⟩ ⟨"RoadLinksModel", "spelled", "(I)I"⟩ ∈ Wd := Wd_mem 1268 (by decide +kernel) (by decide +kernel)
theorem wm_1269 : Cond.code ⟨"RoadLinksModel", "spelled", "(I)I"⟩ prog_9_method_84_code 2 (Option.some FieldType.int) ∈ Wd := Wd_mem 1269 (by decide +kernel) (by decide +kernel)
theorem wm_1286 : Cond.methodLink "RoadLinksLaw" 191 ⟨"RoadLinksModel", "image", "()I"⟩ ∈ Wd := Wd_mem 1286 (by decide +kernel) (by decide +kernel)
theorem wm_1287 : Cond.instanceMethod ⟨"RoadLinksModel", "image", "()I"⟩ ∈ Wd := Wd_mem 1287 (by decide +kernel) (by decide +kernel)
theorem wm_1288 : Cond.selects "RoadLinksModel" ⟨"RoadLinksModel", "image", "()I"⟩ ⟨"RoadLinksModel", "image", "()I"⟩ ∈ Wd := Wd_mem 1288 (by decide +kernel) (by decide +kernel)
theorem wm_1289 : Cond.code ⟨"RoadLinksModel", "image", "()I"⟩ prog_9_method_85_code 2 (Option.some FieldType.int) ∈ Wd := Wd_mem 1289 (by decide +kernel) (by decide +kernel)
theorem wm_1290 : Cond.methodLink "RoadLinksLaw" 195 ⟨"RoadLinksModel", "undo", "()I"⟩ ∈ Wd := Wd_mem 1290 (by decide +kernel) (by decide +kernel)
theorem wm_1291 : Cond.instanceMethod ⟨"RoadLinksModel", "undo", "()I"⟩ ∈ Wd := Wd_mem 1291 (by decide +kernel) (by decide +kernel)
theorem wm_1292 : Cond.selects "RoadLinksModel" ⟨"RoadLinksModel", "undo", "()I"⟩ ⟨"RoadLinksModel", "undo", "()I"⟩ ∈ Wd := Wd_mem 1292 (by decide +kernel) (by decide +kernel)
theorem wm_1293 : Cond.code ⟨"RoadLinksModel", "undo", "()I"⟩ prog_9_method_86_code 2 (Option.some FieldType.int) ∈ Wd := Wd_mem 1293 (by decide +kernel) (by decide +kernel)
theorem wm_1294 : Cond.methodLink "RoadLinksLaw" 199 ⟨"RoadLinksModel", "count", "(I)I"⟩ ∈ Wd := Wd_mem 1294 (by decide +kernel) (by decide +kernel)
theorem wm_1295 : Cond.instanceMethod ⟨"RoadLinksModel", "count", "(I)I"⟩ ∈ Wd := Wd_mem 1295 (by decide +kernel) (by decide +kernel)
theorem wm_1296 : Cond.selects "RoadLinksModel" ⟨"RoadLinksModel", "count", "(I)I"⟩ ⟨"RoadLinksModel", "count", "(I)I"⟩ ∈ Wd := Wd_mem 1296 (by decide +kernel) (by decide +kernel)
theorem wm_1297 : Cond.code ⟨"RoadLinksModel", "count", "(I)I"⟩ prog_9_method_87_code 4 (Option.some FieldType.int) ∈ Wd := Wd_mem 1297 (by decide +kernel) (by decide +kernel)
theorem cs_L_13 : CSV RL 13 yX6_posts cX6_posts 3 (some .int) 1 := ⟨Wd_ga (List.forall_mem_cons.mpr ⟨wm_282, List.forall_mem_cons.mpr ⟨wm_283, List.forall_mem_cons.mpr ⟨wm_284, List.forall_mem_cons.mpr ⟨wm_61, fun _ h => absurd h List.not_mem_nil⟩⟩⟩⟩) wm_285, rfl, by decide +kernel, by decide +kernel, by decide +kernel⟩
theorem cs_L_17 : CSV RL 17 yX7_posts cX7_posts 3 (some .int) 1 := ⟨Wd_ga (List.forall_mem_cons.mpr ⟨wm_942, List.forall_mem_cons.mpr ⟨wm_943, List.forall_mem_cons.mpr ⟨wm_944, List.forall_mem_cons.mpr ⟨wm_68, fun _ h => absurd h List.not_mem_nil⟩⟩⟩⟩) wm_945, rfl, by decide +kernel, by decide +kernel, by decide +kernel⟩
theorem cs_L_18 : CSV RL 18 yX6_road cX6_road 5 (some .int) 3 := ⟨Wd_ga (List.forall_mem_cons.mpr ⟨wm_290, List.forall_mem_cons.mpr ⟨wm_291, List.forall_mem_cons.mpr ⟨wm_292, List.forall_mem_cons.mpr ⟨wm_61, fun _ h => absurd h List.not_mem_nil⟩⟩⟩⟩) wm_293, rfl, by decide +kernel, by decide +kernel, by decide +kernel⟩
theorem cs_L_22 : CSV RL 22 yX7_road cX7_road 5 (some .int) 3 := ⟨Wd_ga (List.forall_mem_cons.mpr ⟨wm_953, List.forall_mem_cons.mpr ⟨wm_954, List.forall_mem_cons.mpr ⟨wm_955, List.forall_mem_cons.mpr ⟨wm_68, fun _ h => absurd h List.not_mem_nil⟩⟩⟩⟩) wm_956, rfl, by decide +kernel, by decide +kernel, by decide +kernel⟩
theorem cs_L_23 : CSV RL 23 yX6_isRoad cX6_isRoad 3 (some .int) 2 := ⟨Wd_ga (List.forall_mem_cons.mpr ⟨wm_302, List.forall_mem_cons.mpr ⟨wm_303, List.forall_mem_cons.mpr ⟨wm_304, List.forall_mem_cons.mpr ⟨wm_61, fun _ h => absurd h List.not_mem_nil⟩⟩⟩⟩) wm_305, rfl, by decide +kernel, by decide +kernel, by decide +kernel⟩
theorem cs_L_27 : CSV RL 27 yX7_isRoad cX7_isRoad 3 (some .int) 2 := ⟨Wd_ga (List.forall_mem_cons.mpr ⟨wm_961, List.forall_mem_cons.mpr ⟨wm_962, List.forall_mem_cons.mpr ⟨wm_963, List.forall_mem_cons.mpr ⟨wm_68, fun _ h => absurd h List.not_mem_nil⟩⟩⟩⟩) wm_964, rfl, by decide +kernel, by decide +kernel, by decide +kernel⟩
theorem cs_L_28 : CSV RL 28 yX6_targets cX6_targets 3 (some .int) 1 := ⟨Wd_ga (List.forall_mem_cons.mpr ⟨wm_306, List.forall_mem_cons.mpr ⟨wm_307, List.forall_mem_cons.mpr ⟨wm_308, List.forall_mem_cons.mpr ⟨wm_61, fun _ h => absurd h List.not_mem_nil⟩⟩⟩⟩) wm_309, rfl, by decide +kernel, by decide +kernel, by decide +kernel⟩
theorem cs_L_31 : CSV RL 31 yX7_targets cX7_targets 3 (some .int) 1 := ⟨Wd_ga (List.forall_mem_cons.mpr ⟨wm_965, List.forall_mem_cons.mpr ⟨wm_966, List.forall_mem_cons.mpr ⟨wm_967, List.forall_mem_cons.mpr ⟨wm_68, fun _ h => absurd h List.not_mem_nil⟩⟩⟩⟩) wm_968, rfl, by decide +kernel, by decide +kernel, by decide +kernel⟩
theorem cs_L_32 : CSV RL 32 yX6_weigh cX6_weigh 4 (some .int) 2 := ⟨Wd_ga (List.forall_mem_cons.mpr ⟨wm_322, List.forall_mem_cons.mpr ⟨wm_323, List.forall_mem_cons.mpr ⟨wm_324, List.forall_mem_cons.mpr ⟨wm_61, fun _ h => absurd h List.not_mem_nil⟩⟩⟩⟩) wm_325, rfl, by decide +kernel, by decide +kernel, by decide +kernel⟩
theorem cs_L_35 : CSV RL 35 yX7_weigh cX7_weigh 4 (some .int) 2 := ⟨Wd_ga (List.forall_mem_cons.mpr ⟨wm_977, List.forall_mem_cons.mpr ⟨wm_978, List.forall_mem_cons.mpr ⟨wm_979, List.forall_mem_cons.mpr ⟨wm_68, fun _ h => absurd h List.not_mem_nil⟩⟩⟩⟩) wm_980, rfl, by decide +kernel, by decide +kernel, by decide +kernel⟩
theorem cs_L_36 : CSV RL 36 yX6_add cX6_add 2 (some .int) 1 := ⟨Wd_ga (List.forall_mem_cons.mpr ⟨wm_330, List.forall_mem_cons.mpr ⟨wm_331, List.forall_mem_cons.mpr ⟨wm_332, List.forall_mem_cons.mpr ⟨wm_61, fun _ h => absurd h List.not_mem_nil⟩⟩⟩⟩) wm_333, rfl, by decide +kernel, by decide +kernel, by decide +kernel⟩
theorem cs_L_39 : CSV RL 39 yX7_add cX7_add 2 (some .int) 1 := ⟨Wd_ga (List.forall_mem_cons.mpr ⟨wm_981, List.forall_mem_cons.mpr ⟨wm_982, List.forall_mem_cons.mpr ⟨wm_983, List.forall_mem_cons.mpr ⟨wm_68, fun _ h => absurd h List.not_mem_nil⟩⟩⟩⟩) wm_984, rfl, by decide +kernel, by decide +kernel, by decide +kernel⟩
theorem cs_L_40 : CSV RL 40 yX6_change cX6_change 4 (some .int) 2 := ⟨Wd_ga (List.forall_mem_cons.mpr ⟨wm_338, List.forall_mem_cons.mpr ⟨wm_339, List.forall_mem_cons.mpr ⟨wm_340, List.forall_mem_cons.mpr ⟨wm_61, fun _ h => absurd h List.not_mem_nil⟩⟩⟩⟩) wm_341, rfl, by decide +kernel, by decide +kernel, by decide +kernel⟩
theorem cs_L_43 : CSV RL 43 yX7_change cX7_change 4 (some .int) 2 := ⟨Wd_ga (List.forall_mem_cons.mpr ⟨wm_985, List.forall_mem_cons.mpr ⟨wm_986, List.forall_mem_cons.mpr ⟨wm_987, List.forall_mem_cons.mpr ⟨wm_68, fun _ h => absurd h List.not_mem_nil⟩⟩⟩⟩) wm_988, rfl, by decide +kernel, by decide +kernel, by decide +kernel⟩
theorem cs_L_44 : CSV RL 44 yX6_drop cX6_drop 2 (some .int) 1 := ⟨Wd_ga (List.forall_mem_cons.mpr ⟨wm_350, List.forall_mem_cons.mpr ⟨wm_351, List.forall_mem_cons.mpr ⟨wm_352, List.forall_mem_cons.mpr ⟨wm_61, fun _ h => absurd h List.not_mem_nil⟩⟩⟩⟩) wm_353, rfl, by decide +kernel, by decide +kernel, by decide +kernel⟩
theorem cs_L_47 : CSV RL 47 yX7_drop cX7_drop 2 (some .int) 1 := ⟨Wd_ga (List.forall_mem_cons.mpr ⟨wm_993, List.forall_mem_cons.mpr ⟨wm_994, List.forall_mem_cons.mpr ⟨wm_995, List.forall_mem_cons.mpr ⟨wm_68, fun _ h => absurd h List.not_mem_nil⟩⟩⟩⟩) wm_996, rfl, by decide +kernel, by decide +kernel, by decide +kernel⟩
theorem cs_L_48 : CSV RL 48 yX6_set cX6_set 2 (some .int) 1 := ⟨Wd_ga (List.forall_mem_cons.mpr ⟨wm_358, List.forall_mem_cons.mpr ⟨wm_359, List.forall_mem_cons.mpr ⟨wm_360, List.forall_mem_cons.mpr ⟨wm_61, fun _ h => absurd h List.not_mem_nil⟩⟩⟩⟩) wm_361, rfl, by decide +kernel, by decide +kernel, by decide +kernel⟩
theorem cs_L_51 : CSV RL 51 yX7_set cX7_set 2 (some .int) 1 := ⟨Wd_ga (List.forall_mem_cons.mpr ⟨wm_1001, List.forall_mem_cons.mpr ⟨wm_1002, List.forall_mem_cons.mpr ⟨wm_1003, List.forall_mem_cons.mpr ⟨wm_68, fun _ h => absurd h List.not_mem_nil⟩⟩⟩⟩) wm_1004, rfl, by decide +kernel, by decide +kernel, by decide +kernel⟩
theorem cs_L_52 : CSV RL 52 yX6_rank cX6_rank 3 (some .int) 2 := ⟨Wd_ga (List.forall_mem_cons.mpr ⟨wm_362, List.forall_mem_cons.mpr ⟨wm_363, List.forall_mem_cons.mpr ⟨wm_364, List.forall_mem_cons.mpr ⟨wm_61, fun _ h => absurd h List.not_mem_nil⟩⟩⟩⟩) wm_365, rfl, by decide +kernel, by decide +kernel, by decide +kernel⟩
theorem cs_L_55 : CSV RL 55 yX7_rank cX7_rank 3 (some .int) 2 := ⟨Wd_ga (List.forall_mem_cons.mpr ⟨wm_1005, List.forall_mem_cons.mpr ⟨wm_1006, List.forall_mem_cons.mpr ⟨wm_1007, List.forall_mem_cons.mpr ⟨wm_68, fun _ h => absurd h List.not_mem_nil⟩⟩⟩⟩) wm_1008, rfl, by decide +kernel, by decide +kernel, by decide +kernel⟩
theorem cs_L_56 : CSV RL 56 yX6_free cX6_free 3 (some .int) 2 := ⟨Wd_ga (List.forall_mem_cons.mpr ⟨wm_421, List.forall_mem_cons.mpr ⟨wm_422, List.forall_mem_cons.mpr ⟨wm_423, List.forall_mem_cons.mpr ⟨wm_61, fun _ h => absurd h List.not_mem_nil⟩⟩⟩⟩) wm_424, rfl, by decide +kernel, by decide +kernel, by decide +kernel⟩
theorem cs_L_59 : CSV RL 59 yX7_free cX7_free 3 (some .int) 2 := ⟨Wd_ga (List.forall_mem_cons.mpr ⟨wm_1049, List.forall_mem_cons.mpr ⟨wm_1050, List.forall_mem_cons.mpr ⟨wm_1051, List.forall_mem_cons.mpr ⟨wm_68, fun _ h => absurd h List.not_mem_nil⟩⟩⟩⟩) wm_1052, rfl, by decide +kernel, by decide +kernel, by decide +kernel⟩
theorem cs_L_60 : CSV RL 60 yX6_base cX6_base 3 (some .int) 2 := ⟨Wd_ga (List.forall_mem_cons.mpr ⟨wm_430, List.forall_mem_cons.mpr ⟨wm_431, List.forall_mem_cons.mpr ⟨wm_432, List.forall_mem_cons.mpr ⟨wm_61, fun _ h => absurd h List.not_mem_nil⟩⟩⟩⟩) wm_433, rfl, by decide +kernel, by decide +kernel, by decide +kernel⟩
theorem cs_L_63 : CSV RL 63 yX7_base cX7_base 3 (some .int) 2 := ⟨Wd_ga (List.forall_mem_cons.mpr ⟨wm_1053, List.forall_mem_cons.mpr ⟨wm_1054, List.forall_mem_cons.mpr ⟨wm_1055, List.forall_mem_cons.mpr ⟨wm_68, fun _ h => absurd h List.not_mem_nil⟩⟩⟩⟩) wm_1056, rfl, by decide +kernel, by decide +kernel, by decide +kernel⟩
theorem cs_L_64 : CSV RL 64 yX6_circuit cX6_circuit 3 (some .int) 2 := ⟨Wd_ga (List.forall_mem_cons.mpr ⟨wm_456, List.forall_mem_cons.mpr ⟨wm_457, List.forall_mem_cons.mpr ⟨wm_458, List.forall_mem_cons.mpr ⟨wm_61, fun _ h => absurd h List.not_mem_nil⟩⟩⟩⟩) wm_459, rfl, by decide +kernel, by decide +kernel, by decide +kernel⟩
theorem cs_L_67 : CSV RL 67 yX7_circuit cX7_circuit 3 (some .int) 2 := ⟨Wd_ga (List.forall_mem_cons.mpr ⟨wm_1069, List.forall_mem_cons.mpr ⟨wm_1070, List.forall_mem_cons.mpr ⟨wm_1071, List.forall_mem_cons.mpr ⟨wm_68, fun _ h => absurd h List.not_mem_nil⟩⟩⟩⟩) wm_1072, rfl, by decide +kernel, by decide +kernel, by decide +kernel⟩
theorem cs_L_68 : CSV RL 68 yX6_flat cX6_flat 3 (some .int) 2 := ⟨Wd_ga (List.forall_mem_cons.mpr ⟨wm_460, List.forall_mem_cons.mpr ⟨wm_461, List.forall_mem_cons.mpr ⟨wm_462, List.forall_mem_cons.mpr ⟨wm_61, fun _ h => absurd h List.not_mem_nil⟩⟩⟩⟩) wm_463, rfl, by decide +kernel, by decide +kernel, by decide +kernel⟩
theorem cs_L_71 : CSV RL 71 yX7_flat cX7_flat 3 (some .int) 2 := ⟨Wd_ga (List.forall_mem_cons.mpr ⟨wm_1073, List.forall_mem_cons.mpr ⟨wm_1074, List.forall_mem_cons.mpr ⟨wm_1075, List.forall_mem_cons.mpr ⟨wm_68, fun _ h => absurd h List.not_mem_nil⟩⟩⟩⟩) wm_1076, rfl, by decide +kernel, by decide +kernel, by decide +kernel⟩
theorem cs_L_72 : CSV RL 72 yX6_shut cX6_shut 3 (some .int) 2 := ⟨Wd_ga (List.forall_mem_cons.mpr ⟨wm_464, List.forall_mem_cons.mpr ⟨wm_465, List.forall_mem_cons.mpr ⟨wm_466, List.forall_mem_cons.mpr ⟨wm_61, fun _ h => absurd h List.not_mem_nil⟩⟩⟩⟩) wm_467, rfl, by decide +kernel, by decide +kernel, by decide +kernel⟩
theorem cs_L_75 : CSV RL 75 yX7_shut cX7_shut 3 (some .int) 2 := ⟨Wd_ga (List.forall_mem_cons.mpr ⟨wm_1077, List.forall_mem_cons.mpr ⟨wm_1078, List.forall_mem_cons.mpr ⟨wm_1079, List.forall_mem_cons.mpr ⟨wm_68, fun _ h => absurd h List.not_mem_nil⟩⟩⟩⟩) wm_1080, rfl, by decide +kernel, by decide +kernel, by decide +kernel⟩
theorem cs_L_76 : CSV RL 76 yX6_loops cX6_loops 4 (some .int) 2 := ⟨Wd_ga (List.forall_mem_cons.mpr ⟨wm_469, List.forall_mem_cons.mpr ⟨wm_470, List.forall_mem_cons.mpr ⟨wm_471, List.forall_mem_cons.mpr ⟨wm_61, fun _ h => absurd h List.not_mem_nil⟩⟩⟩⟩) wm_472, rfl, by decide +kernel, by decide +kernel, by decide +kernel⟩
theorem cs_L_79 : CSV RL 79 yX7_loops cX7_loops 6 (some .int) 2 := ⟨Wd_ga (List.forall_mem_cons.mpr ⟨wm_1081, List.forall_mem_cons.mpr ⟨wm_1082, List.forall_mem_cons.mpr ⟨wm_1083, List.forall_mem_cons.mpr ⟨wm_68, fun _ h => absurd h List.not_mem_nil⟩⟩⟩⟩) wm_1084, rfl, by decide +kernel, by decide +kernel, by decide +kernel⟩
theorem cs_L_80 : CSV RL 80 yX6_round cX6_round 5 (some .int) 3 := ⟨Wd_ga (List.forall_mem_cons.mpr ⟨wm_480, List.forall_mem_cons.mpr ⟨wm_481, List.forall_mem_cons.mpr ⟨wm_482, List.forall_mem_cons.mpr ⟨wm_61, fun _ h => absurd h List.not_mem_nil⟩⟩⟩⟩) wm_483, rfl, by decide +kernel, by decide +kernel, by decide +kernel⟩
theorem cs_L_83 : CSV RL 83 yX7_round cX7_round 7 (some .int) 3 := ⟨Wd_ga (List.forall_mem_cons.mpr ⟨wm_1085, List.forall_mem_cons.mpr ⟨wm_1086, List.forall_mem_cons.mpr ⟨wm_1087, List.forall_mem_cons.mpr ⟨wm_68, fun _ h => absurd h List.not_mem_nil⟩⟩⟩⟩) wm_1088, rfl, by decide +kernel, by decide +kernel, by decide +kernel⟩
theorem cs_L_84 : CSV RL 84 yX6_swap cX6_swap 6 (some .int) 4 := ⟨Wd_ga (List.forall_mem_cons.mpr ⟨wm_490, List.forall_mem_cons.mpr ⟨wm_491, List.forall_mem_cons.mpr ⟨wm_492, List.forall_mem_cons.mpr ⟨wm_61, fun _ h => absurd h List.not_mem_nil⟩⟩⟩⟩) wm_493, rfl, by decide +kernel, by decide +kernel, by decide +kernel⟩
theorem cs_L_88 : CSV RL 88 yX7_swap cX7_swap 6 (some .int) 4 := ⟨Wd_ga (List.forall_mem_cons.mpr ⟨wm_1089, List.forall_mem_cons.mpr ⟨wm_1090, List.forall_mem_cons.mpr ⟨wm_1091, List.forall_mem_cons.mpr ⟨wm_68, fun _ h => absurd h List.not_mem_nil⟩⟩⟩⟩) wm_1092, rfl, by decide +kernel, by decide +kernel, by decide +kernel⟩
theorem cs_L_89 : CSV RL 89 yX6_steps cX6_steps 6 (some .int) 1 := ⟨Wd_ga (List.forall_mem_cons.mpr ⟨wm_498, List.forall_mem_cons.mpr ⟨wm_499, List.forall_mem_cons.mpr ⟨wm_500, List.forall_mem_cons.mpr ⟨wm_61, fun _ h => absurd h List.not_mem_nil⟩⟩⟩⟩) wm_501, rfl, by decide +kernel, by decide +kernel, by decide +kernel⟩
theorem cs_L_92 : CSV RL 92 yX7_steps cX7_steps 5 (some .int) 1 := ⟨Wd_ga (List.forall_mem_cons.mpr ⟨wm_1093, List.forall_mem_cons.mpr ⟨wm_1094, List.forall_mem_cons.mpr ⟨wm_1095, List.forall_mem_cons.mpr ⟨wm_68, fun _ h => absurd h List.not_mem_nil⟩⟩⟩⟩) wm_1096, rfl, by decide +kernel, by decide +kernel, by decide +kernel⟩
theorem cs_L_93 : CSV RL 93 yX6_less cX6_less 6 (some .int) 4 := ⟨Wd_ga (List.forall_mem_cons.mpr ⟨wm_506, List.forall_mem_cons.mpr ⟨wm_507, List.forall_mem_cons.mpr ⟨wm_508, List.forall_mem_cons.mpr ⟨wm_61, fun _ h => absurd h List.not_mem_nil⟩⟩⟩⟩) wm_509, rfl, by decide +kernel, by decide +kernel, by decide +kernel⟩
theorem cs_L_96 : CSV RL 96 yX7_less cX7_less 5 (some .int) 4 := ⟨Wd_ga (List.forall_mem_cons.mpr ⟨wm_1097, List.forall_mem_cons.mpr ⟨wm_1098, List.forall_mem_cons.mpr ⟨wm_1099, List.forall_mem_cons.mpr ⟨wm_68, fun _ h => absurd h List.not_mem_nil⟩⟩⟩⟩) wm_1100, rfl, by decide +kernel, by decide +kernel, by decide +kernel⟩
theorem cs_L_97 : CSV RL 97 yX6_heaviest cX6_heaviest 8 (some .int) 2 := ⟨Wd_ga (List.forall_mem_cons.mpr ⟨wm_510, List.forall_mem_cons.mpr ⟨wm_511, List.forall_mem_cons.mpr ⟨wm_512, List.forall_mem_cons.mpr ⟨wm_61, fun _ h => absurd h List.not_mem_nil⟩⟩⟩⟩) wm_513, rfl, by decide +kernel, by decide +kernel, by decide +kernel⟩
theorem cs_L_100 : CSV RL 100 yX7_heaviest cX7_heaviest 5 (some .int) 2 := ⟨Wd_ga (List.forall_mem_cons.mpr ⟨wm_1101, List.forall_mem_cons.mpr ⟨wm_1102, List.forall_mem_cons.mpr ⟨wm_1103, List.forall_mem_cons.mpr ⟨wm_68, fun _ h => absurd h List.not_mem_nil⟩⟩⟩⟩) wm_1104, rfl, by decide +kernel, by decide +kernel, by decide +kernel⟩
theorem cs_L_101 : CSV RL 101 yX6_alike cX6_alike 6 (some .int) 2 := ⟨Wd_ga (List.forall_mem_cons.mpr ⟨wm_519, List.forall_mem_cons.mpr ⟨wm_520, List.forall_mem_cons.mpr ⟨wm_521, List.forall_mem_cons.mpr ⟨wm_61, fun _ h => absurd h List.not_mem_nil⟩⟩⟩⟩) wm_522, rfl, by decide +kernel, by decide +kernel, by decide +kernel⟩
theorem cs_L_104 : CSV RL 104 yX7_alike cX7_alike 4 (some .int) 2 := ⟨Wd_ga (List.forall_mem_cons.mpr ⟨wm_1109, List.forall_mem_cons.mpr ⟨wm_1110, List.forall_mem_cons.mpr ⟨wm_1111, List.forall_mem_cons.mpr ⟨wm_68, fun _ h => absurd h List.not_mem_nil⟩⟩⟩⟩) wm_1112, rfl, by decide +kernel, by decide +kernel, by decide +kernel⟩
theorem cs_L_105 : CSV RL 105 yX6_cut cX6_cut 5 (some .int) 1 := ⟨Wd_ga (List.forall_mem_cons.mpr ⟨wm_523, List.forall_mem_cons.mpr ⟨wm_524, List.forall_mem_cons.mpr ⟨wm_525, List.forall_mem_cons.mpr ⟨wm_61, fun _ h => absurd h List.not_mem_nil⟩⟩⟩⟩) wm_526, rfl, by decide +kernel, by decide +kernel, by decide +kernel⟩
theorem cs_L_108 : CSV RL 108 yX7_cut cX7_cut 2 (some .int) 1 := ⟨Wd_ga (List.forall_mem_cons.mpr ⟨wm_1113, List.forall_mem_cons.mpr ⟨wm_1114, List.forall_mem_cons.mpr ⟨wm_1115, List.forall_mem_cons.mpr ⟨wm_68, fun _ h => absurd h List.not_mem_nil⟩⟩⟩⟩) wm_1116, rfl, by decide +kernel, by decide +kernel, by decide +kernel⟩
theorem cs_L_109 : CSV RL 109 yX6_reach cX6_reach 2 (some .int) 1 := ⟨Wd_ga (List.forall_mem_cons.mpr ⟨wm_536, List.forall_mem_cons.mpr ⟨wm_537, List.forall_mem_cons.mpr ⟨wm_538, List.forall_mem_cons.mpr ⟨wm_61, fun _ h => absurd h List.not_mem_nil⟩⟩⟩⟩) wm_539, rfl, by decide +kernel, by decide +kernel, by decide +kernel⟩
theorem cs_L_112 : CSV RL 112 yX7_reach cX7_reach 5 (some .int) 1 := ⟨Wd_ga (List.forall_mem_cons.mpr ⟨wm_1117, List.forall_mem_cons.mpr ⟨wm_1118, List.forall_mem_cons.mpr ⟨wm_1119, List.forall_mem_cons.mpr ⟨wm_68, fun _ h => absurd h List.not_mem_nil⟩⟩⟩⟩) wm_1120, rfl, by decide +kernel, by decide +kernel, by decide +kernel⟩
theorem cs_L_113 : CSV RL 113 yX6_partners cX6_partners 4 (some .int) 1 := ⟨Wd_ga (List.forall_mem_cons.mpr ⟨wm_541, List.forall_mem_cons.mpr ⟨wm_542, List.forall_mem_cons.mpr ⟨wm_543, List.forall_mem_cons.mpr ⟨wm_61, fun _ h => absurd h List.not_mem_nil⟩⟩⟩⟩) wm_544, rfl, by decide +kernel, by decide +kernel, by decide +kernel⟩
theorem cs_L_116 : CSV RL 116 yX7_partners cX7_partners 7 (some .int) 1 := ⟨Wd_ga (List.forall_mem_cons.mpr ⟨wm_1121, List.forall_mem_cons.mpr ⟨wm_1122, List.forall_mem_cons.mpr ⟨wm_1123, List.forall_mem_cons.mpr ⟨wm_68, fun _ h => absurd h List.not_mem_nil⟩⟩⟩⟩) wm_1124, rfl, by decide +kernel, by decide +kernel, by decide +kernel⟩
theorem cs_L_117 : CSV RL 117 yX6_turned cX6_turned 1 (some .int) 0 := ⟨Wd_ga (List.forall_mem_cons.mpr ⟨wm_567, List.forall_mem_cons.mpr ⟨wm_568, List.forall_mem_cons.mpr ⟨wm_569, List.forall_mem_cons.mpr ⟨wm_61, fun _ h => absurd h List.not_mem_nil⟩⟩⟩⟩) wm_570, rfl, by decide +kernel, by decide +kernel, by decide +kernel⟩
theorem cs_L_121 : CSV RL 121 yX7_turned cX7_turned 2 (some .int) 0 := ⟨Wd_ga (List.forall_mem_cons.mpr ⟨wm_1129, List.forall_mem_cons.mpr ⟨wm_1130, List.forall_mem_cons.mpr ⟨wm_1131, List.forall_mem_cons.mpr ⟨wm_68, fun _ h => absurd h List.not_mem_nil⟩⟩⟩⟩) wm_1132, rfl, by decide +kernel, by decide +kernel, by decide +kernel⟩
theorem cs_L_122 : CSV RL 122 yX6_strict cX6_strict 2 (some .int) 0 := ⟨Wd_ga (List.forall_mem_cons.mpr ⟨wm_576, List.forall_mem_cons.mpr ⟨wm_577, List.forall_mem_cons.mpr ⟨wm_578, List.forall_mem_cons.mpr ⟨wm_61, fun _ h => absurd h List.not_mem_nil⟩⟩⟩⟩) wm_579, rfl, by decide +kernel, by decide +kernel, by decide +kernel⟩
theorem cs_L_125 : CSV RL 125 yX7_strict cX7_strict 4 (some .int) 0 := ⟨Wd_ga (List.forall_mem_cons.mpr ⟨wm_1133, List.forall_mem_cons.mpr ⟨wm_1134, List.forall_mem_cons.mpr ⟨wm_1135, List.forall_mem_cons.mpr ⟨wm_68, fun _ h => absurd h List.not_mem_nil⟩⟩⟩⟩) wm_1136, rfl, by decide +kernel, by decide +kernel, by decide +kernel⟩
theorem cs_L_126 : CSV RL 126 yX6_spare cX6_spare 2 (some .int) 1 := ⟨Wd_ga (List.forall_mem_cons.mpr ⟨wm_589, List.forall_mem_cons.mpr ⟨wm_590, List.forall_mem_cons.mpr ⟨wm_591, List.forall_mem_cons.mpr ⟨wm_61, fun _ h => absurd h List.not_mem_nil⟩⟩⟩⟩) wm_592, rfl, by decide +kernel, by decide +kernel, by decide +kernel⟩
theorem cs_L_129 : CSV RL 129 yX7_spare cX7_spare 2 (some .int) 1 := ⟨Wd_ga (List.forall_mem_cons.mpr ⟨wm_1141, List.forall_mem_cons.mpr ⟨wm_1142, List.forall_mem_cons.mpr ⟨wm_1143, List.forall_mem_cons.mpr ⟨wm_68, fun _ h => absurd h List.not_mem_nil⟩⟩⟩⟩) wm_1144, rfl, by decide +kernel, by decide +kernel, by decide +kernel⟩
theorem cs_L_130 : CSV RL 130 yX6_room cX6_room 2 (some .int) 1 := ⟨Wd_ga (List.forall_mem_cons.mpr ⟨wm_605, List.forall_mem_cons.mpr ⟨wm_606, List.forall_mem_cons.mpr ⟨wm_607, List.forall_mem_cons.mpr ⟨wm_61, fun _ h => absurd h List.not_mem_nil⟩⟩⟩⟩) wm_608, rfl, by decide +kernel, by decide +kernel, by decide +kernel⟩
theorem cs_L_133 : CSV RL 133 yX7_room cX7_room 2 (some .int) 1 := ⟨Wd_ga (List.forall_mem_cons.mpr ⟨wm_1157, List.forall_mem_cons.mpr ⟨wm_1158, List.forall_mem_cons.mpr ⟨wm_1159, List.forall_mem_cons.mpr ⟨wm_68, fun _ h => absurd h List.not_mem_nil⟩⟩⟩⟩) wm_1160, rfl, by decide +kernel, by decide +kernel, by decide +kernel⟩
theorem cs_L_134 : CSV RL 134 yX6_idle cX6_idle 4 (some .int) 0 := ⟨Wd_ga (List.forall_mem_cons.mpr ⟨wm_609, List.forall_mem_cons.mpr ⟨wm_610, List.forall_mem_cons.mpr ⟨wm_611, List.forall_mem_cons.mpr ⟨wm_61, fun _ h => absurd h List.not_mem_nil⟩⟩⟩⟩) wm_612, rfl, by decide +kernel, by decide +kernel, by decide +kernel⟩
theorem cs_L_137 : CSV RL 137 yX7_idle cX7_idle 4 (some .int) 0 := ⟨Wd_ga (List.forall_mem_cons.mpr ⟨wm_1161, List.forall_mem_cons.mpr ⟨wm_1162, List.forall_mem_cons.mpr ⟨wm_1163, List.forall_mem_cons.mpr ⟨wm_68, fun _ h => absurd h List.not_mem_nil⟩⟩⟩⟩) wm_1164, rfl, by decide +kernel, by decide +kernel, by decide +kernel⟩
theorem cs_L_138 : CSV RL 138 yX6_small cX6_small 6 (some .int) 0 := ⟨Wd_ga (List.forall_mem_cons.mpr ⟨wm_613, List.forall_mem_cons.mpr ⟨wm_614, List.forall_mem_cons.mpr ⟨wm_615, List.forall_mem_cons.mpr ⟨wm_61, fun _ h => absurd h List.not_mem_nil⟩⟩⟩⟩) wm_616, rfl, by decide +kernel, by decide +kernel, by decide +kernel⟩
theorem cs_L_141 : CSV RL 141 yX7_small cX7_small 4 (some .int) 0 := ⟨Wd_ga (List.forall_mem_cons.mpr ⟨wm_1165, List.forall_mem_cons.mpr ⟨wm_1166, List.forall_mem_cons.mpr ⟨wm_1167, List.forall_mem_cons.mpr ⟨wm_68, fun _ h => absurd h List.not_mem_nil⟩⟩⟩⟩) wm_1168, rfl, by decide +kernel, by decide +kernel, by decide +kernel⟩
theorem cs_L_142 : CSV RL 142 yX6_row cX6_row 4 (some .int) 2 := ⟨Wd_ga (List.forall_mem_cons.mpr ⟨wm_621, List.forall_mem_cons.mpr ⟨wm_622, List.forall_mem_cons.mpr ⟨wm_623, List.forall_mem_cons.mpr ⟨wm_61, fun _ h => absurd h List.not_mem_nil⟩⟩⟩⟩) wm_624, rfl, by decide +kernel, by decide +kernel, by decide +kernel⟩
theorem cs_L_145 : CSV RL 145 yX7_row cX7_row 4 (some .int) 2 := ⟨Wd_ga (List.forall_mem_cons.mpr ⟨wm_1169, List.forall_mem_cons.mpr ⟨wm_1170, List.forall_mem_cons.mpr ⟨wm_1171, List.forall_mem_cons.mpr ⟨wm_68, fun _ h => absurd h List.not_mem_nil⟩⟩⟩⟩) wm_1172, rfl, by decide +kernel, by decide +kernel, by decide +kernel⟩
theorem cs_L_146 : CSV RL 146 yX6_lose cX6_lose 3 (some .int) 1 := ⟨Wd_ga (List.forall_mem_cons.mpr ⟨wm_628, List.forall_mem_cons.mpr ⟨wm_629, List.forall_mem_cons.mpr ⟨wm_630, List.forall_mem_cons.mpr ⟨wm_61, fun _ h => absurd h List.not_mem_nil⟩⟩⟩⟩) wm_631, rfl, by decide +kernel, by decide +kernel, by decide +kernel⟩
theorem cs_L_149 : CSV RL 149 yX7_lose cX7_lose 3 (some .int) 1 := ⟨Wd_ga (List.forall_mem_cons.mpr ⟨wm_1176, List.forall_mem_cons.mpr ⟨wm_1177, List.forall_mem_cons.mpr ⟨wm_1178, List.forall_mem_cons.mpr ⟨wm_68, fun _ h => absurd h List.not_mem_nil⟩⟩⟩⟩) wm_1179, rfl, by decide +kernel, by decide +kernel, by decide +kernel⟩
theorem cs_L_150 : CSV RL 150 yX6_put cX6_put 4 (some .int) 3 := ⟨Wd_ga (List.forall_mem_cons.mpr ⟨wm_636, List.forall_mem_cons.mpr ⟨wm_637, List.forall_mem_cons.mpr ⟨wm_638, List.forall_mem_cons.mpr ⟨wm_61, fun _ h => absurd h List.not_mem_nil⟩⟩⟩⟩) wm_639, rfl, by decide +kernel, by decide +kernel, by decide +kernel⟩
theorem cs_L_153 : CSV RL 153 yX7_put cX7_put 4 (some .int) 3 := ⟨Wd_ga (List.forall_mem_cons.mpr ⟨wm_1180, List.forall_mem_cons.mpr ⟨wm_1181, List.forall_mem_cons.mpr ⟨wm_1182, List.forall_mem_cons.mpr ⟨wm_68, fun _ h => absurd h List.not_mem_nil⟩⟩⟩⟩) wm_1183, rfl, by decide +kernel, by decide +kernel, by decide +kernel⟩
theorem cs_L_154 : CSV RL 154 yX6_get cX6_get 3 (some .long) 2 := ⟨Wd_ga (List.forall_mem_cons.mpr ⟨wm_640, List.forall_mem_cons.mpr ⟨wm_641, List.forall_mem_cons.mpr ⟨wm_642, List.forall_mem_cons.mpr ⟨wm_61, fun _ h => absurd h List.not_mem_nil⟩⟩⟩⟩) wm_643, rfl, by decide +kernel, by decide +kernel, by decide +kernel⟩
theorem cs_L_158 : CSV RL 158 yX7_get cX7_get 3 (some .long) 2 := ⟨Wd_ga (List.forall_mem_cons.mpr ⟨wm_1184, List.forall_mem_cons.mpr ⟨wm_1185, List.forall_mem_cons.mpr ⟨wm_1186, List.forall_mem_cons.mpr ⟨wm_68, fun _ h => absurd h List.not_mem_nil⟩⟩⟩⟩) wm_1187, rfl, by decide +kernel, by decide +kernel, by decide +kernel⟩
theorem cs_L_159 : CSV RL 159 yX6_copy cX6_copy 6 (some .int) 5 := ⟨Wd_ga (List.forall_mem_cons.mpr ⟨wm_645, List.forall_mem_cons.mpr ⟨wm_646, List.forall_mem_cons.mpr ⟨wm_647, List.forall_mem_cons.mpr ⟨wm_61, fun _ h => absurd h List.not_mem_nil⟩⟩⟩⟩) wm_648, rfl, by decide +kernel, by decide +kernel, by decide +kernel⟩
theorem cs_L_163 : CSV RL 163 yX7_copy cX7_copy 7 (some .int) 5 := ⟨Wd_ga (List.forall_mem_cons.mpr ⟨wm_1189, List.forall_mem_cons.mpr ⟨wm_1190, List.forall_mem_cons.mpr ⟨wm_1191, List.forall_mem_cons.mpr ⟨wm_68, fun _ h => absurd h List.not_mem_nil⟩⟩⟩⟩) wm_1192, rfl, by decide +kernel, by decide +kernel, by decide +kernel⟩
theorem cs_L_164 : CSV RL 164 yX6_film cX6_film 8 (some .int) 4 := ⟨Wd_ga (List.forall_mem_cons.mpr ⟨wm_652, List.forall_mem_cons.mpr ⟨wm_653, List.forall_mem_cons.mpr ⟨wm_654, List.forall_mem_cons.mpr ⟨wm_61, fun _ h => absurd h List.not_mem_nil⟩⟩⟩⟩) wm_655, rfl, by decide +kernel, by decide +kernel, by decide +kernel⟩
theorem cs_L_167 : CSV RL 167 yX7_film cX7_film 6 (some .int) 4 := ⟨Wd_ga (List.forall_mem_cons.mpr ⟨wm_1193, List.forall_mem_cons.mpr ⟨wm_1194, List.forall_mem_cons.mpr ⟨wm_1195, List.forall_mem_cons.mpr ⟨wm_68, fun _ h => absurd h List.not_mem_nil⟩⟩⟩⟩) wm_1196, rfl, by decide +kernel, by decide +kernel, by decide +kernel⟩
theorem cs_L_168 : CSV RL 168 yX6_judge cX6_judge 6 (some .int) 3 := ⟨Wd_ga (List.forall_mem_cons.mpr ⟨wm_659, List.forall_mem_cons.mpr ⟨wm_660, List.forall_mem_cons.mpr ⟨wm_661, List.forall_mem_cons.mpr ⟨wm_61, fun _ h => absurd h List.not_mem_nil⟩⟩⟩⟩) wm_662, rfl, by decide +kernel, by decide +kernel, by decide +kernel⟩
theorem cs_L_171 : CSV RL 171 yX7_judge cX7_judge 5 (some .int) 3 := ⟨Wd_ga (List.forall_mem_cons.mpr ⟨wm_1198, List.forall_mem_cons.mpr ⟨wm_1199, List.forall_mem_cons.mpr ⟨wm_1200, List.forall_mem_cons.mpr ⟨wm_68, fun _ h => absurd h List.not_mem_nil⟩⟩⟩⟩) wm_1201, rfl, by decide +kernel, by decide +kernel, by decide +kernel⟩
theorem cs_L_172 : CSV RL 172 yX6_feed cX6_feed 2 (some .int) 1 := ⟨Wd_ga (List.forall_mem_cons.mpr ⟨wm_663, List.forall_mem_cons.mpr ⟨wm_664, List.forall_mem_cons.mpr ⟨wm_665, List.forall_mem_cons.mpr ⟨wm_61, fun _ h => absurd h List.not_mem_nil⟩⟩⟩⟩) wm_666, rfl, by decide +kernel, by decide +kernel, by decide +kernel⟩
theorem cs_L_175 : CSV RL 175 yX7_feed cX7_feed 2 (some .int) 1 := ⟨Wd_ga (List.forall_mem_cons.mpr ⟨wm_1202, List.forall_mem_cons.mpr ⟨wm_1203, List.forall_mem_cons.mpr ⟨wm_1204, List.forall_mem_cons.mpr ⟨wm_68, fun _ h => absurd h List.not_mem_nil⟩⟩⟩⟩) wm_1205, rfl, by decide +kernel, by decide +kernel, by decide +kernel⟩
theorem cs_L_176 : CSV RL 176 yX6_wipe cX6_wipe 2 (some .int) 0 := ⟨Wd_ga (List.forall_mem_cons.mpr ⟨wm_667, List.forall_mem_cons.mpr ⟨wm_668, List.forall_mem_cons.mpr ⟨wm_669, List.forall_mem_cons.mpr ⟨wm_61, fun _ h => absurd h List.not_mem_nil⟩⟩⟩⟩) wm_670, rfl, by decide +kernel, by decide +kernel, by decide +kernel⟩
theorem cs_L_179 : CSV RL 179 yX7_wipe cX7_wipe 2 (some .int) 0 := ⟨Wd_ga (List.forall_mem_cons.mpr ⟨wm_1206, List.forall_mem_cons.mpr ⟨wm_1207, List.forall_mem_cons.mpr ⟨wm_1208, List.forall_mem_cons.mpr ⟨wm_68, fun _ h => absurd h List.not_mem_nil⟩⟩⟩⟩) wm_1209, rfl, by decide +kernel, by decide +kernel, by decide +kernel⟩
theorem cs_L_180 : CSV RL 180 yX6_read cX6_read 3 (some .int) 0 := ⟨Wd_ga (List.forall_mem_cons.mpr ⟨wm_671, List.forall_mem_cons.mpr ⟨wm_672, List.forall_mem_cons.mpr ⟨wm_673, List.forall_mem_cons.mpr ⟨wm_61, fun _ h => absurd h List.not_mem_nil⟩⟩⟩⟩) wm_674, rfl, by decide +kernel, by decide +kernel, by decide +kernel⟩
theorem cs_L_183 : CSV RL 183 yX7_read cX7_read 2 (some .int) 0 := ⟨Wd_ga (List.forall_mem_cons.mpr ⟨wm_1210, List.forall_mem_cons.mpr ⟨wm_1211, List.forall_mem_cons.mpr ⟨wm_1212, List.forall_mem_cons.mpr ⟨wm_68, fun _ h => absurd h List.not_mem_nil⟩⟩⟩⟩) wm_1213, rfl, by decide +kernel, by decide +kernel, by decide +kernel⟩
theorem cs_L_184 : CSV RL 184 yX6_spelled cX6_spelled 2 (some .int) 1 := ⟨Wd_ga (List.forall_mem_cons.mpr ⟨wm_782, List.forall_mem_cons.mpr ⟨wm_783, List.forall_mem_cons.mpr ⟨wm_784, List.forall_mem_cons.mpr ⟨wm_61, fun _ h => absurd h List.not_mem_nil⟩⟩⟩⟩) wm_785, rfl, by decide +kernel, by decide +kernel, by decide +kernel⟩
theorem cs_L_187 : CSV RL 187 yX7_spelled cX7_spelled 2 (some .int) 1 := ⟨Wd_ga (List.forall_mem_cons.mpr ⟨wm_1266, List.forall_mem_cons.mpr ⟨wm_1267, List.forall_mem_cons.mpr ⟨wm_1268, List.forall_mem_cons.mpr ⟨wm_68, fun _ h => absurd h List.not_mem_nil⟩⟩⟩⟩) wm_1269, rfl, by decide +kernel, by decide +kernel, by decide +kernel⟩
theorem cs_L_188 : CSV RL 188 yX6_image cX6_image 1 (some .int) 0 := ⟨Wd_ga (List.forall_mem_cons.mpr ⟨wm_827, List.forall_mem_cons.mpr ⟨wm_828, List.forall_mem_cons.mpr ⟨wm_829, List.forall_mem_cons.mpr ⟨wm_61, fun _ h => absurd h List.not_mem_nil⟩⟩⟩⟩) wm_830, rfl, by decide +kernel, by decide +kernel, by decide +kernel⟩
theorem cs_L_191 : CSV RL 191 yX7_image cX7_image 2 (some .int) 0 := ⟨Wd_ga (List.forall_mem_cons.mpr ⟨wm_1286, List.forall_mem_cons.mpr ⟨wm_1287, List.forall_mem_cons.mpr ⟨wm_1288, List.forall_mem_cons.mpr ⟨wm_68, fun _ h => absurd h List.not_mem_nil⟩⟩⟩⟩) wm_1289, rfl, by decide +kernel, by decide +kernel, by decide +kernel⟩
theorem cs_L_192 : CSV RL 192 yX6_undo cX6_undo 1 (some .int) 0 := ⟨Wd_ga (List.forall_mem_cons.mpr ⟨wm_836, List.forall_mem_cons.mpr ⟨wm_837, List.forall_mem_cons.mpr ⟨wm_838, List.forall_mem_cons.mpr ⟨wm_61, fun _ h => absurd h List.not_mem_nil⟩⟩⟩⟩) wm_839, rfl, by decide +kernel, by decide +kernel, by decide +kernel⟩
theorem cs_L_195 : CSV RL 195 yX7_undo cX7_undo 2 (some .int) 0 := ⟨Wd_ga (List.forall_mem_cons.mpr ⟨wm_1290, List.forall_mem_cons.mpr ⟨wm_1291, List.forall_mem_cons.mpr ⟨wm_1292, List.forall_mem_cons.mpr ⟨wm_68, fun _ h => absurd h List.not_mem_nil⟩⟩⟩⟩) wm_1293, rfl, by decide +kernel, by decide +kernel, by decide +kernel⟩
theorem cs_L_196 : CSV RL 196 yX6_count cX6_count 2 (some .int) 1 := ⟨Wd_ga (List.forall_mem_cons.mpr ⟨wm_840, List.forall_mem_cons.mpr ⟨wm_841, List.forall_mem_cons.mpr ⟨wm_842, List.forall_mem_cons.mpr ⟨wm_61, fun _ h => absurd h List.not_mem_nil⟩⟩⟩⟩) wm_843, rfl, by decide +kernel, by decide +kernel, by decide +kernel⟩
theorem cs_L_199 : CSV RL 199 yX7_count cX7_count 4 (some .int) 1 := ⟨Wd_ga (List.forall_mem_cons.mpr ⟨wm_1294, List.forall_mem_cons.mpr ⟨wm_1295, List.forall_mem_cons.mpr ⟨wm_1296, List.forall_mem_cons.mpr ⟨wm_68, fun _ h => absurd h List.not_mem_nil⟩⟩⟩⟩) wm_1297, rfl, by decide +kernel, by decide +kernel, by decide +kernel⟩
theorem lg_cmp_self (x : Int64) : lg_cmp x x = 0 := by
  unfold lg_cmp
  simp
/-- posts -/
def sc_0 (n : Nat) (I : ST → ST → Prop) (σ τ : ST) (a1 : Int32) : Prop := ∃ (r : Int32) (σ' : ST) (τ' : ST), X6_posts n σ a1 = some (r, σ') ∧ X7_posts n τ a1 = some (r, τ') ∧ I σ' τ'
/-- road -/
def sc_1 (n : Nat) (I : ST → ST → Prop) (σ τ : ST) (a1 : Int32) (a2 : Int32) (a3 : Int32) : Prop := ∃ (r : Int32) (σ' : ST) (τ' : ST), X6_road σ a1 a2 a3 = some (r, σ') ∧ X7_road τ a1 a2 a3 = some (r, τ') ∧ I σ' τ'
/-- isRoad -/
def sc_2 (n : Nat) (I : ST → ST → Prop) (σ τ : ST) (a1 : Int32) (a2 : Int32) : Prop := ∃ (r : Int32), X6_isRoad σ a1 a2 = some r ∧ X7_isRoad τ a1 a2 = some r ∧ I σ τ
/-- targets -/
def sc_3 (n : Nat) (I : ST → ST → Prop) (σ τ : ST) (a1 : Int32) : Prop := ∃ (r : Int32) (σ' : ST) (τ' : ST), X6_targets σ a1 = some (r, σ') ∧ X7_targets τ a1 = some (r, τ') ∧ I σ' τ'
/-- weigh -/
def sc_4 (n : Nat) (I : ST → ST → Prop) (σ τ : ST) (a1 : Int32) (a2 : Int32) : Prop := ∃ (r : Int32) (σ' : ST) (τ' : ST), X6_weigh σ a1 a2 = some (r, σ') ∧ X7_weigh τ a1 a2 = some (r, τ') ∧ I σ' τ'
/-- add -/
def sc_5 (n : Nat) (I : ST → ST → Prop) (σ τ : ST) (a1 : Int32) : Prop := ∃ (r : Int32) (σ' : ST) (τ' : ST), X6_add σ a1 = some (r, σ') ∧ X7_add τ a1 = some (r, τ') ∧ I σ' τ'
/-- change -/
def sc_6 (n : Nat) (I : ST → ST → Prop) (σ τ : ST) (a1 : Int32) (a2 : Int32) : Prop := ∃ (r : Int32) (σ' : ST) (τ' : ST), X6_change σ a1 a2 = some (r, σ') ∧ X7_change τ a1 a2 = some (r, τ') ∧ I σ' τ'
/-- drop -/
def sc_7 (n : Nat) (I : ST → ST → Prop) (σ τ : ST) (a1 : Int32) : Prop := ∃ (r : Int32) (σ' : ST) (τ' : ST), X6_drop n σ a1 = some (r, σ') ∧ X7_drop n τ a1 = some (r, τ') ∧ I σ' τ'
/-- set -/
def sc_8 (n : Nat) (I : ST → ST → Prop) (σ τ : ST) (a1 : Int32) : Prop := ∃ (r : Int32), X6_set σ a1 = some r ∧ X7_set τ a1 = some r ∧ I σ τ
/-- rank -/
def sc_9 (n : Nat) (I : ST → ST → Prop) (σ τ : ST) (a1 : Int32) (a2 : Int32) : Prop := ∃ (r : Int32) (σ' : ST) (τ' : ST), X6_rank n σ a1 a2 = some (r, σ') ∧ X7_rank n τ a1 a2 = some (r, τ') ∧ I σ' τ'
/-- free -/
def sc_10 (n : Nat) (I : ST → ST → Prop) (σ τ : ST) (a1 : Int32) (a2 : Int32) : Prop := ∃ (r : Int32) (σ' : ST) (τ' : ST), X6_free n σ a1 a2 = some (r, σ') ∧ X7_free n τ a1 a2 = some (r, τ') ∧ I σ' τ'
/-- base -/
def sc_11 (n : Nat) (I : ST → ST → Prop) (σ τ : ST) (a1 : Int32) (a2 : Int32) : Prop := ∃ (r : Int32) (σ' : ST) (τ' : ST), X6_base n σ a1 a2 = some (r, σ') ∧ X7_base n τ a1 a2 = some (r, τ') ∧ I σ' τ'
/-- circuit -/
def sc_12 (n : Nat) (I : ST → ST → Prop) (σ τ : ST) (a1 : Int32) (a2 : Int32) : Prop := ∃ (r : Int32) (σ' : ST) (τ' : ST), X6_circuit n σ a1 a2 = some (r, σ') ∧ X7_circuit n τ a1 a2 = some (r, τ') ∧ I σ' τ'
/-- flat -/
def sc_13 (n : Nat) (I : ST → ST → Prop) (σ τ : ST) (a1 : Int32) (a2 : Int32) : Prop := ∃ (r : Int32) (σ' : ST) (τ' : ST), X6_flat n σ a1 a2 = some (r, σ') ∧ X7_flat n τ a1 a2 = some (r, τ') ∧ I σ' τ'
/-- shut -/
def sc_14 (n : Nat) (I : ST → ST → Prop) (σ τ : ST) (a1 : Int32) (a2 : Int32) : Prop := ∃ (r : Int32) (σ' : ST) (τ' : ST), X6_shut n σ a1 a2 = some (r, σ') ∧ X7_shut n τ a1 a2 = some (r, τ') ∧ I σ' τ'
/-- loops -/
def sc_15 (n : Nat) (I : ST → ST → Prop) (σ τ : ST) (a1 : Int32) (a2 : Int32) : Prop := ∃ (r : Int32) (σ' : ST) (τ' : ST), X6_loops n σ a1 a2 = some (r, σ') ∧ X7_loops n τ a1 a2 = some (r, τ') ∧ I σ' τ'
/-- round -/
def sc_16 (n : Nat) (I : ST → ST → Prop) (σ τ : ST) (a1 : Int32) (a2 : Int32) (a3 : Int32) : Prop := ∃ (r : Int32) (σ' : ST) (τ' : ST), X6_round n σ a1 a2 a3 = some (r, σ') ∧ X7_round n τ a1 a2 a3 = some (r, τ') ∧ I σ' τ'
/-- swap -/
def sc_17 (n : Nat) (I : ST → ST → Prop) (σ τ : ST) (a1 : Int32) (a2 : Int32) (a3 : Int32) (a4 : Int32) : Prop := ∃ (r : Int32) (σ' : ST) (τ' : ST), X6_swap n σ a1 a2 a3 a4 = some (r, σ') ∧ X7_swap n τ a1 a2 a3 a4 = some (r, τ') ∧ I σ' τ'
/-- steps -/
def sc_18 (n : Nat) (I : ST → ST → Prop) (σ τ : ST) (a1 : Int32) : Prop := ∃ (r : Int32) (σ' : ST) (τ' : ST), X6_steps n σ a1 = some (r, σ') ∧ X7_steps n τ a1 = some (r, τ') ∧ I σ' τ'
/-- less -/
def sc_19 (n : Nat) (I : ST → ST → Prop) (σ τ : ST) (a1 : Int32) (a2 : Int32) (a3 : Int32) (a4 : Int32) : Prop := ∃ (r : Int32) (σ' : ST) (τ' : ST), X6_less n σ a1 a2 a3 a4 = some (r, σ') ∧ X7_less n τ a1 a2 a3 a4 = some (r, τ') ∧ I σ' τ'
/-- heaviest -/
def sc_20 (n : Nat) (I : ST → ST → Prop) (σ τ : ST) (a1 : Int32) (a2 : Int32) : Prop := ∃ (r : Int32) (σ' : ST) (τ' : ST), X6_heaviest n σ a1 a2 = some (r, σ') ∧ X7_heaviest n τ a1 a2 = some (r, τ') ∧ I σ' τ'
/-- alike -/
def sc_21 (n : Nat) (I : ST → ST → Prop) (σ τ : ST) (a1 : Int32) (a2 : Int32) : Prop := ∃ (r : Int32) (σ' : ST) (τ' : ST), X6_alike n σ a1 a2 = some (r, σ') ∧ X7_alike n τ a1 a2 = some (r, τ') ∧ I σ' τ'
/-- cut -/
def sc_22 (n : Nat) (I : ST → ST → Prop) (σ τ : ST) (a1 : Int32) : Prop := ∃ (r : Int32) (σ' : ST) (τ' : ST), X6_cut n σ a1 = some (r, σ') ∧ X7_cut n τ a1 = some (r, τ') ∧ I σ' τ'
/-- reach -/
def sc_23 (n : Nat) (I : ST → ST → Prop) (σ τ : ST) (a1 : Int32) : Prop := ∃ (r : Int32), X6_reach n σ a1 = some r ∧ X7_reach n τ a1 = some r ∧ I σ τ
/-- partners -/
def sc_24 (n : Nat) (I : ST → ST → Prop) (σ τ : ST) (a1 : Int32) : Prop := ∃ (r : Int32) (σ' : ST), X6_partners n σ a1 = some (r, σ') ∧ X7_partners n τ a1 = some r ∧ I σ' τ
/-- turned -/
def sc_25 (n : Nat) (I : ST → ST → Prop) (σ τ : ST) : Prop := ∃ (r : Int32) (σ' : ST) (τ' : ST), X6_turned n σ = some (r, σ') ∧ X7_turned n τ = some (r, τ') ∧ I σ' τ'
/-- strict -/
def sc_26 (n : Nat) (I : ST → ST → Prop) (σ τ : ST) : Prop := ∃ (r : Int32) (σ' : ST) (τ' : ST), X6_strict n σ = some (r, σ') ∧ X7_strict n τ = some (r, τ') ∧ I σ' τ'
/-- spare -/
def sc_27 (n : Nat) (I : ST → ST → Prop) (σ τ : ST) (a1 : Int32) : Prop := ∃ (r : Int32) (σ' : ST) (τ' : ST), X6_spare n σ a1 = some (r, σ') ∧ X7_spare n τ a1 = some (r, τ') ∧ I σ' τ'
/-- room -/
def sc_28 (n : Nat) (I : ST → ST → Prop) (σ τ : ST) (a1 : Int32) : Prop := ∃ (r : Int32) (σ' : ST) (τ' : ST), X6_room n σ a1 = some (r, σ') ∧ X7_room n τ a1 = some (r, τ') ∧ I σ' τ'
/-- idle -/
def sc_29 (n : Nat) (I : ST → ST → Prop) (σ τ : ST) : Prop := ∃ (r : Int32) (σ' : ST) (τ' : ST), X6_idle n σ = some (r, σ') ∧ X7_idle n τ = some (r, τ') ∧ I σ' τ'
/-- small -/
def sc_30 (n : Nat) (I : ST → ST → Prop) (σ τ : ST) : Prop := ∃ (r : Int32) (σ' : ST) (τ' : ST), X6_small n σ = some (r, σ') ∧ X7_small n τ = some (r, τ') ∧ I σ' τ'
/-- row -/
def sc_31 (n : Nat) (I : ST → ST → Prop) (σ τ : ST) (a1 : Int32) (a2 : Int32) : Prop := ∃ (r : Int32) (σ' : ST) (τ' : ST), X6_row n σ a1 a2 = some (r, σ') ∧ X7_row n τ a1 a2 = some (r, τ') ∧ I σ' τ'
/-- lose -/
def sc_32 (n : Nat) (I : ST → ST → Prop) (σ τ : ST) (a1 : Int32) : Prop := ∃ (r : Int32) (σ' : ST) (τ' : ST), X6_lose σ a1 = some (r, σ') ∧ X7_lose τ a1 = some (r, τ') ∧ I σ' τ'
/-- put -/
def sc_33 (n : Nat) (I : ST → ST → Prop) (σ τ : ST) (a1 : Int32) (a2 : Int32) (a3 : Int32) : Prop := ∃ (r : Int32) (σ' : ST) (τ' : ST), X6_put σ a1 a2 a3 = some (r, σ') ∧ X7_put τ a1 a2 a3 = some (r, τ') ∧ I σ' τ'
/-- get -/
def sc_34 (n : Nat) (I : ST → ST → Prop) (σ τ : ST) (a1 : Int32) (a2 : Int32) : Prop := ∃ (r : Int64), X6_get σ a1 a2 = some r ∧ X7_get τ a1 a2 = some r ∧ I σ τ
/-- copy -/
def sc_35 (n : Nat) (I : ST → ST → Prop) (σ τ : ST) (a1 : Int32) (a2 : Int32) (a3 : Int32) (a4 : Int32) (a5 : Int32) : Prop := ∃ (r : Int32) (σ' : ST) (τ' : ST), X6_copy σ a1 a2 a3 a4 a5 = some (r, σ') ∧ X7_copy n τ a1 a2 a3 a4 a5 = some (r, τ') ∧ I σ' τ'
/-- film -/
def sc_36 (n : Nat) (I : ST → ST → Prop) (σ τ : ST) (a1 : Int32) (a2 : Int32) (a3 : Int32) (a4 : Int32) : Prop := ∃ (r : Int32) (σ' : ST) (τ' : ST), X6_film n σ a1 a2 a3 a4 = some (r, σ') ∧ X7_film n τ a1 a2 a3 a4 = some (r, τ') ∧ I σ' τ'
/-- judge -/
def sc_37 (n : Nat) (I : ST → ST → Prop) (σ τ : ST) (a1 : Int32) (a2 : Int32) (a3 : Int32) : Prop := ∃ (r : Int32) (σ' : ST) (τ' : ST), X6_judge n σ a1 a2 a3 = some (r, σ') ∧ X7_judge n τ a1 a2 a3 = some (r, τ') ∧ I σ' τ'
/-- feed -/
def sc_38 (n : Nat) (I : ST → ST → Prop) (σ τ : ST) (a1 : Int32) : Prop := ∃ (r : Int32) (σ' : ST) (τ' : ST), X6_feed σ a1 = some (r, σ') ∧ X7_feed τ a1 = some (r, τ') ∧ I σ' τ'
/-- wipe -/
def sc_39 (n : Nat) (I : ST → ST → Prop) (σ τ : ST) : Prop := ∃ (r : Int32) (σ' : ST) (τ' : ST), X6_wipe σ = some (r, σ') ∧ X7_wipe τ = some (r, τ') ∧ I σ' τ'
/-- read -/
def sc_40 (n : Nat) (I : ST → ST → Prop) (σ τ : ST) : Prop := ∃ (r : Int32) (σ' : ST) (τ' : ST), X6_read n σ = some (r, σ') ∧ X7_read n τ = some (r, τ') ∧ I σ' τ'
/-- spelled -/
def sc_41 (n : Nat) (I : ST → ST → Prop) (σ τ : ST) (a1 : Int32) : Prop := ∃ (r : Int32) (σ' : ST) (τ' : ST), X6_spelled n σ a1 = some (r, σ') ∧ X7_spelled n τ a1 = some (r, τ') ∧ I σ' τ'
/-- image -/
def sc_42 (n : Nat) (I : ST → ST → Prop) (σ τ : ST) : Prop := ∃ (r : Int32) (σ' : ST) (τ' : ST), X6_image σ = some (r, σ') ∧ X7_image n τ = some (r, τ') ∧ I σ' τ'
/-- undo -/
def sc_43 (n : Nat) (I : ST → ST → Prop) (σ τ : ST) : Prop := ∃ (r : Int32) (σ' : ST) (τ' : ST), X6_undo σ = some (r, σ') ∧ X7_undo n τ = some (r, τ') ∧ I σ' τ'
/-- count -/
def sc_44 (n : Nat) (I : ST → ST → Prop) (σ τ : ST) (a1 : Int32) : Prop := ∃ (r : Int32), X6_count n σ a1 = some r ∧ X7_count n τ a1 = some r ∧ I σ τ
/-- every call: from two states in I both sides answer alike, and come to two states in J -/
def scAll (n : Nat) (I J : ST → ST → Prop) : Prop := ∀ σ τ, I σ τ → ∀ a1 a2 a3 a4 a5 : Int32, sc_0 n J σ τ a1 ∧ sc_1 n J σ τ a1 a2 a3 ∧ sc_2 n J σ τ a1 a2 ∧ sc_3 n J σ τ a1 ∧ sc_4 n J σ τ a1 a2 ∧ sc_5 n J σ τ a1 ∧ sc_6 n J σ τ a1 a2 ∧ sc_7 n J σ τ a1 ∧ sc_8 n J σ τ a1 ∧ sc_9 n J σ τ a1 a2 ∧ sc_10 n J σ τ a1 a2 ∧ sc_11 n J σ τ a1 a2 ∧ sc_12 n J σ τ a1 a2 ∧ sc_13 n J σ τ a1 a2 ∧ sc_14 n J σ τ a1 a2 ∧ sc_15 n J σ τ a1 a2 ∧ sc_16 n J σ τ a1 a2 a3 ∧ sc_17 n J σ τ a1 a2 a3 a4 ∧ sc_18 n J σ τ a1 ∧ sc_19 n J σ τ a1 a2 a3 a4 ∧ sc_20 n J σ τ a1 a2 ∧ sc_21 n J σ τ a1 a2 ∧ sc_22 n J σ τ a1 ∧ sc_23 n J σ τ a1 ∧ sc_24 n J σ τ a1 ∧ sc_25 n J σ τ ∧ sc_26 n J σ τ ∧ sc_27 n J σ τ a1 ∧ sc_28 n J σ τ a1 ∧ sc_29 n J σ τ ∧ sc_30 n J σ τ ∧ sc_31 n J σ τ a1 a2 ∧ sc_32 n J σ τ a1 ∧ sc_33 n J σ τ a1 a2 a3 ∧ sc_34 n J σ τ a1 a2 ∧ sc_35 n J σ τ a1 a2 a3 a4 a5 ∧ sc_36 n J σ τ a1 a2 a3 a4 ∧ sc_37 n J σ τ a1 a2 a3 ∧ sc_38 n J σ τ a1 ∧ sc_39 n J σ τ ∧ sc_40 n J σ τ ∧ sc_41 n J σ τ a1 ∧ sc_42 n J σ τ ∧ sc_43 n J σ τ ∧ sc_44 n J σ τ a1
