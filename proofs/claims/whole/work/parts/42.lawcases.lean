/-! THE LAW, case by case: both sides are called with the same numbers, and answer alike (laid by program) -/
theorem wm_279 : Cond.methodLink "RoadLinksLaw" 13 ⟨"RoadLinks", "posts", "(I)I"⟩ ∈ Wd := Wd_mem 279 (by decide +kernel) (by decide +kernel)
theorem wm_287 : Cond.methodLink "RoadLinksLaw" 18 ⟨"RoadLinks", "road", "(III)I"⟩ ∈ Wd := Wd_mem 287 (by decide +kernel) (by decide +kernel)
theorem wm_299 : Cond.methodLink "RoadLinksLaw" 23 ⟨"RoadLinks", "isRoad", "(II)I"⟩ ∈ Wd := Wd_mem 299 (by decide +kernel) (by decide +kernel)
theorem wm_300 : Cond.instanceMethod ⟨"RoadLinks", "isRoad", "(II)I"⟩ ∈ Wd := Wd_mem 300 (by decide +kernel) (by decide +kernel)
theorem wm_301 : Cond.selects "RoadLinks" ⟨"RoadLinks", "isRoad", "(II)I"⟩ ⟨"RoadLinks", "isRoad", "(II)I"⟩ ∈ Wd := Wd_mem 301 (by decide +kernel) (by decide +kernel)
theorem wm_302 : Cond.code ⟨"RoadLinks", "isRoad", "(II)I"⟩ prog_1_method_4_code 3 (Option.some FieldType.int) ∈ Wd := Wd_mem 302 (by decide +kernel) (by decide +kernel)
theorem wm_303 : Cond.methodLink "RoadLinksLaw" 28 ⟨"RoadLinks", "targets", "(I)I"⟩ ∈ Wd := Wd_mem 303 (by decide +kernel) (by decide +kernel)
theorem wm_319 : Cond.methodLink "RoadLinksLaw" 32 ⟨"RoadLinks", "weigh", "(II)I"⟩ ∈ Wd := Wd_mem 319 (by decide +kernel) (by decide +kernel)
theorem wm_327 : Cond.methodLink "RoadLinksLaw" 36 ⟨"RoadLinks", "add", "(I)I"⟩ ∈ Wd := Wd_mem 327 (by decide +kernel) (by decide +kernel)
theorem wm_335 : Cond.methodLink "RoadLinksLaw" 40 ⟨"RoadLinks", "change", "(II)I"⟩ ∈ Wd := Wd_mem 335 (by decide +kernel) (by decide +kernel)
theorem wm_336 : Cond.instanceMethod ⟨"RoadLinks", "change", "(II)I"⟩ ∈ Wd := Wd_mem 336 (by decide +kernel) (by decide +kernel)
theorem wm_337 : Cond.selects "RoadLinks" ⟨"RoadLinks", "change", "(II)I"⟩ ⟨"RoadLinks", "change", "(II)I"⟩ ∈ Wd := Wd_mem 337 (by decide +kernel) (by decide +kernel)
theorem wm_338 : Cond.code ⟨"RoadLinks", "change", "(II)I"⟩ prog_1_method_8_code 4 (Option.some FieldType.int) ∈ Wd := Wd_mem 338 (by decide +kernel) (by decide +kernel)
theorem wm_347 : Cond.methodLink "RoadLinksLaw" 44 ⟨"RoadLinks", "drop", "(I)I"⟩ ∈ Wd := Wd_mem 347 (by decide +kernel) (by decide +kernel)
theorem wm_348 : Cond.instanceMethod ⟨"RoadLinks", "drop", "(I)I"⟩ ∈ Wd := Wd_mem 348 (by decide +kernel) (by decide +kernel)
theorem wm_349 : Cond.selects "RoadLinks" ⟨"RoadLinks", "drop", "(I)I"⟩ ⟨"RoadLinks", "drop", "(I)I"⟩ ∈ Wd := Wd_mem 349 (by decide +kernel) (by decide +kernel)
theorem wm_350 : Cond.code ⟨"RoadLinks", "drop", "(I)I"⟩ prog_1_method_9_code 2 (Option.some FieldType.int) ∈ Wd := Wd_mem 350 (by decide +kernel) (by decide +kernel)
theorem wm_355 : Cond.methodLink "RoadLinksLaw" 48 ⟨"RoadLinks", "set", "(I)I"⟩ ∈ Wd := Wd_mem 355 (by decide +kernel) (by decide +kernel)
theorem wm_356 : Cond.instanceMethod ⟨"RoadLinks", "set", "(I)I"⟩ ∈ Wd := Wd_mem 356 (by decide +kernel) (by decide +kernel)
theorem wm_357 : Cond.selects "RoadLinks" ⟨"RoadLinks", "set", "(I)I"⟩ ⟨"RoadLinks", "set", "(I)I"⟩ ∈ Wd := Wd_mem 357 (by decide +kernel) (by decide +kernel)
theorem wm_358 : Cond.code ⟨"RoadLinks", "set", "(I)I"⟩ prog_1_method_10_code 2 (Option.some FieldType.int) ∈ Wd := Wd_mem 358 (by decide +kernel) (by decide +kernel)
theorem wm_359 : Cond.methodLink "RoadLinksLaw" 52 ⟨"RoadLinks", "rank", "(II)I"⟩ ∈ Wd := Wd_mem 359 (by decide +kernel) (by decide +kernel)
theorem wm_360 : Cond.instanceMethod ⟨"RoadLinks", "rank", "(II)I"⟩ ∈ Wd := Wd_mem 360 (by decide +kernel) (by decide +kernel)
theorem wm_361 : Cond.selects "RoadLinks" ⟨"RoadLinks", "rank", "(II)I"⟩ ⟨"RoadLinks", "rank", "(II)I"⟩ ∈ Wd := Wd_mem 361 (by decide +kernel) (by decide +kernel)
theorem wm_362 : Cond.code ⟨"RoadLinks", "rank", "(II)I"⟩ prog_1_method_11_code 3 (Option.some FieldType.int) ∈ Wd := Wd_mem 362 (by decide +kernel) (by decide +kernel)
theorem wm_418 : Cond.methodLink "RoadLinksLaw" 56 ⟨"RoadLinks", "free", "(II)I"⟩ ∈ Wd := Wd_mem 418 (by decide +kernel) (by decide +kernel)
theorem wm_419 : Cond.instanceMethod ⟨"RoadLinks", "free", "(II)I"⟩ ∈ Wd := Wd_mem 419 (by decide +kernel) (by decide +kernel)
theorem wm_420 : Cond.selects "RoadLinks" ⟨"RoadLinks", "free", "(II)I"⟩ ⟨"RoadLinks", "free", "(II)I"⟩ ∈ Wd := Wd_mem 420 (by decide +kernel) (by decide +kernel)
theorem wm_421 : Cond.code ⟨"RoadLinks", "free", "(II)I"⟩ prog_1_method_12_code 3 (Option.some FieldType.int) ∈ Wd := Wd_mem 421 (by decide +kernel) (by decide +kernel)
theorem wm_427 : Cond.methodLink "RoadLinksLaw" 60 ⟨"RoadLinks", "base", "(II)I"⟩ ∈ Wd := Wd_mem 427 (by decide +kernel) (by decide +kernel)
theorem wm_428 : Cond.instanceMethod ⟨"RoadLinks", "base", "(II)I"⟩ ∈ Wd := Wd_mem 428 (by decide +kernel) (by decide +kernel)
theorem wm_429 : Cond.selects "RoadLinks" ⟨"RoadLinks", "base", "(II)I"⟩ ⟨"RoadLinks", "base", "(II)I"⟩ ∈ Wd := Wd_mem 429 (by decide +kernel) (by decide +kernel)
theorem wm_430 : Cond.code ⟨"RoadLinks", "base", "(II)I"⟩ prog_1_method_13_code 3 (Option.some FieldType.int) ∈ Wd := Wd_mem 430 (by decide +kernel) (by decide +kernel)
theorem wm_453 : Cond.methodLink "RoadLinksLaw" 64 ⟨"RoadLinks", "circuit", "(II)I"⟩ ∈ Wd := Wd_mem 453 (by decide +kernel) (by decide +kernel)
theorem wm_454 : Cond.instanceMethod ⟨"RoadLinks", "circuit", "(II)I"⟩ ∈ Wd := Wd_mem 454 (by decide +kernel) (by decide +kernel)
theorem wm_455 : Cond.selects "RoadLinks" ⟨"RoadLinks", "circuit", "(II)I"⟩ ⟨"RoadLinks", "circuit", "(II)I"⟩ ∈ Wd := Wd_mem 455 (by decide +kernel) (by decide +kernel)
theorem wm_456 : Cond.code ⟨"RoadLinks", "circuit", "(II)I"⟩ prog_1_method_14_code 3 (Option.some FieldType.int) ∈ Wd := Wd_mem 456 (by decide +kernel) (by decide +kernel)
theorem wm_457 : Cond.methodLink "RoadLinksLaw" 68 ⟨"RoadLinks", "flat", "(II)I"⟩ ∈ Wd := Wd_mem 457 (by decide +kernel) (by decide +kernel)
theorem wm_458 : Cond.instanceMethod ⟨"RoadLinks", "flat", "(II)I"⟩ ∈ Wd := Wd_mem 458 (by decide +kernel) (by decide +kernel)
theorem wm_459 : Cond.selects "RoadLinks" ⟨"RoadLinks", "flat", "(II)I"⟩ ⟨"RoadLinks", "flat", "(II)I"⟩ ∈ Wd := Wd_mem 459 (by decide +kernel) (by decide +kernel)
theorem wm_460 : Cond.code ⟨"RoadLinks", "flat", "(II)I"⟩ prog_1_method_15_code 3 (Option.some FieldType.int) ∈ Wd := Wd_mem 460 (by decide +kernel) (by decide +kernel)
theorem wm_461 : Cond.methodLink "RoadLinksLaw" 72 ⟨"RoadLinks", "shut", "(II)I"⟩ ∈ Wd := Wd_mem 461 (by decide +kernel) (by decide +kernel)
theorem wm_462 : Cond.instanceMethod ⟨"RoadLinks", "shut", "(II)I"⟩ ∈ Wd := Wd_mem 462 (by decide +kernel) (by decide +kernel)
theorem wm_463 : Cond.selects "RoadLinks" ⟨"RoadLinks", "shut", "(II)I"⟩ ⟨"RoadLinks", "shut", "(II)I"⟩ ∈ Wd := Wd_mem 463 (by decide +kernel) (by decide +kernel)
theorem wm_464 : Cond.code ⟨"RoadLinks", "shut", "(II)I"⟩ prog_1_method_16_code 3 (Option.some FieldType.int) ∈ Wd := Wd_mem 464 (by decide +kernel) (by decide +kernel)
theorem wm_466 : Cond.methodLink "RoadLinksLaw" 76 ⟨"RoadLinks", "loops", "(II)I"⟩ ∈ Wd := Wd_mem 466 (by decide +kernel) (by decide +kernel)
theorem wm_467 : Cond.instanceMethod ⟨"RoadLinks", "loops", "(II)I"⟩ ∈ Wd := Wd_mem 467 (by decide +kernel) (by decide +kernel)
theorem wm_468 : Cond.selects "RoadLinks" ⟨"RoadLinks", "loops", "(II)I"⟩ ⟨"RoadLinks", "loops", "(II)I"⟩ ∈ Wd := Wd_mem 468 (by decide +kernel) (by decide +kernel)
theorem wm_469 : Cond.code ⟨"RoadLinks", "loops", "(II)I"⟩ prog_1_method_17_code 4 (Option.some FieldType.int) ∈ Wd := Wd_mem 469 (by decide +kernel) (by decide +kernel)
theorem wm_477 : Cond.methodLink "RoadLinksLaw" 80 ⟨"RoadLinks", "round", "(III)I"⟩ ∈ Wd := Wd_mem 477 (by decide +kernel) (by decide +kernel)
theorem wm_478 : Cond.instanceMethod ⟨"RoadLinks", "round", "(III)I"⟩ ∈ Wd := Wd_mem 478 (by decide +kernel) (by decide +kernel)
theorem wm_479 : Cond.selects "RoadLinks" ⟨"RoadLinks", "round", "(III)I"⟩ ⟨"RoadLinks", "round", "(III)I"⟩ ∈ Wd := Wd_mem 479 (by decide +kernel) (by decide +kernel)
theorem wm_480 : Cond.code ⟨"RoadLinks", "round", "(III)I"⟩ prog_1_method_18_code 5 (Option.some FieldType.int) ∈ Wd := Wd_mem 480 (by decide +kernel) (by decide +kernel)
theorem wm_487 : Cond.methodLink "RoadLinksLaw" 84 ⟨"RoadLinks", "swap", "(IIII)I"⟩ ∈ Wd := Wd_mem 487 (by decide +kernel) (by decide +kernel)
theorem wm_488 : Cond.instanceMethod ⟨"RoadLinks", "swap", "(IIII)I"⟩ ∈ Wd := Wd_mem 488 (by decide +kernel) (by decide +kernel)
theorem wm_489 : Cond.selects "RoadLinks" ⟨"RoadLinks", "swap", "(IIII)I"⟩ ⟨"RoadLinks", "swap", "(IIII)I"⟩ ∈ Wd := Wd_mem 489 (by decide +kernel) (by decide +kernel)
theorem wm_490 : Cond.code ⟨"RoadLinks", "swap", "(IIII)I"⟩ prog_1_method_19_code 6 (Option.some FieldType.int) ∈ Wd := Wd_mem 490 (by decide +kernel) (by decide +kernel)
theorem wm_495 : Cond.methodLink "RoadLinksLaw" 89 ⟨"RoadLinks", "steps", "(I)I"⟩ ∈ Wd := Wd_mem 495 (by decide +kernel) (by decide +kernel)
theorem wm_496 : Cond.instanceMethod ⟨"RoadLinks", "steps", "(I)I"⟩ ∈ Wd := Wd_mem 496 (by decide +kernel) (by decide +kernel)
theorem wm_497 : Cond.selects "RoadLinks" ⟨"RoadLinks", "steps", "(I)I"⟩ ⟨"RoadLinks", "steps", "(I)I"⟩ ∈ Wd := Wd_mem 497 (by decide +kernel) (by decide +kernel)
theorem wm_498 : Cond.code ⟨"RoadLinks", "steps", "(I)I"⟩ prog_1_method_20_code 6 (Option.some FieldType.int) ∈ Wd := Wd_mem 498 (by decide +kernel) (by decide +kernel)
theorem wm_503 : Cond.methodLink "RoadLinksLaw" 93 ⟨"RoadLinks", "less", "(IIII)I"⟩ ∈ Wd := Wd_mem 503 (by decide +kernel) (by decide +kernel)
theorem wm_504 : Cond.instanceMethod ⟨"RoadLinks", "less", "(IIII)I"⟩ ∈ Wd := Wd_mem 504 (by decide +kernel) (by decide +kernel)
theorem wm_505 : Cond.selects "RoadLinks" ⟨"RoadLinks", "less", "(IIII)I"⟩ ⟨"RoadLinks", "less", "(IIII)I"⟩ ∈ Wd := Wd_mem 505 (by decide +kernel) (by decide +kernel)
theorem wm_506 : Cond.code ⟨"RoadLinks", "less", "(IIII)I"⟩ prog_1_method_21_code 6 (Option.some FieldType.int) ∈ Wd := Wd_mem 506 (by decide +kernel) (by decide +kernel)
theorem wm_507 : Cond.methodLink "RoadLinksLaw" 97 ⟨"RoadLinks", "heaviest", "(II)I"⟩ ∈ Wd := Wd_mem 507 (by decide +kernel) (by decide +kernel)
theorem wm_508 : Cond.instanceMethod ⟨"RoadLinks", "heaviest", "(II)I"⟩ ∈ Wd := Wd_mem 508 (by decide +kernel) (by decide +kernel)
theorem wm_509 : Cond.selects "RoadLinks" ⟨"RoadLinks", "heaviest", "(II)I"⟩ ⟨"RoadLinks", "heaviest", "(II)I"⟩ ∈ Wd := Wd_mem 509 (by decide +kernel) (by decide +kernel)
theorem wm_510 : Cond.code ⟨"RoadLinks", "heaviest", "(II)I"⟩ prog_1_method_22_code 8 (Option.some FieldType.int) ∈ Wd := Wd_mem 510 (by decide +kernel) (by decide +kernel)
theorem wm_516 : Cond.methodLink "RoadLinksLaw" 101 ⟨"RoadLinks", "alike", "(II)I"⟩ ∈ Wd := Wd_mem 516 (by decide +kernel) (by decide +kernel)
theorem wm_517 : Cond.instanceMethod ⟨"RoadLinks", "alike", "(II)I"⟩ ∈ Wd := Wd_mem 517 (by decide +kernel) (by decide +kernel)
theorem wm_518 : Cond.selects "RoadLinks" ⟨"RoadLinks", "alike", "(II)I"⟩ ⟨"RoadLinks", "alike", "(II)I"⟩ ∈ Wd := Wd_mem 518 (by decide +kernel) (by decide +kernel)
theorem wm_519 : Cond.code ⟨"RoadLinks", "alike", "(II)I"⟩ prog_1_method_23_code 6 (Option.some FieldType.int) ∈ Wd := Wd_mem 519 (by decide +kernel) (by decide +kernel)
theorem wm_520 : Cond.methodLink "RoadLinksLaw" 105 ⟨"RoadLinks", "cut", "(I)I"⟩ ∈ Wd := Wd_mem 520 (by decide +kernel) (by decide +kernel)
theorem wm_521 : Cond.instanceMethod ⟨"RoadLinks", "cut", "(I)I"⟩ ∈ Wd := Wd_mem 521 (by decide +kernel) (by decide +kernel)
theorem wm_522 : Cond.selects "RoadLinks" ⟨"RoadLinks", "cut", "(I)I"⟩ ⟨"RoadLinks", "cut", "(I)I"⟩ ∈ Wd := Wd_mem 522 (by decide +kernel) (by decide +kernel)
theorem wm_523 : Cond.code ⟨"RoadLinks", "cut", "(I)I"⟩ prog_1_method_24_code 5 (Option.some FieldType.int) ∈ Wd := Wd_mem 523 (by decide +kernel) (by decide +kernel)
theorem wm_533 : Cond.methodLink "RoadLinksLaw" 109 ⟨"RoadLinks", "reach", "(I)I"⟩ ∈ Wd := Wd_mem 533 (by decide +kernel) (by decide +kernel)
theorem wm_534 : Cond.instanceMethod ⟨"RoadLinks", "reach", "(I)I"⟩ ∈ Wd := Wd_mem 534 (by decide +kernel) (by decide +kernel)
theorem wm_535 : Cond.selects "RoadLinks" ⟨"RoadLinks", "reach", "(I)I"⟩ ⟨"RoadLinks", "reach", "(I)I"⟩ ∈ Wd := Wd_mem 535 (by decide +kernel) (by decide +kernel)
theorem wm_536 : Cond.code ⟨"RoadLinks", "reach", "(I)I"⟩ prog_1_method_25_code 2 (Option.some FieldType.int) ∈ Wd := Wd_mem 536 (by decide +kernel) (by decide +kernel)
theorem wm_538 : Cond.methodLink "RoadLinksLaw" 113 ⟨"RoadLinks", "partners", "(I)I"⟩ ∈ Wd := Wd_mem 538 (by decide +kernel) (by decide +kernel)
theorem wm_539 : Cond.instanceMethod ⟨"RoadLinks", "partners", "(I)I"⟩ ∈ Wd := Wd_mem 539 (by decide +kernel) (by decide +kernel)
theorem wm_540 : Cond.selects "RoadLinks" ⟨"RoadLinks", "partners", "(I)I"⟩ ⟨"RoadLinks", "partners", "(I)I"⟩ ∈ Wd := Wd_mem 540 (by decide +kernel) (by decide +kernel)
theorem wm_541 : Cond.code ⟨"RoadLinks", "partners", "(I)I"⟩ prog_1_method_26_code 4 (Option.some FieldType.int) ∈ Wd := Wd_mem 541 (by decide +kernel) (by decide +kernel)
theorem wm_564 : Cond.methodLink "RoadLinksLaw" 117 ⟨"RoadLinks", "turned", "()I"⟩ ∈ Wd := Wd_mem 564 (by decide +kernel) (by decide +kernel)
theorem wm_565 : Cond.instanceMethod ⟨"RoadLinks", "turned", "()I"⟩ ∈ Wd := Wd_mem 565 (by decide +kernel) (by decide +kernel)
theorem wm_566 : Cond.selects "RoadLinks" ⟨"RoadLinks", "turned", "()I"⟩ ⟨"RoadLinks", "turned", "()I"⟩ ∈ Wd := Wd_mem 566 (by decide +kernel) (by decide +kernel)
theorem wm_567 : Cond.code ⟨"RoadLinks", "turned", "()I"⟩ prog_1_method_27_code 1 (Option.some FieldType.int) ∈ Wd := Wd_mem 567 (by decide +kernel) (by decide +kernel)
theorem wm_573 : Cond.methodLink "RoadLinksLaw" 122 ⟨"RoadLinks", "strict", "()I"⟩ ∈ Wd := Wd_mem 573 (by decide +kernel) (by decide +kernel)
theorem wm_574 : Cond.instanceMethod ⟨"RoadLinks", "strict", "()I"⟩ ∈ Wd := Wd_mem 574 (by decide +kernel) (by decide +kernel)
theorem wm_575 : Cond.selects "RoadLinks" ⟨"RoadLinks", "strict", "()I"⟩ ⟨"RoadLinks", "strict", "()I"⟩ ∈ Wd := Wd_mem 575 (by decide +kernel) (by decide +kernel)
theorem wm_576 : Cond.code ⟨"RoadLinks", "strict", "()I"⟩ prog_1_method_28_code 2 (Option.some FieldType.int) ∈ Wd := Wd_mem 576 (by decide +kernel) (by decide +kernel)
theorem wm_586 : Cond.methodLink "RoadLinksLaw" 126 ⟨"RoadLinks", "spare", "(I)I"⟩ ∈ Wd := Wd_mem 586 (by decide +kernel) (by decide +kernel)
theorem wm_587 : Cond.instanceMethod ⟨"RoadLinks", "spare", "(I)I"⟩ ∈ Wd := Wd_mem 587 (by decide +kernel) (by decide +kernel)
theorem wm_588 : Cond.selects "RoadLinks" ⟨"RoadLinks", "spare", "(I)I"⟩ ⟨"RoadLinks", "spare", "(I)I"⟩ ∈ Wd := Wd_mem 588 (by decide +kernel) (by decide +kernel)
theorem wm_589 : Cond.code ⟨"RoadLinks", "spare", "(I)I"⟩ prog_1_method_29_code 2 (Option.some FieldType.int) ∈ Wd := Wd_mem 589 (by decide +kernel) (by decide +kernel)
theorem wm_602 : Cond.methodLink "RoadLinksLaw" 130 ⟨"RoadLinks", "room", "(I)I"⟩ ∈ Wd := Wd_mem 602 (by decide +kernel) (by decide +kernel)
theorem wm_603 : Cond.instanceMethod ⟨"RoadLinks", "room", "(I)I"⟩ ∈ Wd := Wd_mem 603 (by decide +kernel) (by decide +kernel)
theorem wm_604 : Cond.selects "RoadLinks" ⟨"RoadLinks", "room", "(I)I"⟩ ⟨"RoadLinks", "room", "(I)I"⟩ ∈ Wd := Wd_mem 604 (by decide +kernel) (by decide +kernel)
theorem wm_605 : Cond.code ⟨"RoadLinks", "room", "(I)I"⟩ prog_1_method_30_code 2 (Option.some FieldType.int) ∈ Wd := Wd_mem 605 (by decide +kernel) (by decide +kernel)
theorem wm_606 : Cond.methodLink "RoadLinksLaw" 134 ⟨"RoadLinks", "idle", "()I"⟩ ∈ Wd := Wd_mem 606 (by decide +kernel) (by decide +kernel)
theorem wm_607 : Cond.instanceMethod ⟨"RoadLinks", "idle", "()I"⟩ ∈ Wd := Wd_mem 607 (by decide +kernel) (by decide +kernel)
theorem wm_608 : Cond.selects "RoadLinks" ⟨"RoadLinks", "idle", "()I"⟩ ⟨"RoadLinks", "idle", "()I"⟩ ∈ Wd := Wd_mem 608 (by decide +kernel) (by decide +kernel)
theorem wm_609 : Cond.code ⟨"RoadLinks", "idle", "()I"⟩ prog_1_method_31_code 4 (Option.some FieldType.int) ∈ Wd := Wd_mem 609 (by decide +kernel) (by decide +kernel)
theorem wm_610 : Cond.methodLink "RoadLinksLaw" 138 ⟨"RoadLinks", "small", "()I"⟩ ∈ Wd := Wd_mem 610 (by decide +kernel) (by decide +kernel)
theorem wm_611 : Cond.instanceMethod ⟨"RoadLinks", "small", "()I"⟩ ∈ Wd := Wd_mem 611 (by decide +kernel) (by decide +kernel)
theorem wm_612 : Cond.selects "RoadLinks" ⟨"RoadLinks", "small", "()I"⟩ ⟨"RoadLinks", "small", "()I"⟩ ∈ Wd := Wd_mem 612 (by decide +kernel) (by decide +kernel)
theorem wm_613 : Cond.code ⟨"RoadLinks", "small", "()I"⟩ prog_1_method_32_code 6 (Option.some FieldType.int) ∈ Wd := Wd_mem 613 (by decide +kernel) (by decide +kernel)
theorem wm_618 : Cond.methodLink "RoadLinksLaw" 142 ⟨"RoadLinks", "row", "(II)I"⟩ ∈ Wd := Wd_mem 618 (by decide +kernel) (by decide +kernel)
theorem wm_619 : Cond.instanceMethod ⟨"RoadLinks", "row", "(II)I"⟩ ∈ Wd := Wd_mem 619 (by decide +kernel) (by decide +kernel)
theorem wm_620 : Cond.selects "RoadLinks" ⟨"RoadLinks", "row", "(II)I"⟩ ⟨"RoadLinks", "row", "(II)I"⟩ ∈ Wd := Wd_mem 620 (by decide +kernel) (by decide +kernel)
theorem wm_621 : Cond.code ⟨"RoadLinks", "row", "(II)I"⟩ prog_1_method_33_code 4 (Option.some FieldType.int) ∈ Wd := Wd_mem 621 (by decide +kernel) (by decide +kernel)
theorem wm_625 : Cond.methodLink "RoadLinksLaw" 146 ⟨"RoadLinks", "lose", "(I)I"⟩ ∈ Wd := Wd_mem 625 (by decide +kernel) (by decide +kernel)
theorem wm_626 : Cond.instanceMethod ⟨"RoadLinks", "lose", "(I)I"⟩ ∈ Wd := Wd_mem 626 (by decide +kernel) (by decide +kernel)
theorem wm_627 : Cond.selects "RoadLinks" ⟨"RoadLinks", "lose", "(I)I"⟩ ⟨"RoadLinks", "lose", "(I)I"⟩ ∈ Wd := Wd_mem 627 (by decide +kernel) (by decide +kernel)
theorem wm_628 : Cond.code ⟨"RoadLinks", "lose", "(I)I"⟩ prog_1_method_34_code 3 (Option.some FieldType.int) ∈ Wd := Wd_mem 628 (by decide +kernel) (by decide +kernel)
theorem wm_633 : Cond.methodLink "RoadLinksLaw" 150 ⟨"RoadLinks", "put", "(III)I"⟩ ∈ Wd := Wd_mem 633 (by decide +kernel) (by decide +kernel)
theorem wm_634 : Cond.instanceMethod ⟨"RoadLinks", "put", "(III)I"⟩ ∈ Wd := Wd_mem 634 (by decide +kernel) (by decide +kernel)
theorem wm_635 : Cond.selects "RoadLinks" ⟨"RoadLinks", "put", "(III)I"⟩ ⟨"RoadLinks", "put", "(III)I"⟩ ∈ Wd := Wd_mem 635 (by decide +kernel) (by decide +kernel)
theorem wm_636 : Cond.code ⟨"RoadLinks", "put", "(III)I"⟩ prog_1_method_35_code 4 (Option.some FieldType.int) ∈ Wd := Wd_mem 636 (by decide +kernel) (by decide +kernel)
theorem wm_637 : Cond.methodLink "RoadLinksLaw" 154 ⟨"RoadLinks", "get", "(II)J"⟩ ∈ Wd := Wd_mem 637 (by decide +kernel) (by decide +kernel)
theorem wm_638 : Cond.instanceMethod ⟨"RoadLinks", "get", "(II)J"⟩ ∈ Wd := Wd_mem 638 (by decide +kernel) (by decide +kernel)
theorem wm_639 : Cond.selects "RoadLinks" ⟨"RoadLinks", "get", "(II)J"⟩ ⟨"RoadLinks", "get", "(II)J"⟩ ∈ Wd := Wd_mem 639 (by decide +kernel) (by decide +kernel)
theorem wm_640 : Cond.code ⟨"RoadLinks", "get", "(II)J"⟩ prog_1_method_36_code 3 (Option.some FieldType.long) ∈ Wd := Wd_mem 640 (by decide +kernel) (by decide +kernel)
theorem wm_642 : Cond.methodLink "RoadLinksLaw" 159 ⟨"RoadLinks", "copy", "(IIIII)I"⟩ ∈ Wd := Wd_mem 642 (by decide +kernel) (by decide +kernel)
theorem wm_643 : Cond.instanceMethod ⟨"RoadLinks", "copy", "(IIIII)I"⟩ ∈ Wd := Wd_mem 643 (by decide +kernel) (by decide +kernel)
theorem wm_644 : Cond.selects "RoadLinks" ⟨"RoadLinks", "copy", "(IIIII)I"⟩ ⟨"RoadLinks", "copy", "(IIIII)I"⟩ ∈ Wd := Wd_mem 644 (by decide +kernel) (by decide +kernel)
theorem wm_645 : Cond.code ⟨"RoadLinks", "copy", "(IIIII)I"⟩ prog_1_method_37_code 6 (Option.some FieldType.int) ∈ Wd := Wd_mem 645 (by decide +kernel) (by decide +kernel)
theorem wm_649 : Cond.methodLink "RoadLinksLaw" 164 ⟨"RoadLinks", "film", "(IIII)I"⟩ ∈ Wd := Wd_mem 649 (by decide +kernel) (by decide +kernel)
theorem wm_650 : Cond.instanceMethod ⟨"RoadLinks", "film", "(IIII)I"⟩ ∈ Wd := Wd_mem 650 (by decide +kernel) (by decide +kernel)
theorem wm_651 : Cond.selects "RoadLinks" ⟨"RoadLinks", "film", "(IIII)I"⟩ ⟨"RoadLinks", "film", "(IIII)I"⟩ ∈ Wd := Wd_mem 651 (by decide +kernel) (by decide +kernel)
theorem wm_652 : Cond.code ⟨"RoadLinks", "film", "(IIII)I"⟩ prog_1_method_38_code 8 (Option.some FieldType.int) ∈ Wd := Wd_mem 652 (by decide +kernel) (by decide +kernel)
theorem wm_656 : Cond.methodLink "RoadLinksLaw" 168 ⟨"RoadLinks", "judge", "(III)I"⟩ ∈ Wd := Wd_mem 656 (by decide +kernel) (by decide +kernel)
theorem wm_657 : Cond.instanceMethod ⟨"RoadLinks", "judge", "(III)I"⟩ ∈ Wd := Wd_mem 657 (by decide +kernel) (by decide +kernel)
theorem wm_658 : Cond.selects "RoadLinks" ⟨"RoadLinks", "judge", "(III)I"⟩ ⟨"RoadLinks", "judge", "(III)I"⟩ ∈ Wd := Wd_mem 658 (by decide +kernel) (by decide +kernel)
theorem wm_659 : Cond.code ⟨"RoadLinks", "judge", "(III)I"⟩ prog_1_method_39_code 6 (Option.some FieldType.int) ∈ Wd := Wd_mem 659 (by decide +kernel) (by decide +kernel)
theorem wm_660 : Cond.methodLink "RoadLinksLaw" 172 ⟨"RoadLinks", "feed", "(I)I"⟩ ∈ Wd := Wd_mem 660 (by decide +kernel) (by decide +kernel)
theorem wm_661 : Cond.instanceMethod ⟨"RoadLinks", "feed", "(I)I"⟩ ∈ Wd := Wd_mem 661 (by decide +kernel) (by decide +kernel)
theorem wm_662 : Cond.selects "RoadLinks" ⟨"RoadLinks", "feed", "(I)I"⟩ ⟨"RoadLinks", "feed", "(I)I"⟩ ∈ Wd := Wd_mem 662 (by decide +kernel) (by decide +kernel)
theorem wm_663 : Cond.code ⟨"RoadLinks", "feed", "(I)I"⟩ prog_1_method_40_code 2 (Option.some FieldType.int) ∈ Wd := Wd_mem 663 (by decide +kernel) (by decide +kernel)
theorem wm_664 : Cond.methodLink "RoadLinksLaw" 176 ⟨"RoadLinks", "wipe", "()I"⟩ ∈ Wd := Wd_mem 664 (by decide +kernel) (by decide +kernel)
theorem wm_665 : Cond.instanceMethod ⟨"RoadLinks", "wipe", "()I"⟩ ∈ Wd := Wd_mem 665 (by decide +kernel) (by decide +kernel)
theorem wm_666 : Cond.selects "RoadLinks" ⟨"RoadLinks", "wipe", "()I"⟩ ⟨"RoadLinks", "wipe", "()I"⟩ ∈ Wd := Wd_mem 666 (by decide +kernel) (by decide +kernel)
theorem wm_667 : Cond.code ⟨"RoadLinks", "wipe", "()I"⟩ prog_1_method_41_code 2 (Option.some FieldType.int) ∈ Wd := Wd_mem 667 (by decide +kernel) (by decide +kernel)
theorem wm_668 : Cond.methodLink "RoadLinksLaw" 180 ⟨"RoadLinks", "read", "()I"⟩ ∈ Wd := Wd_mem 668 (by decide +kernel) (by decide +kernel)
theorem wm_669 : Cond.instanceMethod ⟨"RoadLinks", "read", "()I"⟩ ∈ Wd := Wd_mem 669 (by decide +kernel) (by decide +kernel)
theorem wm_670 : Cond.selects "RoadLinks" ⟨"RoadLinks", "read", "()I"⟩ ⟨"RoadLinks", "read", "()I"⟩ ∈ Wd := Wd_mem 670 (by decide +kernel) (by decide +kernel)
theorem wm_671 : Cond.code ⟨"RoadLinks", "read", "()I"⟩ prog_1_method_42_code 3 (Option.some FieldType.int) ∈ Wd := Wd_mem 671 (by decide +kernel) (by decide +kernel)
theorem wm_779 : Cond.methodLink "RoadLinksLaw" 184 ⟨"RoadLinks", "spelled", "(I)I"⟩ ∈ Wd := Wd_mem 779 (by decide +kernel) (by decide +kernel)
theorem wm_780 : Cond.instanceMethod ⟨"RoadLinks", "spelled", "(I)I"⟩ ∈ Wd := Wd_mem 780 (by decide +kernel) (by decide +kernel)
theorem wm_781 : Cond.selects "RoadLinks" ⟨"RoadLinks", "spelled", "(I)I"⟩ ⟨"RoadLinks", "spelled", "(I)I"⟩ ∈ Wd := Wd_mem 781 (by decide +kernel) (by decide +kernel)
theorem wm_782 : Cond.code ⟨"RoadLinks", "spelled", "(I)I"⟩ prog_1_method_43_code 2 (Option.some FieldType.int) ∈ Wd := Wd_mem 782 (by decide +kernel) (by decide +kernel)
theorem wm_824 : Cond.methodLink "RoadLinksLaw" 188 ⟨"RoadLinks", "image", "()I"⟩ ∈ Wd := Wd_mem 824 (by decide +kernel) (by decide +kernel)
theorem wm_825 : Cond.instanceMethod ⟨"RoadLinks", "image", "()I"⟩ ∈ Wd := Wd_mem 825 (by decide +kernel) (by decide +kernel)
theorem wm_826 : Cond.selects "RoadLinks" ⟨"RoadLinks", "image", "()I"⟩ ⟨"RoadLinks", "image", "()I"⟩ ∈ Wd := Wd_mem 826 (by decide +kernel) (by decide +kernel)
theorem wm_827 : Cond.code ⟨"RoadLinks", "image", "()I"⟩ prog_1_method_44_code 1 (Option.some FieldType.int) ∈ Wd := Wd_mem 827 (by decide +kernel) (by decide +kernel)
theorem wm_833 : Cond.methodLink "RoadLinksLaw" 192 ⟨"RoadLinks", "undo", "()I"⟩ ∈ Wd := Wd_mem 833 (by decide +kernel) (by decide +kernel)
theorem wm_834 : Cond.instanceMethod ⟨"RoadLinks", "undo", "()I"⟩ ∈ Wd := Wd_mem 834 (by decide +kernel) (by decide +kernel)
theorem wm_835 : Cond.selects "RoadLinks" ⟨"RoadLinks", "undo", "()I"⟩ ⟨"RoadLinks", "undo", "()I"⟩ ∈ Wd := Wd_mem 835 (by decide +kernel) (by decide +kernel)
theorem wm_836 : Cond.code ⟨"RoadLinks", "undo", "()I"⟩ prog_1_method_45_code 1 (Option.some FieldType.int) ∈ Wd := Wd_mem 836 (by decide +kernel) (by decide +kernel)
theorem wm_837 : Cond.methodLink "RoadLinksLaw" 196 ⟨"RoadLinks", "count", "(I)I"⟩ ∈ Wd := Wd_mem 837 (by decide +kernel) (by decide +kernel)
theorem wm_838 : Cond.instanceMethod ⟨"RoadLinks", "count", "(I)I"⟩ ∈ Wd := Wd_mem 838 (by decide +kernel) (by decide +kernel)
theorem wm_839 : Cond.selects "RoadLinks" ⟨"RoadLinks", "count", "(I)I"⟩ ⟨"RoadLinks", "count", "(I)I"⟩ ∈ Wd := Wd_mem 839 (by decide +kernel) (by decide +kernel)
theorem wm_840 : Cond.code ⟨"RoadLinks", "count", "(I)I"⟩ prog_1_method_46_code 2 (Option.some FieldType.int) ∈ Wd := Wd_mem 840 (by decide +kernel) (by decide +kernel)
theorem wm_939 : Cond.methodLink "RoadLinksLaw" 17 ⟨"RoadLinksModel", "posts", "(I)I"⟩ ∈ Wd := Wd_mem 939 (by decide +kernel) (by decide +kernel)
theorem wm_950 : Cond.methodLink "RoadLinksLaw" 22 ⟨"RoadLinksModel", "road", "(III)I"⟩ ∈ Wd := Wd_mem 950 (by decide +kernel) (by decide +kernel)
theorem wm_958 : Cond.methodLink "RoadLinksLaw" 27 ⟨"RoadLinksModel", "isRoad", "(II)I"⟩ ∈ Wd := Wd_mem 958 (by decide +kernel) (by decide +kernel)
theorem wm_959 : Cond.instanceMethod ⟨"RoadLinksModel", "isRoad", "(II)I"⟩ ∈ Wd := Wd_mem 959 (by decide +kernel) (by decide +kernel)
theorem wm_960 : Cond.selects "RoadLinksModel" ⟨"RoadLinksModel", "isRoad", "(II)I"⟩ ⟨"RoadLinksModel", "isRoad", "(II)I"⟩ ∈ Wd := Wd_mem 960 (by decide +kernel) (by decide +kernel)
theorem wm_961 : Cond.code ⟨"RoadLinksModel", "isRoad", "(II)I"⟩ prog_9_method_20_code 3 (Option.some FieldType.int) ∈ Wd := Wd_mem 961 (by decide +kernel) (by decide +kernel)
theorem wm_962 : Cond.methodLink "RoadLinksLaw" 31 ⟨"RoadLinksModel", "targets", "(I)I"⟩ ∈ Wd := Wd_mem 962 (by decide +kernel) (by decide +kernel)
theorem wm_974 : Cond.methodLink "RoadLinksLaw" 35 ⟨"RoadLinksModel", "weigh", "(II)I"⟩ ∈ Wd := Wd_mem 974 (by decide +kernel) (by decide +kernel)
theorem wm_978 : Cond.methodLink "RoadLinksLaw" 39 ⟨"RoadLinksModel", "add", "(I)I"⟩ ∈ Wd := Wd_mem 978 (by decide +kernel) (by decide +kernel)
theorem wm_982 : Cond.methodLink "RoadLinksLaw" 43 ⟨"RoadLinksModel", "change", "(II)I"⟩ ∈ Wd := Wd_mem 982 (by decide +kernel) (by decide +kernel)
theorem wm_983 : Cond.instanceMethod ⟨"RoadLinksModel", "change", "(II)I"⟩ ∈ Wd := Wd_mem 983 (by decide +kernel) (by decide +kernel)
theorem wm_984 : Cond.selects "RoadLinksModel" ⟨"RoadLinksModel", "change", "(II)I"⟩ ⟨"RoadLinksModel", "change", "(II)I"⟩ ∈ Wd := Wd_mem 984 (by decide +kernel) (by decide +kernel)
theorem wm_985 : Cond.code ⟨"RoadLinksModel", "change", "(II)I"⟩ prog_9_method_24_code 4 (Option.some FieldType.int) ∈ Wd := Wd_mem 985 (by decide +kernel) (by decide +kernel)
theorem wm_990 : Cond.methodLink "RoadLinksLaw" 47 ⟨"RoadLinksModel", "drop", "(I)I"⟩ ∈ Wd := Wd_mem 990 (by decide +kernel) (by decide +kernel)
theorem wm_991 : Cond.instanceMethod ⟨"RoadLinksModel", "drop", "(I)I"⟩ ∈ Wd := Wd_mem 991 (by decide +kernel) (by decide +kernel)
theorem wm_992 : Cond.selects "RoadLinksModel" ⟨"RoadLinksModel", "drop", "(I)I"⟩ ⟨"RoadLinksModel", "drop", "(I)I"⟩ ∈ Wd := Wd_mem 992 (by decide +kernel) (by decide +kernel)
theorem wm_993 : Cond.code ⟨"RoadLinksModel", "drop", "(I)I"⟩ prog_9_method_26_code 2 (Option.some FieldType.int) ∈ Wd := Wd_mem 993 (by decide +kernel) (by decide +kernel)
theorem wm_998 : Cond.methodLink "RoadLinksLaw" 51 ⟨"RoadLinksModel", "set", "(I)I"⟩ ∈ Wd := Wd_mem 998 (by decide +kernel) (by decide +kernel)
theorem wm_999 : Cond.instanceMethod ⟨"RoadLinksModel", "set", "(I)I"⟩ ∈ Wd := Wd_mem 999 (by decide +kernel) (by decide +kernel)
theorem wm_1000 : Cond.selects "RoadLinksModel" ⟨"RoadLinksModel", "set", "(I)I"⟩ ⟨"RoadLinksModel", "set", "(I)I"⟩ ∈ Wd := Wd_mem 1000 (by decide +kernel) (by decide +kernel)
theorem wm_1001 : Cond.code ⟨"RoadLinksModel", "set", "(I)I"⟩ prog_9_method_27_code 2 (Option.some FieldType.int) ∈ Wd := Wd_mem 1001 (by decide +kernel) (by decide +kernel)
theorem wm_1002 : Cond.methodLink "RoadLinksLaw" 55 ⟨"RoadLinksModel", "rank", "(II)I"⟩ ∈ Wd := Wd_mem 1002 (by decide +kernel) (by decide +kernel)
theorem wm_1003 : Cond.instanceMethod ⟨"RoadLinksModel", "rank", "(II)I"⟩ ∈ Wd := Wd_mem 1003 (by decide +kernel) (by decide +kernel)
theorem wm_1004 : Cond.selects "RoadLinksModel" ⟨"RoadLinksModel", "rank", "(II)I"⟩ ⟨"RoadLinksModel", "rank", "(II)I"⟩ ∈ Wd := Wd_mem 1004 (by decide +kernel) (by decide +kernel)
theorem wm_1005 : Cond.code ⟨"RoadLinksModel", "rank", "(II)I"⟩ prog_9_method_28_code 3 (Option.some FieldType.int) ∈ Wd := Wd_mem 1005 (by decide +kernel) (by decide +kernel)
theorem wm_1046 : Cond.methodLink "RoadLinksLaw" 59 ⟨"RoadLinksModel", "free", "(II)I"⟩ ∈ Wd := Wd_mem 1046 (by decide +kernel) (by decide +kernel)
theorem wm_1047 : Cond.instanceMethod ⟨"RoadLinksModel", "free", "(II)I"⟩ ∈ Wd := Wd_mem 1047 (by decide +kernel) (by decide +kernel)
theorem wm_1048 : Cond.selects "RoadLinksModel" ⟨"RoadLinksModel", "free", "(II)I"⟩ ⟨"RoadLinksModel", "free", "(II)I"⟩ ∈ Wd := Wd_mem 1048 (by decide +kernel) (by decide +kernel)
theorem wm_1049 : Cond.code ⟨"RoadLinksModel", "free", "(II)I"⟩ prog_9_method_29_code 3 (Option.some FieldType.int) ∈ Wd := Wd_mem 1049 (by decide +kernel) (by decide +kernel)
theorem wm_1050 : Cond.methodLink "RoadLinksLaw" 63 ⟨"RoadLinksModel", "base", "(II)I"⟩ ∈ Wd := Wd_mem 1050 (by decide +kernel) (by decide +kernel)
theorem wm_1051 : Cond.instanceMethod ⟨"RoadLinksModel", "base", "(II)I"⟩ ∈ Wd := Wd_mem 1051 (by decide +kernel) (by decide +kernel)
theorem wm_1052 : Cond.selects "RoadLinksModel" ⟨"RoadLinksModel", "base", "(II)I"⟩ ⟨"RoadLinksModel", "base", "(II)I"⟩ ∈ Wd := Wd_mem 1052 (by decide +kernel) (by decide +kernel)
theorem wm_1053 : Cond.code ⟨"RoadLinksModel", "base", "(II)I"⟩ prog_9_method_33_code 3 (Option.some FieldType.int) ∈ Wd := Wd_mem 1053 (by decide +kernel) (by decide +kernel)
theorem wm_1066 : Cond.methodLink "RoadLinksLaw" 67 ⟨"RoadLinksModel", "circuit", "(II)I"⟩ ∈ Wd := Wd_mem 1066 (by decide +kernel) (by decide +kernel)
theorem wm_1067 : Cond.instanceMethod ⟨"RoadLinksModel", "circuit", "(II)I"⟩ ∈ Wd := Wd_mem 1067 (by decide +kernel) (by decide +kernel)
theorem wm_1068 : Cond.selects "RoadLinksModel" ⟨"RoadLinksModel", "circuit", "(II)I"⟩ ⟨"RoadLinksModel", "circuit", "(II)I"⟩ ∈ Wd := Wd_mem 1068 (by decide +kernel) (by decide +kernel)
theorem wm_1069 : Cond.code ⟨"RoadLinksModel", "circuit", "(II)I"⟩ prog_9_method_34_code 3 (Option.some FieldType.int) ∈ Wd := Wd_mem 1069 (by decide +kernel) (by decide +kernel)
theorem wm_1070 : Cond.methodLink "RoadLinksLaw" 71 ⟨"RoadLinksModel", "flat", "(II)I"⟩ ∈ Wd := Wd_mem 1070 (by decide +kernel) (by decide +kernel)
theorem wm_1071 : Cond.instanceMethod ⟨"RoadLinksModel", "flat", "(II)I"⟩ ∈ Wd := Wd_mem 1071 (by decide +kernel) (by decide +kernel)
theorem wm_1072 : Cond.selects "RoadLinksModel" ⟨"RoadLinksModel", "flat", "(II)I"⟩ ⟨"RoadLinksModel", "flat", "(II)I"⟩ ∈ Wd := Wd_mem 1072 (by decide +kernel) (by decide +kernel)
theorem wm_1073 : Cond.code ⟨"RoadLinksModel", "flat", "(II)I"⟩ prog_9_method_35_code 3 (Option.some FieldType.int) ∈ Wd := Wd_mem 1073 (by decide +kernel) (by decide +kernel)
theorem wm_1074 : Cond.methodLink "RoadLinksLaw" 75 ⟨"RoadLinksModel", "shut", "(II)I"⟩ ∈ Wd := Wd_mem 1074 (by decide +kernel) (by decide +kernel)
theorem wm_1075 : Cond.instanceMethod ⟨"RoadLinksModel", "shut", "(II)I"⟩ ∈ Wd := Wd_mem 1075 (by decide +kernel) (by decide +kernel)
theorem wm_1076 : Cond.selects "RoadLinksModel" ⟨"RoadLinksModel", "shut", "(II)I"⟩ ⟨"RoadLinksModel", "shut", "(II)I"⟩ ∈ Wd := Wd_mem 1076 (by decide +kernel) (by decide +kernel)
theorem wm_1077 : Cond.code ⟨"RoadLinksModel", "shut", "(II)I"⟩ prog_9_method_36_code 3 (Option.some FieldType.int) ∈ Wd := Wd_mem 1077 (by decide +kernel) (by decide +kernel)
theorem wm_1078 : Cond.methodLink "RoadLinksLaw" 79 ⟨"RoadLinksModel", "loops", "(II)I"⟩ ∈ Wd := Wd_mem 1078 (by decide +kernel) (by decide +kernel)
theorem wm_1079 : Cond.instanceMethod ⟨"RoadLinksModel", "loops", "(II)I"⟩ ∈ Wd := Wd_mem 1079 (by decide +kernel) (by decide +kernel)
theorem wm_1080 : Cond.selects "RoadLinksModel" ⟨"RoadLinksModel", "loops", "(II)I"⟩ ⟨"RoadLinksModel", "loops", "(II)I"⟩ ∈ Wd := Wd_mem 1080 (by decide +kernel) (by decide +kernel)
theorem wm_1081 : Cond.code ⟨"RoadLinksModel", "loops", "(II)I"⟩ prog_9_method_37_code 6 (Option.some FieldType.int) ∈ Wd := Wd_mem 1081 (by decide +kernel) (by decide +kernel)
theorem wm_1082 : Cond.methodLink "RoadLinksLaw" 83 ⟨"RoadLinksModel", "round", "(III)I"⟩ ∈ Wd := Wd_mem 1082 (by decide +kernel) (by decide +kernel)
theorem wm_1083 : Cond.instanceMethod ⟨"RoadLinksModel", "round", "(III)I"⟩ ∈ Wd := Wd_mem 1083 (by decide +kernel) (by decide +kernel)
theorem wm_1084 : Cond.selects "RoadLinksModel" ⟨"RoadLinksModel", "round", "(III)I"⟩ ⟨"RoadLinksModel", "round", "(III)I"⟩ ∈ Wd := Wd_mem 1084 (by decide +kernel) (by decide +kernel)
theorem wm_1085 : Cond.code ⟨"RoadLinksModel", "round", "(III)I"⟩ prog_9_method_38_code 7 (Option.some FieldType.int) ∈ Wd := Wd_mem 1085 (by decide +kernel) (by decide +kernel)
theorem wm_1086 : Cond.methodLink "RoadLinksLaw" 88 ⟨"RoadLinksModel", "swap", "(IIII)I"⟩ ∈ Wd := Wd_mem 1086 (by decide +kernel) (by decide +kernel)
theorem wm_1087 : Cond.instanceMethod ⟨"RoadLinksModel", "swap", "(IIII)I"⟩ ∈ Wd := Wd_mem 1087 (by decide +kernel) (by decide +kernel)
theorem wm_1088 : Cond.selects "RoadLinksModel" ⟨"RoadLinksModel", "swap", "(IIII)I"⟩ ⟨"RoadLinksModel", "swap", "(IIII)I"⟩ ∈ Wd := Wd_mem 1088 (by decide +kernel) (by decide +kernel)
theorem wm_1089 : Cond.code ⟨"RoadLinksModel", "swap", "(IIII)I"⟩ prog_9_method_39_code 6 (Option.some FieldType.int) ∈ Wd := Wd_mem 1089 (by decide +kernel) (by decide +kernel)
theorem wm_1090 : Cond.methodLink "RoadLinksLaw" 92 ⟨"RoadLinksModel", "steps", "(I)I"⟩ ∈ Wd := Wd_mem 1090 (by decide +kernel) (by decide +kernel)
theorem wm_1091 : Cond.instanceMethod ⟨"RoadLinksModel", "steps", "(I)I"⟩ ∈ Wd := Wd_mem 1091 (by decide +kernel) (by decide +kernel)
theorem wm_1092 : Cond.selects "RoadLinksModel" ⟨"RoadLinksModel", "steps", "(I)I"⟩ ⟨"RoadLinksModel", "steps", "(I)I"⟩ ∈ Wd := Wd_mem 1092 (by decide +kernel) (by decide +kernel)
theorem wm_1093 : Cond.code ⟨"RoadLinksModel", "steps", "(I)I"⟩ prog_9_method_40_code 5 (Option.some FieldType.int) ∈ Wd := Wd_mem 1093 (by decide +kernel) (by decide +kernel)
theorem wm_1094 : Cond.methodLink "RoadLinksLaw" 96 ⟨"RoadLinksModel", "less", "(IIII)I"⟩ ∈ Wd := Wd_mem 1094 (by decide +kernel) (by decide +kernel)
theorem wm_1095 : Cond.instanceMethod ⟨"RoadLinksModel", "less", "(IIII)I"⟩ ∈ Wd := Wd_mem 1095 (by decide +kernel) (by decide +kernel)
theorem wm_1096 : Cond.selects "RoadLinksModel" ⟨"RoadLinksModel", "less", "(IIII)I"⟩ ⟨"RoadLinksModel", "less", "(IIII)I"⟩ ∈ Wd := Wd_mem 1096 (by decide +kernel) (by decide +kernel)
theorem wm_1097 : Cond.code ⟨"RoadLinksModel", "less", "(IIII)I"⟩ prog_9_method_41_code 5 (Option.some FieldType.int) ∈ Wd := Wd_mem 1097 (by decide +kernel) (by decide +kernel)
theorem wm_1098 : Cond.methodLink "RoadLinksLaw" 100 ⟨"RoadLinksModel", "heaviest", "(II)I"⟩ ∈ Wd := Wd_mem 1098 (by decide +kernel) (by decide +kernel)
theorem wm_1099 : Cond.instanceMethod ⟨"RoadLinksModel", "heaviest", "(II)I"⟩ ∈ Wd := Wd_mem 1099 (by decide +kernel) (by decide +kernel)
theorem wm_1100 : Cond.selects "RoadLinksModel" ⟨"RoadLinksModel", "heaviest", "(II)I"⟩ ⟨"RoadLinksModel", "heaviest", "(II)I"⟩ ∈ Wd := Wd_mem 1100 (by decide +kernel) (by decide +kernel)
theorem wm_1101 : Cond.code ⟨"RoadLinksModel", "heaviest", "(II)I"⟩ prog_9_method_43_code 5 (Option.some FieldType.int) ∈ Wd := Wd_mem 1101 (by decide +kernel) (by decide +kernel)
theorem wm_1106 : Cond.methodLink "RoadLinksLaw" 104 ⟨"RoadLinksModel", "alike", "(II)I"⟩ ∈ Wd := Wd_mem 1106 (by decide +kernel) (by decide +kernel)
theorem wm_1107 : Cond.instanceMethod ⟨"RoadLinksModel", "alike", "(II)I"⟩ ∈ Wd := Wd_mem 1107 (by decide +kernel) (by decide +kernel)
theorem wm_1108 : Cond.selects "RoadLinksModel" ⟨"RoadLinksModel", "alike", "(II)I"⟩ ⟨"RoadLinksModel", "alike", "(II)I"⟩ ∈ Wd := Wd_mem 1108 (by decide +kernel) (by decide +kernel)
theorem wm_1109 : Cond.code ⟨"RoadLinksModel", "alike", "(II)I"⟩ prog_9_method_44_code 4 (Option.some FieldType.int) ∈ Wd := Wd_mem 1109 (by decide +kernel) (by decide +kernel)
theorem wm_1110 : Cond.methodLink "RoadLinksLaw" 108 ⟨"RoadLinksModel", "cut", "(I)I"⟩ ∈ Wd := Wd_mem 1110 (by decide +kernel) (by decide +kernel)
theorem wm_1111 : Cond.instanceMethod ⟨"RoadLinksModel", "cut", "(I)I"⟩ ∈ Wd := Wd_mem 1111 (by decide +kernel) (by decide +kernel)
theorem wm_1112 : Cond.selects "RoadLinksModel" ⟨"RoadLinksModel", "cut", "(I)I"⟩ ⟨"RoadLinksModel", "cut", "(I)I"⟩ ∈ Wd := Wd_mem 1112 (by decide +kernel) (by decide +kernel)
theorem wm_1113 : Cond.code ⟨"RoadLinksModel", "cut", "(I)I"⟩ prog_9_method_45_code 2 (Option.some FieldType.int) ∈ Wd := Wd_mem 1113 (by decide +kernel) (by decide +kernel)
theorem wm_1114 : Cond.methodLink "RoadLinksLaw" 112 ⟨"RoadLinksModel", "reach", "(I)I"⟩ ∈ Wd := Wd_mem 1114 (by decide +kernel) (by decide +kernel)
theorem wm_1115 : Cond.instanceMethod ⟨"RoadLinksModel", "reach", "(I)I"⟩ ∈ Wd := Wd_mem 1115 (by decide +kernel) (by decide +kernel)
theorem wm_1116 : Cond.selects "RoadLinksModel" ⟨"RoadLinksModel", "reach", "(I)I"⟩ ⟨"RoadLinksModel", "reach", "(I)I"⟩ ∈ Wd := Wd_mem 1116 (by decide +kernel) (by decide +kernel)
theorem wm_1117 : Cond.code ⟨"RoadLinksModel", "reach", "(I)I"⟩ prog_9_method_46_code 5 (Option.some FieldType.int) ∈ Wd := Wd_mem 1117 (by decide +kernel) (by decide +kernel)
theorem wm_1118 : Cond.methodLink "RoadLinksLaw" 116 ⟨"RoadLinksModel", "partners", "(I)I"⟩ ∈ Wd := Wd_mem 1118 (by decide +kernel) (by decide +kernel)
theorem wm_1119 : Cond.instanceMethod ⟨"RoadLinksModel", "partners", "(I)I"⟩ ∈ Wd := Wd_mem 1119 (by decide +kernel) (by decide +kernel)
theorem wm_1120 : Cond.selects "RoadLinksModel" ⟨"RoadLinksModel", "partners", "(I)I"⟩ ⟨"RoadLinksModel", "partners", "(I)I"⟩ ∈ Wd := Wd_mem 1120 (by decide +kernel) (by decide +kernel)
theorem wm_1121 : Cond.code ⟨"RoadLinksModel", "partners", "(I)I"⟩ prog_9_method_48_code 7 (Option.some FieldType.int) ∈ Wd := Wd_mem 1121 (by decide +kernel) (by decide +kernel)
theorem wm_1126 : Cond.methodLink "RoadLinksLaw" 121 ⟨"RoadLinksModel", "turned", "()I"⟩ ∈ Wd := Wd_mem 1126 (by decide +kernel) (by decide +kernel)
theorem wm_1127 : Cond.instanceMethod ⟨"RoadLinksModel", "turned", "()I"⟩ ∈ Wd := Wd_mem 1127 (by decide +kernel) (by decide +kernel)
theorem wm_1128 : Cond.selects "RoadLinksModel" ⟨"RoadLinksModel", "turned", "()I"⟩ ⟨"RoadLinksModel", "turned", "()I"⟩ ∈ Wd := Wd_mem 1128 (by decide +kernel) (by decide +kernel)
theorem wm_1129 : Cond.code ⟨"RoadLinksModel", "turned", "()I"⟩ prog_9_method_49_code 2 (Option.some FieldType.int) ∈ Wd := Wd_mem 1129 (by decide +kernel) (by decide +kernel)
theorem wm_1130 : Cond.methodLink "RoadLinksLaw" 125 ⟨"RoadLinksModel", "strict", "()I"⟩ ∈ Wd := Wd_mem 1130 (by decide +kernel) (by decide +kernel)
theorem wm_1131 : Cond.instanceMethod ⟨"RoadLinksModel", "strict", "()I"⟩ ∈ Wd := Wd_mem 1131 (by decide +kernel) (by decide +kernel)
theorem wm_1132 : Cond.selects "RoadLinksModel" ⟨"RoadLinksModel", "strict", "()I"⟩ ⟨"RoadLinksModel", "strict", "()I"⟩ ∈ Wd := Wd_mem 1132 (by decide +kernel) (by decide +kernel)
theorem wm_1133 : Cond.code ⟨"RoadLinksModel", "strict", "()I"⟩ prog_9_method_51_code 4 (Option.some FieldType.int) ∈ Wd := Wd_mem 1133 (by decide +kernel) (by decide +kernel)
theorem wm_1138 : Cond.methodLink "RoadLinksLaw" 129 ⟨"RoadLinksModel", "spare", "(I)I"⟩ ∈ Wd := Wd_mem 1138 (by decide +kernel) (by decide +kernel)
theorem wm_1139 : Cond.instanceMethod ⟨"RoadLinksModel", "spare", "(I)I"⟩ ∈ Wd := Wd_mem 1139 (by decide +kernel) (by decide +kernel)
theorem wm_1140 : Cond.selects "RoadLinksModel" ⟨"RoadLinksModel", "spare", "(I)I"⟩ ⟨"RoadLinksModel", "spare", "(I)I"⟩ ∈ Wd := Wd_mem 1140 (by decide +kernel) (by decide +kernel)
theorem wm_1141 : Cond.code ⟨"RoadLinksModel", "spare", "(I)I"⟩ prog_9_method_55_code 2 (Option.some FieldType.int) ∈ Wd := Wd_mem 1141 (by decide +kernel) (by decide +kernel)
theorem wm_1154 : Cond.methodLink "RoadLinksLaw" 133 ⟨"RoadLinksModel", "room", "(I)I"⟩ ∈ Wd := Wd_mem 1154 (by decide +kernel) (by decide +kernel)
theorem wm_1155 : Cond.instanceMethod ⟨"RoadLinksModel", "room", "(I)I"⟩ ∈ Wd := Wd_mem 1155 (by decide +kernel) (by decide +kernel)
theorem wm_1156 : Cond.selects "RoadLinksModel" ⟨"RoadLinksModel", "room", "(I)I"⟩ ⟨"RoadLinksModel", "room", "(I)I"⟩ ∈ Wd := Wd_mem 1156 (by decide +kernel) (by decide +kernel)
theorem wm_1157 : Cond.code ⟨"RoadLinksModel", "room", "(I)I"⟩ prog_9_method_56_code 2 (Option.some FieldType.int) ∈ Wd := Wd_mem 1157 (by decide +kernel) (by decide +kernel)
theorem wm_1158 : Cond.methodLink "RoadLinksLaw" 137 ⟨"RoadLinksModel", "idle", "()I"⟩ ∈ Wd := Wd_mem 1158 (by decide +kernel) (by decide +kernel)
theorem wm_1159 : Cond.instanceMethod ⟨"RoadLinksModel", "idle", "()I"⟩ ∈ Wd := Wd_mem 1159 (by decide +kernel) (by decide +kernel)
theorem wm_1160 : Cond.selects "RoadLinksModel" ⟨"RoadLinksModel", "idle", "()I"⟩ ⟨"RoadLinksModel", "idle", "()I"⟩ ∈ Wd := Wd_mem 1160 (by decide +kernel) (by decide +kernel)
theorem wm_1161 : Cond.code ⟨"RoadLinksModel", "idle", "()I"⟩ prog_9_method_57_code 4 (Option.some FieldType.int) ∈ Wd := Wd_mem 1161 (by decide +kernel) (by decide +kernel)
theorem wm_1162 : Cond.methodLink "RoadLinksLaw" 141 ⟨"RoadLinksModel", "small", "()I"⟩ ∈ Wd := Wd_mem 1162 (by decide +kernel) (by decide +kernel)
theorem wm_1163 : Cond.instanceMethod ⟨"RoadLinksModel", "small", "()I"⟩ ∈ Wd := Wd_mem 1163 (by decide +kernel) (by decide +kernel)
theorem wm_1164 : Cond.selects "RoadLinksModel" ⟨"RoadLinksModel", "small", "()I"⟩ ⟨"RoadLinksModel", "small", "()I"⟩ ∈ Wd := Wd_mem 1164 (by decide +kernel) (by decide +kernel)
theorem wm_1165 : Cond.code ⟨"RoadLinksModel", "small", "()I"⟩ prog_9_method_58_code 4 (Option.some FieldType.int) ∈ Wd := Wd_mem 1165 (by decide +kernel) (by decide +kernel)
theorem wm_1166 : Cond.methodLink "RoadLinksLaw" 145 ⟨"RoadLinksModel", "row", "(II)I"⟩ ∈ Wd := Wd_mem 1166 (by decide +kernel) (by decide +kernel)
theorem wm_1167 : Cond.instanceMethod ⟨"RoadLinksModel", "row", "(II)I"⟩ ∈ Wd := Wd_mem 1167 (by decide +kernel) (by decide +kernel)
theorem wm_1168 : Cond.selects "RoadLinksModel" ⟨"RoadLinksModel", "row", "(II)I"⟩ ⟨"RoadLinksModel", "row", "(II)I"⟩ ∈ Wd := Wd_mem 1168 (by decide +kernel) (by decide +kernel)
theorem wm_1169 : Cond.code ⟨"RoadLinksModel", "row", "(II)I"⟩ prog_9_method_60_code 4 (Option.some FieldType.int) ∈ Wd := Wd_mem 1169 (by decide +kernel) (by decide +kernel)
theorem wm_1173 : Cond.methodLink "RoadLinksLaw" 149 ⟨"RoadLinksModel", "lose", "(I)I"⟩ ∈ Wd := Wd_mem 1173 (by decide +kernel) (by decide +kernel)
theorem wm_1174 : Cond.instanceMethod ⟨"RoadLinksModel", "lose", "(I)I"⟩ ∈ Wd := Wd_mem 1174 (by decide +kernel) (by decide +kernel)
theorem wm_1175 : Cond.selects "RoadLinksModel" ⟨"RoadLinksModel", "lose", "(I)I"⟩ ⟨"RoadLinksModel", "lose", "(I)I"⟩ ∈ Wd := Wd_mem 1175 (by decide +kernel) (by decide +kernel)
theorem wm_1176 : Cond.code ⟨"RoadLinksModel", "lose", "(I)I"⟩ prog_9_method_61_code 3 (Option.some FieldType.int) ∈ Wd := Wd_mem 1176 (by decide +kernel) (by decide +kernel)
theorem wm_1177 : Cond.methodLink "RoadLinksLaw" 153 ⟨"RoadLinksModel", "put", "(III)I"⟩ ∈ Wd := Wd_mem 1177 (by decide +kernel) (by decide +kernel)
theorem wm_1178 : Cond.instanceMethod ⟨"RoadLinksModel", "put", "(III)I"⟩ ∈ Wd := Wd_mem 1178 (by decide +kernel) (by decide +kernel)
theorem wm_1179 : Cond.selects "RoadLinksModel" ⟨"RoadLinksModel", "put", "(III)I"⟩ ⟨"RoadLinksModel", "put", "(III)I"⟩ ∈ Wd := Wd_mem 1179 (by decide +kernel) (by decide +kernel)
theorem wm_1180 : Cond.code ⟨"RoadLinksModel", "put", "(III)I"⟩ prog_9_method_62_code 4 (Option.some FieldType.int) ∈ Wd := Wd_mem 1180 (by decide +kernel) (by decide +kernel)
theorem wm_1181 : Cond.methodLink "RoadLinksLaw" 158 ⟨"RoadLinksModel", "get", "(II)J"⟩ ∈ Wd := Wd_mem 1181 (by decide +kernel) (by decide +kernel)
theorem wm_1182 : Cond.instanceMethod ⟨"RoadLinksModel", "get", "(II)J"⟩ ∈ Wd := Wd_mem 1182 (by decide +kernel) (by decide +kernel)
theorem wm_1183 : Cond.selects "RoadLinksModel" ⟨"RoadLinksModel", "get", "(II)J"⟩ ⟨"RoadLinksModel", "get", "(II)J"⟩ ∈ Wd := Wd_mem 1183 (by decide +kernel) (by decide +kernel)
theorem wm_1184 : Cond.code ⟨"RoadLinksModel", "get", "(II)J"⟩ prog_9_method_63_code 3 (Option.some FieldType.long) ∈ Wd := Wd_mem 1184 (by decide +kernel) (by decide +kernel)
theorem wm_1186 : Cond.methodLink "RoadLinksLaw" 163 ⟨"RoadLinksModel", "copy", "(IIIII)I"⟩ ∈ Wd := Wd_mem 1186 (by decide +kernel) (by decide +kernel)
theorem wm_1187 : Cond.instanceMethod ⟨"RoadLinksModel", "copy", "(IIIII)I"⟩ ∈ Wd := Wd_mem 1187 (by decide +kernel) (by decide +kernel)
theorem wm_1188 : Cond.selects "RoadLinksModel" ⟨"RoadLinksModel", "copy", "(IIIII)I"⟩ ⟨"RoadLinksModel", "copy", "(IIIII)I"⟩ ∈ Wd := Wd_mem 1188 (by decide +kernel) (by decide +kernel)
theorem wm_1189 : Cond.code ⟨"RoadLinksModel", "copy", "(IIIII)I"⟩ prog_9_method_64_code 7 (Option.some FieldType.int) ∈ Wd := Wd_mem 1189 (by decide +kernel) (by decide +kernel)
theorem wm_1190 : Cond.methodLink "RoadLinksLaw" 167 ⟨"RoadLinksModel", "film", "(IIII)I"⟩ ∈ Wd := Wd_mem 1190 (by decide +kernel) (by decide +kernel)
theorem wm_1191 : Cond.instanceMethod ⟨"RoadLinksModel", "film", "(IIII)I"⟩ ∈ Wd := Wd_mem 1191 (by decide +kernel) (by decide +kernel)
theorem wm_1192 : Cond.selects "RoadLinksModel" ⟨"RoadLinksModel", "film", "(IIII)I"⟩ ⟨"RoadLinksModel", "film", "(IIII)I"⟩ ∈ Wd := Wd_mem 1192 (by decide +kernel) (by decide +kernel)
theorem wm_1193 : Cond.code ⟨"RoadLinksModel", "film", "(IIII)I"⟩ prog_9_method_65_code 6 (Option.some FieldType.int) ∈ Wd := Wd_mem 1193 (by decide +kernel) (by decide +kernel)
theorem wm_1195 : Cond.methodLink "RoadLinksLaw" 171 ⟨"RoadLinksModel", "judge", "(III)I"⟩ ∈ Wd := Wd_mem 1195 (by decide +kernel) (by decide +kernel)
theorem wm_1196 : Cond.instanceMethod ⟨"RoadLinksModel", "judge", "(III)I"⟩ ∈ Wd := Wd_mem 1196 (by decide +kernel) (by decide +kernel)
theorem wm_1197 : Cond.selects "RoadLinksModel" ⟨"RoadLinksModel", "judge", "(III)I"⟩ ⟨"RoadLinksModel", "judge", "(III)I"⟩ ∈ Wd := Wd_mem 1197 (by decide +kernel) (by decide +kernel)
theorem wm_1198 : Cond.code ⟨"RoadLinksModel", "judge", "(III)I"⟩ prog_9_method_66_code 5 (Option.some FieldType.int) ∈ Wd := Wd_mem 1198 (by decide +kernel) (by decide +kernel)
theorem wm_1199 : Cond.methodLink "RoadLinksLaw" 175 ⟨"RoadLinksModel", "feed", "(I)I"⟩ ∈ Wd := Wd_mem 1199 (by decide +kernel) (by decide +kernel)
theorem wm_1200 : Cond.instanceMethod ⟨"RoadLinksModel", "feed", "(I)I"⟩ ∈ Wd := Wd_mem 1200 (by decide +kernel) (by decide +kernel)
theorem wm_1201 : Cond.selects "RoadLinksModel" ⟨"RoadLinksModel", "feed", "(I)I"⟩ ⟨"RoadLinksModel", "feed", "(I)I"⟩ ∈ Wd := Wd_mem 1201 (by decide +kernel) (by decide +kernel)
theorem wm_1202 : Cond.code ⟨"RoadLinksModel", "feed", "(I)I"⟩ prog_9_method_67_code 2 (Option.some FieldType.int) ∈ Wd := Wd_mem 1202 (by decide +kernel) (by decide +kernel)
theorem wm_1203 : Cond.methodLink "RoadLinksLaw" 179 ⟨"RoadLinksModel", "wipe", "()I"⟩ ∈ Wd := Wd_mem 1203 (by decide +kernel) (by decide +kernel)
theorem wm_1204 : Cond.instanceMethod ⟨"RoadLinksModel", "wipe", "()I"⟩ ∈ Wd := Wd_mem 1204 (by decide +kernel) (by decide +kernel)
theorem wm_1205 : Cond.selects "RoadLinksModel" ⟨"RoadLinksModel", "wipe", "()I"⟩ ⟨"RoadLinksModel", "wipe", "()I"⟩ ∈ Wd := Wd_mem 1205 (by decide +kernel) (by decide +kernel)
theorem wm_1206 : Cond.code ⟨"RoadLinksModel", "wipe", "()I"⟩ prog_9_method_68_code 2 (Option.some FieldType.int) ∈ Wd := Wd_mem 1206 (by decide +kernel) (by decide +kernel)
theorem wm_1207 : Cond.methodLink "RoadLinksLaw" 183 ⟨"RoadLinksModel", "read", "()I"⟩ ∈ Wd := Wd_mem 1207 (by decide +kernel) (by decide +kernel)
theorem wm_1208 : Cond.instanceMethod ⟨"RoadLinksModel", "read", "()I"⟩ ∈ Wd := Wd_mem 1208 (by decide +kernel) (by decide +kernel)
theorem wm_1209 : Cond.selects "RoadLinksModel" ⟨"RoadLinksModel", "read", "()I"⟩ ⟨"RoadLinksModel", "read", "()I"⟩ ∈ Wd := Wd_mem 1209 (by decide +kernel) (by decide +kernel)
theorem wm_1210 : Cond.code ⟨"RoadLinksModel", "read", "()I"⟩ prog_9_method_79_code 2 (Option.some FieldType.int) ∈ Wd := Wd_mem 1210 (by decide +kernel) (by decide +kernel)
theorem wm_1263 : Cond.methodLink "RoadLinksLaw" 187 ⟨"RoadLinksModel", "spelled", "(I)I"⟩ ∈ Wd := Wd_mem 1263 (by decide +kernel) (by decide +kernel)
theorem wm_1264 : Cond.instanceMethod ⟨"RoadLinksModel", "spelled", "(I)I"⟩ ∈ Wd := Wd_mem 1264 (by decide +kernel) (by decide +kernel)
theorem wm_1265 : Cond.selects "RoadLinksModel" ⟨"RoadLinksModel", "spelled", "(I)I"⟩ ⟨"RoadLinksModel", "spelled", "(I)I"⟩ ∈ Wd := Wd_mem 1265 (by decide +kernel) (by decide +kernel)
theorem wm_1266 : Cond.code ⟨"RoadLinksModel", "spelled", "(I)I"⟩ prog_9_method_84_code 2 (Option.some FieldType.int) ∈ Wd := Wd_mem 1266 (by decide +kernel) (by decide +kernel)
theorem wm_1283 : Cond.methodLink "RoadLinksLaw" 191 ⟨"RoadLinksModel", "image", "()I"⟩ ∈ Wd := Wd_mem 1283 (by decide +kernel) (by decide +kernel)
theorem wm_1284 : Cond.instanceMethod ⟨"RoadLinksModel", "image", "()I"⟩ ∈ Wd := Wd_mem 1284 (by decide +kernel) (by decide +kernel)
theorem wm_1285 : Cond.selects "RoadLinksModel" ⟨"RoadLinksModel", "image", "()I"⟩ ⟨"RoadLinksModel", "image", "()I"⟩ ∈ Wd := Wd_mem 1285 (by decide +kernel) (by decide +kernel)
theorem wm_1286 : Cond.code ⟨"RoadLinksModel", "image", "()I"⟩ prog_9_method_85_code 2 (Option.some FieldType.int) ∈ Wd := Wd_mem 1286 (by decide +kernel) (by decide +kernel)
theorem wm_1287 : Cond.methodLink "RoadLinksLaw" 195 ⟨"RoadLinksModel", "undo", "()I"⟩ ∈ Wd := Wd_mem 1287 (by decide +kernel) (by decide +kernel)
theorem wm_1288 : Cond.instanceMethod ⟨"RoadLinksModel", "undo", "()I"⟩ ∈ Wd := Wd_mem 1288 (by decide +kernel) (by decide +kernel)
theorem wm_1289 : Cond.selects "RoadLinksModel" ⟨"RoadLinksModel", "undo", "()I"⟩ ⟨"RoadLinksModel", "undo", "()I"⟩ ∈ Wd := Wd_mem 1289 (by decide +kernel) (by decide +kernel)
theorem wm_1290 : Cond.code ⟨"RoadLinksModel", "undo", "()I"⟩ prog_9_method_86_code 2 (Option.some FieldType.int) ∈ Wd := Wd_mem 1290 (by decide +kernel) (by decide +kernel)
theorem wm_1291 : Cond.methodLink "RoadLinksLaw" 199 ⟨"RoadLinksModel", "count", "(I)I"⟩ ∈ Wd := Wd_mem 1291 (by decide +kernel) (by decide +kernel)
theorem wm_1292 : Cond.instanceMethod ⟨"RoadLinksModel", "count", "(I)I"⟩ ∈ Wd := Wd_mem 1292 (by decide +kernel) (by decide +kernel)
theorem wm_1293 : Cond.selects "RoadLinksModel" ⟨"RoadLinksModel", "count", "(I)I"⟩ ⟨"RoadLinksModel", "count", "(I)I"⟩ ∈ Wd := Wd_mem 1293 (by decide +kernel) (by decide +kernel)
theorem wm_1294 : Cond.code ⟨"RoadLinksModel", "count", "(I)I"⟩ prog_9_method_87_code 4 (Option.some FieldType.int) ∈ Wd := Wd_mem 1294 (by decide +kernel) (by decide +kernel)
theorem cs_L_13 : CSV RL 13 yX6_posts cX6_posts 3 (some .int) 1 := ⟨Wd_ga (List.forall_mem_cons.mpr ⟨wm_279, List.forall_mem_cons.mpr ⟨wm_280, List.forall_mem_cons.mpr ⟨wm_281, List.forall_mem_cons.mpr ⟨wm_61, fun _ h => absurd h List.not_mem_nil⟩⟩⟩⟩) wm_282, rfl, by decide +kernel, by decide +kernel, by decide +kernel⟩
theorem cs_L_17 : CSV RL 17 yX7_posts cX7_posts 3 (some .int) 1 := ⟨Wd_ga (List.forall_mem_cons.mpr ⟨wm_939, List.forall_mem_cons.mpr ⟨wm_940, List.forall_mem_cons.mpr ⟨wm_941, List.forall_mem_cons.mpr ⟨wm_68, fun _ h => absurd h List.not_mem_nil⟩⟩⟩⟩) wm_942, rfl, by decide +kernel, by decide +kernel, by decide +kernel⟩
theorem cs_L_18 : CSV RL 18 yX6_road cX6_road 5 (some .int) 3 := ⟨Wd_ga (List.forall_mem_cons.mpr ⟨wm_287, List.forall_mem_cons.mpr ⟨wm_288, List.forall_mem_cons.mpr ⟨wm_289, List.forall_mem_cons.mpr ⟨wm_61, fun _ h => absurd h List.not_mem_nil⟩⟩⟩⟩) wm_290, rfl, by decide +kernel, by decide +kernel, by decide +kernel⟩
theorem cs_L_22 : CSV RL 22 yX7_road cX7_road 5 (some .int) 3 := ⟨Wd_ga (List.forall_mem_cons.mpr ⟨wm_950, List.forall_mem_cons.mpr ⟨wm_951, List.forall_mem_cons.mpr ⟨wm_952, List.forall_mem_cons.mpr ⟨wm_68, fun _ h => absurd h List.not_mem_nil⟩⟩⟩⟩) wm_953, rfl, by decide +kernel, by decide +kernel, by decide +kernel⟩
theorem cs_L_23 : CSV RL 23 yX6_isRoad cX6_isRoad 3 (some .int) 2 := ⟨Wd_ga (List.forall_mem_cons.mpr ⟨wm_299, List.forall_mem_cons.mpr ⟨wm_300, List.forall_mem_cons.mpr ⟨wm_301, List.forall_mem_cons.mpr ⟨wm_61, fun _ h => absurd h List.not_mem_nil⟩⟩⟩⟩) wm_302, rfl, by decide +kernel, by decide +kernel, by decide +kernel⟩
theorem cs_L_27 : CSV RL 27 yX7_isRoad cX7_isRoad 3 (some .int) 2 := ⟨Wd_ga (List.forall_mem_cons.mpr ⟨wm_958, List.forall_mem_cons.mpr ⟨wm_959, List.forall_mem_cons.mpr ⟨wm_960, List.forall_mem_cons.mpr ⟨wm_68, fun _ h => absurd h List.not_mem_nil⟩⟩⟩⟩) wm_961, rfl, by decide +kernel, by decide +kernel, by decide +kernel⟩
theorem cs_L_28 : CSV RL 28 yX6_targets cX6_targets 3 (some .int) 1 := ⟨Wd_ga (List.forall_mem_cons.mpr ⟨wm_303, List.forall_mem_cons.mpr ⟨wm_304, List.forall_mem_cons.mpr ⟨wm_305, List.forall_mem_cons.mpr ⟨wm_61, fun _ h => absurd h List.not_mem_nil⟩⟩⟩⟩) wm_306, rfl, by decide +kernel, by decide +kernel, by decide +kernel⟩
theorem cs_L_31 : CSV RL 31 yX7_targets cX7_targets 3 (some .int) 1 := ⟨Wd_ga (List.forall_mem_cons.mpr ⟨wm_962, List.forall_mem_cons.mpr ⟨wm_963, List.forall_mem_cons.mpr ⟨wm_964, List.forall_mem_cons.mpr ⟨wm_68, fun _ h => absurd h List.not_mem_nil⟩⟩⟩⟩) wm_965, rfl, by decide +kernel, by decide +kernel, by decide +kernel⟩
theorem cs_L_32 : CSV RL 32 yX6_weigh cX6_weigh 4 (some .int) 2 := ⟨Wd_ga (List.forall_mem_cons.mpr ⟨wm_319, List.forall_mem_cons.mpr ⟨wm_320, List.forall_mem_cons.mpr ⟨wm_321, List.forall_mem_cons.mpr ⟨wm_61, fun _ h => absurd h List.not_mem_nil⟩⟩⟩⟩) wm_322, rfl, by decide +kernel, by decide +kernel, by decide +kernel⟩
theorem cs_L_35 : CSV RL 35 yX7_weigh cX7_weigh 4 (some .int) 2 := ⟨Wd_ga (List.forall_mem_cons.mpr ⟨wm_974, List.forall_mem_cons.mpr ⟨wm_975, List.forall_mem_cons.mpr ⟨wm_976, List.forall_mem_cons.mpr ⟨wm_68, fun _ h => absurd h List.not_mem_nil⟩⟩⟩⟩) wm_977, rfl, by decide +kernel, by decide +kernel, by decide +kernel⟩
theorem cs_L_36 : CSV RL 36 yX6_add cX6_add 2 (some .int) 1 := ⟨Wd_ga (List.forall_mem_cons.mpr ⟨wm_327, List.forall_mem_cons.mpr ⟨wm_328, List.forall_mem_cons.mpr ⟨wm_329, List.forall_mem_cons.mpr ⟨wm_61, fun _ h => absurd h List.not_mem_nil⟩⟩⟩⟩) wm_330, rfl, by decide +kernel, by decide +kernel, by decide +kernel⟩
theorem cs_L_39 : CSV RL 39 yX7_add cX7_add 2 (some .int) 1 := ⟨Wd_ga (List.forall_mem_cons.mpr ⟨wm_978, List.forall_mem_cons.mpr ⟨wm_979, List.forall_mem_cons.mpr ⟨wm_980, List.forall_mem_cons.mpr ⟨wm_68, fun _ h => absurd h List.not_mem_nil⟩⟩⟩⟩) wm_981, rfl, by decide +kernel, by decide +kernel, by decide +kernel⟩
theorem cs_L_40 : CSV RL 40 yX6_change cX6_change 4 (some .int) 2 := ⟨Wd_ga (List.forall_mem_cons.mpr ⟨wm_335, List.forall_mem_cons.mpr ⟨wm_336, List.forall_mem_cons.mpr ⟨wm_337, List.forall_mem_cons.mpr ⟨wm_61, fun _ h => absurd h List.not_mem_nil⟩⟩⟩⟩) wm_338, rfl, by decide +kernel, by decide +kernel, by decide +kernel⟩
theorem cs_L_43 : CSV RL 43 yX7_change cX7_change 4 (some .int) 2 := ⟨Wd_ga (List.forall_mem_cons.mpr ⟨wm_982, List.forall_mem_cons.mpr ⟨wm_983, List.forall_mem_cons.mpr ⟨wm_984, List.forall_mem_cons.mpr ⟨wm_68, fun _ h => absurd h List.not_mem_nil⟩⟩⟩⟩) wm_985, rfl, by decide +kernel, by decide +kernel, by decide +kernel⟩
theorem cs_L_44 : CSV RL 44 yX6_drop cX6_drop 2 (some .int) 1 := ⟨Wd_ga (List.forall_mem_cons.mpr ⟨wm_347, List.forall_mem_cons.mpr ⟨wm_348, List.forall_mem_cons.mpr ⟨wm_349, List.forall_mem_cons.mpr ⟨wm_61, fun _ h => absurd h List.not_mem_nil⟩⟩⟩⟩) wm_350, rfl, by decide +kernel, by decide +kernel, by decide +kernel⟩
theorem cs_L_47 : CSV RL 47 yX7_drop cX7_drop 2 (some .int) 1 := ⟨Wd_ga (List.forall_mem_cons.mpr ⟨wm_990, List.forall_mem_cons.mpr ⟨wm_991, List.forall_mem_cons.mpr ⟨wm_992, List.forall_mem_cons.mpr ⟨wm_68, fun _ h => absurd h List.not_mem_nil⟩⟩⟩⟩) wm_993, rfl, by decide +kernel, by decide +kernel, by decide +kernel⟩
theorem cs_L_48 : CSV RL 48 yX6_set cX6_set 2 (some .int) 1 := ⟨Wd_ga (List.forall_mem_cons.mpr ⟨wm_355, List.forall_mem_cons.mpr ⟨wm_356, List.forall_mem_cons.mpr ⟨wm_357, List.forall_mem_cons.mpr ⟨wm_61, fun _ h => absurd h List.not_mem_nil⟩⟩⟩⟩) wm_358, rfl, by decide +kernel, by decide +kernel, by decide +kernel⟩
theorem cs_L_51 : CSV RL 51 yX7_set cX7_set 2 (some .int) 1 := ⟨Wd_ga (List.forall_mem_cons.mpr ⟨wm_998, List.forall_mem_cons.mpr ⟨wm_999, List.forall_mem_cons.mpr ⟨wm_1000, List.forall_mem_cons.mpr ⟨wm_68, fun _ h => absurd h List.not_mem_nil⟩⟩⟩⟩) wm_1001, rfl, by decide +kernel, by decide +kernel, by decide +kernel⟩
theorem cs_L_52 : CSV RL 52 yX6_rank cX6_rank 3 (some .int) 2 := ⟨Wd_ga (List.forall_mem_cons.mpr ⟨wm_359, List.forall_mem_cons.mpr ⟨wm_360, List.forall_mem_cons.mpr ⟨wm_361, List.forall_mem_cons.mpr ⟨wm_61, fun _ h => absurd h List.not_mem_nil⟩⟩⟩⟩) wm_362, rfl, by decide +kernel, by decide +kernel, by decide +kernel⟩
theorem cs_L_55 : CSV RL 55 yX7_rank cX7_rank 3 (some .int) 2 := ⟨Wd_ga (List.forall_mem_cons.mpr ⟨wm_1002, List.forall_mem_cons.mpr ⟨wm_1003, List.forall_mem_cons.mpr ⟨wm_1004, List.forall_mem_cons.mpr ⟨wm_68, fun _ h => absurd h List.not_mem_nil⟩⟩⟩⟩) wm_1005, rfl, by decide +kernel, by decide +kernel, by decide +kernel⟩
theorem cs_L_56 : CSV RL 56 yX6_free cX6_free 3 (some .int) 2 := ⟨Wd_ga (List.forall_mem_cons.mpr ⟨wm_418, List.forall_mem_cons.mpr ⟨wm_419, List.forall_mem_cons.mpr ⟨wm_420, List.forall_mem_cons.mpr ⟨wm_61, fun _ h => absurd h List.not_mem_nil⟩⟩⟩⟩) wm_421, rfl, by decide +kernel, by decide +kernel, by decide +kernel⟩
theorem cs_L_59 : CSV RL 59 yX7_free cX7_free 3 (some .int) 2 := ⟨Wd_ga (List.forall_mem_cons.mpr ⟨wm_1046, List.forall_mem_cons.mpr ⟨wm_1047, List.forall_mem_cons.mpr ⟨wm_1048, List.forall_mem_cons.mpr ⟨wm_68, fun _ h => absurd h List.not_mem_nil⟩⟩⟩⟩) wm_1049, rfl, by decide +kernel, by decide +kernel, by decide +kernel⟩
theorem cs_L_60 : CSV RL 60 yX6_base cX6_base 3 (some .int) 2 := ⟨Wd_ga (List.forall_mem_cons.mpr ⟨wm_427, List.forall_mem_cons.mpr ⟨wm_428, List.forall_mem_cons.mpr ⟨wm_429, List.forall_mem_cons.mpr ⟨wm_61, fun _ h => absurd h List.not_mem_nil⟩⟩⟩⟩) wm_430, rfl, by decide +kernel, by decide +kernel, by decide +kernel⟩
theorem cs_L_63 : CSV RL 63 yX7_base cX7_base 3 (some .int) 2 := ⟨Wd_ga (List.forall_mem_cons.mpr ⟨wm_1050, List.forall_mem_cons.mpr ⟨wm_1051, List.forall_mem_cons.mpr ⟨wm_1052, List.forall_mem_cons.mpr ⟨wm_68, fun _ h => absurd h List.not_mem_nil⟩⟩⟩⟩) wm_1053, rfl, by decide +kernel, by decide +kernel, by decide +kernel⟩
theorem cs_L_64 : CSV RL 64 yX6_circuit cX6_circuit 3 (some .int) 2 := ⟨Wd_ga (List.forall_mem_cons.mpr ⟨wm_453, List.forall_mem_cons.mpr ⟨wm_454, List.forall_mem_cons.mpr ⟨wm_455, List.forall_mem_cons.mpr ⟨wm_61, fun _ h => absurd h List.not_mem_nil⟩⟩⟩⟩) wm_456, rfl, by decide +kernel, by decide +kernel, by decide +kernel⟩
theorem cs_L_67 : CSV RL 67 yX7_circuit cX7_circuit 3 (some .int) 2 := ⟨Wd_ga (List.forall_mem_cons.mpr ⟨wm_1066, List.forall_mem_cons.mpr ⟨wm_1067, List.forall_mem_cons.mpr ⟨wm_1068, List.forall_mem_cons.mpr ⟨wm_68, fun _ h => absurd h List.not_mem_nil⟩⟩⟩⟩) wm_1069, rfl, by decide +kernel, by decide +kernel, by decide +kernel⟩
theorem cs_L_68 : CSV RL 68 yX6_flat cX6_flat 3 (some .int) 2 := ⟨Wd_ga (List.forall_mem_cons.mpr ⟨wm_457, List.forall_mem_cons.mpr ⟨wm_458, List.forall_mem_cons.mpr ⟨wm_459, List.forall_mem_cons.mpr ⟨wm_61, fun _ h => absurd h List.not_mem_nil⟩⟩⟩⟩) wm_460, rfl, by decide +kernel, by decide +kernel, by decide +kernel⟩
theorem cs_L_71 : CSV RL 71 yX7_flat cX7_flat 3 (some .int) 2 := ⟨Wd_ga (List.forall_mem_cons.mpr ⟨wm_1070, List.forall_mem_cons.mpr ⟨wm_1071, List.forall_mem_cons.mpr ⟨wm_1072, List.forall_mem_cons.mpr ⟨wm_68, fun _ h => absurd h List.not_mem_nil⟩⟩⟩⟩) wm_1073, rfl, by decide +kernel, by decide +kernel, by decide +kernel⟩
theorem cs_L_72 : CSV RL 72 yX6_shut cX6_shut 3 (some .int) 2 := ⟨Wd_ga (List.forall_mem_cons.mpr ⟨wm_461, List.forall_mem_cons.mpr ⟨wm_462, List.forall_mem_cons.mpr ⟨wm_463, List.forall_mem_cons.mpr ⟨wm_61, fun _ h => absurd h List.not_mem_nil⟩⟩⟩⟩) wm_464, rfl, by decide +kernel, by decide +kernel, by decide +kernel⟩
theorem cs_L_75 : CSV RL 75 yX7_shut cX7_shut 3 (some .int) 2 := ⟨Wd_ga (List.forall_mem_cons.mpr ⟨wm_1074, List.forall_mem_cons.mpr ⟨wm_1075, List.forall_mem_cons.mpr ⟨wm_1076, List.forall_mem_cons.mpr ⟨wm_68, fun _ h => absurd h List.not_mem_nil⟩⟩⟩⟩) wm_1077, rfl, by decide +kernel, by decide +kernel, by decide +kernel⟩
theorem cs_L_76 : CSV RL 76 yX6_loops cX6_loops 4 (some .int) 2 := ⟨Wd_ga (List.forall_mem_cons.mpr ⟨wm_466, List.forall_mem_cons.mpr ⟨wm_467, List.forall_mem_cons.mpr ⟨wm_468, List.forall_mem_cons.mpr ⟨wm_61, fun _ h => absurd h List.not_mem_nil⟩⟩⟩⟩) wm_469, rfl, by decide +kernel, by decide +kernel, by decide +kernel⟩
theorem cs_L_79 : CSV RL 79 yX7_loops cX7_loops 6 (some .int) 2 := ⟨Wd_ga (List.forall_mem_cons.mpr ⟨wm_1078, List.forall_mem_cons.mpr ⟨wm_1079, List.forall_mem_cons.mpr ⟨wm_1080, List.forall_mem_cons.mpr ⟨wm_68, fun _ h => absurd h List.not_mem_nil⟩⟩⟩⟩) wm_1081, rfl, by decide +kernel, by decide +kernel, by decide +kernel⟩
theorem cs_L_80 : CSV RL 80 yX6_round cX6_round 5 (some .int) 3 := ⟨Wd_ga (List.forall_mem_cons.mpr ⟨wm_477, List.forall_mem_cons.mpr ⟨wm_478, List.forall_mem_cons.mpr ⟨wm_479, List.forall_mem_cons.mpr ⟨wm_61, fun _ h => absurd h List.not_mem_nil⟩⟩⟩⟩) wm_480, rfl, by decide +kernel, by decide +kernel, by decide +kernel⟩
theorem cs_L_83 : CSV RL 83 yX7_round cX7_round 7 (some .int) 3 := ⟨Wd_ga (List.forall_mem_cons.mpr ⟨wm_1082, List.forall_mem_cons.mpr ⟨wm_1083, List.forall_mem_cons.mpr ⟨wm_1084, List.forall_mem_cons.mpr ⟨wm_68, fun _ h => absurd h List.not_mem_nil⟩⟩⟩⟩) wm_1085, rfl, by decide +kernel, by decide +kernel, by decide +kernel⟩
theorem cs_L_84 : CSV RL 84 yX6_swap cX6_swap 6 (some .int) 4 := ⟨Wd_ga (List.forall_mem_cons.mpr ⟨wm_487, List.forall_mem_cons.mpr ⟨wm_488, List.forall_mem_cons.mpr ⟨wm_489, List.forall_mem_cons.mpr ⟨wm_61, fun _ h => absurd h List.not_mem_nil⟩⟩⟩⟩) wm_490, rfl, by decide +kernel, by decide +kernel, by decide +kernel⟩
theorem cs_L_88 : CSV RL 88 yX7_swap cX7_swap 6 (some .int) 4 := ⟨Wd_ga (List.forall_mem_cons.mpr ⟨wm_1086, List.forall_mem_cons.mpr ⟨wm_1087, List.forall_mem_cons.mpr ⟨wm_1088, List.forall_mem_cons.mpr ⟨wm_68, fun _ h => absurd h List.not_mem_nil⟩⟩⟩⟩) wm_1089, rfl, by decide +kernel, by decide +kernel, by decide +kernel⟩
theorem cs_L_89 : CSV RL 89 yX6_steps cX6_steps 6 (some .int) 1 := ⟨Wd_ga (List.forall_mem_cons.mpr ⟨wm_495, List.forall_mem_cons.mpr ⟨wm_496, List.forall_mem_cons.mpr ⟨wm_497, List.forall_mem_cons.mpr ⟨wm_61, fun _ h => absurd h List.not_mem_nil⟩⟩⟩⟩) wm_498, rfl, by decide +kernel, by decide +kernel, by decide +kernel⟩
theorem cs_L_92 : CSV RL 92 yX7_steps cX7_steps 5 (some .int) 1 := ⟨Wd_ga (List.forall_mem_cons.mpr ⟨wm_1090, List.forall_mem_cons.mpr ⟨wm_1091, List.forall_mem_cons.mpr ⟨wm_1092, List.forall_mem_cons.mpr ⟨wm_68, fun _ h => absurd h List.not_mem_nil⟩⟩⟩⟩) wm_1093, rfl, by decide +kernel, by decide +kernel, by decide +kernel⟩
theorem cs_L_93 : CSV RL 93 yX6_less cX6_less 6 (some .int) 4 := ⟨Wd_ga (List.forall_mem_cons.mpr ⟨wm_503, List.forall_mem_cons.mpr ⟨wm_504, List.forall_mem_cons.mpr ⟨wm_505, List.forall_mem_cons.mpr ⟨wm_61, fun _ h => absurd h List.not_mem_nil⟩⟩⟩⟩) wm_506, rfl, by decide +kernel, by decide +kernel, by decide +kernel⟩
theorem cs_L_96 : CSV RL 96 yX7_less cX7_less 5 (some .int) 4 := ⟨Wd_ga (List.forall_mem_cons.mpr ⟨wm_1094, List.forall_mem_cons.mpr ⟨wm_1095, List.forall_mem_cons.mpr ⟨wm_1096, List.forall_mem_cons.mpr ⟨wm_68, fun _ h => absurd h List.not_mem_nil⟩⟩⟩⟩) wm_1097, rfl, by decide +kernel, by decide +kernel, by decide +kernel⟩
theorem cs_L_97 : CSV RL 97 yX6_heaviest cX6_heaviest 8 (some .int) 2 := ⟨Wd_ga (List.forall_mem_cons.mpr ⟨wm_507, List.forall_mem_cons.mpr ⟨wm_508, List.forall_mem_cons.mpr ⟨wm_509, List.forall_mem_cons.mpr ⟨wm_61, fun _ h => absurd h List.not_mem_nil⟩⟩⟩⟩) wm_510, rfl, by decide +kernel, by decide +kernel, by decide +kernel⟩
theorem cs_L_100 : CSV RL 100 yX7_heaviest cX7_heaviest 5 (some .int) 2 := ⟨Wd_ga (List.forall_mem_cons.mpr ⟨wm_1098, List.forall_mem_cons.mpr ⟨wm_1099, List.forall_mem_cons.mpr ⟨wm_1100, List.forall_mem_cons.mpr ⟨wm_68, fun _ h => absurd h List.not_mem_nil⟩⟩⟩⟩) wm_1101, rfl, by decide +kernel, by decide +kernel, by decide +kernel⟩
theorem cs_L_101 : CSV RL 101 yX6_alike cX6_alike 6 (some .int) 2 := ⟨Wd_ga (List.forall_mem_cons.mpr ⟨wm_516, List.forall_mem_cons.mpr ⟨wm_517, List.forall_mem_cons.mpr ⟨wm_518, List.forall_mem_cons.mpr ⟨wm_61, fun _ h => absurd h List.not_mem_nil⟩⟩⟩⟩) wm_519, rfl, by decide +kernel, by decide +kernel, by decide +kernel⟩
theorem cs_L_104 : CSV RL 104 yX7_alike cX7_alike 4 (some .int) 2 := ⟨Wd_ga (List.forall_mem_cons.mpr ⟨wm_1106, List.forall_mem_cons.mpr ⟨wm_1107, List.forall_mem_cons.mpr ⟨wm_1108, List.forall_mem_cons.mpr ⟨wm_68, fun _ h => absurd h List.not_mem_nil⟩⟩⟩⟩) wm_1109, rfl, by decide +kernel, by decide +kernel, by decide +kernel⟩
theorem cs_L_105 : CSV RL 105 yX6_cut cX6_cut 5 (some .int) 1 := ⟨Wd_ga (List.forall_mem_cons.mpr ⟨wm_520, List.forall_mem_cons.mpr ⟨wm_521, List.forall_mem_cons.mpr ⟨wm_522, List.forall_mem_cons.mpr ⟨wm_61, fun _ h => absurd h List.not_mem_nil⟩⟩⟩⟩) wm_523, rfl, by decide +kernel, by decide +kernel, by decide +kernel⟩
theorem cs_L_108 : CSV RL 108 yX7_cut cX7_cut 2 (some .int) 1 := ⟨Wd_ga (List.forall_mem_cons.mpr ⟨wm_1110, List.forall_mem_cons.mpr ⟨wm_1111, List.forall_mem_cons.mpr ⟨wm_1112, List.forall_mem_cons.mpr ⟨wm_68, fun _ h => absurd h List.not_mem_nil⟩⟩⟩⟩) wm_1113, rfl, by decide +kernel, by decide +kernel, by decide +kernel⟩
theorem cs_L_109 : CSV RL 109 yX6_reach cX6_reach 2 (some .int) 1 := ⟨Wd_ga (List.forall_mem_cons.mpr ⟨wm_533, List.forall_mem_cons.mpr ⟨wm_534, List.forall_mem_cons.mpr ⟨wm_535, List.forall_mem_cons.mpr ⟨wm_61, fun _ h => absurd h List.not_mem_nil⟩⟩⟩⟩) wm_536, rfl, by decide +kernel, by decide +kernel, by decide +kernel⟩
theorem cs_L_112 : CSV RL 112 yX7_reach cX7_reach 5 (some .int) 1 := ⟨Wd_ga (List.forall_mem_cons.mpr ⟨wm_1114, List.forall_mem_cons.mpr ⟨wm_1115, List.forall_mem_cons.mpr ⟨wm_1116, List.forall_mem_cons.mpr ⟨wm_68, fun _ h => absurd h List.not_mem_nil⟩⟩⟩⟩) wm_1117, rfl, by decide +kernel, by decide +kernel, by decide +kernel⟩
theorem cs_L_113 : CSV RL 113 yX6_partners cX6_partners 4 (some .int) 1 := ⟨Wd_ga (List.forall_mem_cons.mpr ⟨wm_538, List.forall_mem_cons.mpr ⟨wm_539, List.forall_mem_cons.mpr ⟨wm_540, List.forall_mem_cons.mpr ⟨wm_61, fun _ h => absurd h List.not_mem_nil⟩⟩⟩⟩) wm_541, rfl, by decide +kernel, by decide +kernel, by decide +kernel⟩
theorem cs_L_116 : CSV RL 116 yX7_partners cX7_partners 7 (some .int) 1 := ⟨Wd_ga (List.forall_mem_cons.mpr ⟨wm_1118, List.forall_mem_cons.mpr ⟨wm_1119, List.forall_mem_cons.mpr ⟨wm_1120, List.forall_mem_cons.mpr ⟨wm_68, fun _ h => absurd h List.not_mem_nil⟩⟩⟩⟩) wm_1121, rfl, by decide +kernel, by decide +kernel, by decide +kernel⟩
theorem cs_L_117 : CSV RL 117 yX6_turned cX6_turned 1 (some .int) 0 := ⟨Wd_ga (List.forall_mem_cons.mpr ⟨wm_564, List.forall_mem_cons.mpr ⟨wm_565, List.forall_mem_cons.mpr ⟨wm_566, List.forall_mem_cons.mpr ⟨wm_61, fun _ h => absurd h List.not_mem_nil⟩⟩⟩⟩) wm_567, rfl, by decide +kernel, by decide +kernel, by decide +kernel⟩
theorem cs_L_121 : CSV RL 121 yX7_turned cX7_turned 2 (some .int) 0 := ⟨Wd_ga (List.forall_mem_cons.mpr ⟨wm_1126, List.forall_mem_cons.mpr ⟨wm_1127, List.forall_mem_cons.mpr ⟨wm_1128, List.forall_mem_cons.mpr ⟨wm_68, fun _ h => absurd h List.not_mem_nil⟩⟩⟩⟩) wm_1129, rfl, by decide +kernel, by decide +kernel, by decide +kernel⟩
theorem cs_L_122 : CSV RL 122 yX6_strict cX6_strict 2 (some .int) 0 := ⟨Wd_ga (List.forall_mem_cons.mpr ⟨wm_573, List.forall_mem_cons.mpr ⟨wm_574, List.forall_mem_cons.mpr ⟨wm_575, List.forall_mem_cons.mpr ⟨wm_61, fun _ h => absurd h List.not_mem_nil⟩⟩⟩⟩) wm_576, rfl, by decide +kernel, by decide +kernel, by decide +kernel⟩
theorem cs_L_125 : CSV RL 125 yX7_strict cX7_strict 4 (some .int) 0 := ⟨Wd_ga (List.forall_mem_cons.mpr ⟨wm_1130, List.forall_mem_cons.mpr ⟨wm_1131, List.forall_mem_cons.mpr ⟨wm_1132, List.forall_mem_cons.mpr ⟨wm_68, fun _ h => absurd h List.not_mem_nil⟩⟩⟩⟩) wm_1133, rfl, by decide +kernel, by decide +kernel, by decide +kernel⟩
theorem cs_L_126 : CSV RL 126 yX6_spare cX6_spare 2 (some .int) 1 := ⟨Wd_ga (List.forall_mem_cons.mpr ⟨wm_586, List.forall_mem_cons.mpr ⟨wm_587, List.forall_mem_cons.mpr ⟨wm_588, List.forall_mem_cons.mpr ⟨wm_61, fun _ h => absurd h List.not_mem_nil⟩⟩⟩⟩) wm_589, rfl, by decide +kernel, by decide +kernel, by decide +kernel⟩
theorem cs_L_129 : CSV RL 129 yX7_spare cX7_spare 2 (some .int) 1 := ⟨Wd_ga (List.forall_mem_cons.mpr ⟨wm_1138, List.forall_mem_cons.mpr ⟨wm_1139, List.forall_mem_cons.mpr ⟨wm_1140, List.forall_mem_cons.mpr ⟨wm_68, fun _ h => absurd h List.not_mem_nil⟩⟩⟩⟩) wm_1141, rfl, by decide +kernel, by decide +kernel, by decide +kernel⟩
theorem cs_L_130 : CSV RL 130 yX6_room cX6_room 2 (some .int) 1 := ⟨Wd_ga (List.forall_mem_cons.mpr ⟨wm_602, List.forall_mem_cons.mpr ⟨wm_603, List.forall_mem_cons.mpr ⟨wm_604, List.forall_mem_cons.mpr ⟨wm_61, fun _ h => absurd h List.not_mem_nil⟩⟩⟩⟩) wm_605, rfl, by decide +kernel, by decide +kernel, by decide +kernel⟩
theorem cs_L_133 : CSV RL 133 yX7_room cX7_room 2 (some .int) 1 := ⟨Wd_ga (List.forall_mem_cons.mpr ⟨wm_1154, List.forall_mem_cons.mpr ⟨wm_1155, List.forall_mem_cons.mpr ⟨wm_1156, List.forall_mem_cons.mpr ⟨wm_68, fun _ h => absurd h List.not_mem_nil⟩⟩⟩⟩) wm_1157, rfl, by decide +kernel, by decide +kernel, by decide +kernel⟩
theorem cs_L_134 : CSV RL 134 yX6_idle cX6_idle 4 (some .int) 0 := ⟨Wd_ga (List.forall_mem_cons.mpr ⟨wm_606, List.forall_mem_cons.mpr ⟨wm_607, List.forall_mem_cons.mpr ⟨wm_608, List.forall_mem_cons.mpr ⟨wm_61, fun _ h => absurd h List.not_mem_nil⟩⟩⟩⟩) wm_609, rfl, by decide +kernel, by decide +kernel, by decide +kernel⟩
theorem cs_L_137 : CSV RL 137 yX7_idle cX7_idle 4 (some .int) 0 := ⟨Wd_ga (List.forall_mem_cons.mpr ⟨wm_1158, List.forall_mem_cons.mpr ⟨wm_1159, List.forall_mem_cons.mpr ⟨wm_1160, List.forall_mem_cons.mpr ⟨wm_68, fun _ h => absurd h List.not_mem_nil⟩⟩⟩⟩) wm_1161, rfl, by decide +kernel, by decide +kernel, by decide +kernel⟩
theorem cs_L_138 : CSV RL 138 yX6_small cX6_small 6 (some .int) 0 := ⟨Wd_ga (List.forall_mem_cons.mpr ⟨wm_610, List.forall_mem_cons.mpr ⟨wm_611, List.forall_mem_cons.mpr ⟨wm_612, List.forall_mem_cons.mpr ⟨wm_61, fun _ h => absurd h List.not_mem_nil⟩⟩⟩⟩) wm_613, rfl, by decide +kernel, by decide +kernel, by decide +kernel⟩
theorem cs_L_141 : CSV RL 141 yX7_small cX7_small 4 (some .int) 0 := ⟨Wd_ga (List.forall_mem_cons.mpr ⟨wm_1162, List.forall_mem_cons.mpr ⟨wm_1163, List.forall_mem_cons.mpr ⟨wm_1164, List.forall_mem_cons.mpr ⟨wm_68, fun _ h => absurd h List.not_mem_nil⟩⟩⟩⟩) wm_1165, rfl, by decide +kernel, by decide +kernel, by decide +kernel⟩
theorem cs_L_142 : CSV RL 142 yX6_row cX6_row 4 (some .int) 2 := ⟨Wd_ga (List.forall_mem_cons.mpr ⟨wm_618, List.forall_mem_cons.mpr ⟨wm_619, List.forall_mem_cons.mpr ⟨wm_620, List.forall_mem_cons.mpr ⟨wm_61, fun _ h => absurd h List.not_mem_nil⟩⟩⟩⟩) wm_621, rfl, by decide +kernel, by decide +kernel, by decide +kernel⟩
theorem cs_L_145 : CSV RL 145 yX7_row cX7_row 4 (some .int) 2 := ⟨Wd_ga (List.forall_mem_cons.mpr ⟨wm_1166, List.forall_mem_cons.mpr ⟨wm_1167, List.forall_mem_cons.mpr ⟨wm_1168, List.forall_mem_cons.mpr ⟨wm_68, fun _ h => absurd h List.not_mem_nil⟩⟩⟩⟩) wm_1169, rfl, by decide +kernel, by decide +kernel, by decide +kernel⟩
theorem cs_L_146 : CSV RL 146 yX6_lose cX6_lose 3 (some .int) 1 := ⟨Wd_ga (List.forall_mem_cons.mpr ⟨wm_625, List.forall_mem_cons.mpr ⟨wm_626, List.forall_mem_cons.mpr ⟨wm_627, List.forall_mem_cons.mpr ⟨wm_61, fun _ h => absurd h List.not_mem_nil⟩⟩⟩⟩) wm_628, rfl, by decide +kernel, by decide +kernel, by decide +kernel⟩
theorem cs_L_149 : CSV RL 149 yX7_lose cX7_lose 3 (some .int) 1 := ⟨Wd_ga (List.forall_mem_cons.mpr ⟨wm_1173, List.forall_mem_cons.mpr ⟨wm_1174, List.forall_mem_cons.mpr ⟨wm_1175, List.forall_mem_cons.mpr ⟨wm_68, fun _ h => absurd h List.not_mem_nil⟩⟩⟩⟩) wm_1176, rfl, by decide +kernel, by decide +kernel, by decide +kernel⟩
theorem cs_L_150 : CSV RL 150 yX6_put cX6_put 4 (some .int) 3 := ⟨Wd_ga (List.forall_mem_cons.mpr ⟨wm_633, List.forall_mem_cons.mpr ⟨wm_634, List.forall_mem_cons.mpr ⟨wm_635, List.forall_mem_cons.mpr ⟨wm_61, fun _ h => absurd h List.not_mem_nil⟩⟩⟩⟩) wm_636, rfl, by decide +kernel, by decide +kernel, by decide +kernel⟩
theorem cs_L_153 : CSV RL 153 yX7_put cX7_put 4 (some .int) 3 := ⟨Wd_ga (List.forall_mem_cons.mpr ⟨wm_1177, List.forall_mem_cons.mpr ⟨wm_1178, List.forall_mem_cons.mpr ⟨wm_1179, List.forall_mem_cons.mpr ⟨wm_68, fun _ h => absurd h List.not_mem_nil⟩⟩⟩⟩) wm_1180, rfl, by decide +kernel, by decide +kernel, by decide +kernel⟩
theorem cs_L_154 : CSV RL 154 yX6_get cX6_get 3 (some .long) 2 := ⟨Wd_ga (List.forall_mem_cons.mpr ⟨wm_637, List.forall_mem_cons.mpr ⟨wm_638, List.forall_mem_cons.mpr ⟨wm_639, List.forall_mem_cons.mpr ⟨wm_61, fun _ h => absurd h List.not_mem_nil⟩⟩⟩⟩) wm_640, rfl, by decide +kernel, by decide +kernel, by decide +kernel⟩
theorem cs_L_158 : CSV RL 158 yX7_get cX7_get 3 (some .long) 2 := ⟨Wd_ga (List.forall_mem_cons.mpr ⟨wm_1181, List.forall_mem_cons.mpr ⟨wm_1182, List.forall_mem_cons.mpr ⟨wm_1183, List.forall_mem_cons.mpr ⟨wm_68, fun _ h => absurd h List.not_mem_nil⟩⟩⟩⟩) wm_1184, rfl, by decide +kernel, by decide +kernel, by decide +kernel⟩
theorem cs_L_159 : CSV RL 159 yX6_copy cX6_copy 6 (some .int) 5 := ⟨Wd_ga (List.forall_mem_cons.mpr ⟨wm_642, List.forall_mem_cons.mpr ⟨wm_643, List.forall_mem_cons.mpr ⟨wm_644, List.forall_mem_cons.mpr ⟨wm_61, fun _ h => absurd h List.not_mem_nil⟩⟩⟩⟩) wm_645, rfl, by decide +kernel, by decide +kernel, by decide +kernel⟩
theorem cs_L_163 : CSV RL 163 yX7_copy cX7_copy 7 (some .int) 5 := ⟨Wd_ga (List.forall_mem_cons.mpr ⟨wm_1186, List.forall_mem_cons.mpr ⟨wm_1187, List.forall_mem_cons.mpr ⟨wm_1188, List.forall_mem_cons.mpr ⟨wm_68, fun _ h => absurd h List.not_mem_nil⟩⟩⟩⟩) wm_1189, rfl, by decide +kernel, by decide +kernel, by decide +kernel⟩
theorem cs_L_164 : CSV RL 164 yX6_film cX6_film 8 (some .int) 4 := ⟨Wd_ga (List.forall_mem_cons.mpr ⟨wm_649, List.forall_mem_cons.mpr ⟨wm_650, List.forall_mem_cons.mpr ⟨wm_651, List.forall_mem_cons.mpr ⟨wm_61, fun _ h => absurd h List.not_mem_nil⟩⟩⟩⟩) wm_652, rfl, by decide +kernel, by decide +kernel, by decide +kernel⟩
theorem cs_L_167 : CSV RL 167 yX7_film cX7_film 6 (some .int) 4 := ⟨Wd_ga (List.forall_mem_cons.mpr ⟨wm_1190, List.forall_mem_cons.mpr ⟨wm_1191, List.forall_mem_cons.mpr ⟨wm_1192, List.forall_mem_cons.mpr ⟨wm_68, fun _ h => absurd h List.not_mem_nil⟩⟩⟩⟩) wm_1193, rfl, by decide +kernel, by decide +kernel, by decide +kernel⟩
theorem cs_L_168 : CSV RL 168 yX6_judge cX6_judge 6 (some .int) 3 := ⟨Wd_ga (List.forall_mem_cons.mpr ⟨wm_656, List.forall_mem_cons.mpr ⟨wm_657, List.forall_mem_cons.mpr ⟨wm_658, List.forall_mem_cons.mpr ⟨wm_61, fun _ h => absurd h List.not_mem_nil⟩⟩⟩⟩) wm_659, rfl, by decide +kernel, by decide +kernel, by decide +kernel⟩
theorem cs_L_171 : CSV RL 171 yX7_judge cX7_judge 5 (some .int) 3 := ⟨Wd_ga (List.forall_mem_cons.mpr ⟨wm_1195, List.forall_mem_cons.mpr ⟨wm_1196, List.forall_mem_cons.mpr ⟨wm_1197, List.forall_mem_cons.mpr ⟨wm_68, fun _ h => absurd h List.not_mem_nil⟩⟩⟩⟩) wm_1198, rfl, by decide +kernel, by decide +kernel, by decide +kernel⟩
theorem cs_L_172 : CSV RL 172 yX6_feed cX6_feed 2 (some .int) 1 := ⟨Wd_ga (List.forall_mem_cons.mpr ⟨wm_660, List.forall_mem_cons.mpr ⟨wm_661, List.forall_mem_cons.mpr ⟨wm_662, List.forall_mem_cons.mpr ⟨wm_61, fun _ h => absurd h List.not_mem_nil⟩⟩⟩⟩) wm_663, rfl, by decide +kernel, by decide +kernel, by decide +kernel⟩
theorem cs_L_175 : CSV RL 175 yX7_feed cX7_feed 2 (some .int) 1 := ⟨Wd_ga (List.forall_mem_cons.mpr ⟨wm_1199, List.forall_mem_cons.mpr ⟨wm_1200, List.forall_mem_cons.mpr ⟨wm_1201, List.forall_mem_cons.mpr ⟨wm_68, fun _ h => absurd h List.not_mem_nil⟩⟩⟩⟩) wm_1202, rfl, by decide +kernel, by decide +kernel, by decide +kernel⟩
theorem cs_L_176 : CSV RL 176 yX6_wipe cX6_wipe 2 (some .int) 0 := ⟨Wd_ga (List.forall_mem_cons.mpr ⟨wm_664, List.forall_mem_cons.mpr ⟨wm_665, List.forall_mem_cons.mpr ⟨wm_666, List.forall_mem_cons.mpr ⟨wm_61, fun _ h => absurd h List.not_mem_nil⟩⟩⟩⟩) wm_667, rfl, by decide +kernel, by decide +kernel, by decide +kernel⟩
theorem cs_L_179 : CSV RL 179 yX7_wipe cX7_wipe 2 (some .int) 0 := ⟨Wd_ga (List.forall_mem_cons.mpr ⟨wm_1203, List.forall_mem_cons.mpr ⟨wm_1204, List.forall_mem_cons.mpr ⟨wm_1205, List.forall_mem_cons.mpr ⟨wm_68, fun _ h => absurd h List.not_mem_nil⟩⟩⟩⟩) wm_1206, rfl, by decide +kernel, by decide +kernel, by decide +kernel⟩
theorem cs_L_180 : CSV RL 180 yX6_read cX6_read 3 (some .int) 0 := ⟨Wd_ga (List.forall_mem_cons.mpr ⟨wm_668, List.forall_mem_cons.mpr ⟨wm_669, List.forall_mem_cons.mpr ⟨wm_670, List.forall_mem_cons.mpr ⟨wm_61, fun _ h => absurd h List.not_mem_nil⟩⟩⟩⟩) wm_671, rfl, by decide +kernel, by decide +kernel, by decide +kernel⟩
theorem cs_L_183 : CSV RL 183 yX7_read cX7_read 2 (some .int) 0 := ⟨Wd_ga (List.forall_mem_cons.mpr ⟨wm_1207, List.forall_mem_cons.mpr ⟨wm_1208, List.forall_mem_cons.mpr ⟨wm_1209, List.forall_mem_cons.mpr ⟨wm_68, fun _ h => absurd h List.not_mem_nil⟩⟩⟩⟩) wm_1210, rfl, by decide +kernel, by decide +kernel, by decide +kernel⟩
theorem cs_L_184 : CSV RL 184 yX6_spelled cX6_spelled 2 (some .int) 1 := ⟨Wd_ga (List.forall_mem_cons.mpr ⟨wm_779, List.forall_mem_cons.mpr ⟨wm_780, List.forall_mem_cons.mpr ⟨wm_781, List.forall_mem_cons.mpr ⟨wm_61, fun _ h => absurd h List.not_mem_nil⟩⟩⟩⟩) wm_782, rfl, by decide +kernel, by decide +kernel, by decide +kernel⟩
theorem cs_L_187 : CSV RL 187 yX7_spelled cX7_spelled 2 (some .int) 1 := ⟨Wd_ga (List.forall_mem_cons.mpr ⟨wm_1263, List.forall_mem_cons.mpr ⟨wm_1264, List.forall_mem_cons.mpr ⟨wm_1265, List.forall_mem_cons.mpr ⟨wm_68, fun _ h => absurd h List.not_mem_nil⟩⟩⟩⟩) wm_1266, rfl, by decide +kernel, by decide +kernel, by decide +kernel⟩
theorem cs_L_188 : CSV RL 188 yX6_image cX6_image 1 (some .int) 0 := ⟨Wd_ga (List.forall_mem_cons.mpr ⟨wm_824, List.forall_mem_cons.mpr ⟨wm_825, List.forall_mem_cons.mpr ⟨wm_826, List.forall_mem_cons.mpr ⟨wm_61, fun _ h => absurd h List.not_mem_nil⟩⟩⟩⟩) wm_827, rfl, by decide +kernel, by decide +kernel, by decide +kernel⟩
theorem cs_L_191 : CSV RL 191 yX7_image cX7_image 2 (some .int) 0 := ⟨Wd_ga (List.forall_mem_cons.mpr ⟨wm_1283, List.forall_mem_cons.mpr ⟨wm_1284, List.forall_mem_cons.mpr ⟨wm_1285, List.forall_mem_cons.mpr ⟨wm_68, fun _ h => absurd h List.not_mem_nil⟩⟩⟩⟩) wm_1286, rfl, by decide +kernel, by decide +kernel, by decide +kernel⟩
theorem cs_L_192 : CSV RL 192 yX6_undo cX6_undo 1 (some .int) 0 := ⟨Wd_ga (List.forall_mem_cons.mpr ⟨wm_833, List.forall_mem_cons.mpr ⟨wm_834, List.forall_mem_cons.mpr ⟨wm_835, List.forall_mem_cons.mpr ⟨wm_61, fun _ h => absurd h List.not_mem_nil⟩⟩⟩⟩) wm_836, rfl, by decide +kernel, by decide +kernel, by decide +kernel⟩
theorem cs_L_195 : CSV RL 195 yX7_undo cX7_undo 2 (some .int) 0 := ⟨Wd_ga (List.forall_mem_cons.mpr ⟨wm_1287, List.forall_mem_cons.mpr ⟨wm_1288, List.forall_mem_cons.mpr ⟨wm_1289, List.forall_mem_cons.mpr ⟨wm_68, fun _ h => absurd h List.not_mem_nil⟩⟩⟩⟩) wm_1290, rfl, by decide +kernel, by decide +kernel, by decide +kernel⟩
theorem cs_L_196 : CSV RL 196 yX6_count cX6_count 2 (some .int) 1 := ⟨Wd_ga (List.forall_mem_cons.mpr ⟨wm_837, List.forall_mem_cons.mpr ⟨wm_838, List.forall_mem_cons.mpr ⟨wm_839, List.forall_mem_cons.mpr ⟨wm_61, fun _ h => absurd h List.not_mem_nil⟩⟩⟩⟩) wm_840, rfl, by decide +kernel, by decide +kernel, by decide +kernel⟩
theorem cs_L_199 : CSV RL 199 yX7_count cX7_count 4 (some .int) 1 := ⟨Wd_ga (List.forall_mem_cons.mpr ⟨wm_1291, List.forall_mem_cons.mpr ⟨wm_1292, List.forall_mem_cons.mpr ⟨wm_1293, List.forall_mem_cons.mpr ⟨wm_68, fun _ h => absurd h List.not_mem_nil⟩⟩⟩⟩) wm_1294, rfl, by decide +kernel, by decide +kernel, by decide +kernel⟩
theorem lg_cmp_self (x : Int64) : lg_cmp x x = 0 := by
  unfold lg_cmp
  simp
/-- posts -/
def sc_0 (n : Nat) (I : ST → ST → Prop) (σ τ : ST) (a1 : Int32) : Prop := ∃ (r : Int32) (σ' : ST) (τ' : ST), X6_posts n σ a1 = some (r, σ') ∧ X7_posts n τ a1 = some (r, τ') ∧ I σ' τ'
/-- road -/
def sc_1 (n : Nat) (I : ST → ST → Prop) (σ τ : ST) (a1 : Int32) (a2 : Int32) (a3 : Int32) : Prop := ∃ (r : Int32) (σ' : ST) (τ' : ST), X6_road σ a1 a2 a3 = some (r, σ') ∧ X7_road τ a1 a2 a3 = some (r, τ') ∧ I σ' τ'
/-- isRoad -/
def sc_2 (n : Nat) (I : ST → ST → Prop) (σ τ : ST) (a1 : Int32) (a2 : Int32) : Prop := ∃ (r : Int32), X6_isRoad σ a1 a2 = some r ∧ X7_isRoad τ a1 a2 = some r ∧ I σ τ
/-- targets -/
def sc_3 (n : Nat) (I : ST → ST → Prop) (σ τ : ST) (a1 : Int32) : Prop := ∃ (r : Int32) (σ' : ST) (τ' : ST), X6_targets σ a1 = some (r, σ') ∧ X7_targets τ a1 = some (r, τ') ∧ I σ' τ'
/-- weigh -/
def sc_4 (n : Nat) (I : ST → ST → Prop) (σ τ : ST) (a1 : Int32) (a2 : Int32) : Prop := ∃ (r : Int32) (σ' : ST) (τ' : ST), X6_weigh σ a1 a2 = some (r, σ') ∧ X7_weigh τ a1 a2 = some (r, τ') ∧ I σ' τ'
/-- add -/
def sc_5 (n : Nat) (I : ST → ST → Prop) (σ τ : ST) (a1 : Int32) : Prop := ∃ (r : Int32) (σ' : ST) (τ' : ST), X6_add σ a1 = some (r, σ') ∧ X7_add τ a1 = some (r, τ') ∧ I σ' τ'
/-- change -/
def sc_6 (n : Nat) (I : ST → ST → Prop) (σ τ : ST) (a1 : Int32) (a2 : Int32) : Prop := ∃ (r : Int32) (σ' : ST) (τ' : ST), X6_change σ a1 a2 = some (r, σ') ∧ X7_change τ a1 a2 = some (r, τ') ∧ I σ' τ'
/-- drop -/
def sc_7 (n : Nat) (I : ST → ST → Prop) (σ τ : ST) (a1 : Int32) : Prop := ∃ (r : Int32) (σ' : ST) (τ' : ST), X6_drop n σ a1 = some (r, σ') ∧ X7_drop n τ a1 = some (r, τ') ∧ I σ' τ'
/-- set -/
def sc_8 (n : Nat) (I : ST → ST → Prop) (σ τ : ST) (a1 : Int32) : Prop := ∃ (r : Int32), X6_set σ a1 = some r ∧ X7_set τ a1 = some r ∧ I σ τ
/-- rank -/
def sc_9 (n : Nat) (I : ST → ST → Prop) (σ τ : ST) (a1 : Int32) (a2 : Int32) : Prop := ∃ (r : Int32) (σ' : ST) (τ' : ST), X6_rank n σ a1 a2 = some (r, σ') ∧ X7_rank n τ a1 a2 = some (r, τ') ∧ I σ' τ'
/-- free -/
def sc_10 (n : Nat) (I : ST → ST → Prop) (σ τ : ST) (a1 : Int32) (a2 : Int32) : Prop := ∃ (r : Int32) (σ' : ST) (τ' : ST), X6_free n σ a1 a2 = some (r, σ') ∧ X7_free n τ a1 a2 = some (r, τ') ∧ I σ' τ'
/-- base -/
def sc_11 (n : Nat) (I : ST → ST → Prop) (σ τ : ST) (a1 : Int32) (a2 : Int32) : Prop := ∃ (r : Int32) (σ' : ST) (τ' : ST), X6_base n σ a1 a2 = some (r, σ') ∧ X7_base n τ a1 a2 = some (r, τ') ∧ I σ' τ'
/-- circuit -/
def sc_12 (n : Nat) (I : ST → ST → Prop) (σ τ : ST) (a1 : Int32) (a2 : Int32) : Prop := ∃ (r : Int32) (σ' : ST) (τ' : ST), X6_circuit n σ a1 a2 = some (r, σ') ∧ X7_circuit n τ a1 a2 = some (r, τ') ∧ I σ' τ'
/-- flat -/
def sc_13 (n : Nat) (I : ST → ST → Prop) (σ τ : ST) (a1 : Int32) (a2 : Int32) : Prop := ∃ (r : Int32) (σ' : ST) (τ' : ST), X6_flat n σ a1 a2 = some (r, σ') ∧ X7_flat n τ a1 a2 = some (r, τ') ∧ I σ' τ'
/-- shut -/
def sc_14 (n : Nat) (I : ST → ST → Prop) (σ τ : ST) (a1 : Int32) (a2 : Int32) : Prop := ∃ (r : Int32) (σ' : ST) (τ' : ST), X6_shut n σ a1 a2 = some (r, σ') ∧ X7_shut n τ a1 a2 = some (r, τ') ∧ I σ' τ'
/-- loops -/
def sc_15 (n : Nat) (I : ST → ST → Prop) (σ τ : ST) (a1 : Int32) (a2 : Int32) : Prop := ∃ (r : Int32) (σ' : ST) (τ' : ST), X6_loops n σ a1 a2 = some (r, σ') ∧ X7_loops n τ a1 a2 = some (r, τ') ∧ I σ' τ'
/-- round -/
def sc_16 (n : Nat) (I : ST → ST → Prop) (σ τ : ST) (a1 : Int32) (a2 : Int32) (a3 : Int32) : Prop := ∃ (r : Int32) (σ' : ST) (τ' : ST), X6_round n σ a1 a2 a3 = some (r, σ') ∧ X7_round n τ a1 a2 a3 = some (r, τ') ∧ I σ' τ'
/-- swap -/
def sc_17 (n : Nat) (I : ST → ST → Prop) (σ τ : ST) (a1 : Int32) (a2 : Int32) (a3 : Int32) (a4 : Int32) : Prop := ∃ (r : Int32) (σ' : ST) (τ' : ST), X6_swap n σ a1 a2 a3 a4 = some (r, σ') ∧ X7_swap n τ a1 a2 a3 a4 = some (r, τ') ∧ I σ' τ'
/-- steps -/
def sc_18 (n : Nat) (I : ST → ST → Prop) (σ τ : ST) (a1 : Int32) : Prop := ∃ (r : Int32) (σ' : ST) (τ' : ST), X6_steps n σ a1 = some (r, σ') ∧ X7_steps n τ a1 = some (r, τ') ∧ I σ' τ'
/-- less -/
def sc_19 (n : Nat) (I : ST → ST → Prop) (σ τ : ST) (a1 : Int32) (a2 : Int32) (a3 : Int32) (a4 : Int32) : Prop := ∃ (r : Int32) (σ' : ST) (τ' : ST), X6_less n σ a1 a2 a3 a4 = some (r, σ') ∧ X7_less n τ a1 a2 a3 a4 = some (r, τ') ∧ I σ' τ'
/-- heaviest -/
def sc_20 (n : Nat) (I : ST → ST → Prop) (σ τ : ST) (a1 : Int32) (a2 : Int32) : Prop := ∃ (r : Int32) (σ' : ST) (τ' : ST), X6_heaviest n σ a1 a2 = some (r, σ') ∧ X7_heaviest n τ a1 a2 = some (r, τ') ∧ I σ' τ'
/-- alike -/
def sc_21 (n : Nat) (I : ST → ST → Prop) (σ τ : ST) (a1 : Int32) (a2 : Int32) : Prop := ∃ (r : Int32) (σ' : ST) (τ' : ST), X6_alike n σ a1 a2 = some (r, σ') ∧ X7_alike n τ a1 a2 = some (r, τ') ∧ I σ' τ'
/-- cut -/
def sc_22 (n : Nat) (I : ST → ST → Prop) (σ τ : ST) (a1 : Int32) : Prop := ∃ (r : Int32) (σ' : ST) (τ' : ST), X6_cut n σ a1 = some (r, σ') ∧ X7_cut n τ a1 = some (r, τ') ∧ I σ' τ'
/-- reach -/
def sc_23 (n : Nat) (I : ST → ST → Prop) (σ τ : ST) (a1 : Int32) : Prop := ∃ (r : Int32), X6_reach n σ a1 = some r ∧ X7_reach n τ a1 = some r ∧ I σ τ
/-- partners -/
def sc_24 (n : Nat) (I : ST → ST → Prop) (σ τ : ST) (a1 : Int32) : Prop := ∃ (r : Int32) (σ' : ST), X6_partners n σ a1 = some (r, σ') ∧ X7_partners n τ a1 = some r ∧ I σ' τ
/-- turned -/
def sc_25 (n : Nat) (I : ST → ST → Prop) (σ τ : ST) : Prop := ∃ (r : Int32) (σ' : ST) (τ' : ST), X6_turned n σ = some (r, σ') ∧ X7_turned n τ = some (r, τ') ∧ I σ' τ'
/-- strict -/
def sc_26 (n : Nat) (I : ST → ST → Prop) (σ τ : ST) : Prop := ∃ (r : Int32) (σ' : ST) (τ' : ST), X6_strict n σ = some (r, σ') ∧ X7_strict n τ = some (r, τ') ∧ I σ' τ'
/-- spare -/
def sc_27 (n : Nat) (I : ST → ST → Prop) (σ τ : ST) (a1 : Int32) : Prop := ∃ (r : Int32) (σ' : ST) (τ' : ST), X6_spare n σ a1 = some (r, σ') ∧ X7_spare n τ a1 = some (r, τ') ∧ I σ' τ'
/-- room -/
def sc_28 (n : Nat) (I : ST → ST → Prop) (σ τ : ST) (a1 : Int32) : Prop := ∃ (r : Int32) (σ' : ST) (τ' : ST), X6_room n σ a1 = some (r, σ') ∧ X7_room n τ a1 = some (r, τ') ∧ I σ' τ'
/-- idle -/
def sc_29 (n : Nat) (I : ST → ST → Prop) (σ τ : ST) : Prop := ∃ (r : Int32) (σ' : ST) (τ' : ST), X6_idle n σ = some (r, σ') ∧ X7_idle n τ = some (r, τ') ∧ I σ' τ'
/-- small -/
def sc_30 (n : Nat) (I : ST → ST → Prop) (σ τ : ST) : Prop := ∃ (r : Int32) (σ' : ST) (τ' : ST), X6_small n σ = some (r, σ') ∧ X7_small n τ = some (r, τ') ∧ I σ' τ'
/-- row -/
def sc_31 (n : Nat) (I : ST → ST → Prop) (σ τ : ST) (a1 : Int32) (a2 : Int32) : Prop := ∃ (r : Int32) (σ' : ST) (τ' : ST), X6_row n σ a1 a2 = some (r, σ') ∧ X7_row n τ a1 a2 = some (r, τ') ∧ I σ' τ'
/-- lose -/
def sc_32 (n : Nat) (I : ST → ST → Prop) (σ τ : ST) (a1 : Int32) : Prop := ∃ (r : Int32) (σ' : ST) (τ' : ST), X6_lose σ a1 = some (r, σ') ∧ X7_lose τ a1 = some (r, τ') ∧ I σ' τ'
/-- put -/
def sc_33 (n : Nat) (I : ST → ST → Prop) (σ τ : ST) (a1 : Int32) (a2 : Int32) (a3 : Int32) : Prop := ∃ (r : Int32) (σ' : ST) (τ' : ST), X6_put σ a1 a2 a3 = some (r, σ') ∧ X7_put τ a1 a2 a3 = some (r, τ') ∧ I σ' τ'
/-- get -/
def sc_34 (n : Nat) (I : ST → ST → Prop) (σ τ : ST) (a1 : Int32) (a2 : Int32) : Prop := ∃ (r : Int64), X6_get σ a1 a2 = some r ∧ X7_get τ a1 a2 = some r ∧ I σ τ
/-- copy -/
def sc_35 (n : Nat) (I : ST → ST → Prop) (σ τ : ST) (a1 : Int32) (a2 : Int32) (a3 : Int32) (a4 : Int32) (a5 : Int32) : Prop := ∃ (r : Int32) (σ' : ST) (τ' : ST), X6_copy σ a1 a2 a3 a4 a5 = some (r, σ') ∧ X7_copy n τ a1 a2 a3 a4 a5 = some (r, τ') ∧ I σ' τ'
/-- film -/
def sc_36 (n : Nat) (I : ST → ST → Prop) (σ τ : ST) (a1 : Int32) (a2 : Int32) (a3 : Int32) (a4 : Int32) : Prop := ∃ (r : Int32) (σ' : ST) (τ' : ST), X6_film n σ a1 a2 a3 a4 = some (r, σ') ∧ X7_film n τ a1 a2 a3 a4 = some (r, τ') ∧ I σ' τ'
/-- judge -/
def sc_37 (n : Nat) (I : ST → ST → Prop) (σ τ : ST) (a1 : Int32) (a2 : Int32) (a3 : Int32) : Prop := ∃ (r : Int32) (σ' : ST) (τ' : ST), X6_judge n σ a1 a2 a3 = some (r, σ') ∧ X7_judge n τ a1 a2 a3 = some (r, τ') ∧ I σ' τ'
/-- feed -/
def sc_38 (n : Nat) (I : ST → ST → Prop) (σ τ : ST) (a1 : Int32) : Prop := ∃ (r : Int32) (σ' : ST) (τ' : ST), X6_feed σ a1 = some (r, σ') ∧ X7_feed τ a1 = some (r, τ') ∧ I σ' τ'
/-- wipe -/
def sc_39 (n : Nat) (I : ST → ST → Prop) (σ τ : ST) : Prop := ∃ (r : Int32) (σ' : ST) (τ' : ST), X6_wipe σ = some (r, σ') ∧ X7_wipe τ = some (r, τ') ∧ I σ' τ'
/-- read -/
def sc_40 (n : Nat) (I : ST → ST → Prop) (σ τ : ST) : Prop := ∃ (r : Int32) (σ' : ST) (τ' : ST), X6_read n σ = some (r, σ') ∧ X7_read n τ = some (r, τ') ∧ I σ' τ'
/-- spelled -/
def sc_41 (n : Nat) (I : ST → ST → Prop) (σ τ : ST) (a1 : Int32) : Prop := ∃ (r : Int32) (σ' : ST) (τ' : ST), X6_spelled n σ a1 = some (r, σ') ∧ X7_spelled n τ a1 = some (r, τ') ∧ I σ' τ'
/-- image -/
def sc_42 (n : Nat) (I : ST → ST → Prop) (σ τ : ST) : Prop := ∃ (r : Int32) (σ' : ST) (τ' : ST), X6_image σ = some (r, σ') ∧ X7_image n τ = some (r, τ') ∧ I σ' τ'
/-- undo -/
def sc_43 (n : Nat) (I : ST → ST → Prop) (σ τ : ST) : Prop := ∃ (r : Int32) (σ' : ST) (τ' : ST), X6_undo σ = some (r, σ') ∧ X7_undo n τ = some (r, τ') ∧ I σ' τ'
/-- count -/
def sc_44 (n : Nat) (I : ST → ST → Prop) (σ τ : ST) (a1 : Int32) : Prop := ∃ (r : Int32), X6_count n σ a1 = some r ∧ X7_count n τ a1 = some r ∧ I σ τ
/-- every call: from two states in I both sides answer alike, and come to two states in J -/
def scAll (n : Nat) (I J : ST → ST → Prop) : Prop := ∀ σ τ, I σ τ → ∀ a1 a2 a3 a4 a5 : Int32, sc_0 n J σ τ a1 ∧ sc_1 n J σ τ a1 a2 a3 ∧ sc_2 n J σ τ a1 a2 ∧ sc_3 n J σ τ a1 ∧ sc_4 n J σ τ a1 a2 ∧ sc_5 n J σ τ a1 ∧ sc_6 n J σ τ a1 a2 ∧ sc_7 n J σ τ a1 ∧ sc_8 n J σ τ a1 ∧ sc_9 n J σ τ a1 a2 ∧ sc_10 n J σ τ a1 a2 ∧ sc_11 n J σ τ a1 a2 ∧ sc_12 n J σ τ a1 a2 ∧ sc_13 n J σ τ a1 a2 ∧ sc_14 n J σ τ a1 a2 ∧ sc_15 n J σ τ a1 a2 ∧ sc_16 n J σ τ a1 a2 a3 ∧ sc_17 n J σ τ a1 a2 a3 a4 ∧ sc_18 n J σ τ a1 ∧ sc_19 n J σ τ a1 a2 a3 a4 ∧ sc_20 n J σ τ a1 a2 ∧ sc_21 n J σ τ a1 a2 ∧ sc_22 n J σ τ a1 ∧ sc_23 n J σ τ a1 ∧ sc_24 n J σ τ a1 ∧ sc_25 n J σ τ ∧ sc_26 n J σ τ ∧ sc_27 n J σ τ a1 ∧ sc_28 n J σ τ a1 ∧ sc_29 n J σ τ ∧ sc_30 n J σ τ ∧ sc_31 n J σ τ a1 a2 ∧ sc_32 n J σ τ a1 ∧ sc_33 n J σ τ a1 a2 a3 ∧ sc_34 n J σ τ a1 a2 ∧ sc_35 n J σ τ a1 a2 a3 a4 a5 ∧ sc_36 n J σ τ a1 a2 a3 a4 ∧ sc_37 n J σ τ a1 a2 a3 ∧ sc_38 n J σ τ a1 ∧ sc_39 n J σ τ ∧ sc_40 n J σ τ ∧ sc_41 n J σ τ a1 ∧ sc_42 n J σ τ ∧ sc_43 n J σ τ ∧ sc_44 n J σ τ a1
