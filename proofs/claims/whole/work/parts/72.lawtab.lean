/-! the law: its tables -/
def isX : List Nat := [0, 1, 2, 3, 4, 5, 6, 7, 8, 9, 10, 11, 12, 13, 14, 15, 16, 17, 18, 19, 20, 21, 22, 23]
def isM : List Nat := [24, 25, 26, 27, 28, 29, 30, 31, 32, 33, 34, 35, 36, 37, 38, 39, 40, 41, 42, 43, 44]
def isXo : List Nat := [0, 1, 2, 3, 4, 5, 6, 7, 8, 9, 10, 11, 12, 13, 14, 15, 16, 17, 18, 19, 20, 21, 22, 23, 45]
def isMo : List Nat := [24, 25, 26, 27, 28, 29, 30, 31, 32, 33, 34, 35, 36, 37, 38, 39, 40, 41, 42, 43, 44, 45]
theorem kw_12 : Cond.classLink "SpellPitchLaw" 8 "SpellPitch" ∈ aW := aW_T 12 (by decide +kernel) (by decide +kernel)
theorem kw_13 : Cond.instantiable "SpellPitch" 4 ∈ aW := aW_T 13 (by decide +kernel) (by decide +kernel)
theorem kw_14 : Cond.methodLink "SpellPitchLaw" 15 y_X_init ∈ aW := aW_T 14 (by decide +kernel) (by decide +kernel)
theorem kw_15 : Cond.instanceMethod y_X_init ∈ aW := aW_T 15 (by decide +kernel) (by decide +kernel)
theorem kw_16 : Cond.code y_X_init prog_1_method_1_code 1 (Option.none : Option Jvm.ClassFile.FieldType) ∈ aW := aW_T 16 (by decide +kernel) (by decide +kernel)
theorem kw_183 : Cond.methodLink "SpellPitchLaw" 19 y_X_pitch ∈ aW := aW_T 183 (by decide +kernel) (by decide +kernel)
theorem kw_184 : Cond.instanceMethod y_X_pitch ∈ aW := aW_T 184 (by decide +kernel) (by decide +kernel)
theorem kw_185 : Cond.selects "SpellPitch" y_X_pitch y_X_pitch ∈ aW := aW_T 185 (by decide +kernel) (by decide +kernel)
theorem kw_186 : Cond.code y_X_pitch prog_1_method_2_code 3 (Option.some Jvm.ClassFile.FieldType.int) ∈ aW := aW_T 186 (by decide +kernel) (by decide +kernel)
theorem kw_218 : Cond.methodLink "SpellPitchLaw" 24 y_X_key ∈ aW := aW_T 218 (by decide +kernel) (by decide +kernel)
theorem kw_219 : Cond.instanceMethod y_X_key ∈ aW := aW_T 219 (by decide +kernel) (by decide +kernel)
theorem kw_220 : Cond.selects "SpellPitch" y_X_key y_X_key ∈ aW := aW_T 220 (by decide +kernel) (by decide +kernel)
theorem kw_221 : Cond.code y_X_key prog_1_method_3_code 5 (Option.some Jvm.ClassFile.FieldType.int) ∈ aW := aW_T 221 (by decide +kernel) (by decide +kernel)
theorem kw_226 : Cond.methodLink "SpellPitchLaw" 28 y_X_fix ∈ aW := aW_T 226 (by decide +kernel) (by decide +kernel)
theorem kw_227 : Cond.instanceMethod y_X_fix ∈ aW := aW_T 227 (by decide +kernel) (by decide +kernel)
theorem kw_228 : Cond.selects "SpellPitch" y_X_fix y_X_fix ∈ aW := aW_T 228 (by decide +kernel) (by decide +kernel)
theorem kw_229 : Cond.code y_X_fix prog_1_method_4_code 4 (Option.some Jvm.ClassFile.FieldType.int) ∈ aW := aW_T 229 (by decide +kernel) (by decide +kernel)
theorem kw_236 : Cond.methodLink "SpellPitchLaw" 32 y_X_weights ∈ aW := aW_T 236 (by decide +kernel) (by decide +kernel)
theorem kw_237 : Cond.instanceMethod y_X_weights ∈ aW := aW_T 237 (by decide +kernel) (by decide +kernel)
theorem kw_238 : Cond.selects "SpellPitch" y_X_weights y_X_weights ∈ aW := aW_T 238 (by decide +kernel) (by decide +kernel)
theorem kw_239 : Cond.code y_X_weights prog_1_method_5_code 7 (Option.some Jvm.ClassFile.FieldType.int) ∈ aW := aW_T 239 (by decide +kernel) (by decide +kernel)
theorem kw_243 : Cond.methodLink "SpellPitchLaw" 37 y_X_clear ∈ aW := aW_T 243 (by decide +kernel) (by decide +kernel)
theorem kw_244 : Cond.instanceMethod y_X_clear ∈ aW := aW_T 244 (by decide +kernel) (by decide +kernel)
theorem kw_245 : Cond.selects "SpellPitch" y_X_clear y_X_clear ∈ aW := aW_T 245 (by decide +kernel) (by decide +kernel)
theorem kw_246 : Cond.code y_X_clear prog_1_method_6_code 2 (Option.some Jvm.ClassFile.FieldType.int) ∈ aW := aW_T 246 (by decide +kernel) (by decide +kernel)
theorem kw_251 : Cond.methodLink "SpellPitchLaw" 42 y_X_sum ∈ aW := aW_T 251 (by decide +kernel) (by decide +kernel)
theorem kw_252 : Cond.instanceMethod y_X_sum ∈ aW := aW_T 252 (by decide +kernel) (by decide +kernel)
theorem kw_253 : Cond.selects "SpellPitch" y_X_sum y_X_sum ∈ aW := aW_T 253 (by decide +kernel) (by decide +kernel)
theorem kw_254 : Cond.code y_X_sum prog_1_method_7_code 1 (Option.some Jvm.ClassFile.FieldType.int) ∈ aW := aW_T 254 (by decide +kernel) (by decide +kernel)
theorem kw_368 : Cond.methodLink "SpellPitchLaw" 46 y_X_signs ∈ aW := aW_T 368 (by decide +kernel) (by decide +kernel)
theorem kw_369 : Cond.instanceMethod y_X_signs ∈ aW := aW_T 369 (by decide +kernel) (by decide +kernel)
theorem kw_370 : Cond.selects "SpellPitch" y_X_signs y_X_signs ∈ aW := aW_T 370 (by decide +kernel) (by decide +kernel)
theorem kw_371 : Cond.code y_X_signs prog_1_method_8_code 1 (Option.some Jvm.ClassFile.FieldType.int) ∈ aW := aW_T 371 (by decide +kernel) (by decide +kernel)
theorem kw_372 : Cond.methodLink "SpellPitchLaw" 50 y_X_ties ∈ aW := aW_T 372 (by decide +kernel) (by decide +kernel)
theorem kw_373 : Cond.instanceMethod y_X_ties ∈ aW := aW_T 373 (by decide +kernel) (by decide +kernel)
theorem kw_374 : Cond.selects "SpellPitch" y_X_ties y_X_ties ∈ aW := aW_T 374 (by decide +kernel) (by decide +kernel)
theorem kw_375 : Cond.code y_X_ties prog_1_method_9_code 1 (Option.some Jvm.ClassFile.FieldType.int) ∈ aW := aW_T 375 (by decide +kernel) (by decide +kernel)
theorem kw_376 : Cond.methodLink "SpellPitchLaw" 54 y_X_name ∈ aW := aW_T 376 (by decide +kernel) (by decide +kernel)
theorem kw_377 : Cond.instanceMethod y_X_name ∈ aW := aW_T 377 (by decide +kernel) (by decide +kernel)
theorem kw_378 : Cond.selects "SpellPitch" y_X_name y_X_name ∈ aW := aW_T 378 (by decide +kernel) (by decide +kernel)
theorem kw_379 : Cond.code y_X_name prog_1_method_10_code 4 (Option.some Jvm.ClassFile.FieldType.int) ∈ aW := aW_T 379 (by decide +kernel) (by decide +kernel)
theorem kw_380 : Cond.methodLink "SpellPitchLaw" 58 y_X_keyOf ∈ aW := aW_T 380 (by decide +kernel) (by decide +kernel)
theorem kw_381 : Cond.instanceMethod y_X_keyOf ∈ aW := aW_T 381 (by decide +kernel) (by decide +kernel)
theorem kw_382 : Cond.selects "SpellPitch" y_X_keyOf y_X_keyOf ∈ aW := aW_T 382 (by decide +kernel) (by decide +kernel)
theorem kw_383 : Cond.code y_X_keyOf prog_1_method_11_code 2 (Option.some Jvm.ClassFile.FieldType.int) ∈ aW := aW_T 383 (by decide +kernel) (by decide +kernel)
theorem kw_384 : Cond.methodLink "SpellPitchLaw" 63 y_X_turned ∈ aW := aW_T 384 (by decide +kernel) (by decide +kernel)
theorem kw_385 : Cond.instanceMethod y_X_turned ∈ aW := aW_T 385 (by decide +kernel) (by decide +kernel)
theorem kw_386 : Cond.selects "SpellPitch" y_X_turned y_X_turned ∈ aW := aW_T 386 (by decide +kernel) (by decide +kernel)
theorem kw_387 : Cond.code y_X_turned prog_1_method_12_code 4 (Option.some Jvm.ClassFile.FieldType.int) ∈ aW := aW_T 387 (by decide +kernel) (by decide +kernel)
theorem kw_389 : Cond.methodLink "SpellPitchLaw" 67 y_X_turn ∈ aW := aW_T 389 (by decide +kernel) (by decide +kernel)
theorem kw_390 : Cond.instanceMethod y_X_turn ∈ aW := aW_T 390 (by decide +kernel) (by decide +kernel)
theorem kw_391 : Cond.selects "SpellPitch" y_X_turn y_X_turn ∈ aW := aW_T 391 (by decide +kernel) (by decide +kernel)
theorem kw_392 : Cond.code y_X_turn prog_1_method_13_code 5 (Option.some Jvm.ClassFile.FieldType.int) ∈ aW := aW_T 392 (by decide +kernel) (by decide +kernel)
theorem kw_393 : Cond.methodLink "SpellPitchLaw" 71 y_X_interval ∈ aW := aW_T 393 (by decide +kernel) (by decide +kernel)
theorem kw_394 : Cond.instanceMethod y_X_interval ∈ aW := aW_T 394 (by decide +kernel) (by decide +kernel)
theorem kw_395 : Cond.selects "SpellPitch" y_X_interval y_X_interval ∈ aW := aW_T 395 (by decide +kernel) (by decide +kernel)
theorem kw_396 : Cond.code y_X_interval prog_1_method_14_code 7 (Option.some Jvm.ClassFile.FieldType.int) ∈ aW := aW_T 396 (by decide +kernel) (by decide +kernel)
theorem kw_401 : Cond.methodLink "SpellPitchLaw" 76 y_X_quality ∈ aW := aW_T 401 (by decide +kernel) (by decide +kernel)
theorem kw_402 : Cond.instanceMethod y_X_quality ∈ aW := aW_T 402 (by decide +kernel) (by decide +kernel)
theorem kw_403 : Cond.selects "SpellPitch" y_X_quality y_X_quality ∈ aW := aW_T 403 (by decide +kernel) (by decide +kernel)
theorem kw_404 : Cond.code y_X_quality prog_1_method_15_code 4 (Option.some Jvm.ClassFile.FieldType.int) ∈ aW := aW_T 404 (by decide +kernel) (by decide +kernel)
theorem kw_414 : Cond.methodLink "SpellPitchLaw" 80 y_X_add ∈ aW := aW_T 414 (by decide +kernel) (by decide +kernel)
theorem kw_415 : Cond.instanceMethod y_X_add ∈ aW := aW_T 415 (by decide +kernel) (by decide +kernel)
theorem kw_416 : Cond.selects "SpellPitch" y_X_add y_X_add ∈ aW := aW_T 416 (by decide +kernel) (by decide +kernel)
theorem kw_417 : Cond.code y_X_add prog_1_method_16_code 4 (Option.some Jvm.ClassFile.FieldType.int) ∈ aW := aW_T 417 (by decide +kernel) (by decide +kernel)
theorem kw_418 : Cond.methodLink "SpellPitchLaw" 84 y_X_transpose ∈ aW := aW_T 418 (by decide +kernel) (by decide +kernel)
theorem kw_419 : Cond.instanceMethod y_X_transpose ∈ aW := aW_T 419 (by decide +kernel) (by decide +kernel)
theorem kw_420 : Cond.selects "SpellPitch" y_X_transpose y_X_transpose ∈ aW := aW_T 420 (by decide +kernel) (by decide +kernel)
theorem kw_421 : Cond.code y_X_transpose prog_1_method_17_code 7 (Option.some Jvm.ClassFile.FieldType.int) ∈ aW := aW_T 421 (by decide +kernel) (by decide +kernel)
theorem kw_422 : Cond.methodLink "SpellPitchLaw" 88 y_X_micro ∈ aW := aW_T 422 (by decide +kernel) (by decide +kernel)
theorem kw_423 : Cond.instanceMethod y_X_micro ∈ aW := aW_T 423 (by decide +kernel) (by decide +kernel)
theorem kw_424 : Cond.selects "SpellPitch" y_X_micro y_X_micro ∈ aW := aW_T 424 (by decide +kernel) (by decide +kernel)
theorem kw_425 : Cond.code y_X_micro prog_1_method_18_code 5 (Option.some Jvm.ClassFile.FieldType.int) ∈ aW := aW_T 425 (by decide +kernel) (by decide +kernel)
theorem kw_426 : Cond.methodLink "SpellPitchLaw" 101 y_X_equal ∈ aW := aW_T 426 (by decide +kernel) (by decide +kernel)
theorem kw_427 : Cond.instanceMethod y_X_equal ∈ aW := aW_T 427 (by decide +kernel) (by decide +kernel)
theorem kw_428 : Cond.selects "SpellPitch" y_X_equal y_X_equal ∈ aW := aW_T 428 (by decide +kernel) (by decide +kernel)
theorem kw_429 : Cond.code y_X_equal prog_1_method_20_code 3 (Option.some Jvm.ClassFile.FieldType.int) ∈ aW := aW_T 429 (by decide +kernel) (by decide +kernel)
theorem kw_430 : Cond.methodLink "SpellPitchLaw" 105 y_X_scale ∈ aW := aW_T 430 (by decide +kernel) (by decide +kernel)
theorem kw_431 : Cond.instanceMethod y_X_scale ∈ aW := aW_T 431 (by decide +kernel) (by decide +kernel)
theorem kw_432 : Cond.selects "SpellPitch" y_X_scale y_X_scale ∈ aW := aW_T 432 (by decide +kernel) (by decide +kernel)
theorem kw_433 : Cond.code y_X_scale prog_1_method_21_code 5 (Option.some Jvm.ClassFile.FieldType.int) ∈ aW := aW_T 433 (by decide +kernel) (by decide +kernel)
theorem kw_508 : Cond.classLink "SpellPitchLaw" 16 "SpellPitchModel" ∈ aW := aW_T 508 (by decide +kernel) (by decide +kernel)
theorem kw_509 : Cond.instantiable "SpellPitchModel" 34 ∈ aW := aW_T 509 (by decide +kernel) (by decide +kernel)
theorem kw_510 : Cond.methodLink "SpellPitchLaw" 18 y_M_init ∈ aW := aW_T 510 (by decide +kernel) (by decide +kernel)
theorem kw_511 : Cond.instanceMethod y_M_init ∈ aW := aW_T 511 (by decide +kernel) (by decide +kernel)
theorem kw_512 : Cond.code y_M_init prog_6_method_1_code 1 (Option.none : Option Jvm.ClassFile.FieldType) ∈ aW := aW_T 512 (by decide +kernel) (by decide +kernel)
theorem kw_617 : Cond.methodLink "SpellPitchLaw" 98 y_M_thrown ∈ aW := aW_T 617 (by decide +kernel) (by decide +kernel)
theorem kw_618 : Cond.instanceMethod y_M_thrown ∈ aW := aW_T 618 (by decide +kernel) (by decide +kernel)
theorem kw_619 : Cond.selects "SpellPitchModel" y_M_thrown y_M_thrown ∈ aW := aW_T 619 (by decide +kernel) (by decide +kernel)
theorem kw_620 : Cond.code y_M_thrown prog_6_method_2_code 1 (Option.some Jvm.ClassFile.FieldType.int) ∈ aW := aW_T 620 (by decide +kernel) (by decide +kernel)
theorem kw_621 : Cond.methodLink "SpellPitchLaw" 23 y_M_pitch ∈ aW := aW_T 621 (by decide +kernel) (by decide +kernel)
theorem kw_622 : Cond.instanceMethod y_M_pitch ∈ aW := aW_T 622 (by decide +kernel) (by decide +kernel)
theorem kw_623 : Cond.selects "SpellPitchModel" y_M_pitch y_M_pitch ∈ aW := aW_T 623 (by decide +kernel) (by decide +kernel)
theorem kw_624 : Cond.code y_M_pitch prog_6_method_4_code 3 (Option.some Jvm.ClassFile.FieldType.int) ∈ aW := aW_T 624 (by decide +kernel) (by decide +kernel)
theorem kw_625 : Cond.methodLink "SpellPitchLaw" 27 y_M_key ∈ aW := aW_T 625 (by decide +kernel) (by decide +kernel)
theorem kw_626 : Cond.instanceMethod y_M_key ∈ aW := aW_T 626 (by decide +kernel) (by decide +kernel)
theorem kw_627 : Cond.selects "SpellPitchModel" y_M_key y_M_key ∈ aW := aW_T 627 (by decide +kernel) (by decide +kernel)
theorem kw_628 : Cond.code y_M_key prog_6_method_5_code 5 (Option.some Jvm.ClassFile.FieldType.int) ∈ aW := aW_T 628 (by decide +kernel) (by decide +kernel)
theorem kw_633 : Cond.methodLink "SpellPitchLaw" 31 y_M_fix ∈ aW := aW_T 633 (by decide +kernel) (by decide +kernel)
theorem kw_634 : Cond.instanceMethod y_M_fix ∈ aW := aW_T 634 (by decide +kernel) (by decide +kernel)
theorem kw_635 : Cond.selects "SpellPitchModel" y_M_fix y_M_fix ∈ aW := aW_T 635 (by decide +kernel) (by decide +kernel)
theorem kw_636 : Cond.code y_M_fix prog_6_method_7_code 4 (Option.some Jvm.ClassFile.FieldType.int) ∈ aW := aW_T 636 (by decide +kernel) (by decide +kernel)
theorem kw_640 : Cond.methodLink "SpellPitchLaw" 36 y_M_weights ∈ aW := aW_T 640 (by decide +kernel) (by decide +kernel)
theorem kw_641 : Cond.instanceMethod y_M_weights ∈ aW := aW_T 641 (by decide +kernel) (by decide +kernel)
theorem kw_642 : Cond.selects "SpellPitchModel" y_M_weights y_M_weights ∈ aW := aW_T 642 (by decide +kernel) (by decide +kernel)
theorem kw_643 : Cond.code y_M_weights prog_6_method_9_code 6 (Option.some Jvm.ClassFile.FieldType.int) ∈ aW := aW_T 643 (by decide +kernel) (by decide +kernel)
theorem kw_647 : Cond.methodLink "SpellPitchLaw" 41 y_M_clear ∈ aW := aW_T 647 (by decide +kernel) (by decide +kernel)
theorem kw_648 : Cond.instanceMethod y_M_clear ∈ aW := aW_T 648 (by decide +kernel) (by decide +kernel)
theorem kw_649 : Cond.selects "SpellPitchModel" y_M_clear y_M_clear ∈ aW := aW_T 649 (by decide +kernel) (by decide +kernel)
theorem kw_650 : Cond.code y_M_clear prog_6_method_10_code 2 (Option.some Jvm.ClassFile.FieldType.int) ∈ aW := aW_T 650 (by decide +kernel) (by decide +kernel)
theorem kw_651 : Cond.methodLink "SpellPitchLaw" 45 y_M_sum ∈ aW := aW_T 651 (by decide +kernel) (by decide +kernel)
theorem kw_652 : Cond.instanceMethod y_M_sum ∈ aW := aW_T 652 (by decide +kernel) (by decide +kernel)
theorem kw_653 : Cond.selects "SpellPitchModel" y_M_sum y_M_sum ∈ aW := aW_T 653 (by decide +kernel) (by decide +kernel)
theorem kw_654 : Cond.code y_M_sum prog_6_method_28_code 1 (Option.some Jvm.ClassFile.FieldType.int) ∈ aW := aW_T 654 (by decide +kernel) (by decide +kernel)
theorem kw_716 : Cond.methodLink "SpellPitchLaw" 49 y_M_signs ∈ aW := aW_T 716 (by decide +kernel) (by decide +kernel)
theorem kw_717 : Cond.instanceMethod y_M_signs ∈ aW := aW_T 717 (by decide +kernel) (by decide +kernel)
theorem kw_718 : Cond.selects "SpellPitchModel" y_M_signs y_M_signs ∈ aW := aW_T 718 (by decide +kernel) (by decide +kernel)
theorem kw_719 : Cond.code y_M_signs prog_6_method_29_code 1 (Option.some Jvm.ClassFile.FieldType.int) ∈ aW := aW_T 719 (by decide +kernel) (by decide +kernel)
theorem kw_720 : Cond.methodLink "SpellPitchLaw" 53 y_M_ties ∈ aW := aW_T 720 (by decide +kernel) (by decide +kernel)
theorem kw_721 : Cond.instanceMethod y_M_ties ∈ aW := aW_T 721 (by decide +kernel) (by decide +kernel)
theorem kw_722 : Cond.selects "SpellPitchModel" y_M_ties y_M_ties ∈ aW := aW_T 722 (by decide +kernel) (by decide +kernel)
theorem kw_723 : Cond.code y_M_ties prog_6_method_30_code 1 (Option.some Jvm.ClassFile.FieldType.int) ∈ aW := aW_T 723 (by decide +kernel) (by decide +kernel)
theorem kw_724 : Cond.methodLink "SpellPitchLaw" 57 y_M_name ∈ aW := aW_T 724 (by decide +kernel) (by decide +kernel)
theorem kw_725 : Cond.instanceMethod y_M_name ∈ aW := aW_T 725 (by decide +kernel) (by decide +kernel)
theorem kw_726 : Cond.selects "SpellPitchModel" y_M_name y_M_name ∈ aW := aW_T 726 (by decide +kernel) (by decide +kernel)
theorem kw_727 : Cond.code y_M_name prog_6_method_31_code 4 (Option.some Jvm.ClassFile.FieldType.int) ∈ aW := aW_T 727 (by decide +kernel) (by decide +kernel)
theorem kw_728 : Cond.methodLink "SpellPitchLaw" 62 y_M_keyOf ∈ aW := aW_T 728 (by decide +kernel) (by decide +kernel)
theorem kw_729 : Cond.instanceMethod y_M_keyOf ∈ aW := aW_T 729 (by decide +kernel) (by decide +kernel)
theorem kw_730 : Cond.selects "SpellPitchModel" y_M_keyOf y_M_keyOf ∈ aW := aW_T 730 (by decide +kernel) (by decide +kernel)
theorem kw_731 : Cond.code y_M_keyOf prog_6_method_32_code 2 (Option.some Jvm.ClassFile.FieldType.int) ∈ aW := aW_T 731 (by decide +kernel) (by decide +kernel)
theorem kw_732 : Cond.methodLink "SpellPitchLaw" 66 y_M_turned ∈ aW := aW_T 732 (by decide +kernel) (by decide +kernel)
theorem kw_733 : Cond.instanceMethod y_M_turned ∈ aW := aW_T 733 (by decide +kernel) (by decide +kernel)
theorem kw_734 : Cond.selects "SpellPitchModel" y_M_turned y_M_turned ∈ aW := aW_T 734 (by decide +kernel) (by decide +kernel)
theorem kw_735 : Cond.code y_M_turned prog_6_method_34_code 3 (Option.some Jvm.ClassFile.FieldType.int) ∈ aW := aW_T 735 (by decide +kernel) (by decide +kernel)
theorem kw_740 : Cond.methodLink "SpellPitchLaw" 70 y_M_turn ∈ aW := aW_T 740 (by decide +kernel) (by decide +kernel)
theorem kw_741 : Cond.instanceMethod y_M_turn ∈ aW := aW_T 741 (by decide +kernel) (by decide +kernel)
theorem kw_742 : Cond.selects "SpellPitchModel" y_M_turn y_M_turn ∈ aW := aW_T 742 (by decide +kernel) (by decide +kernel)
theorem kw_743 : Cond.code y_M_turn prog_6_method_35_code 4 (Option.some Jvm.ClassFile.FieldType.int) ∈ aW := aW_T 743 (by decide +kernel) (by decide +kernel)
theorem kw_744 : Cond.methodLink "SpellPitchLaw" 75 y_M_interval ∈ aW := aW_T 744 (by decide +kernel) (by decide +kernel)
theorem kw_745 : Cond.instanceMethod y_M_interval ∈ aW := aW_T 745 (by decide +kernel) (by decide +kernel)
theorem kw_746 : Cond.selects "SpellPitchModel" y_M_interval y_M_interval ∈ aW := aW_T 746 (by decide +kernel) (by decide +kernel)
theorem kw_747 : Cond.code y_M_interval prog_6_method_39_code 6 (Option.some Jvm.ClassFile.FieldType.int) ∈ aW := aW_T 747 (by decide +kernel) (by decide +kernel)
theorem kw_754 : Cond.methodLink "SpellPitchLaw" 79 y_M_quality ∈ aW := aW_T 754 (by decide +kernel) (by decide +kernel)
theorem kw_755 : Cond.instanceMethod y_M_quality ∈ aW := aW_T 755 (by decide +kernel) (by decide +kernel)
theorem kw_756 : Cond.selects "SpellPitchModel" y_M_quality y_M_quality ∈ aW := aW_T 756 (by decide +kernel) (by decide +kernel)
theorem kw_757 : Cond.code y_M_quality prog_6_method_40_code 5 (Option.some Jvm.ClassFile.FieldType.int) ∈ aW := aW_T 757 (by decide +kernel) (by decide +kernel)
theorem kw_761 : Cond.methodLink "SpellPitchLaw" 83 y_M_add ∈ aW := aW_T 761 (by decide +kernel) (by decide +kernel)
theorem kw_762 : Cond.instanceMethod y_M_add ∈ aW := aW_T 762 (by decide +kernel) (by decide +kernel)
theorem kw_763 : Cond.selects "SpellPitchModel" y_M_add y_M_add ∈ aW := aW_T 763 (by decide +kernel) (by decide +kernel)
theorem kw_764 : Cond.code y_M_add prog_6_method_41_code 4 (Option.some Jvm.ClassFile.FieldType.int) ∈ aW := aW_T 764 (by decide +kernel) (by decide +kernel)
theorem kw_765 : Cond.methodLink "SpellPitchLaw" 87 y_M_transpose ∈ aW := aW_T 765 (by decide +kernel) (by decide +kernel)
theorem kw_766 : Cond.instanceMethod y_M_transpose ∈ aW := aW_T 766 (by decide +kernel) (by decide +kernel)
theorem kw_767 : Cond.selects "SpellPitchModel" y_M_transpose y_M_transpose ∈ aW := aW_T 767 (by decide +kernel) (by decide +kernel)
theorem kw_768 : Cond.code y_M_transpose prog_6_method_42_code 6 (Option.some Jvm.ClassFile.FieldType.int) ∈ aW := aW_T 768 (by decide +kernel) (by decide +kernel)
theorem kw_769 : Cond.methodLink "SpellPitchLaw" 91 y_M_micro ∈ aW := aW_T 769 (by decide +kernel) (by decide +kernel)
theorem kw_770 : Cond.instanceMethod y_M_micro ∈ aW := aW_T 770 (by decide +kernel) (by decide +kernel)
theorem kw_771 : Cond.selects "SpellPitchModel" y_M_micro y_M_micro ∈ aW := aW_T 771 (by decide +kernel) (by decide +kernel)
theorem kw_772 : Cond.code y_M_micro prog_6_method_43_code 7 (Option.some Jvm.ClassFile.FieldType.int) ∈ aW := aW_T 772 (by decide +kernel) (by decide +kernel)
theorem kw_773 : Cond.methodLink "SpellPitchLaw" 97 y_M_step ∈ aW := aW_T 773 (by decide +kernel) (by decide +kernel)
theorem kw_774 : Cond.instanceMethod y_M_step ∈ aW := aW_T 774 (by decide +kernel) (by decide +kernel)
theorem kw_775 : Cond.selects "SpellPitchModel" y_M_step y_M_step ∈ aW := aW_T 775 (by decide +kernel) (by decide +kernel)
theorem kw_776 : Cond.code y_M_step prog_6_method_44_code 4 (Option.some Jvm.ClassFile.FieldType.int) ∈ aW := aW_T 776 (by decide +kernel) (by decide +kernel)
theorem kw_777 : Cond.methodLink "SpellPitchLaw" 104 y_M_equal ∈ aW := aW_T 777 (by decide +kernel) (by decide +kernel)
theorem kw_778 : Cond.instanceMethod y_M_equal ∈ aW := aW_T 778 (by decide +kernel) (by decide +kernel)
theorem kw_779 : Cond.selects "SpellPitchModel" y_M_equal y_M_equal ∈ aW := aW_T 779 (by decide +kernel) (by decide +kernel)
theorem kw_780 : Cond.code y_M_equal prog_6_method_46_code 3 (Option.some Jvm.ClassFile.FieldType.int) ∈ aW := aW_T 780 (by decide +kernel) (by decide +kernel)
theorem kw_784 : Cond.methodLink "SpellPitchLaw" 108 y_M_scale ∈ aW := aW_T 784 (by decide +kernel) (by decide +kernel)
theorem kw_785 : Cond.instanceMethod y_M_scale ∈ aW := aW_T 785 (by decide +kernel) (by decide +kernel)
theorem kw_786 : Cond.selects "SpellPitchModel" y_M_scale y_M_scale ∈ aW := aW_T 786 (by decide +kernel) (by decide +kernel)
theorem kw_787 : Cond.code y_M_scale prog_6_method_47_code 4 (Option.some Jvm.ClassFile.FieldType.int) ∈ aW := aW_T 787 (by decide +kernel) (by decide +kernel)
def cs_L_0 : List (Nat × Instr) := [(0, .new 8), (3, .dup), (4, .invokespecial 15), (7, .astore_n 1), (8, .new 16), (11, .dup), (12, .invokespecial 18), (15, .astore_n 2), (16, .iconst 1), (17, .newarray .long), (19, .astore_n 3), (20, .iconst 0)]
theorem ct_L_0 : cs_L_0.all (q_dec code) = true := by decide +kernel
def cs_L_1 : List (Nat × Instr) := [(21, .istore 4), (23, .iload 4), (25, .aload_n 0), (26, .arraylength), (27, .bipush 6), (29, .isub), (30, .if_icmp .gt 827), (33, .aload_n 0), (34, .iload 4), (36, .iaload), (37, .bipush 31), (39, .iand)]
theorem ct_L_1 : cs_L_1.all (q_dec code) = true := by decide +kernel
def cs_L_2 : List (Nat × Instr) := [(40, .tableswitch 811 0 19 #[96, 149, 186, 223, 296, 309, 322, 335, 348, 385, 410, 423, 448, 497, 534, 571, 620, 669, 737, 774])]
theorem ct_L_2 : cs_L_2.all (q_dec code) = true := by decide +kernel
def cs_L_3 : List (Nat × Instr) := [(136, .aload_n 1), (137, .aload_n 0), (138, .iload 4), (140, .iconst 1), (141, .iadd), (142, .iaload), (143, .aload_n 0), (144, .iload 4), (146, .iconst 2), (147, .iadd), (148, .iaload), (149, .ifCond .eq 7)]
theorem ct_L_3 : cs_L_3.all (q_dec code) = true := by decide +kernel
def cs_L_4 : List (Nat × Instr) := [(152, .iconst 1), (153, .goto 4), (156, .iconst 0), (157, .invokevirtual 19), (160, .aload_n 2), (161, .aload_n 0), (162, .iload 4), (164, .iconst 1), (165, .iadd), (166, .iaload), (167, .aload_n 0), (168, .iload 4)]
theorem ct_L_4 : cs_L_4.all (q_dec code) = true := by decide +kernel
def cs_L_5 : List (Nat × Instr) := [(170, .iconst 2), (171, .iadd), (172, .iaload), (173, .ifCond .eq 7), (176, .iconst 1), (177, .goto 4), (180, .iconst 0), (181, .invokevirtual 23), (184, .if_icmp .eq 667), (187, .iconst 0), (188, .ireturn), (189, .aload_n 1)]
theorem ct_L_5 : cs_L_5.all (q_dec code) = true := by decide +kernel
def cs_L_6 : List (Nat × Instr) := [(190, .aload_n 0), (191, .iload 4), (193, .iconst 1), (194, .iadd), (195, .iaload), (196, .aload_n 0), (197, .iload 4), (199, .iconst 2), (200, .iadd), (201, .iaload), (202, .invokevirtual 24), (205, .aload_n 2)]
theorem ct_L_6 : cs_L_6.all (q_dec code) = true := by decide +kernel
def cs_L_7 : List (Nat × Instr) := [(206, .aload_n 0), (207, .iload 4), (209, .iconst 1), (210, .iadd), (211, .iaload), (212, .aload_n 0), (213, .iload 4), (215, .iconst 2), (216, .iadd), (217, .iaload), (218, .invokevirtual 27), (221, .if_icmp .eq 630)]
theorem ct_L_7 : cs_L_7.all (q_dec code) = true := by decide +kernel
def cs_L_8 : List (Nat × Instr) := [(224, .iconst 0), (225, .ireturn), (226, .aload_n 1), (227, .aload_n 0), (228, .iload 4), (230, .iconst 1), (231, .iadd), (232, .iaload), (233, .aload_n 0), (234, .iload 4), (236, .iconst 2), (237, .iadd)]
theorem ct_L_8 : cs_L_8.all (q_dec code) = true := by decide +kernel
def cs_L_9 : List (Nat × Instr) := [(238, .iaload), (239, .invokevirtual 28), (242, .aload_n 2), (243, .aload_n 0), (244, .iload 4), (246, .iconst 1), (247, .iadd), (248, .iaload), (249, .aload_n 0), (250, .iload 4), (252, .iconst 2), (253, .iadd)]
theorem ct_L_9 : cs_L_9.all (q_dec code) = true := by decide +kernel
def cs_L_10 : List (Nat × Instr) := [(254, .iaload), (255, .invokevirtual 31), (258, .if_icmp .eq 593), (261, .iconst 0), (262, .ireturn), (263, .aload_n 1), (264, .aload_n 0), (265, .iload 4), (267, .iconst 1), (268, .iadd), (269, .iaload), (270, .aload_n 0)]
theorem ct_L_10 : cs_L_10.all (q_dec code) = true := by decide +kernel
def cs_L_11 : List (Nat × Instr) := [(271, .iload 4), (273, .iconst 2), (274, .iadd), (275, .iaload), (276, .aload_n 0), (277, .iload 4), (279, .iconst 3), (280, .iadd), (281, .iaload), (282, .aload_n 0), (283, .iload 4), (285, .iconst 4)]
theorem ct_L_11 : cs_L_11.all (q_dec code) = true := by decide +kernel
def cs_L_12 : List (Nat × Instr) := [(286, .iadd), (287, .iaload), (288, .aload_n 0), (289, .iload 4), (291, .iconst 5), (292, .iadd), (293, .iaload), (294, .invokevirtual 32), (297, .aload_n 2), (298, .aload_n 0), (299, .iload 4), (301, .iconst 1)]
theorem ct_L_12 : cs_L_12.all (q_dec code) = true := by decide +kernel
def cs_L_13 : List (Nat × Instr) := [(302, .iadd), (303, .iaload), (304, .aload_n 0), (305, .iload 4), (307, .iconst 2), (308, .iadd), (309, .iaload), (310, .aload_n 0), (311, .iload 4), (313, .iconst 3), (314, .iadd), (315, .iaload)]
theorem ct_L_13 : cs_L_13.all (q_dec code) = true := by decide +kernel
def cs_L_14 : List (Nat × Instr) := [(316, .aload_n 0), (317, .iload 4), (319, .iconst 4), (320, .iadd), (321, .iaload), (322, .aload_n 0), (323, .iload 4), (325, .iconst 5), (326, .iadd), (327, .iaload), (328, .invokevirtual 36), (331, .if_icmp .eq 520)]
theorem ct_L_14 : cs_L_14.all (q_dec code) = true := by decide +kernel
def cs_L_15 : List (Nat × Instr) := [(334, .iconst 0), (335, .ireturn), (336, .aload_n 1), (337, .invokevirtual 37), (340, .aload_n 2), (341, .invokevirtual 41), (344, .if_icmp .eq 507), (347, .iconst 0), (348, .ireturn), (349, .aload_n 1), (350, .invokevirtual 42), (353, .aload_n 2)]
theorem ct_L_15 : cs_L_15.all (q_dec code) = true := by decide +kernel
def cs_L_16 : List (Nat × Instr) := [(354, .invokevirtual 45), (357, .if_icmp .eq 494), (360, .iconst 0), (361, .ireturn), (362, .aload_n 1), (363, .invokevirtual 46), (366, .aload_n 2), (367, .invokevirtual 49), (370, .if_icmp .eq 481), (373, .iconst 0), (374, .ireturn), (375, .aload_n 1)]
theorem ct_L_16 : cs_L_16.all (q_dec code) = true := by decide +kernel
def cs_L_17 : List (Nat × Instr) := [(376, .invokevirtual 50), (379, .aload_n 2), (380, .invokevirtual 53), (383, .if_icmp .eq 468), (386, .iconst 0), (387, .ireturn), (388, .aload_n 1), (389, .aload_n 0), (390, .iload 4), (392, .iconst 1), (393, .iadd), (394, .iaload)]
theorem ct_L_17 : cs_L_17.all (q_dec code) = true := by decide +kernel
def cs_L_18 : List (Nat × Instr) := [(395, .aload_n 0), (396, .iload 4), (398, .iconst 2), (399, .iadd), (400, .iaload), (401, .invokevirtual 54), (404, .aload_n 2), (405, .aload_n 0), (406, .iload 4), (408, .iconst 1), (409, .iadd), (410, .iaload)]
theorem ct_L_18 : cs_L_18.all (q_dec code) = true := by decide +kernel
def cs_L_19 : List (Nat × Instr) := [(411, .aload_n 0), (412, .iload 4), (414, .iconst 2), (415, .iadd), (416, .iaload), (417, .invokevirtual 57), (420, .if_icmp .eq 431), (423, .iconst 0), (424, .ireturn), (425, .aload_n 1), (426, .aload_n 0), (427, .iload 4)]
theorem ct_L_19 : cs_L_19.all (q_dec code) = true := by decide +kernel
def cs_L_20 : List (Nat × Instr) := [(429, .iconst 1), (430, .iadd), (431, .iaload), (432, .invokevirtual 58), (435, .aload_n 2), (436, .aload_n 0), (437, .iload 4), (439, .iconst 1), (440, .iadd), (441, .iaload), (442, .invokevirtual 62), (445, .if_icmp .eq 406)]
theorem ct_L_20 : cs_L_20.all (q_dec code) = true := by decide +kernel
def cs_L_21 : List (Nat × Instr) := [(448, .iconst 0), (449, .ireturn), (450, .aload_n 1), (451, .invokevirtual 63), (454, .aload_n 2), (455, .invokevirtual 66), (458, .if_icmp .eq 393), (461, .iconst 0), (462, .ireturn), (463, .aload_n 1), (464, .aload_n 0), (465, .iload 4)]
theorem ct_L_21 : cs_L_21.all (q_dec code) = true := by decide +kernel
def cs_L_22 : List (Nat × Instr) := [(467, .iconst 1), (468, .iadd), (469, .iaload), (470, .invokevirtual 67), (473, .aload_n 2), (474, .aload_n 0), (475, .iload 4), (477, .iconst 1), (478, .iadd), (479, .iaload), (480, .invokevirtual 70), (483, .if_icmp .eq 368)]
theorem ct_L_22 : cs_L_22.all (q_dec code) = true := by decide +kernel
def cs_L_23 : List (Nat × Instr) := [(486, .iconst 0), (487, .ireturn), (488, .aload_n 1), (489, .aload_n 0), (490, .iload 4), (492, .iconst 1), (493, .iadd), (494, .iaload), (495, .aload_n 0), (496, .iload 4), (498, .iconst 2), (499, .iadd)]
theorem ct_L_23 : cs_L_23.all (q_dec code) = true := by decide +kernel
def cs_L_24 : List (Nat × Instr) := [(500, .iaload), (501, .aload_n 0), (502, .iload 4), (504, .iconst 3), (505, .iadd), (506, .iaload), (507, .invokevirtual 71), (510, .aload_n 2), (511, .aload_n 0), (512, .iload 4), (514, .iconst 1), (515, .iadd)]
theorem ct_L_24 : cs_L_24.all (q_dec code) = true := by decide +kernel
def cs_L_25 : List (Nat × Instr) := [(516, .iaload), (517, .aload_n 0), (518, .iload 4), (520, .iconst 2), (521, .iadd), (522, .iaload), (523, .aload_n 0), (524, .iload 4), (526, .iconst 3), (527, .iadd), (528, .iaload), (529, .invokevirtual 75)]
theorem ct_L_25 : cs_L_25.all (q_dec code) = true := by decide +kernel
def cs_L_26 : List (Nat × Instr) := [(532, .if_icmp .eq 319), (535, .iconst 0), (536, .ireturn), (537, .aload_n 1), (538, .aload_n 0), (539, .iload 4), (541, .iconst 1), (542, .iadd), (543, .iaload), (544, .aload_n 0), (545, .iload 4), (547, .iconst 2)]
theorem ct_L_26 : cs_L_26.all (q_dec code) = true := by decide +kernel
def cs_L_27 : List (Nat × Instr) := [(548, .iadd), (549, .iaload), (550, .invokevirtual 76), (553, .aload_n 2), (554, .aload_n 0), (555, .iload 4), (557, .iconst 1), (558, .iadd), (559, .iaload), (560, .aload_n 0), (561, .iload 4), (563, .iconst 2)]
theorem ct_L_27 : cs_L_27.all (q_dec code) = true := by decide +kernel
def cs_L_28 : List (Nat × Instr) := [(564, .iadd), (565, .iaload), (566, .invokevirtual 79), (569, .if_icmp .eq 282), (572, .iconst 0), (573, .ireturn), (574, .aload_n 1), (575, .aload_n 0), (576, .iload 4), (578, .iconst 1), (579, .iadd), (580, .iaload)]
theorem ct_L_28 : cs_L_28.all (q_dec code) = true := by decide +kernel
def cs_L_29 : List (Nat × Instr) := [(581, .aload_n 0), (582, .iload 4), (584, .iconst 2), (585, .iadd), (586, .iaload), (587, .invokevirtual 80), (590, .aload_n 2), (591, .aload_n 0), (592, .iload 4), (594, .iconst 1), (595, .iadd), (596, .iaload)]
theorem ct_L_29 : cs_L_29.all (q_dec code) = true := by decide +kernel
def cs_L_30 : List (Nat × Instr) := [(597, .aload_n 0), (598, .iload 4), (600, .iconst 2), (601, .iadd), (602, .iaload), (603, .invokevirtual 83), (606, .if_icmp .eq 245), (609, .iconst 0), (610, .ireturn), (611, .aload_n 1), (612, .aload_n 0), (613, .iload 4)]
theorem ct_L_30 : cs_L_30.all (q_dec code) = true := by decide +kernel
def cs_L_31 : List (Nat × Instr) := [(615, .iconst 1), (616, .iadd), (617, .iaload), (618, .aload_n 0), (619, .iload 4), (621, .iconst 2), (622, .iadd), (623, .iaload), (624, .aload_n 0), (625, .iload 4), (627, .iconst 3), (628, .iadd)]
theorem ct_L_31 : cs_L_31.all (q_dec code) = true := by decide +kernel
def cs_L_32 : List (Nat × Instr) := [(629, .iaload), (630, .invokevirtual 84), (633, .aload_n 2), (634, .aload_n 0), (635, .iload 4), (637, .iconst 1), (638, .iadd), (639, .iaload), (640, .aload_n 0), (641, .iload 4), (643, .iconst 2), (644, .iadd)]
theorem ct_L_32 : cs_L_32.all (q_dec code) = true := by decide +kernel
def cs_L_33 : List (Nat × Instr) := [(645, .iaload), (646, .aload_n 0), (647, .iload 4), (649, .iconst 3), (650, .iadd), (651, .iaload), (652, .invokevirtual 87), (655, .if_icmp .eq 196), (658, .iconst 0), (659, .ireturn), (660, .aload_n 1), (661, .aload_n 0)]
theorem ct_L_33 : cs_L_33.all (q_dec code) = true := by decide +kernel
def cs_L_34 : List (Nat × Instr) := [(662, .iload 4), (664, .iconst 1), (665, .iadd), (666, .iaload), (667, .aload_n 0), (668, .iload 4), (670, .iconst 2), (671, .iadd), (672, .iaload), (673, .aload_n 0), (674, .iload 4), (676, .iconst 3)]
theorem ct_L_34 : cs_L_34.all (q_dec code) = true := by decide +kernel
def cs_L_35 : List (Nat × Instr) := [(677, .iadd), (678, .iaload), (679, .invokevirtual 88), (682, .aload_n 2), (683, .aload_n 0), (684, .iload 4), (686, .iconst 1), (687, .iadd), (688, .iaload), (689, .aload_n 0), (690, .iload 4), (692, .iconst 2)]
theorem ct_L_35 : cs_L_35.all (q_dec code) = true := by decide +kernel
def cs_L_36 : List (Nat × Instr) := [(693, .iadd), (694, .iaload), (695, .aload_n 0), (696, .iload 4), (698, .iconst 3), (699, .iadd), (700, .iaload), (701, .invokevirtual 91), (704, .if_icmp .eq 147), (707, .iconst 0), (708, .ireturn), (709, .aload_n 1)]
theorem ct_L_36 : cs_L_36.all (q_dec code) = true := by decide +kernel
def cs_L_37 : List (Nat × Instr) := [(710, .aload_n 0), (711, .iload 4), (713, .iconst 1), (714, .iadd), (715, .iaload), (716, .aload_n 0), (717, .iload 4), (719, .iconst 2), (720, .iadd), (721, .iaload), (722, .aload_n 3), (723, .invokestatic 92)]
theorem ct_L_37 : cs_L_37.all (q_dec code) = true := by decide +kernel
def cs_L_38 : List (Nat × Instr) := [(726, .istore 5), (728, .aload_n 2), (729, .aload_n 0), (730, .iload 4), (732, .iconst 1), (733, .iadd), (734, .iaload), (735, .aload_n 0), (736, .iload 4), (738, .iconst 2), (739, .iadd), (740, .iaload)]
theorem ct_L_38 : cs_L_38.all (q_dec code) = true := by decide +kernel
def cs_L_39 : List (Nat × Instr) := [(741, .invokevirtual 97), (744, .istore 6), (746, .aload_n 2), (747, .invokevirtual 98), (750, .iload 5), (752, .if_icmp .eq 5), (755, .iconst 0), (756, .ireturn), (757, .iload 5), (759, .ifCond .ne 15), (762, .aload_n 3), (763, .iconst 0)]
theorem ct_L_39 : cs_L_39.all (q_dec code) = true := by decide +kernel
def cs_L_40 : List (Nat × Instr) := [(764, .laload), (765, .iload 6), (767, .i2l), (768, .lcmp), (769, .ifCond .eq 5), (772, .iconst 0), (773, .ireturn), (774, .goto 77), (777, .aload_n 1), (778, .aload_n 0), (779, .iload 4), (781, .iconst 1)]
theorem ct_L_40 : cs_L_40.all (q_dec code) = true := by decide +kernel
def cs_L_41 : List (Nat × Instr) := [(782, .iadd), (783, .iaload), (784, .aload_n 0), (785, .iload 4), (787, .iconst 2), (788, .iadd), (789, .iaload), (790, .invokevirtual 101), (793, .aload_n 2), (794, .aload_n 0), (795, .iload 4), (797, .iconst 1)]
theorem ct_L_41 : cs_L_41.all (q_dec code) = true := by decide +kernel
def cs_L_42 : List (Nat × Instr) := [(798, .iadd), (799, .iaload), (800, .aload_n 0), (801, .iload 4), (803, .iconst 2), (804, .iadd), (805, .iaload), (806, .invokevirtual 104), (809, .if_icmp .eq 42), (812, .iconst 0), (813, .ireturn), (814, .aload_n 1)]
theorem ct_L_42 : cs_L_42.all (q_dec code) = true := by decide +kernel
def cs_L_43 : List (Nat × Instr) := [(815, .aload_n 0), (816, .iload 4), (818, .iconst 1), (819, .iadd), (820, .iaload), (821, .aload_n 0), (822, .iload 4), (824, .iconst 2), (825, .iadd), (826, .iaload), (827, .invokevirtual 105), (830, .aload_n 2)]
theorem ct_L_43 : cs_L_43.all (q_dec code) = true := by decide +kernel
def cs_L_44 : List (Nat × Instr) := [(831, .aload_n 0), (832, .iload 4), (834, .iconst 1), (835, .iadd), (836, .iaload), (837, .aload_n 0), (838, .iload 4), (840, .iconst 2), (841, .iadd), (842, .iaload), (843, .invokevirtual 108), (846, .if_icmp .eq 5)]
theorem ct_L_44 : cs_L_44.all (q_dec code) = true := by decide +kernel
def cs_L_45 : List (Nat × Instr) := [(849, .iconst 0), (850, .ireturn), (851, .iinc 4 6), (854, .goto (-831)), (857, .iconst 1), (858, .ireturn)]
theorem ct_L_45 : cs_L_45.all (q_dec code) = true := by decide +kernel
def c_L_law : q_C := [(21, cs_L_0), (40, cs_L_1), (136, cs_L_2), (152, cs_L_3), (170, cs_L_4), (190, cs_L_5), (206, cs_L_6), (224, cs_L_7), (238, cs_L_8), (254, cs_L_9), (271, cs_L_10), (286, cs_L_11), (302, cs_L_12), (316, cs_L_13), (334, cs_L_14), (354, cs_L_15), (376, cs_L_16), (395, cs_L_17), (411, cs_L_18), (429, cs_L_19), (448, cs_L_20), (467, cs_L_21), (486, cs_L_22), (500, cs_L_23), (516, cs_L_24), (532, cs_L_25), (548, cs_L_26), (564, cs_L_27), (581, cs_L_28), (597, cs_L_29), (615, cs_L_30), (629, cs_L_31), (645, cs_L_32), (662, cs_L_33), (677, cs_L_34), (693, cs_L_35), (710, cs_L_36), (726, cs_L_37), (741, cs_L_38), (764, cs_L_39), (782, cs_L_40), (798, cs_L_41), (815, cs_L_42), (831, cs_L_43), (849, cs_L_44), (862, cs_L_45)]
theorem ct_L_law : c_L_law.all (fun x => x.2.all (q_dec code)) = true := List.all_eq_true.mpr (q_cons ct_L_0 (q_cons ct_L_1 (q_cons ct_L_2 (q_cons ct_L_3 (q_cons ct_L_4 (q_cons ct_L_5 (q_cons ct_L_6 (q_cons ct_L_7 (q_cons ct_L_8 (q_cons ct_L_9 (q_cons ct_L_10 (q_cons ct_L_11 (q_cons ct_L_12 (q_cons ct_L_13 (q_cons ct_L_14 (q_cons ct_L_15 (q_cons ct_L_16 (q_cons ct_L_17 (q_cons ct_L_18 (q_cons ct_L_19 (q_cons ct_L_20 (q_cons ct_L_21 (q_cons ct_L_22 (q_cons ct_L_23 (q_cons ct_L_24 (q_cons ct_L_25 (q_cons ct_L_26 (q_cons ct_L_27 (q_cons ct_L_28 (q_cons ct_L_29 (q_cons ct_L_30 (q_cons ct_L_31 (q_cons ct_L_32 (q_cons ct_L_33 (q_cons ct_L_34 (q_cons ct_L_35 (q_cons ct_L_36 (q_cons ct_L_37 (q_cons ct_L_38 (q_cons ct_L_39 (q_cons ct_L_40 (q_cons ct_L_41 (q_cons ct_L_42 (q_cons ct_L_43 (q_cons ct_L_44 (q_cons ct_L_45 (q_nil)))))))))))))))))))))))))))))))))))))))))))))))
def kV_L_law (cI : ClassId) (tv : Nat) : List (Nat × (Nat × Nat × Nat × q_T)) := [(19, 3, 0, 0, q_Sub isX isMo (q_V 3 (T_X_pitch cI tv))), (23, 3, 0, 0, q_Sub isM isXo (q_V 4 (T_M_pitch cI tv))), (24, 3, 0, 0, q_Sub isX isMo (q_V 3 (T_X_key cI tv))), (27, 3, 0, 0, q_Sub isM isXo (q_V 4 (T_M_key cI tv))), (28, 3, 0, 0, q_Sub isX isMo (q_V 3 (T_X_fix cI tv))), (31, 3, 0, 0, q_Sub isM isXo (q_V 4 (T_M_fix cI tv))), (32, 6, 0, 0, q_Sub isX isMo (q_V 3 (T_X_weights cI tv))), (36, 6, 0, 0, q_Sub isM isXo (q_V 4 (T_M_weights cI tv))), (37, 1, 0, 0, q_Sub isX isMo (q_V 3 (T_X_clear cI tv))), (41, 1, 0, 0, q_Sub isM isXo (q_V 4 (T_M_clear cI tv))), (42, 1, 0, 0, q_Sub isX isMo (q_V 3 (T_X_sum cI tv))), (45, 1, 0, 0, q_Sub isM isXo (q_V 4 (T_M_sum cI tv))), (46, 1, 0, 0, q_Sub isX isMo (q_V 3 (T_X_signs cI tv))), (49, 1, 0, 0, q_Sub isM isXo (q_V 4 (T_M_signs cI tv))), (50, 1, 0, 0, q_Sub isX isMo (q_V 3 (T_X_ties cI tv))), (53, 1, 0, 0, q_Sub isM isXo (q_V 4 (T_M_ties cI tv))), (54, 3, 0, 0, q_Sub isX isMo (q_V 3 (T_X_name cI tv))), (57, 3, 0, 0, q_Sub isM isXo (q_V 4 (T_M_name cI tv))), (58, 2, 0, 0, q_Sub isX isMo (q_V 3 (T_X_keyOf cI tv))), (62, 2, 0, 0, q_Sub isM isXo (q_V 4 (T_M_keyOf cI tv))), (63, 1, 0, 0, q_Sub isX isMo (q_V 3 (T_X_turned cI tv))), (66, 1, 0, 0, q_Sub isM isXo (q_V 4 (T_M_turned cI tv))), (67, 2, 0, 0, q_Sub isX isMo (q_V 3 (T_X_turn cI tv))), (70, 2, 0, 0, q_Sub isM isXo (q_V 4 (T_M_turn cI tv))), (71, 4, 0, 0, q_Sub isX isMo (q_V 3 (T_X_interval cI tv))), (75, 4, 0, 0, q_Sub isM isXo (q_V 4 (T_M_interval cI tv))), (76, 3, 0, 0, q_Sub isX isMo (q_V 3 (T_X_quality cI tv))), (79, 3, 0, 0, q_Sub isM isXo (q_V 4 (T_M_quality cI tv))), (80, 3, 0, 0, q_Sub isX isMo (q_V 3 (T_X_add cI tv))), (83, 3, 0, 0, q_Sub isM isXo (q_V 4 (T_M_add cI tv))), (84, 4, 0, 0, q_Sub isX isMo (q_V 3 (T_X_transpose cI tv))), (87, 4, 0, 0, q_Sub isM isXo (q_V 4 (T_M_transpose cI tv))), (88, 4, 0, 0, q_Sub isX isMo (q_V 3 (T_X_micro cI tv))), (91, 4, 0, 0, q_Sub isM isXo (q_V 4 (T_M_micro cI tv))), (97, 3, 0, 0, q_Sub isM isXo (q_V 4 (T_M_step cI tv))), (98, 1, 0, 0, q_Sub isM isXo (q_V 4 (T_M_thrown cI tv))), (101, 3, 0, 0, q_Sub isX isMo (q_V 3 (T_X_equal cI tv))), (104, 3, 0, 0, q_Sub isM isXo (q_V 4 (T_M_equal cI tv))), (105, 3, 0, 0, q_Sub isX isMo (q_V 3 (T_X_scale cI tv))), (108, 3, 0, 0, q_Sub isM isXo (q_V 4 (T_M_scale cI tv)))]
def kI_L_law (cI : ClassId) (tv : Nat) : List (Nat × (Nat × Nat × Nat × q_T)) := [(15, 1, 23, 4233, q_V 3 (T_X_init cI tv)), (18, 1, 20, 11565, q_Sub [24] isX (q_V 4 (T_M_init cI tv)))]
def nw_L : List (Nat × (Nat × Nat × List Value)) := [(8, 3, 4, [.null, .null, .null, .int 0]), (16, 4, 34, [.int 0, .int 0, .int 0, .null, .null, .null, .null, .null, .null, .int 0, .int 0, .int 0, .int 0, .int 0, .int 0, .int 0, .null, .null, .null, .int 0, .null, .null, .null, .null, .null, .null, .null, .null, .null, .null, .null, .int 0, .int 0, .int 0])]
theorem nw_L_ok {c : Cond} : ∀ n ci N fs, q_as nw_L n = some (ci, N, fs) → q_NwOK "SpellPitchLaw" (c :: aW) cls5 n ci N fs := fun n ci N fs h => (show ∀ q ∈ nw_L, q_NwOK "SpellPitchLaw" (c :: aW) cls5 q.1 q.2.1 q.2.2.1 q.2.2.2 from q_cons (show q_NwOK "SpellPitchLaw" (c :: aW) cls5 8 3 4 [.null, .null, .null, .int 0] from ⟨"SpellPitch", tt_X, ty_X, rfl, fun w h => aW_in (tw_X w h), tk_X, aW_in kw_12, aW_in kw_13, aW_in kw_1, by decide +kernel⟩) (q_cons (show q_NwOK "SpellPitchLaw" (c :: aW) cls5 16 4 34 [.int 0, .int 0, .int 0, .null, .null, .null, .null, .null, .null, .int 0, .int 0, .int 0, .int 0, .int 0, .int 0, .int 0, .null, .null, .null, .int 0, .null, .null, .null, .null, .null, .null, .null, .null, .null, .null, .null, .int 0, .int 0, .int 0] from ⟨"SpellPitchModel", tt_M, ty_M, rfl, fun w h => aW_in (tw_M w h), tk_M, aW_in kw_508, aW_in kw_509, aW_in kw_5, by decide +kernel⟩) (q_nil))) (n, ci, N, fs) (q_as_in h)
section LT
variable {l : Launch} {D : va_G} {cI : ClassId} {tv : Nat} {c : Cond} {St : q_St}
theorem kV_L_ok (hs : ∀ (A : Nat → Prop) (U : State) (H : Heap), St A U H → qSt tv A U H) : ∀ q ∈ kV_L_law cI tv, q_CalOK l room_1 code 7 "SpellPitchLaw" (c :: aW) D cls5 cI St (.invokevirtual q.1) q.2.1 q.2.2.1 q.2.2.2.1 q.2.2.2.2 := q_cons (q_CalMap hs (q_subV isX isMo (by decide) (by decide) (by decide) (k := 2) (T' := tt_X) (qStOK tv) (M_X_pitch l D cI tv) (gV kw_183 kw_184 kw_185 kw_1 kw_186) rfl (by decide +kernel) ⟨by decide, by decide⟩ rfl)) (q_cons (q_CalMap hs (q_subV isM isXo (by decide) (by decide) (by decide) (k := 2) (T' := tt_M) (qStOK tv) (M_M_pitch l D cI tv) (gV kw_621 kw_622 kw_623 kw_5 kw_624) rfl (by decide +kernel) ⟨by decide, by decide⟩ rfl)) (q_cons (q_CalMap hs (q_subV isX isMo (by decide) (by decide) (by decide) (k := 2) (T' := tt_X) (qStOK tv) (M_X_key l D cI tv) (gV kw_218 kw_219 kw_220 kw_1 kw_221) rfl (by decide +kernel) ⟨by decide, by decide⟩ rfl)) (q_cons (q_CalMap hs (q_subV isM isXo (by decide) (by decide) (by decide) (k := 2) (T' := tt_M) (qStOK tv) (M_M_key l D cI tv) (gV kw_625 kw_626 kw_627 kw_5 kw_628) rfl (by decide +kernel) ⟨by decide, by decide⟩ rfl)) (q_cons (q_CalMap hs (q_subV isX isMo (by decide) (by decide) (by decide) (k := 2) (T' := tt_X) (qStOK tv) (M_X_fix l D cI tv) (gV kw_226 kw_227 kw_228 kw_1 kw_229) rfl (by decide +kernel) ⟨by decide, by decide⟩ rfl)) (q_cons (q_CalMap hs (q_subV isM isXo (by decide) (by decide) (by decide) (k := 2) (T' := tt_M) (qStOK tv) (M_M_fix l D cI tv) (gV kw_633 kw_634 kw_635 kw_5 kw_636) rfl (by decide +kernel) ⟨by decide, by decide⟩ rfl)) (q_cons (q_CalMap hs (q_subV isX isMo (by decide) (by decide) (by decide) (k := 5) (T' := tt_X) (qStOK tv) (M_X_weights l D cI tv) (gV kw_236 kw_237 kw_238 kw_1 kw_239) rfl (by decide +kernel) ⟨by decide, by decide⟩ rfl)) (q_cons (q_CalMap hs (q_subV isM isXo (by decide) (by decide) (by decide) (k := 5) (T' := tt_M) (qStOK tv) (M_M_weights l D cI tv) (gV kw_640 kw_641 kw_642 kw_5 kw_643) rfl (by decide +kernel) ⟨by decide, by decide⟩ rfl)) (q_cons (q_CalMap hs (q_subV isX isMo (by decide) (by decide) (by decide) (k := 0) (T' := tt_X) (qStOK tv) (M_X_clear l D cI tv) (gV kw_243 kw_244 kw_245 kw_1 kw_246) rfl (by decide +kernel) ⟨by decide, by decide⟩ rfl)) (q_cons (q_CalMap hs (q_subV isM isXo (by decide) (by decide) (by decide) (k := 0) (T' := tt_M) (qStOK tv) (M_M_clear l D cI tv) (gV kw_647 kw_648 kw_649 kw_5 kw_650) rfl (by decide +kernel) ⟨by decide, by decide⟩ rfl)) (q_cons (q_CalMap hs (q_subV isX isMo (by decide) (by decide) (by decide) (k := 0) (T' := tt_X) (qStOK tv) (M_X_sum l D cI tv) (gV kw_251 kw_252 kw_253 kw_1 kw_254) rfl (by decide +kernel) ⟨by decide, by decide⟩ rfl)) (q_cons (q_CalMap hs (q_subV isM isXo (by decide) (by decide) (by decide) (k := 0) (T' := tt_M) (qStOK tv) (M_M_sum l D cI tv) (gV kw_651 kw_652 kw_653 kw_5 kw_654) rfl (by decide +kernel) ⟨by decide, by decide⟩ rfl)) (q_cons (q_CalMap hs (q_subV isX isMo (by decide) (by decide) (by decide) (k := 0) (T' := tt_X) (qStOK tv) (M_X_signs l D cI tv) (gV kw_368 kw_369 kw_370 kw_1 kw_371) rfl (by decide +kernel) ⟨by decide, by decide⟩ rfl)) (q_cons (q_CalMap hs (q_subV isM isXo (by decide) (by decide) (by decide) (k := 0) (T' := tt_M) (qStOK tv) (M_M_signs l D cI tv) (gV kw_716 kw_717 kw_718 kw_5 kw_719) rfl (by decide +kernel) ⟨by decide, by decide⟩ rfl)) (q_cons (q_CalMap hs (q_subV isX isMo (by decide) (by decide) (by decide) (k := 0) (T' := tt_X) (qStOK tv) (M_X_ties l D cI tv) (gV kw_372 kw_373 kw_374 kw_1 kw_375) rfl (by decide +kernel) ⟨by decide, by decide⟩ rfl)) (q_cons (q_CalMap hs (q_subV isM isXo (by decide) (by decide) (by decide) (k := 0) (T' := tt_M) (qStOK tv) (M_M_ties l D cI tv) (gV kw_720 kw_721 kw_722 kw_5 kw_723) rfl (by decide +kernel) ⟨by decide, by decide⟩ rfl)) (q_cons (q_CalMap hs (q_subV isX isMo (by decide) (by decide) (by decide) (k := 2) (T' := tt_X) (qStOK tv) (M_X_name l D cI tv) (gV kw_376 kw_377 kw_378 kw_1 kw_379) rfl (by decide +kernel) ⟨by decide, by decide⟩ rfl)) (q_cons (q_CalMap hs (q_subV isM isXo (by decide) (by decide) (by decide) (k := 2) (T' := tt_M) (qStOK tv) (M_M_name l D cI tv) (gV kw_724 kw_725 kw_726 kw_5 kw_727) rfl (by decide +kernel) ⟨by decide, by decide⟩ rfl)) (q_cons (q_CalMap hs (q_subV isX isMo (by decide) (by decide) (by decide) (k := 1) (T' := tt_X) (qStOK tv) (M_X_keyOf l D cI tv) (gV kw_380 kw_381 kw_382 kw_1 kw_383) rfl (by decide +kernel) ⟨by decide, by decide⟩ rfl)) (q_cons (q_CalMap hs (q_subV isM isXo (by decide) (by decide) (by decide) (k := 1) (T' := tt_M) (qStOK tv) (M_M_keyOf l D cI tv) (gV kw_728 kw_729 kw_730 kw_5 kw_731) rfl (by decide +kernel) ⟨by decide, by decide⟩ rfl)) (q_cons (q_CalMap hs (q_subV isX isMo (by decide) (by decide) (by decide) (k := 0) (T' := tt_X) (qStOK tv) (M_X_turned l D cI tv) (gV kw_384 kw_385 kw_386 kw_1 kw_387) rfl (by decide +kernel) ⟨by decide, by decide⟩ rfl)) (q_cons (q_CalMap hs (q_subV isM isXo (by decide) (by decide) (by decide) (k := 0) (T' := tt_M) (qStOK tv) (M_M_turned l D cI tv) (gV kw_732 kw_733 kw_734 kw_5 kw_735) rfl (by decide +kernel) ⟨by decide, by decide⟩ rfl)) (q_cons (q_CalMap hs (q_subV isX isMo (by decide) (by decide) (by decide) (k := 1) (T' := tt_X) (qStOK tv) (M_X_turn l D cI tv) (gV kw_389 kw_390 kw_391 kw_1 kw_392) rfl (by decide +kernel) ⟨by decide, by decide⟩ rfl)) (q_cons (q_CalMap hs (q_subV isM isXo (by decide) (by decide) (by decide) (k := 1) (T' := tt_M) (qStOK tv) (M_M_turn l D cI tv) (gV kw_740 kw_741 kw_742 kw_5 kw_743) rfl (by decide +kernel) ⟨by decide, by decide⟩ rfl)) (q_cons (q_CalMap hs (q_subV isX isMo (by decide) (by decide) (by decide) (k := 3) (T' := tt_X) (qStOK tv) (M_X_interval l D cI tv) (gV kw_393 kw_394 kw_395 kw_1 kw_396) rfl (by decide +kernel) ⟨by decide, by decide⟩ rfl)) (q_cons (q_CalMap hs (q_subV isM isXo (by decide) (by decide) (by decide) (k := 3) (T' := tt_M) (qStOK tv) (M_M_interval l D cI tv) (gV kw_744 kw_745 kw_746 kw_5 kw_747) rfl (by decide +kernel) ⟨by decide, by decide⟩ rfl)) (q_cons (q_CalMap hs (q_subV isX isMo (by decide) (by decide) (by decide) (k := 2) (T' := tt_X) (qStOK tv) (M_X_quality l D cI tv) (gV kw_401 kw_402 kw_403 kw_1 kw_404) rfl (by decide +kernel) ⟨by decide, by decide⟩ rfl)) (q_cons (q_CalMap hs (q_subV isM isXo (by decide) (by decide) (by decide) (k := 2) (T' := tt_M) (qStOK tv) (M_M_quality l D cI tv) (gV kw_754 kw_755 kw_756 kw_5 kw_757) rfl (by decide +kernel) ⟨by decide, by decide⟩ rfl)) (q_cons (q_CalMap hs (q_subV isX isMo (by decide) (by decide) (by decide) (k := 2) (T' := tt_X) (qStOK tv) (M_X_add l D cI tv) (gV kw_414 kw_415 kw_416 kw_1 kw_417) rfl (by decide +kernel) ⟨by decide, by decide⟩ rfl)) (q_cons (q_CalMap hs (q_subV isM isXo (by decide) (by decide) (by decide) (k := 2) (T' := tt_M) (qStOK tv) (M_M_add l D cI tv) (gV kw_761 kw_762 kw_763 kw_5 kw_764) rfl (by decide +kernel) ⟨by decide, by decide⟩ rfl)) (q_cons (q_CalMap hs (q_subV isX isMo (by decide) (by decide) (by decide) (k := 3) (T' := tt_X) (qStOK tv) (M_X_transpose l D cI tv) (gV kw_418 kw_419 kw_420 kw_1 kw_421) rfl (by decide +kernel) ⟨by decide, by decide⟩ rfl)) (q_cons (q_CalMap hs (q_subV isM isXo (by decide) (by decide) (by decide) (k := 3) (T' := tt_M) (qStOK tv) (M_M_transpose l D cI tv) (gV kw_765 kw_766 kw_767 kw_5 kw_768) rfl (by decide +kernel) ⟨by decide, by decide⟩ rfl)) (q_cons (q_CalMap hs (q_subV isX isMo (by decide) (by decide) (by decide) (k := 3) (T' := tt_X) (qStOK tv) (M_X_micro l D cI tv) (gV kw_422 kw_423 kw_424 kw_1 kw_425) rfl (by decide +kernel) ⟨by decide, by decide⟩ rfl)) (q_cons (q_CalMap hs (q_subV isM isXo (by decide) (by decide) (by decide) (k := 3) (T' := tt_M) (qStOK tv) (M_M_micro l D cI tv) (gV kw_769 kw_770 kw_771 kw_5 kw_772) rfl (by decide +kernel) ⟨by decide, by decide⟩ rfl)) (q_cons (q_CalMap hs (q_subV isM isXo (by decide) (by decide) (by decide) (k := 2) (T' := tt_M) (qStOK tv) (M_M_step l D cI tv) (gV kw_773 kw_774 kw_775 kw_5 kw_776) rfl (by decide +kernel) ⟨by decide, by decide⟩ rfl)) (q_cons (q_CalMap hs (q_subV isM isXo (by decide) (by decide) (by decide) (k := 0) (T' := tt_M) (qStOK tv) (M_M_thrown l D cI tv) (gV kw_617 kw_618 kw_619 kw_5 kw_620) rfl (by decide +kernel) ⟨by decide, by decide⟩ rfl)) (q_cons (q_CalMap hs (q_subV isX isMo (by decide) (by decide) (by decide) (k := 2) (T' := tt_X) (qStOK tv) (M_X_equal l D cI tv) (gV kw_426 kw_427 kw_428 kw_1 kw_429) rfl (by decide +kernel) ⟨by decide, by decide⟩ rfl)) (q_cons (q_CalMap hs (q_subV isM isXo (by decide) (by decide) (by decide) (k := 2) (T' := tt_M) (qStOK tv) (M_M_equal l D cI tv) (gV kw_777 kw_778 kw_779 kw_5 kw_780) rfl (by decide +kernel) ⟨by decide, by decide⟩ rfl)) (q_cons (q_CalMap hs (q_subV isX isMo (by decide) (by decide) (by decide) (k := 2) (T' := tt_X) (qStOK tv) (M_X_scale l D cI tv) (gV kw_430 kw_431 kw_432 kw_1 kw_433) rfl (by decide +kernel) ⟨by decide, by decide⟩ rfl)) (q_cons (q_CalMap hs (q_subV isM isXo (by decide) (by decide) (by decide) (k := 2) (T' := tt_M) (qStOK tv) (M_M_scale l D cI tv) (gV kw_784 kw_785 kw_786 kw_5 kw_787) rfl (by decide +kernel) ⟨by decide, by decide⟩ rfl)) (q_nil))))))))))))))))))))))))))))))))))))))))
theorem kI_L_ok (hs : ∀ (A : Nat → Prop) (U : State) (H : Heap), St A U H → qSt tv A U H) : ∀ q ∈ kI_L_law cI tv, q_CalOK l room_1 code 7 "SpellPitchLaw" (c :: aW) D cls5 cI St (.invokespecial q.1) q.2.1 q.2.2.1 q.2.2.2.1 q.2.2.2.2 := q_cons (q_CalMap hs (q_callI (k := 0) (ci := 3) (qStOK tv) (M_X_init l D cI tv) (gW kw_16) rfl (aW_in kw_1) (aW_in kw_14) (aW_in kw_15) rfl (by decide +kernel) ⟨by decide, by decide⟩)) (q_cons (q_CalMap hs (q_subI [24] isX (by decide) (by decide) (by decide) (k := 0) (ci := 4) (qStOK tv) (M_M_init l D cI tv) (gW kw_512) rfl (aW_in kw_5) (aW_in kw_510) (aW_in kw_511) rfl (by decide +kernel) ⟨by decide, by decide⟩)) (q_nil))
end LT
