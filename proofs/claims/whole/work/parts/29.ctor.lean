/-! CONSTRUCTORS of the nested classes -/
theorem wc_98 : Cond.methodLink RX1 3 Lib.objectInit ∈ WT := wtm 98 (by decide +kernel)
theorem wc_99 : Cond.fieldLink RX1 9 RX1 "stores" "[I" ∈ WT := wtm 99 (by decide +kernel)
theorem wc_103 : Cond.fieldLink RX1 15 RX1 "prides" "[I" ∈ WT := wtm 103 (by decide +kernel)
theorem wc_106 : Cond.fieldLink RX1 18 RX1 "kinds" "[I" ∈ WT := wtm 106 (by decide +kernel)
theorem wc_109 : Cond.fieldLink RX1 21 RX1 "numbers" "[I" ∈ WT := wtm 109 (by decide +kernel)
theorem wc_112 : Cond.fieldLink RX1 24 RX1 "needs" "[I" ∈ WT := wtm 112 (by decide +kernel)
theorem wc_114 : Cond.fieldLink RX1 27 RX1 "cooked" "[I" ∈ WT := wtm 114 (by decide +kernel)
theorem wc_116 : Cond.fieldLink RX1 30 RX1 "dishCount" "I" ∈ WT := wtm 116 (by decide +kernel)
theorem wc_120 : Cond.fieldLink RX1 34 RX1 "hour" "I" ∈ WT := wtm 120 (by decide +kernel)
theorem wc_123 : Cond.fieldLink RX1 37 RX1 "rule" "I" ∈ WT := wtm 123 (by decide +kernel)
theorem wc_153 : Cond.methodLink RX5 3 Lib.objectInit ∈ WT := wtm 153 (by decide +kernel)
theorem wc_154 : Cond.fieldLink RX5 9 RX5 "tape" "[I" ∈ WT := wtm 154 (by decide +kernel)
theorem wc_155 : Cond.fieldLink RX5 15 RX5 "size" "I" ∈ WT := wtm 155 (by decide +kernel)
theorem wc_157 : Cond.fieldLink RX5 19 RX5 "at" "I" ∈ WT := wtm 157 (by decide +kernel)
theorem wc_158 : Cond.fieldLink RX5 22 RX5 "token" "I" ∈ WT := wtm 158 (by decide +kernel)
theorem wc_159 : Cond.fieldLink RX5 25 RX5 "place" "I" ∈ WT := wtm 159 (by decide +kernel)
theorem wc_160 : Cond.fieldLink RX5 28 RX5 "code" "I" ∈ WT := wtm 160 (by decide +kernel)
theorem wc_161 : Cond.fieldLink RX5 31 RX5 "fault" "I" ∈ WT := wtm 161 (by decide +kernel)
theorem wc_183 : Cond.methodLink RX7 3 Lib.objectInit ∈ WT := wtm 183 (by decide +kernel)
theorem wc_184 : Cond.fieldLink RX7 9 RX7 "codes" "[I" ∈ WT := wtm 184 (by decide +kernel)
theorem wc_185 : Cond.fieldLink RX7 15 RX7 "ends" "[I" ∈ WT := wtm 185 (by decide +kernel)
theorem wc_186 : Cond.fieldLink RX7 18 RX7 "size" "I" ∈ WT := wtm 186 (by decide +kernel)
theorem wc_198 : Cond.methodLink RX6 3 Lib.objectInit ∈ WT := wtm 198 (by decide +kernel)
theorem wc_199 : Cond.fieldLink RX6 11 RX6 "sort" "I" ∈ WT := wtm 199 (by decide +kernel)
theorem wc_201 : Cond.fieldLink RX6 15 RX6 "size" "I" ∈ WT := wtm 201 (by decide +kernel)
theorem wc_203 : Cond.fieldLink RX6 18 RX6 "items" "[I" ∈ WT := wtm 203 (by decide +kernel)
theorem wc_361 : Cond.methodLink RX0 3 Lib.objectInit ∈ WT := wtm 361 (by decide +kernel)
theorem wc_362 : Cond.fieldLink RX0 59 RX0 "texts" "[LMenuIsATreaty$Text;" ∈ WT := wtm 362 (by decide +kernel)
theorem wc_363 : Cond.fieldLink RX0 63 RX0 "rule" "LMenuIsATreaty$Text;" ∈ WT := wtm 363 (by decide +kernel)
theorem wc_364 : Cond.fieldLink RX0 9 RX0 "kind" "I" ∈ WT := wtm 364 (by decide +kernel)
theorem wc_365 : Cond.fieldLink RX0 15 RX0 "number" "I" ∈ WT := wtm 365 (by decide +kernel)
theorem wc_366 : Cond.fieldLink RX0 18 RX0 "hour" "I" ∈ WT := wtm 366 (by decide +kernel)
theorem wc_367 : Cond.fieldLink RX0 21 RX0 "prides" "[I" ∈ WT := wtm 367 (by decide +kernel)
theorem wc_368 : Cond.fieldLink RX0 25 RX0 "needs" "[I" ∈ WT := wtm 368 (by decide +kernel)
theorem wc_369 : Cond.fieldLink RX0 28 RX0 "needsTogether" "I" ∈ WT := wtm 369 (by decide +kernel)
theorem wc_370 : Cond.fieldLink RX0 33 RX0 "names" "[I" ∈ WT := wtm 370 (by decide +kernel)
theorem wc_371 : Cond.fieldLink RX0 36 RX0 "stack" "[I" ∈ WT := wtm 371 (by decide +kernel)
theorem wc_372 : Cond.fieldLink RX0 39 RX0 "crossing" "[I" ∈ WT := wtm 372 (by decide +kernel)
theorem wc_373 : Cond.fieldLink RX0 42 RX0 "signed" "[Z" ∈ WT := wtm 373 (by decide +kernel)
theorem wc_375 : Cond.fieldLink RX0 46 RX0 "canBe" "Z" ∈ WT := wtm 375 (by decide +kernel)
theorem wc_377 : Cond.fieldLink RX0 50 RX0 "crosses" "I" ∈ WT := wtm 377 (by decide +kernel)
theorem wc_379 : Cond.fieldLink RX0 53 RX0 "toll" "I" ∈ WT := wtm 379 (by decide +kernel)
theorem wc_383 : Cond.fieldLink RX0 56 RX0 "fed" "I" ∈ WT := wtm 383 (by decide +kernel)
theorem wc_427 : Cond.methodLink RX4 3 Lib.objectInit ∈ WT := wtm 427 (by decide +kernel)
theorem wc_428 : Cond.fieldLink RX4 28 RX4 "house" "LMenuIsATreaty$House;" ∈ WT := wtm 428 (by decide +kernel)
theorem wc_429 : Cond.fieldLink RX4 32 RX4 "cooking" "LMenuIsATreaty$Cooking;" ∈ WT := wtm 429 (by decide +kernel)
theorem wc_430 : Cond.fieldLink RX4 9 RX4 "stores" "[I" ∈ WT := wtm 430 (by decide +kernel)
theorem wc_432 : Cond.fieldLink RX4 15 RX4 "fed" "I" ∈ WT := wtm 432 (by decide +kernel)
theorem wc_434 : Cond.fieldLink RX4 19 RX4 "fedAtFirst" "I" ∈ WT := wtm 434 (by decide +kernel)
theorem wc_436 : Cond.fieldLink RX4 22 RX4 "toll" "I" ∈ WT := wtm 436 (by decide +kernel)
theorem wc_438 : Cond.fieldLink RX4 25 RX4 "failed" "I" ∈ WT := wtm 438 (by decide +kernel)
theorem wc_460 : Cond.methodLink RX3 3 Lib.objectInit ∈ WT := wtm 460 (by decide +kernel)
theorem wc_461 : Cond.classLink RX3 9 "[[I" ∈ WT := wtm 461 (by decide +kernel)
theorem wc_463 : Cond.fieldLink RX3 41 RX3 "house" "LMenuIsATreaty$House;" ∈ WT := wtm 463 (by decide +kernel)
theorem wc_464 : Cond.fieldLink RX3 45 RX3 "cooking" "LMenuIsATreaty$Cooking;" ∈ WT := wtm 464 (by decide +kernel)
theorem wc_465 : Cond.fieldLink RX3 11 RX3 "stores" "[[I" ∈ WT := wtm 465 (by decide +kernel)
theorem wc_466 : Cond.fieldLink RX3 16 RX3 "barred" "I" ∈ WT := wtm 466 (by decide +kernel)
theorem wc_467 : Cond.fieldLink RX3 20 RX3 "best" "I" ∈ WT := wtm 467 (by decide +kernel)
theorem wc_469 : Cond.fieldLink RX3 23 RX3 "bestWorth" "I" ∈ WT := wtm 469 (by decide +kernel)
theorem wc_471 : Cond.fieldLink RX3 26 RX3 "feast" "I" ∈ WT := wtm 471 (by decide +kernel)
theorem wc_473 : Cond.fieldLink RX3 29 RX3 "feastFed" "I" ∈ WT := wtm 473 (by decide +kernel)
theorem wc_475 : Cond.fieldLink RX3 32 RX3 "peace" "I" ∈ WT := wtm 475 (by decide +kernel)
theorem wc_477 : Cond.fieldLink RX3 35 RX3 "peaceToll" "I" ∈ WT := wtm 477 (by decide +kernel)
theorem wc_479 : Cond.fieldLink RX3 38 RX3 "peaceCount" "I" ∈ WT := wtm 479 (by decide +kernel)
theorem mii_X1 : MII yX1_init cX1_init 1 0 := ⟨wtm 97 (by decide +kernel), wtm 96 (by decide +kernel), wtm 70 (by decide +kernel), by decide, by decide +kernel, rfl⟩
theorem mii_X7 : MII yX7_init cX7_init 1 0 := ⟨wtm 182 (by decide +kernel), wtm 181 (by decide +kernel), wtm 72 (by decide +kernel), by decide, by decide +kernel, rfl⟩
theorem mii_X6 : MII yX6_init cX6_init 1 0 := ⟨wtm 197 (by decide +kernel), wtm 196 (by decide +kernel), wtm 73 (by decide +kernel), by decide, by decide +kernel, rfl⟩
theorem mii_X5 : MII yX5_init cX5_init 1 0 := ⟨wtm 152 (by decide +kernel), wtm 151 (by decide +kernel), wtm 71 (by decide +kernel), by decide, by decide +kernel, rfl⟩
theorem mii_X4 : MII yX4_init cX4_init 3 2 := ⟨wtm 426 (by decide +kernel), wtm 425 (by decide +kernel), wtm 79 (by decide +kernel), by decide, by decide +kernel, rfl⟩
theorem mii_X3 : MII yX3_init cX3_init 3 2 := ⟨wtm 459 (by decide +kernel), wtm 458 (by decide +kernel), wtm 80 (by decide +kernel), by decide, by decide +kernel, rfl⟩
theorem mii_X0 : MII yX0_init cX0_init 2 1 := ⟨wtm 360 (by decide +kernel), wtm 359 (by decide +kernel), wtm 78 (by decide +kernel), by decide, by decide +kernel, rfl⟩
theorem dX1_init_g0 : decode cX1_init 0 = .ok (.aload_n 0, 1) ∧ decode cX1_init 1 = .ok (.invokespecial 3, 3) ∧ decode cX1_init 4 = .ok (.aload_n 0, 1) ∧ decode cX1_init 5 = .ok (.bipush 12, 2) ∧ decode cX1_init 7 = .ok (.newarray .int, 2) ∧ decode cX1_init 9 = .ok (.putfield 9, 3) ∧ decode cX1_init 12 = .ok (.aload_n 0, 1) ∧ decode cX1_init 13 = .ok (.iconst 2, 1) ∧ decode cX1_init 14 = .ok (.newarray .int, 2) ∧ decode cX1_init 16 = .ok (.dup, 1) ∧ decode cX1_init 17 = .ok (.iconst 0, 1) ∧ decode cX1_init 18 = .ok (.bipush 10, 2) := by decide +kernel
theorem dX1_init_g1 : decode cX1_init 20 = .ok (.iastore, 1) ∧ decode cX1_init 21 = .ok (.dup, 1) ∧ decode cX1_init 22 = .ok (.iconst 1, 1) ∧ decode cX1_init 23 = .ok (.bipush 10, 2) ∧ decode cX1_init 25 = .ok (.iastore, 1) ∧ decode cX1_init 26 = .ok (.putfield 15, 3) ∧ decode cX1_init 29 = .ok (.aload_n 0, 1) ∧ decode cX1_init 30 = .ok (.bipush 6, 2) ∧ decode cX1_init 32 = .ok (.newarray .int, 2) ∧ decode cX1_init 34 = .ok (.putfield 18, 3) ∧ decode cX1_init 37 = .ok (.aload_n 0, 1) ∧ decode cX1_init 38 = .ok (.bipush 6, 2) := by decide +kernel
theorem dX1_init_g2 : decode cX1_init 40 = .ok (.newarray .int, 2) ∧ decode cX1_init 42 = .ok (.putfield 21, 3) ∧ decode cX1_init 45 = .ok (.aload_n 0, 1) ∧ decode cX1_init 46 = .ok (.bipush 6, 2) ∧ decode cX1_init 48 = .ok (.newarray .int, 2) ∧ decode cX1_init 50 = .ok (.putfield 24, 3) ∧ decode cX1_init 53 = .ok (.aload_n 0, 1) ∧ decode cX1_init 54 = .ok (.bipush 6, 2) ∧ decode cX1_init 56 = .ok (.newarray .int, 2) ∧ decode cX1_init 58 = .ok (.putfield 27, 3) ∧ decode cX1_init 61 = .ok (.aload_n 0, 1) ∧ decode cX1_init 62 = .ok (.iconst 0, 1) := by decide +kernel
theorem dX1_init_g3 : decode cX1_init 63 = .ok (.putfield 30, 3) ∧ decode cX1_init 66 = .ok (.aload_n 0, 1) ∧ decode cX1_init 67 = .ok (.iconst 0, 1) ∧ decode cX1_init 68 = .ok (.putfield 34, 3) ∧ decode cX1_init 71 = .ok (.aload_n 0, 1) ∧ decode cX1_init 72 = .ok (.iconst 0, 1) ∧ decode cX1_init 73 = .ok (.putfield 37, 3) ∧ decode cX1_init 76 = .ok (.return_, 1) := by decide +kernel
theorem dX7_init_g0 : decode cX7_init 0 = .ok (.aload_n 0, 1) ∧ decode cX7_init 1 = .ok (.invokespecial 3, 3) ∧ decode cX7_init 4 = .ok (.aload_n 0, 1) ∧ decode cX7_init 5 = .ok (.sipush 160, 3) ∧ decode cX7_init 8 = .ok (.newarray .int, 2) ∧ decode cX7_init 10 = .ok (.putfield 9, 3) ∧ decode cX7_init 13 = .ok (.aload_n 0, 1) ∧ decode cX7_init 14 = .ok (.iconst 3, 1) ∧ decode cX7_init 15 = .ok (.newarray .int, 2) ∧ decode cX7_init 17 = .ok (.putfield 15, 3) ∧ decode cX7_init 20 = .ok (.aload_n 0, 1) ∧ decode cX7_init 21 = .ok (.iconst 0, 1) := by decide +kernel
theorem dX7_init_g1 : decode cX7_init 22 = .ok (.putfield 18, 3) ∧ decode cX7_init 25 = .ok (.return_, 1) := by decide +kernel
theorem dX6_init_g0 : decode cX6_init 0 = .ok (.aload_n 0, 1) ∧ decode cX6_init 1 = .ok (.invokespecial 3, 3) ∧ decode cX6_init 4 = .ok (.aload_n 0, 1) ∧ decode cX6_init 5 = .ok (.iconst (-1), 1) ∧ decode cX6_init 6 = .ok (.putfield 11, 3) ∧ decode cX6_init 9 = .ok (.aload_n 0, 1) ∧ decode cX6_init 10 = .ok (.iconst 0, 1) ∧ decode cX6_init 11 = .ok (.putfield 15, 3) ∧ decode cX6_init 14 = .ok (.aload_n 0, 1) ∧ decode cX6_init 15 = .ok (.bipush 40, 2) ∧ decode cX6_init 17 = .ok (.newarray .int, 2) ∧ decode cX6_init 19 = .ok (.putfield 18, 3) := by decide +kernel
theorem dX6_init_g1 : decode cX6_init 22 = .ok (.return_, 1) := by decide +kernel
theorem dX5_init_g0 : decode cX5_init 0 = .ok (.aload_n 0, 1) ∧ decode cX5_init 1 = .ok (.invokespecial 3, 3) ∧ decode cX5_init 4 = .ok (.aload_n 0, 1) ∧ decode cX5_init 5 = .ok (.sipush 160, 3) ∧ decode cX5_init 8 = .ok (.newarray .int, 2) ∧ decode cX5_init 10 = .ok (.putfield 9, 3) ∧ decode cX5_init 13 = .ok (.aload_n 0, 1) ∧ decode cX5_init 14 = .ok (.iconst 0, 1) ∧ decode cX5_init 15 = .ok (.putfield 15, 3) ∧ decode cX5_init 18 = .ok (.aload_n 0, 1) ∧ decode cX5_init 19 = .ok (.iconst 0, 1) ∧ decode cX5_init 20 = .ok (.putfield 19, 3) := by decide +kernel
theorem dX5_init_g1 : decode cX5_init 23 = .ok (.aload_n 0, 1) ∧ decode cX5_init 24 = .ok (.sipush 256, 3) ∧ decode cX5_init 27 = .ok (.putfield 22, 3) ∧ decode cX5_init 30 = .ok (.aload_n 0, 1) ∧ decode cX5_init 31 = .ok (.iconst 0, 1) ∧ decode cX5_init 32 = .ok (.putfield 25, 3) ∧ decode cX5_init 35 = .ok (.aload_n 0, 1) ∧ decode cX5_init 36 = .ok (.iconst 0, 1) ∧ decode cX5_init 37 = .ok (.putfield 28, 3) ∧ decode cX5_init 40 = .ok (.aload_n 0, 1) ∧ decode cX5_init 41 = .ok (.iconst (-1), 1) ∧ decode cX5_init 42 = .ok (.putfield 31, 3) := by decide +kernel
theorem dX5_init_g2 : decode cX5_init 45 = .ok (.return_, 1) := by decide +kernel
theorem dX4_init_g0 : decode cX4_init 0 = .ok (.aload_n 0, 1) ∧ decode cX4_init 1 = .ok (.invokespecial 3, 3) ∧ decode cX4_init 4 = .ok (.aload_n 0, 1) ∧ decode cX4_init 5 = .ok (.bipush 12, 2) ∧ decode cX4_init 7 = .ok (.newarray .int, 2) ∧ decode cX4_init 9 = .ok (.putfield 9, 3) ∧ decode cX4_init 12 = .ok (.aload_n 0, 1) ∧ decode cX4_init 13 = .ok (.iconst 0, 1) ∧ decode cX4_init 14 = .ok (.putfield 15, 3) ∧ decode cX4_init 17 = .ok (.aload_n 0, 1) ∧ decode cX4_init 18 = .ok (.iconst 0, 1) ∧ decode cX4_init 19 = .ok (.putfield 19, 3) := by decide +kernel
theorem dX4_init_g1 : decode cX4_init 22 = .ok (.aload_n 0, 1) ∧ decode cX4_init 23 = .ok (.iconst 0, 1) ∧ decode cX4_init 24 = .ok (.putfield 22, 3) ∧ decode cX4_init 27 = .ok (.aload_n 0, 1) ∧ decode cX4_init 28 = .ok (.iconst (-1), 1) ∧ decode cX4_init 29 = .ok (.putfield 25, 3) ∧ decode cX4_init 32 = .ok (.aload_n 0, 1) ∧ decode cX4_init 33 = .ok (.aload_n 1, 1) ∧ decode cX4_init 34 = .ok (.putfield 28, 3) ∧ decode cX4_init 37 = .ok (.aload_n 0, 1) ∧ decode cX4_init 38 = .ok (.aload_n 2, 1) ∧ decode cX4_init 39 = .ok (.putfield 32, 3) := by decide +kernel
theorem dX4_init_g2 : decode cX4_init 42 = .ok (.return_, 1) := by decide +kernel
theorem dX3_init_g0 : decode cX3_init 0 = .ok (.aload_n 0, 1) ∧ decode cX3_init 1 = .ok (.invokespecial 3, 3) ∧ decode cX3_init 4 = .ok (.aload_n 0, 1) ∧ decode cX3_init 5 = .ok (.bipush 7, 2) ∧ decode cX3_init 7 = .ok (.bipush 12, 2) ∧ decode cX3_init 9 = .ok (.multianewarray 9 2, 4) ∧ decode cX3_init 13 = .ok (.putfield 11, 3) ∧ decode cX3_init 16 = .ok (.aload_n 0, 1) ∧ decode cX3_init 17 = .ok (.iconst (-1), 1) ∧ decode cX3_init 18 = .ok (.putfield 16, 3) ∧ decode cX3_init 21 = .ok (.aload_n 0, 1) ∧ decode cX3_init 22 = .ok (.iconst 0, 1) := by decide +kernel
theorem dX3_init_g1 : decode cX3_init 23 = .ok (.putfield 20, 3) ∧ decode cX3_init 26 = .ok (.aload_n 0, 1) ∧ decode cX3_init 27 = .ok (.iconst 0, 1) ∧ decode cX3_init 28 = .ok (.putfield 23, 3) ∧ decode cX3_init 31 = .ok (.aload_n 0, 1) ∧ decode cX3_init 32 = .ok (.iconst 0, 1) ∧ decode cX3_init 33 = .ok (.putfield 26, 3) ∧ decode cX3_init 36 = .ok (.aload_n 0, 1) ∧ decode cX3_init 37 = .ok (.iconst 0, 1) ∧ decode cX3_init 38 = .ok (.putfield 29, 3) ∧ decode cX3_init 41 = .ok (.aload_n 0, 1) ∧ decode cX3_init 42 = .ok (.iconst 0, 1) := by decide +kernel
theorem dX3_init_g2 : decode cX3_init 43 = .ok (.putfield 32, 3) ∧ decode cX3_init 46 = .ok (.aload_n 0, 1) ∧ decode cX3_init 47 = .ok (.iconst 0, 1) ∧ decode cX3_init 48 = .ok (.putfield 35, 3) ∧ decode cX3_init 51 = .ok (.aload_n 0, 1) ∧ decode cX3_init 52 = .ok (.iconst 0, 1) ∧ decode cX3_init 53 = .ok (.putfield 38, 3) ∧ decode cX3_init 56 = .ok (.aload_n 0, 1) ∧ decode cX3_init 57 = .ok (.aload_n 1, 1) ∧ decode cX3_init 58 = .ok (.putfield 41, 3) ∧ decode cX3_init 61 = .ok (.aload_n 0, 1) ∧ decode cX3_init 62 = .ok (.aload_n 2, 1) := by decide +kernel
theorem dX3_init_g3 : decode cX3_init 63 = .ok (.putfield 45, 3) ∧ decode cX3_init 66 = .ok (.return_, 1) := by decide +kernel
theorem dX0_init_g0 : decode cX0_init 0 = .ok (.aload_n 0, 1) ∧ decode cX0_init 1 = .ok (.invokespecial 3, 3) ∧ decode cX0_init 4 = .ok (.aload_n 0, 1) ∧ decode cX0_init 5 = .ok (.iconst 0, 1) ∧ decode cX0_init 6 = .ok (.putfield 9, 3) ∧ decode cX0_init 9 = .ok (.aload_n 0, 1) ∧ decode cX0_init 10 = .ok (.iconst 0, 1) ∧ decode cX0_init 11 = .ok (.putfield 15, 3) ∧ decode cX0_init 14 = .ok (.aload_n 0, 1) ∧ decode cX0_init 15 = .ok (.iconst 0, 1) ∧ decode cX0_init 16 = .ok (.putfield 18, 3) ∧ decode cX0_init 19 = .ok (.aload_n 0, 1) := by decide +kernel
theorem dX0_init_g1 : decode cX0_init 20 = .ok (.iconst 2, 1) ∧ decode cX0_init 21 = .ok (.newarray .int, 2) ∧ decode cX0_init 23 = .ok (.putfield 21, 3) ∧ decode cX0_init 26 = .ok (.aload_n 0, 1) ∧ decode cX0_init 27 = .ok (.bipush 6, 2) ∧ decode cX0_init 29 = .ok (.newarray .int, 2) ∧ decode cX0_init 31 = .ok (.putfield 25, 3) ∧ decode cX0_init 34 = .ok (.aload_n 0, 1) ∧ decode cX0_init 35 = .ok (.iconst 0, 1) ∧ decode cX0_init 36 = .ok (.putfield 28, 3) ∧ decode cX0_init 39 = .ok (.aload_n 0, 1) ∧ decode cX0_init 40 = .ok (.bipush 6, 2) := by decide +kernel
theorem dX0_init_g2 : decode cX0_init 42 = .ok (.newarray .int, 2) ∧ decode cX0_init 44 = .ok (.putfield 33, 3) ∧ decode cX0_init 47 = .ok (.aload_n 0, 1) ∧ decode cX0_init 48 = .ok (.sipush 160, 3) ∧ decode cX0_init 51 = .ok (.newarray .int, 2) ∧ decode cX0_init 53 = .ok (.putfield 36, 3) ∧ decode cX0_init 56 = .ok (.aload_n 0, 1) ∧ decode cX0_init 57 = .ok (.bipush 6, 2) ∧ decode cX0_init 59 = .ok (.newarray .int, 2) ∧ decode cX0_init 61 = .ok (.putfield 39, 3) ∧ decode cX0_init 64 = .ok (.aload_n 0, 1) ∧ decode cX0_init 65 = .ok (.iconst 2, 1) := by decide +kernel
theorem dX0_init_g3 : decode cX0_init 66 = .ok (.newarray .boolean, 2) ∧ decode cX0_init 68 = .ok (.putfield 42, 3) ∧ decode cX0_init 71 = .ok (.aload_n 0, 1) ∧ decode cX0_init 72 = .ok (.iconst 0, 1) ∧ decode cX0_init 73 = .ok (.putfield 46, 3) ∧ decode cX0_init 76 = .ok (.aload_n 0, 1) ∧ decode cX0_init 77 = .ok (.iconst 0, 1) ∧ decode cX0_init 78 = .ok (.putfield 50, 3) ∧ decode cX0_init 81 = .ok (.aload_n 0, 1) ∧ decode cX0_init 82 = .ok (.iconst 0, 1) ∧ decode cX0_init 83 = .ok (.putfield 53, 3) ∧ decode cX0_init 86 = .ok (.aload_n 0, 1) := by decide +kernel
theorem dX0_init_g4 : decode cX0_init 87 = .ok (.iconst 0, 1) ∧ decode cX0_init 88 = .ok (.putfield 56, 3) ∧ decode cX0_init 91 = .ok (.aload_n 0, 1) ∧ decode cX0_init 92 = .ok (.aload_n 1, 1) ∧ decode cX0_init 93 = .ok (.putfield 59, 3) ∧ decode cX0_init 96 = .ok (.aload_n 0, 1) ∧ decode cX0_init 97 = .ok (.aload_n 1, 1) ∧ decode cX0_init 98 = .ok (.iconst 0, 1) ∧ decode cX0_init 99 = .ok (.aaload, 1) ∧ decode cX0_init 100 = .ok (.putfield 63, 3) ∧ decode cX0_init 103 = .ok (.return_, 1) := by decide +kernel
def gX1 (cA : Nat → ClassId) (a : Nat) (u : Nat → Nat) : va_W := [(a, .inr (1, [.ref (u 0), .ref (u 1), .ref (u 2), .ref (u 3), .ref (u 4), .ref (u 5), .int 0, .int 0, .int 0])), ((u 0), .inl (cA 0, 12, .inl (fun _ => 0))), ((u 1), .inl (cA 0, 2, .inl (upd (upd (fun _ => 0) 0 10) 1 10))), ((u 2), .inl (cA 0, 6, .inl (fun _ => 0))), ((u 3), .inl (cA 0, 6, .inl (fun _ => 0))), ((u 4), .inl (cA 0, 6, .inl (fun _ => 0))), ((u 5), .inl (cA 0, 6, .inl (fun _ => 0)))]
set_option maxHeartbeats 4000000 in
set_option maxRecDepth 100000 in
theorem c_X1_init {l : Launch} {D : va_G} {cA : Nat → ClassId} (a : Nat) : CtX l D cA yX1_init cX1_init 1 1 6 38 [.ref a] [(a, .inr (1, [.null, .null, .null, .null, .null, .null, .int 0, .int 0, .int 0]))] (gX1 cA a ) := by
  refine ct_X (by decide) rfl (Nat.le_of_ble_eq_true rfl) (fun p e s m args below meth c C hrt => ?_)
  refine wx_aload_n 0 C dX1_init_g0.1 rfl ?_
  refine wx_obj C wc_98 (by decide) ⟨Nat.le_of_ble_eq_true rfl, Nat.le_of_ble_eq_true rfl⟩ dX1_init_g0.2.1 ?_
  refine wx_aload_n 0 C dX1_init_g0.2.2.1 rfl ?_
  refine wx_bipush (v := 12) C dX1_init_g0.2.2.2.1 (by decide) ?_
  refine wx_newI (N := 12) C (by decide) (by decide) (Nat.le_of_ble_eq_true rfl) (Nat.le_of_ble_eq_true rfl) (Nat.le_of_ble_eq_true rfl) dX1_init_g0.2.2.2.2.1 (fun q0 => ?_)
  refine wx_ws (ws' := [(a, .inr (1, [.null, .null, .null, .null, .null, .null, .int 0, .int 0, .int 0])), (q0, .inl (cA 0, 12, .inl (fun _ => 0)))]) rfl ?_
  refine wx_putF (i := 0) (ci := 1) (k := 0) (ws' := [(a, .inr (1, [.ref q0, .null, .null, .null, .null, .null, .int 0, .int 0, .int 0])), (q0, .inl (cA 0, 12, .inl (fun _ => 0)))]) C rfl rfl (by decide) wc_99 iwX1 tyX1_ok nmX1 rfl rfl rfl rfl rfl (Nat.le_of_ble_eq_true rfl) rfl dX1_init_g0.2.2.2.2.2.1 ?_
  refine wx_aload_n 0 C dX1_init_g0.2.2.2.2.2.2.1 rfl ?_
  refine wx_iconst (v := 2) C dX1_init_g0.2.2.2.2.2.2.2.1 (by decide) ?_
  refine wx_newI (N := 2) C (by decide) (by decide) (Nat.le_of_ble_eq_true rfl) (Nat.le_of_ble_eq_true rfl) (Nat.le_of_ble_eq_true rfl) dX1_init_g0.2.2.2.2.2.2.2.2.1 (fun q1 => ?_)
  refine wx_ws (ws' := [(a, .inr (1, [.ref q0, .null, .null, .null, .null, .null, .int 0, .int 0, .int 0])), (q0, .inl (cA 0, 12, .inl (fun _ => 0))), (q1, .inl (cA 0, 2, .inl (fun _ => 0)))]) rfl ?_
  refine wx_dup C dX1_init_g0.2.2.2.2.2.2.2.2.2.1 rfl ?_
  refine wx_iconst (v := 0) C dX1_init_g0.2.2.2.2.2.2.2.2.2.2.1 (by decide) ?_
  refine wx_bipush (v := 10) C dX1_init_g0.2.2.2.2.2.2.2.2.2.2.2 (by decide) ?_
  refine wx_iast (i := 2) (n := 2) (ws' := [(a, .inr (1, [.ref q0, .null, .null, .null, .null, .null, .int 0, .int 0, .int 0])), (q0, .inl (cA 0, 12, .inl (fun _ => 0))), (q1, .inl (cA 0, 2, .inl (upd (fun _ => 0) 0 10)))]) C rfl (by decide) rfl dX1_init_g1.1 ?_
  refine wx_dup C dX1_init_g1.2.1 rfl ?_
  refine wx_iconst (v := 1) C dX1_init_g1.2.2.1 (by decide) ?_
  refine wx_bipush (v := 10) C dX1_init_g1.2.2.2.1 (by decide) ?_
  refine wx_iast (i := 2) (n := 2) (ws' := [(a, .inr (1, [.ref q0, .null, .null, .null, .null, .null, .int 0, .int 0, .int 0])), (q0, .inl (cA 0, 12, .inl (fun _ => 0))), (q1, .inl (cA 0, 2, .inl (upd (upd (fun _ => 0) 0 10) 1 10)))]) C rfl (by decide) rfl dX1_init_g1.2.2.2.2.1 ?_
  refine wx_putF (i := 0) (ci := 1) (k := 1) (ws' := [(a, .inr (1, [.ref q0, .ref q1, .null, .null, .null, .null, .int 0, .int 0, .int 0])), (q0, .inl (cA 0, 12, .inl (fun _ => 0))), (q1, .inl (cA 0, 2, .inl (upd (upd (fun _ => 0) 0 10) 1 10)))]) C rfl rfl (by decide) wc_103 iwX1 tyX1_ok nmX1 rfl rfl rfl rfl rfl (Nat.le_of_ble_eq_true rfl) rfl dX1_init_g1.2.2.2.2.2.1 ?_
  refine wx_aload_n 0 C dX1_init_g1.2.2.2.2.2.2.1 rfl ?_
  refine wx_bipush (v := 6) C dX1_init_g1.2.2.2.2.2.2.2.1 (by decide) ?_
  refine wx_newI (N := 6) C (by decide) (by decide) (Nat.le_of_ble_eq_true rfl) (Nat.le_of_ble_eq_true rfl) (Nat.le_of_ble_eq_true rfl) dX1_init_g1.2.2.2.2.2.2.2.2.1 (fun q2 => ?_)
  refine wx_ws (ws' := [(a, .inr (1, [.ref q0, .ref q1, .null, .null, .null, .null, .int 0, .int 0, .int 0])), (q0, .inl (cA 0, 12, .inl (fun _ => 0))), (q1, .inl (cA 0, 2, .inl (upd (upd (fun _ => 0) 0 10) 1 10))), (q2, .inl (cA 0, 6, .inl (fun _ => 0)))]) rfl ?_
  refine wx_putF (i := 0) (ci := 1) (k := 2) (ws' := [(a, .inr (1, [.ref q0, .ref q1, .ref q2, .null, .null, .null, .int 0, .int 0, .int 0])), (q0, .inl (cA 0, 12, .inl (fun _ => 0))), (q1, .inl (cA 0, 2, .inl (upd (upd (fun _ => 0) 0 10) 1 10))), (q2, .inl (cA 0, 6, .inl (fun _ => 0)))]) C rfl rfl (by decide) wc_106 iwX1 tyX1_ok nmX1 rfl rfl rfl rfl rfl (Nat.le_of_ble_eq_true rfl) rfl dX1_init_g1.2.2.2.2.2.2.2.2.2.1 ?_
  refine wx_aload_n 0 C dX1_init_g1.2.2.2.2.2.2.2.2.2.2.1 rfl ?_
  refine wx_bipush (v := 6) C dX1_init_g1.2.2.2.2.2.2.2.2.2.2.2 (by decide) ?_
  refine wx_newI (N := 6) C (by decide) (by decide) (Nat.le_of_ble_eq_true rfl) (Nat.le_of_ble_eq_true rfl) (Nat.le_of_ble_eq_true rfl) dX1_init_g2.1 (fun q3 => ?_)
  refine wx_ws (ws' := [(a, .inr (1, [.ref q0, .ref q1, .ref q2, .null, .null, .null, .int 0, .int 0, .int 0])), (q0, .inl (cA 0, 12, .inl (fun _ => 0))), (q1, .inl (cA 0, 2, .inl (upd (upd (fun _ => 0) 0 10) 1 10))), (q2, .inl (cA 0, 6, .inl (fun _ => 0))), (q3, .inl (cA 0, 6, .inl (fun _ => 0)))]) rfl ?_
  refine wx_putF (i := 0) (ci := 1) (k := 3) (ws' := [(a, .inr (1, [.ref q0, .ref q1, .ref q2, .ref q3, .null, .null, .int 0, .int 0, .int 0])), (q0, .inl (cA 0, 12, .inl (fun _ => 0))), (q1, .inl (cA 0, 2, .inl (upd (upd (fun _ => 0) 0 10) 1 10))), (q2, .inl (cA 0, 6, .inl (fun _ => 0))), (q3, .inl (cA 0, 6, .inl (fun _ => 0)))]) C rfl rfl (by decide) wc_109 iwX1 tyX1_ok nmX1 rfl rfl rfl rfl rfl (Nat.le_of_ble_eq_true rfl) rfl dX1_init_g2.2.1 ?_
  refine wx_aload_n 0 C dX1_init_g2.2.2.1 rfl ?_
  refine wx_bipush (v := 6) C dX1_init_g2.2.2.2.1 (by decide) ?_
  refine wx_newI (N := 6) C (by decide) (by decide) (Nat.le_of_ble_eq_true rfl) (Nat.le_of_ble_eq_true rfl) (Nat.le_of_ble_eq_true rfl) dX1_init_g2.2.2.2.2.1 (fun q4 => ?_)
  refine wx_ws (ws' := [(a, .inr (1, [.ref q0, .ref q1, .ref q2, .ref q3, .null, .null, .int 0, .int 0, .int 0])), (q0, .inl (cA 0, 12, .inl (fun _ => 0))), (q1, .inl (cA 0, 2, .inl (upd (upd (fun _ => 0) 0 10) 1 10))), (q2, .inl (cA 0, 6, .inl (fun _ => 0))), (q3, .inl (cA 0, 6, .inl (fun _ => 0))), (q4, .inl (cA 0, 6, .inl (fun _ => 0)))]) rfl ?_
  refine wx_putF (i := 0) (ci := 1) (k := 4) (ws' := [(a, .inr (1, [.ref q0, .ref q1, .ref q2, .ref q3, .ref q4, .null, .int 0, .int 0, .int 0])), (q0, .inl (cA 0, 12, .inl (fun _ => 0))), (q1, .inl (cA 0, 2, .inl (upd (upd (fun _ => 0) 0 10) 1 10))), (q2, .inl (cA 0, 6, .inl (fun _ => 0))), (q3, .inl (cA 0, 6, .inl (fun _ => 0))), (q4, .inl (cA 0, 6, .inl (fun _ => 0)))]) C rfl rfl (by decide) wc_112 iwX1 tyX1_ok nmX1 rfl rfl rfl rfl rfl (Nat.le_of_ble_eq_true rfl) rfl dX1_init_g2.2.2.2.2.2.1 ?_
  refine wx_aload_n 0 C dX1_init_g2.2.2.2.2.2.2.1 rfl ?_
  refine wx_bipush (v := 6) C dX1_init_g2.2.2.2.2.2.2.2.1 (by decide) ?_
  refine wx_newI (N := 6) C (by decide) (by decide) (Nat.le_of_ble_eq_true rfl) (Nat.le_of_ble_eq_true rfl) (Nat.le_of_ble_eq_true rfl) dX1_init_g2.2.2.2.2.2.2.2.2.1 (fun q5 => ?_)
  refine wx_ws (ws' := [(a, .inr (1, [.ref q0, .ref q1, .ref q2, .ref q3, .ref q4, .null, .int 0, .int 0, .int 0])), (q0, .inl (cA 0, 12, .inl (fun _ => 0))), (q1, .inl (cA 0, 2, .inl (upd (upd (fun _ => 0) 0 10) 1 10))), (q2, .inl (cA 0, 6, .inl (fun _ => 0))), (q3, .inl (cA 0, 6, .inl (fun _ => 0))), (q4, .inl (cA 0, 6, .inl (fun _ => 0))), (q5, .inl (cA 0, 6, .inl (fun _ => 0)))]) rfl ?_
  refine wx_putF (i := 0) (ci := 1) (k := 5) (ws' := [(a, .inr (1, [.ref q0, .ref q1, .ref q2, .ref q3, .ref q4, .ref q5, .int 0, .int 0, .int 0])), (q0, .inl (cA 0, 12, .inl (fun _ => 0))), (q1, .inl (cA 0, 2, .inl (upd (upd (fun _ => 0) 0 10) 1 10))), (q2, .inl (cA 0, 6, .inl (fun _ => 0))), (q3, .inl (cA 0, 6, .inl (fun _ => 0))), (q4, .inl (cA 0, 6, .inl (fun _ => 0))), (q5, .inl (cA 0, 6, .inl (fun _ => 0)))]) C rfl rfl (by decide) wc_114 iwX1 tyX1_ok nmX1 rfl rfl rfl rfl rfl (Nat.le_of_ble_eq_true rfl) rfl dX1_init_g2.2.2.2.2.2.2.2.2.2.1 ?_
  refine wx_aload_n 0 C dX1_init_g2.2.2.2.2.2.2.2.2.2.2.1 rfl ?_
  refine wx_iconst (v := 0) C dX1_init_g2.2.2.2.2.2.2.2.2.2.2.2 (by decide) ?_
  refine wx_put (i := 0) (ci := 1) (k := 6) (ws' := [(a, .inr (1, [.ref q0, .ref q1, .ref q2, .ref q3, .ref q4, .ref q5, .int 0, .int 0, .int 0])), (q0, .inl (cA 0, 12, .inl (fun _ => 0))), (q1, .inl (cA 0, 2, .inl (upd (upd (fun _ => 0) 0 10) 1 10))), (q2, .inl (cA 0, 6, .inl (fun _ => 0))), (q3, .inl (cA 0, 6, .inl (fun _ => 0))), (q4, .inl (cA 0, 6, .inl (fun _ => 0))), (q5, .inl (cA 0, 6, .inl (fun _ => 0)))]) C rfl rfl (by decide) wc_116 iwX1 tyX1_ok nmX1 rfl rfl rfl rfl (Nat.le_of_ble_eq_true rfl) rfl dX1_init_g3.1 ?_
  refine wx_aload_n 0 C dX1_init_g3.2.1 rfl ?_
  refine wx_iconst (v := 0) C dX1_init_g3.2.2.1 (by decide) ?_
  refine wx_put (i := 0) (ci := 1) (k := 7) (ws' := [(a, .inr (1, [.ref q0, .ref q1, .ref q2, .ref q3, .ref q4, .ref q5, .int 0, .int 0, .int 0])), (q0, .inl (cA 0, 12, .inl (fun _ => 0))), (q1, .inl (cA 0, 2, .inl (upd (upd (fun _ => 0) 0 10) 1 10))), (q2, .inl (cA 0, 6, .inl (fun _ => 0))), (q3, .inl (cA 0, 6, .inl (fun _ => 0))), (q4, .inl (cA 0, 6, .inl (fun _ => 0))), (q5, .inl (cA 0, 6, .inl (fun _ => 0)))]) C rfl rfl (by decide) wc_120 iwX1 tyX1_ok nmX1 rfl rfl rfl rfl (Nat.le_of_ble_eq_true rfl) rfl dX1_init_g3.2.2.2.1 ?_
  refine wx_aload_n 0 C dX1_init_g3.2.2.2.2.1 rfl ?_
  refine wx_iconst (v := 0) C dX1_init_g3.2.2.2.2.2.1 (by decide) ?_
  refine wx_put (i := 0) (ci := 1) (k := 8) (ws' := [(a, .inr (1, [.ref q0, .ref q1, .ref q2, .ref q3, .ref q4, .ref q5, .int 0, .int 0, .int 0])), (q0, .inl (cA 0, 12, .inl (fun _ => 0))), (q1, .inl (cA 0, 2, .inl (upd (upd (fun _ => 0) 0 10) 1 10))), (q2, .inl (cA 0, 6, .inl (fun _ => 0))), (q3, .inl (cA 0, 6, .inl (fun _ => 0))), (q4, .inl (cA 0, 6, .inl (fun _ => 0))), (q5, .inl (cA 0, 6, .inl (fun _ => 0)))]) C rfl rfl (by decide) wc_123 iwX1 tyX1_ok nmX1 rfl rfl rfl rfl (Nat.le_of_ble_eq_true rfl) rfl dX1_init_g3.2.2.2.2.2.2.1 ?_
  exact wx_vret (u := fun k => [q0, q1, q2, q3, q4, q5].getD k 0) C hrt rfl dX1_init_g3.2.2.2.2.2.2.2
def gX7 (cA : Nat → ClassId) (a : Nat) (u : Nat → Nat) : va_W := [(a, .inr (6, [.ref (u 0), .ref (u 1), .int 0])), ((u 0), .inl (cA 0, 160, .inl (fun _ => 0))), ((u 1), .inl (cA 0, 3, .inl (fun _ => 0)))]
set_option maxHeartbeats 4000000 in
set_option maxRecDepth 100000 in
theorem c_X7_init {l : Launch} {D : va_G} {cA : Nat → ClassId} (a : Nat) : CtX l D cA yX7_init cX7_init 1 1 2 163 [.ref a] [(a, .inr (6, [.null, .null, .int 0]))] (gX7 cA a ) := by
  refine ct_X (by decide) rfl (Nat.le_of_ble_eq_true rfl) (fun p e s m args below meth c C hrt => ?_)
  refine wx_aload_n 0 C dX7_init_g0.1 rfl ?_
  refine wx_obj C wc_183 (by decide) ⟨Nat.le_of_ble_eq_true rfl, Nat.le_of_ble_eq_true rfl⟩ dX7_init_g0.2.1 ?_
  refine wx_aload_n 0 C dX7_init_g0.2.2.1 rfl ?_
  refine wx_sipush (v := 160) C dX7_init_g0.2.2.2.1 (by decide) ?_
  refine wx_newI (N := 160) C (by decide) (by decide) (Nat.le_of_ble_eq_true rfl) (Nat.le_of_ble_eq_true rfl) (Nat.le_of_ble_eq_true rfl) dX7_init_g0.2.2.2.2.1 (fun q0 => ?_)
  refine wx_ws (ws' := [(a, .inr (6, [.null, .null, .int 0])), (q0, .inl (cA 0, 160, .inl (fun _ => 0)))]) rfl ?_
  refine wx_putF (i := 0) (ci := 6) (k := 0) (ws' := [(a, .inr (6, [.ref q0, .null, .int 0])), (q0, .inl (cA 0, 160, .inl (fun _ => 0)))]) C rfl rfl (by decide) wc_184 iwX7 tyX7_ok nmX7 rfl rfl rfl rfl rfl (Nat.le_of_ble_eq_true rfl) rfl dX7_init_g0.2.2.2.2.2.1 ?_
  refine wx_aload_n 0 C dX7_init_g0.2.2.2.2.2.2.1 rfl ?_
  refine wx_iconst (v := 3) C dX7_init_g0.2.2.2.2.2.2.2.1 (by decide) ?_
  refine wx_newI (N := 3) C (by decide) (by decide) (Nat.le_of_ble_eq_true rfl) (Nat.le_of_ble_eq_true rfl) (Nat.le_of_ble_eq_true rfl) dX7_init_g0.2.2.2.2.2.2.2.2.1 (fun q1 => ?_)
  refine wx_ws (ws' := [(a, .inr (6, [.ref q0, .null, .int 0])), (q0, .inl (cA 0, 160, .inl (fun _ => 0))), (q1, .inl (cA 0, 3, .inl (fun _ => 0)))]) rfl ?_
  refine wx_putF (i := 0) (ci := 6) (k := 1) (ws' := [(a, .inr (6, [.ref q0, .ref q1, .int 0])), (q0, .inl (cA 0, 160, .inl (fun _ => 0))), (q1, .inl (cA 0, 3, .inl (fun _ => 0)))]) C rfl rfl (by decide) wc_185 iwX7 tyX7_ok nmX7 rfl rfl rfl rfl rfl (Nat.le_of_ble_eq_true rfl) rfl dX7_init_g0.2.2.2.2.2.2.2.2.2.1 ?_
  refine wx_aload_n 0 C dX7_init_g0.2.2.2.2.2.2.2.2.2.2.1 rfl ?_
  refine wx_iconst (v := 0) C dX7_init_g0.2.2.2.2.2.2.2.2.2.2.2 (by decide) ?_
  refine wx_put (i := 0) (ci := 6) (k := 2) (ws' := [(a, .inr (6, [.ref q0, .ref q1, .int 0])), (q0, .inl (cA 0, 160, .inl (fun _ => 0))), (q1, .inl (cA 0, 3, .inl (fun _ => 0)))]) C rfl rfl (by decide) wc_186 iwX7 tyX7_ok nmX7 rfl rfl rfl rfl (Nat.le_of_ble_eq_true rfl) rfl dX7_init_g1.1 ?_
  exact wx_vret (u := fun k => [q0, q1].getD k 0) C hrt rfl dX7_init_g1.2
def gX6 (cA : Nat → ClassId) (a : Nat) (u : Nat → Nat) : va_W := [(a, .inr (5, [.int (-1), .int 0, .ref (u 0)])), ((u 0), .inl (cA 0, 40, .inl (fun _ => 0)))]
set_option maxHeartbeats 4000000 in
set_option maxRecDepth 100000 in
theorem c_X6_init {l : Launch} {D : va_G} {cA : Nat → ClassId} (a : Nat) : CtX l D cA yX6_init cX6_init 1 1 1 40 [.ref a] [(a, .inr (5, [.int 0, .int 0, .null]))] (gX6 cA a ) := by
  refine ct_X (by decide) rfl (Nat.le_of_ble_eq_true rfl) (fun p e s m args below meth c C hrt => ?_)
  refine wx_aload_n 0 C dX6_init_g0.1 rfl ?_
  refine wx_obj C wc_198 (by decide) ⟨Nat.le_of_ble_eq_true rfl, Nat.le_of_ble_eq_true rfl⟩ dX6_init_g0.2.1 ?_
  refine wx_aload_n 0 C dX6_init_g0.2.2.1 rfl ?_
  refine wx_iconst (v := (-1)) C dX6_init_g0.2.2.2.1 (by decide) ?_
  refine wx_put (i := 0) (ci := 5) (k := 0) (ws' := [(a, .inr (5, [.int (-1), .int 0, .null]))]) C rfl rfl (by decide) wc_199 iwX6 tyX6_ok nmX6 rfl rfl rfl rfl (Nat.le_of_ble_eq_true rfl) rfl dX6_init_g0.2.2.2.2.1 ?_
  refine wx_aload_n 0 C dX6_init_g0.2.2.2.2.2.1 rfl ?_
  refine wx_iconst (v := 0) C dX6_init_g0.2.2.2.2.2.2.1 (by decide) ?_
  refine wx_put (i := 0) (ci := 5) (k := 1) (ws' := [(a, .inr (5, [.int (-1), .int 0, .null]))]) C rfl rfl (by decide) wc_201 iwX6 tyX6_ok nmX6 rfl rfl rfl rfl (Nat.le_of_ble_eq_true rfl) rfl dX6_init_g0.2.2.2.2.2.2.2.1 ?_
  refine wx_aload_n 0 C dX6_init_g0.2.2.2.2.2.2.2.2.1 rfl ?_
  refine wx_bipush (v := 40) C dX6_init_g0.2.2.2.2.2.2.2.2.2.1 (by decide) ?_
  refine wx_newI (N := 40) C (by decide) (by decide) (Nat.le_of_ble_eq_true rfl) (Nat.le_of_ble_eq_true rfl) (Nat.le_of_ble_eq_true rfl) dX6_init_g0.2.2.2.2.2.2.2.2.2.2.1 (fun q0 => ?_)
  refine wx_ws (ws' := [(a, .inr (5, [.int (-1), .int 0, .null])), (q0, .inl (cA 0, 40, .inl (fun _ => 0)))]) rfl ?_
  refine wx_putF (i := 0) (ci := 5) (k := 2) (ws' := [(a, .inr (5, [.int (-1), .int 0, .ref q0])), (q0, .inl (cA 0, 40, .inl (fun _ => 0)))]) C rfl rfl (by decide) wc_203 iwX6 tyX6_ok nmX6 rfl rfl rfl rfl rfl (Nat.le_of_ble_eq_true rfl) rfl dX6_init_g0.2.2.2.2.2.2.2.2.2.2.2 ?_
  exact wx_vret (u := fun k => [q0].getD k 0) C hrt rfl dX6_init_g1
def gX5 (cA : Nat → ClassId) (a : Nat) (u : Nat → Nat) : va_W := [(a, .inr (4, [.ref (u 0), .int 0, .int 0, .int 256, .int 0, .int 0, .int (-1)])), ((u 0), .inl (cA 0, 160, .inl (fun _ => 0)))]
set_option maxHeartbeats 4000000 in
set_option maxRecDepth 100000 in
theorem c_X5_init {l : Launch} {D : va_G} {cA : Nat → ClassId} (a : Nat) : CtX l D cA yX5_init cX5_init 1 1 1 160 [.ref a] [(a, .inr (4, [.null, .int 0, .int 0, .int 0, .int 0, .int 0, .int 0]))] (gX5 cA a ) := by
  refine ct_X (by decide) rfl (Nat.le_of_ble_eq_true rfl) (fun p e s m args below meth c C hrt => ?_)
  refine wx_aload_n 0 C dX5_init_g0.1 rfl ?_
  refine wx_obj C wc_153 (by decide) ⟨Nat.le_of_ble_eq_true rfl, Nat.le_of_ble_eq_true rfl⟩ dX5_init_g0.2.1 ?_
  refine wx_aload_n 0 C dX5_init_g0.2.2.1 rfl ?_
  refine wx_sipush (v := 160) C dX5_init_g0.2.2.2.1 (by decide) ?_
  refine wx_newI (N := 160) C (by decide) (by decide) (Nat.le_of_ble_eq_true rfl) (Nat.le_of_ble_eq_true rfl) (Nat.le_of_ble_eq_true rfl) dX5_init_g0.2.2.2.2.1 (fun q0 => ?_)
  refine wx_ws (ws' := [(a, .inr (4, [.null, .int 0, .int 0, .int 0, .int 0, .int 0, .int 0])), (q0, .inl (cA 0, 160, .inl (fun _ => 0)))]) rfl ?_
  refine wx_putF (i := 0) (ci := 4) (k := 0) (ws' := [(a, .inr (4, [.ref q0, .int 0, .int 0, .int 0, .int 0, .int 0, .int 0])), (q0, .inl (cA 0, 160, .inl (fun _ => 0)))]) C rfl rfl (by decide) wc_154 iwX5 tyX5_ok nmX5 rfl rfl rfl rfl rfl (Nat.le_of_ble_eq_true rfl) rfl dX5_init_g0.2.2.2.2.2.1 ?_
  refine wx_aload_n 0 C dX5_init_g0.2.2.2.2.2.2.1 rfl ?_
  refine wx_iconst (v := 0) C dX5_init_g0.2.2.2.2.2.2.2.1 (by decide) ?_
  refine wx_put (i := 0) (ci := 4) (k := 1) (ws' := [(a, .inr (4, [.ref q0, .int 0, .int 0, .int 0, .int 0, .int 0, .int 0])), (q0, .inl (cA 0, 160, .inl (fun _ => 0)))]) C rfl rfl (by decide) wc_155 iwX5 tyX5_ok nmX5 rfl rfl rfl rfl (Nat.le_of_ble_eq_true rfl) rfl dX5_init_g0.2.2.2.2.2.2.2.2.1 ?_
  refine wx_aload_n 0 C dX5_init_g0.2.2.2.2.2.2.2.2.2.1 rfl ?_
  refine wx_iconst (v := 0) C dX5_init_g0.2.2.2.2.2.2.2.2.2.2.1 (by decide) ?_
  refine wx_put (i := 0) (ci := 4) (k := 2) (ws' := [(a, .inr (4, [.ref q0, .int 0, .int 0, .int 0, .int 0, .int 0, .int 0])), (q0, .inl (cA 0, 160, .inl (fun _ => 0)))]) C rfl rfl (by decide) wc_157 iwX5 tyX5_ok nmX5 rfl rfl rfl rfl (Nat.le_of_ble_eq_true rfl) rfl dX5_init_g0.2.2.2.2.2.2.2.2.2.2.2 ?_
  refine wx_aload_n 0 C dX5_init_g1.1 rfl ?_
  refine wx_sipush (v := 256) C dX5_init_g1.2.1 (by decide) ?_
  refine wx_put (i := 0) (ci := 4) (k := 3) (ws' := [(a, .inr (4, [.ref q0, .int 0, .int 0, .int 256, .int 0, .int 0, .int 0])), (q0, .inl (cA 0, 160, .inl (fun _ => 0)))]) C rfl rfl (by decide) wc_158 iwX5 tyX5_ok nmX5 rfl rfl rfl rfl (Nat.le_of_ble_eq_true rfl) rfl dX5_init_g1.2.2.1 ?_
  refine wx_aload_n 0 C dX5_init_g1.2.2.2.1 rfl ?_
  refine wx_iconst (v := 0) C dX5_init_g1.2.2.2.2.1 (by decide) ?_
  refine wx_put (i := 0) (ci := 4) (k := 4) (ws' := [(a, .inr (4, [.ref q0, .int 0, .int 0, .int 256, .int 0, .int 0, .int 0])), (q0, .inl (cA 0, 160, .inl (fun _ => 0)))]) C rfl rfl (by decide) wc_159 iwX5 tyX5_ok nmX5 rfl rfl rfl rfl (Nat.le_of_ble_eq_true rfl) rfl dX5_init_g1.2.2.2.2.2.1 ?_
  refine wx_aload_n 0 C dX5_init_g1.2.2.2.2.2.2.1 rfl ?_
  refine wx_iconst (v := 0) C dX5_init_g1.2.2.2.2.2.2.2.1 (by decide) ?_
  refine wx_put (i := 0) (ci := 4) (k := 5) (ws' := [(a, .inr (4, [.ref q0, .int 0, .int 0, .int 256, .int 0, .int 0, .int 0])), (q0, .inl (cA 0, 160, .inl (fun _ => 0)))]) C rfl rfl (by decide) wc_160 iwX5 tyX5_ok nmX5 rfl rfl rfl rfl (Nat.le_of_ble_eq_true rfl) rfl dX5_init_g1.2.2.2.2.2.2.2.2.1 ?_
  refine wx_aload_n 0 C dX5_init_g1.2.2.2.2.2.2.2.2.2.1 rfl ?_
  refine wx_iconst (v := (-1)) C dX5_init_g1.2.2.2.2.2.2.2.2.2.2.1 (by decide) ?_
  refine wx_put (i := 0) (ci := 4) (k := 6) (ws' := [(a, .inr (4, [.ref q0, .int 0, .int 0, .int 256, .int 0, .int 0, .int (-1)])), (q0, .inl (cA 0, 160, .inl (fun _ => 0)))]) C rfl rfl (by decide) wc_161 iwX5 tyX5_ok nmX5 rfl rfl rfl rfl (Nat.le_of_ble_eq_true rfl) rfl dX5_init_g1.2.2.2.2.2.2.2.2.2.2.2 ?_
  exact wx_vret (u := fun k => [q0].getD k 0) C hrt rfl dX5_init_g2
def gX4 (cA : Nat → ClassId) (a : Nat) (b c1 : Nat) (u : Nat → Nat) : va_W := [(a, .inr (3, [.ref b, .ref c1, .ref (u 0), .int 0, .int 0, .int 0, .int (-1)])), ((u 0), .inl (cA 0, 12, .inl (fun _ => 0)))]
set_option maxHeartbeats 4000000 in
set_option maxRecDepth 100000 in
theorem c_X4_init {l : Launch} {D : va_G} {cA : Nat → ClassId} (a : Nat) (b c1 : Nat) : CtX l D cA yX4_init cX4_init 3 1 1 12 [.ref a, .ref b, .ref c1] [(a, .inr (3, [.null, .null, .null, .int 0, .int 0, .int 0, .int 0]))] (gX4 cA a b c1) := by
  refine ct_X (by decide) rfl (Nat.le_of_ble_eq_true rfl) (fun p e s m args below meth c C hrt => ?_)
  refine wx_aload_n 0 C dX4_init_g0.1 rfl ?_
  refine wx_obj C wc_427 (by decide) ⟨Nat.le_of_ble_eq_true rfl, Nat.le_of_ble_eq_true rfl⟩ dX4_init_g0.2.1 ?_
  refine wx_aload_n 0 C dX4_init_g0.2.2.1 rfl ?_
  refine wx_bipush (v := 12) C dX4_init_g0.2.2.2.1 (by decide) ?_
  refine wx_newI (N := 12) C (by decide) (by decide) (Nat.le_of_ble_eq_true rfl) (Nat.le_of_ble_eq_true rfl) (Nat.le_of_ble_eq_true rfl) dX4_init_g0.2.2.2.2.1 (fun q0 => ?_)
  refine wx_ws (ws' := [(a, .inr (3, [.null, .null, .null, .int 0, .int 0, .int 0, .int 0])), (q0, .inl (cA 0, 12, .inl (fun _ => 0)))]) rfl ?_
  refine wx_putF (i := 0) (ci := 3) (k := 2) (ws' := [(a, .inr (3, [.null, .null, .ref q0, .int 0, .int 0, .int 0, .int 0])), (q0, .inl (cA 0, 12, .inl (fun _ => 0)))]) C rfl rfl (by decide) wc_430 iwX4 tyX4_ok nmX4 rfl rfl rfl rfl rfl (Nat.le_of_ble_eq_true rfl) rfl dX4_init_g0.2.2.2.2.2.1 ?_
  refine wx_aload_n 0 C dX4_init_g0.2.2.2.2.2.2.1 rfl ?_
  refine wx_iconst (v := 0) C dX4_init_g0.2.2.2.2.2.2.2.1 (by decide) ?_
  refine wx_put (i := 0) (ci := 3) (k := 3) (ws' := [(a, .inr (3, [.null, .null, .ref q0, .int 0, .int 0, .int 0, .int 0])), (q0, .inl (cA 0, 12, .inl (fun _ => 0)))]) C rfl rfl (by decide) wc_432 iwX4 tyX4_ok nmX4 rfl rfl rfl rfl (Nat.le_of_ble_eq_true rfl) rfl dX4_init_g0.2.2.2.2.2.2.2.2.1 ?_
  refine wx_aload_n 0 C dX4_init_g0.2.2.2.2.2.2.2.2.2.1 rfl ?_
  refine wx_iconst (v := 0) C dX4_init_g0.2.2.2.2.2.2.2.2.2.2.1 (by decide) ?_
  refine wx_put (i := 0) (ci := 3) (k := 4) (ws' := [(a, .inr (3, [.null, .null, .ref q0, .int 0, .int 0, .int 0, .int 0])), (q0, .inl (cA 0, 12, .inl (fun _ => 0)))]) C rfl rfl (by decide) wc_434 iwX4 tyX4_ok nmX4 rfl rfl rfl rfl (Nat.le_of_ble_eq_true rfl) rfl dX4_init_g0.2.2.2.2.2.2.2.2.2.2.2 ?_
  refine wx_aload_n 0 C dX4_init_g1.1 rfl ?_
  refine wx_iconst (v := 0) C dX4_init_g1.2.1 (by decide) ?_
  refine wx_put (i := 0) (ci := 3) (k := 5) (ws' := [(a, .inr (3, [.null, .null, .ref q0, .int 0, .int 0, .int 0, .int 0])), (q0, .inl (cA 0, 12, .inl (fun _ => 0)))]) C rfl rfl (by decide) wc_436 iwX4 tyX4_ok nmX4 rfl rfl rfl rfl (Nat.le_of_ble_eq_true rfl) rfl dX4_init_g1.2.2.1 ?_
  refine wx_aload_n 0 C dX4_init_g1.2.2.2.1 rfl ?_
  refine wx_iconst (v := (-1)) C dX4_init_g1.2.2.2.2.1 (by decide) ?_
  refine wx_put (i := 0) (ci := 3) (k := 6) (ws' := [(a, .inr (3, [.null, .null, .ref q0, .int 0, .int 0, .int 0, .int (-1)])), (q0, .inl (cA 0, 12, .inl (fun _ => 0)))]) C rfl rfl (by decide) wc_438 iwX4 tyX4_ok nmX4 rfl rfl rfl rfl (Nat.le_of_ble_eq_true rfl) rfl dX4_init_g1.2.2.2.2.2.1 ?_
  refine wx_aload_n 0 C dX4_init_g1.2.2.2.2.2.2.1 rfl ?_
  refine wx_aload_n 1 C dX4_init_g1.2.2.2.2.2.2.2.1 rfl ?_
  refine wx_putF (i := 0) (ci := 3) (k := 0) (ws' := [(a, .inr (3, [.ref b, .null, .ref q0, .int 0, .int 0, .int 0, .int (-1)])), (q0, .inl (cA 0, 12, .inl (fun _ => 0)))]) C rfl rfl (by decide) wc_428 iwX4 tyX4_ok nmX4 rfl rfl rfl rfl rfl (Nat.le_of_ble_eq_true rfl) rfl dX4_init_g1.2.2.2.2.2.2.2.2.1 ?_
  refine wx_aload_n 0 C dX4_init_g1.2.2.2.2.2.2.2.2.2.1 rfl ?_
  refine wx_aload_n 2 C dX4_init_g1.2.2.2.2.2.2.2.2.2.2.1 rfl ?_
  refine wx_putF (i := 0) (ci := 3) (k := 1) (ws' := [(a, .inr (3, [.ref b, .ref c1, .ref q0, .int 0, .int 0, .int 0, .int (-1)])), (q0, .inl (cA 0, 12, .inl (fun _ => 0)))]) C rfl rfl (by decide) wc_429 iwX4 tyX4_ok nmX4 rfl rfl rfl rfl rfl (Nat.le_of_ble_eq_true rfl) rfl dX4_init_g1.2.2.2.2.2.2.2.2.2.2.2 ?_
  exact wx_vret (u := fun k => [q0].getD k 0) C hrt rfl dX4_init_g2
def gX3 (cA : Nat → ClassId) (a : Nat) (b c1 : Nat) (u : Nat → Nat) : va_W := [(a, .inr (2, [.ref b, .ref c1, .ref (u 0), .int (-1), .int 0, .int 0, .int 0, .int 0, .int 0, .int 0, .int 0])), ((u 0), .inl (cA 4, 7, .inr (.inr (.inr (.inr (fun i => some ((u 0) + 1 + i))))))), ((u 0) + 1 + 0, .inl (cA 0, 12, .inl (fun _ => 0))), ((u 0) + 1 + 1, .inl (cA 0, 12, .inl (fun _ => 0))), ((u 0) + 1 + 2, .inl (cA 0, 12, .inl (fun _ => 0))), ((u 0) + 1 + 3, .inl (cA 0, 12, .inl (fun _ => 0))), ((u 0) + 1 + 4, .inl (cA 0, 12, .inl (fun _ => 0))), ((u 0) + 1 + 5, .inl (cA 0, 12, .inl (fun _ => 0))), ((u 0) + 1 + 6, .inl (cA 0, 12, .inl (fun _ => 0)))]
set_option maxHeartbeats 4000000 in
set_option maxRecDepth 100000 in
theorem c_X3_init {l : Launch} {D : va_G} {cA : Nat → ClassId} (a : Nat) (b c1 : Nat) : CtX l D cA yX3_init cX3_init 3 1 8 91 [.ref a, .ref b, .ref c1] [(a, .inr (2, [.null, .null, .null, .int 0, .int 0, .int 0, .int 0, .int 0, .int 0, .int 0, .int 0]))] (gX3 cA a b c1) := by
  refine ct_X (by decide) rfl (Nat.le_of_ble_eq_true rfl) (fun p e s m args below meth c C hrt => ?_)
  refine wx_aload_n 0 C dX3_init_g0.1 rfl ?_
  refine wx_obj C wc_460 (by decide) ⟨Nat.le_of_ble_eq_true rfl, Nat.le_of_ble_eq_true rfl⟩ dX3_init_g0.2.1 ?_
  refine wx_aload_n 0 C dX3_init_g0.2.2.1 rfl ?_
  refine wx_bipush (v := 7) C dX3_init_g0.2.2.2.1 (by decide) ?_
  refine wx_bipush (v := 12) C dX3_init_g0.2.2.2.2.1 (by decide) ?_
  refine wx_multi C wc_461 (Nat.le_of_ble_eq_true rfl) (Nat.le_of_ble_eq_true rfl) dX3_init_g0.2.2.2.2.2.1 (fun q0 => ?_)
  refine wx_ws (ws' := [(a, .inr (2, [.null, .null, .null, .int 0, .int 0, .int 0, .int 0, .int 0, .int 0, .int 0, .int 0])), (q0, .inl (cA 4, 7, .inr (.inr (.inr (.inr (fun i => some (q0 + 1 + i))))))), (q0 + 1 + 0, .inl (cA 0, 12, .inl (fun _ => 0))), (q0 + 1 + 1, .inl (cA 0, 12, .inl (fun _ => 0))), (q0 + 1 + 2, .inl (cA 0, 12, .inl (fun _ => 0))), (q0 + 1 + 3, .inl (cA 0, 12, .inl (fun _ => 0))), (q0 + 1 + 4, .inl (cA 0, 12, .inl (fun _ => 0))), (q0 + 1 + 5, .inl (cA 0, 12, .inl (fun _ => 0))), (q0 + 1 + 6, .inl (cA 0, 12, .inl (fun _ => 0)))]) rfl ?_
  refine wx_putF (i := 0) (ci := 2) (k := 2) (ws' := [(a, .inr (2, [.null, .null, .ref q0, .int 0, .int 0, .int 0, .int 0, .int 0, .int 0, .int 0, .int 0])), (q0, .inl (cA 4, 7, .inr (.inr (.inr (.inr (fun i => some (q0 + 1 + i))))))), (q0 + 1 + 0, .inl (cA 0, 12, .inl (fun _ => 0))), (q0 + 1 + 1, .inl (cA 0, 12, .inl (fun _ => 0))), (q0 + 1 + 2, .inl (cA 0, 12, .inl (fun _ => 0))), (q0 + 1 + 3, .inl (cA 0, 12, .inl (fun _ => 0))), (q0 + 1 + 4, .inl (cA 0, 12, .inl (fun _ => 0))), (q0 + 1 + 5, .inl (cA 0, 12, .inl (fun _ => 0))), (q0 + 1 + 6, .inl (cA 0, 12, .inl (fun _ => 0)))]) C rfl rfl (by decide) wc_465 iwX3 tyX3_ok nmX3 rfl rfl rfl rfl rfl (Nat.le_of_ble_eq_true rfl) rfl dX3_init_g0.2.2.2.2.2.2.1 ?_
  refine wx_aload_n 0 C dX3_init_g0.2.2.2.2.2.2.2.1 rfl ?_
  refine wx_iconst (v := (-1)) C dX3_init_g0.2.2.2.2.2.2.2.2.1 (by decide) ?_
  refine wx_put (i := 0) (ci := 2) (k := 3) (ws' := [(a, .inr (2, [.null, .null, .ref q0, .int (-1), .int 0, .int 0, .int 0, .int 0, .int 0, .int 0, .int 0])), (q0, .inl (cA 4, 7, .inr (.inr (.inr (.inr (fun i => some (q0 + 1 + i))))))), (q0 + 1 + 0, .inl (cA 0, 12, .inl (fun _ => 0))), (q0 + 1 + 1, .inl (cA 0, 12, .inl (fun _ => 0))), (q0 + 1 + 2, .inl (cA 0, 12, .inl (fun _ => 0))), (q0 + 1 + 3, .inl (cA 0, 12, .inl (fun _ => 0))), (q0 + 1 + 4, .inl (cA 0, 12, .inl (fun _ => 0))), (q0 + 1 + 5, .inl (cA 0, 12, .inl (fun _ => 0))), (q0 + 1 + 6, .inl (cA 0, 12, .inl (fun _ => 0)))]) C rfl rfl (by decide) wc_466 iwX3 tyX3_ok nmX3 rfl rfl rfl rfl (Nat.le_of_ble_eq_true rfl) rfl dX3_init_g0.2.2.2.2.2.2.2.2.2.1 ?_
  refine wx_aload_n 0 C dX3_init_g0.2.2.2.2.2.2.2.2.2.2.1 rfl ?_
  refine wx_iconst (v := 0) C dX3_init_g0.2.2.2.2.2.2.2.2.2.2.2 (by decide) ?_
  refine wx_put (i := 0) (ci := 2) (k := 4) (ws' := [(a, .inr (2, [.null, .null, .ref q0, .int (-1), .int 0, .int 0, .int 0, .int 0, .int 0, .int 0, .int 0])), (q0, .inl (cA 4, 7, .inr (.inr (.inr (.inr (fun i => some (q0 + 1 + i))))))), (q0 + 1 + 0, .inl (cA 0, 12, .inl (fun _ => 0))), (q0 + 1 + 1, .inl (cA 0, 12, .inl (fun _ => 0))), (q0 + 1 + 2, .inl (cA 0, 12, .inl (fun _ => 0))), (q0 + 1 + 3, .inl (cA 0, 12, .inl (fun _ => 0))), (q0 + 1 + 4, .inl (cA 0, 12, .inl (fun _ => 0))), (q0 + 1 + 5, .inl (cA 0, 12, .inl (fun _ => 0))), (q0 + 1 + 6, .inl (cA 0, 12, .inl (fun _ => 0)))]) C rfl rfl (by decide) wc_467 iwX3 tyX3_ok nmX3 rfl rfl rfl rfl (Nat.le_of_ble_eq_true rfl) rfl dX3_init_g1.1 ?_
  refine wx_aload_n 0 C dX3_init_g1.2.1 rfl ?_
  refine wx_iconst (v := 0) C dX3_init_g1.2.2.1 (by decide) ?_
  refine wx_put (i := 0) (ci := 2) (k := 5) (ws' := [(a, .inr (2, [.null, .null, .ref q0, .int (-1), .int 0, .int 0, .int 0, .int 0, .int 0, .int 0, .int 0])), (q0, .inl (cA 4, 7, .inr (.inr (.inr (.inr (fun i => some (q0 + 1 + i))))))), (q0 + 1 + 0, .inl (cA 0, 12, .inl (fun _ => 0))), (q0 + 1 + 1, .inl (cA 0, 12, .inl (fun _ => 0))), (q0 + 1 + 2, .inl (cA 0, 12, .inl (fun _ => 0))), (q0 + 1 + 3, .inl (cA 0, 12, .inl (fun _ => 0))), (q0 + 1 + 4, .inl (cA 0, 12, .inl (fun _ => 0))), (q0 + 1 + 5, .inl (cA 0, 12, .inl (fun _ => 0))), (q0 + 1 + 6, .inl (cA 0, 12, .inl (fun _ => 0)))]) C rfl rfl (by decide) wc_469 iwX3 tyX3_ok nmX3 rfl rfl rfl rfl (Nat.le_of_ble_eq_true rfl) rfl dX3_init_g1.2.2.2.1 ?_
  refine wx_aload_n 0 C dX3_init_g1.2.2.2.2.1 rfl ?_
  refine wx_iconst (v := 0) C dX3_init_g1.2.2.2.2.2.1 (by decide) ?_
  refine wx_put (i := 0) (ci := 2) (k := 6) (ws' := [(a, .inr (2, [.null, .null, .ref q0, .int (-1), .int 0, .int 0, .int 0, .int 0, .int 0, .int 0, .int 0])), (q0, .inl (cA 4, 7, .inr (.inr (.inr (.inr (fun i => some (q0 + 1 + i))))))), (q0 + 1 + 0, .inl (cA 0, 12, .inl (fun _ => 0))), (q0 + 1 + 1, .inl (cA 0, 12, .inl (fun _ => 0))), (q0 + 1 + 2, .inl (cA 0, 12, .inl (fun _ => 0))), (q0 + 1 + 3, .inl (cA 0, 12, .inl (fun _ => 0))), (q0 + 1 + 4, .inl (cA 0, 12, .inl (fun _ => 0))), (q0 + 1 + 5, .inl (cA 0, 12, .inl (fun _ => 0))), (q0 + 1 + 6, .inl (cA 0, 12, .inl (fun _ => 0)))]) C rfl rfl (by decide) wc_471 iwX3 tyX3_ok nmX3 rfl rfl rfl rfl (Nat.le_of_ble_eq_true rfl) rfl dX3_init_g1.2.2.2.2.2.2.1 ?_
  refine wx_aload_n 0 C dX3_init_g1.2.2.2.2.2.2.2.1 rfl ?_
  refine wx_iconst (v := 0) C dX3_init_g1.2.2.2.2.2.2.2.2.1 (by decide) ?_
  refine wx_put (i := 0) (ci := 2) (k := 7) (ws' := [(a, .inr (2, [.null, .null, .ref q0, .int (-1), .int 0, .int 0, .int 0, .int 0, .int 0, .int 0, .int 0])), (q0, .inl (cA 4, 7, .inr (.inr (.inr (.inr (fun i => some (q0 + 1 + i))))))), (q0 + 1 + 0, .inl (cA 0, 12, .inl (fun _ => 0))), (q0 + 1 + 1, .inl (cA 0, 12, .inl (fun _ => 0))), (q0 + 1 + 2, .inl (cA 0, 12, .inl (fun _ => 0))), (q0 + 1 + 3, .inl (cA 0, 12, .inl (fun _ => 0))), (q0 + 1 + 4, .inl (cA 0, 12, .inl (fun _ => 0))), (q0 + 1 + 5, .inl (cA 0, 12, .inl (fun _ => 0))), (q0 + 1 + 6, .inl (cA 0, 12, .inl (fun _ => 0)))]) C rfl rfl (by decide) wc_473 iwX3 tyX3_ok nmX3 rfl rfl rfl rfl (Nat.le_of_ble_eq_true rfl) rfl dX3_init_g1.2.2.2.2.2.2.2.2.2.1 ?_
  refine wx_aload_n 0 C dX3_init_g1.2.2.2.2.2.2.2.2.2.2.1 rfl ?_
  refine wx_iconst (v := 0) C dX3_init_g1.2.2.2.2.2.2.2.2.2.2.2 (by decide) ?_
  refine wx_put (i := 0) (ci := 2) (k := 8) (ws' := [(a, .inr (2, [.null, .null, .ref q0, .int (-1), .int 0, .int 0, .int 0, .int 0, .int 0, .int 0, .int 0])), (q0, .inl (cA 4, 7, .inr (.inr (.inr (.inr (fun i => some (q0 + 1 + i))))))), (q0 + 1 + 0, .inl (cA 0, 12, .inl (fun _ => 0))), (q0 + 1 + 1, .inl (cA 0, 12, .inl (fun _ => 0))), (q0 + 1 + 2, .inl (cA 0, 12, .inl (fun _ => 0))), (q0 + 1 + 3, .inl (cA 0, 12, .inl (fun _ => 0))), (q0 + 1 + 4, .inl (cA 0, 12, .inl (fun _ => 0))), (q0 + 1 + 5, .inl (cA 0, 12, .inl (fun _ => 0))), (q0 + 1 + 6, .inl (cA 0, 12, .inl (fun _ => 0)))]) C rfl rfl (by decide) wc_475 iwX3 tyX3_ok nmX3 rfl rfl rfl rfl (Nat.le_of_ble_eq_true rfl) rfl dX3_init_g2.1 ?_
  refine wx_aload_n 0 C dX3_init_g2.2.1 rfl ?_
  refine wx_iconst (v := 0) C dX3_init_g2.2.2.1 (by decide) ?_
  refine wx_put (i := 0) (ci := 2) (k := 9) (ws' := [(a, .inr (2, [.null, .null, .ref q0, .int (-1), .int 0, .int 0, .int 0, .int 0, .int 0, .int 0, .int 0])), (q0, .inl (cA 4, 7, .inr (.inr (.inr (.inr (fun i => some (q0 + 1 + i))))))), (q0 + 1 + 0, .inl (cA 0, 12, .inl (fun _ => 0))), (q0 + 1 + 1, .inl (cA 0, 12, .inl (fun _ => 0))), (q0 + 1 + 2, .inl (cA 0, 12, .inl (fun _ => 0))), (q0 + 1 + 3, .inl (cA 0, 12, .inl (fun _ => 0))), (q0 + 1 + 4, .inl (cA 0, 12, .inl (fun _ => 0))), (q0 + 1 + 5, .inl (cA 0, 12, .inl (fun _ => 0))), (q0 + 1 + 6, .inl (cA 0, 12, .inl (fun _ => 0)))]) C rfl rfl (by decide) wc_477 iwX3 tyX3_ok nmX3 rfl rfl rfl rfl (Nat.le_of_ble_eq_true rfl) rfl dX3_init_g2.2.2.2.1 ?_
  refine wx_aload_n 0 C dX3_init_g2.2.2.2.2.1 rfl ?_
  refine wx_iconst (v := 0) C dX3_init_g2.2.2.2.2.2.1 (by decide) ?_
  refine wx_put (i := 0) (ci := 2) (k := 10) (ws' := [(a, .inr (2, [.null, .null, .ref q0, .int (-1), .int 0, .int 0, .int 0, .int 0, .int 0, .int 0, .int 0])), (q0, .inl (cA 4, 7, .inr (.inr (.inr (.inr (fun i => some (q0 + 1 + i))))))), (q0 + 1 + 0, .inl (cA 0, 12, .inl (fun _ => 0))), (q0 + 1 + 1, .inl (cA 0, 12, .inl (fun _ => 0))), (q0 + 1 + 2, .inl (cA 0, 12, .inl (fun _ => 0))), (q0 + 1 + 3, .inl (cA 0, 12, .inl (fun _ => 0))), (q0 + 1 + 4, .inl (cA 0, 12, .inl (fun _ => 0))), (q0 + 1 + 5, .inl (cA 0, 12, .inl (fun _ => 0))), (q0 + 1 + 6, .inl (cA 0, 12, .inl (fun _ => 0)))]) C rfl rfl (by decide) wc_479 iwX3 tyX3_ok nmX3 rfl rfl rfl rfl (Nat.le_of_ble_eq_true rfl) rfl dX3_init_g2.2.2.2.2.2.2.1 ?_
  refine wx_aload_n 0 C dX3_init_g2.2.2.2.2.2.2.2.1 rfl ?_
  refine wx_aload_n 1 C dX3_init_g2.2.2.2.2.2.2.2.2.1 rfl ?_
  refine wx_putF (i := 0) (ci := 2) (k := 0) (ws' := [(a, .inr (2, [.ref b, .null, .ref q0, .int (-1), .int 0, .int 0, .int 0, .int 0, .int 0, .int 0, .int 0])), (q0, .inl (cA 4, 7, .inr (.inr (.inr (.inr (fun i => some (q0 + 1 + i))))))), (q0 + 1 + 0, .inl (cA 0, 12, .inl (fun _ => 0))), (q0 + 1 + 1, .inl (cA 0, 12, .inl (fun _ => 0))), (q0 + 1 + 2, .inl (cA 0, 12, .inl (fun _ => 0))), (q0 + 1 + 3, .inl (cA 0, 12, .inl (fun _ => 0))), (q0 + 1 + 4, .inl (cA 0, 12, .inl (fun _ => 0))), (q0 + 1 + 5, .inl (cA 0, 12, .inl (fun _ => 0))), (q0 + 1 + 6, .inl (cA 0, 12, .inl (fun _ => 0)))]) C rfl rfl (by decide) wc_463 iwX3 tyX3_ok nmX3 rfl rfl rfl rfl rfl (Nat.le_of_ble_eq_true rfl) rfl dX3_init_g2.2.2.2.2.2.2.2.2.2.1 ?_
  refine wx_aload_n 0 C dX3_init_g2.2.2.2.2.2.2.2.2.2.2.1 rfl ?_
  refine wx_aload_n 2 C dX3_init_g2.2.2.2.2.2.2.2.2.2.2.2 rfl ?_
  refine wx_putF (i := 0) (ci := 2) (k := 1) (ws' := [(a, .inr (2, [.ref b, .ref c1, .ref q0, .int (-1), .int 0, .int 0, .int 0, .int 0, .int 0, .int 0, .int 0])), (q0, .inl (cA 4, 7, .inr (.inr (.inr (.inr (fun i => some (q0 + 1 + i))))))), (q0 + 1 + 0, .inl (cA 0, 12, .inl (fun _ => 0))), (q0 + 1 + 1, .inl (cA 0, 12, .inl (fun _ => 0))), (q0 + 1 + 2, .inl (cA 0, 12, .inl (fun _ => 0))), (q0 + 1 + 3, .inl (cA 0, 12, .inl (fun _ => 0))), (q0 + 1 + 4, .inl (cA 0, 12, .inl (fun _ => 0))), (q0 + 1 + 5, .inl (cA 0, 12, .inl (fun _ => 0))), (q0 + 1 + 6, .inl (cA 0, 12, .inl (fun _ => 0)))]) C rfl rfl (by decide) wc_464 iwX3 tyX3_ok nmX3 rfl rfl rfl rfl rfl (Nat.le_of_ble_eq_true rfl) rfl dX3_init_g3.1 ?_
  exact wx_vret (u := fun k => [q0].getD k 0) C hrt rfl dX3_init_g3.2
def gX0 (cA : Nat → ClassId) (a : Nat) (t : Nat) (f : Nat → Option Nat) (t0 : Nat) (u : Nat → Nat) : va_W := [(t, .inl (cA 2, 6, .inr (.inr (.inr (.inr f))))), (a, .inr (0, [.ref t, .ref t0, .int 0, .int 0, .int 0, .ref (u 0), .ref (u 1), .int 0, .ref (u 2), .ref (u 3), .ref (u 4), .ref (u 5), .int 0, .int 0, .int 0, .int 0])), ((u 0), .inl (cA 0, 2, .inl (fun _ => 0))), ((u 1), .inl (cA 0, 6, .inl (fun _ => 0))), ((u 2), .inl (cA 0, 6, .inl (fun _ => 0))), ((u 3), .inl (cA 0, 160, .inl (fun _ => 0))), ((u 4), .inl (cA 0, 6, .inl (fun _ => 0))), ((u 5), .inl (cA 1, 2, .inl (fun _ => 0)))]
set_option maxHeartbeats 4000000 in
set_option maxRecDepth 100000 in
theorem c_X0_init {l : Launch} {D : va_G} {cA : Nat → ClassId} (a : Nat) (t : Nat) (f : Nat → Option Nat) (t0 : Nat) (ht : f 0 = some t0) : CtX l D cA yX0_init cX0_init 2 1 6 182 [.ref a, .ref t] [(a, .inr (0, [.null, .null, .int 0, .int 0, .int 0, .null, .null, .int 0, .null, .null, .null, .null, .int 0, .int 0, .int 0, .int 0])), (t, .inl (cA 2, 6, .inr (.inr (.inr (.inr f)))))] (gX0 cA a t f t0) := by
  refine ct_X (by decide) rfl (Nat.le_of_ble_eq_true rfl) (fun p e s m args below meth c C hrt => ?_)
  refine wx_aload_n 0 C dX0_init_g0.1 rfl ?_
  refine wx_obj C wc_361 (by decide) ⟨Nat.le_of_ble_eq_true rfl, Nat.le_of_ble_eq_true rfl⟩ dX0_init_g0.2.1 ?_
  refine wx_aload_n 0 C dX0_init_g0.2.2.1 rfl ?_
  refine wx_iconst (v := 0) C dX0_init_g0.2.2.2.1 (by decide) ?_
  refine wx_put (i := 0) (ci := 0) (k := 2) (ws' := [(a, .inr (0, [.null, .null, .int 0, .int 0, .int 0, .null, .null, .int 0, .null, .null, .null, .null, .int 0, .int 0, .int 0, .int 0])), (t, .inl (cA 2, 6, .inr (.inr (.inr (.inr f)))))]) C rfl rfl (by decide) wc_364 iwX0 tyX0_ok nmX0 rfl rfl rfl rfl (Nat.le_of_ble_eq_true rfl) rfl dX0_init_g0.2.2.2.2.1 ?_
  refine wx_aload_n 0 C dX0_init_g0.2.2.2.2.2.1 rfl ?_
  refine wx_iconst (v := 0) C dX0_init_g0.2.2.2.2.2.2.1 (by decide) ?_
  refine wx_put (i := 0) (ci := 0) (k := 3) (ws' := [(a, .inr (0, [.null, .null, .int 0, .int 0, .int 0, .null, .null, .int 0, .null, .null, .null, .null, .int 0, .int 0, .int 0, .int 0])), (t, .inl (cA 2, 6, .inr (.inr (.inr (.inr f)))))]) C rfl rfl (by decide) wc_365 iwX0 tyX0_ok nmX0 rfl rfl rfl rfl (Nat.le_of_ble_eq_true rfl) rfl dX0_init_g0.2.2.2.2.2.2.2.1 ?_
  refine wx_aload_n 0 C dX0_init_g0.2.2.2.2.2.2.2.2.1 rfl ?_
  refine wx_iconst (v := 0) C dX0_init_g0.2.2.2.2.2.2.2.2.2.1 (by decide) ?_
  refine wx_put (i := 0) (ci := 0) (k := 4) (ws' := [(a, .inr (0, [.null, .null, .int 0, .int 0, .int 0, .null, .null, .int 0, .null, .null, .null, .null, .int 0, .int 0, .int 0, .int 0])), (t, .inl (cA 2, 6, .inr (.inr (.inr (.inr f)))))]) C rfl rfl (by decide) wc_366 iwX0 tyX0_ok nmX0 rfl rfl rfl rfl (Nat.le_of_ble_eq_true rfl) rfl dX0_init_g0.2.2.2.2.2.2.2.2.2.2.1 ?_
  refine wx_aload_n 0 C dX0_init_g0.2.2.2.2.2.2.2.2.2.2.2 rfl ?_
  refine wx_iconst (v := 2) C dX0_init_g1.1 (by decide) ?_
  refine wx_newI (N := 2) C (by decide) (by decide) (Nat.le_of_ble_eq_true rfl) (Nat.le_of_ble_eq_true rfl) (Nat.le_of_ble_eq_true rfl) dX0_init_g1.2.1 (fun q0 => ?_)
  refine wx_ws (ws' := [(a, .inr (0, [.null, .null, .int 0, .int 0, .int 0, .null, .null, .int 0, .null, .null, .null, .null, .int 0, .int 0, .int 0, .int 0])), (t, .inl (cA 2, 6, .inr (.inr (.inr (.inr f))))), (q0, .inl (cA 0, 2, .inl (fun _ => 0)))]) rfl ?_
  refine wx_putF (i := 0) (ci := 0) (k := 5) (ws' := [(a, .inr (0, [.null, .null, .int 0, .int 0, .int 0, .ref q0, .null, .int 0, .null, .null, .null, .null, .int 0, .int 0, .int 0, .int 0])), (t, .inl (cA 2, 6, .inr (.inr (.inr (.inr f))))), (q0, .inl (cA 0, 2, .inl (fun _ => 0)))]) C rfl rfl (by decide) wc_367 iwX0 tyX0_ok nmX0 rfl rfl rfl rfl rfl (Nat.le_of_ble_eq_true rfl) rfl dX0_init_g1.2.2.1 ?_
  refine wx_aload_n 0 C dX0_init_g1.2.2.2.1 rfl ?_
  refine wx_bipush (v := 6) C dX0_init_g1.2.2.2.2.1 (by decide) ?_
  refine wx_newI (N := 6) C (by decide) (by decide) (Nat.le_of_ble_eq_true rfl) (Nat.le_of_ble_eq_true rfl) (Nat.le_of_ble_eq_true rfl) dX0_init_g1.2.2.2.2.2.1 (fun q1 => ?_)
  refine wx_ws (ws' := [(a, .inr (0, [.null, .null, .int 0, .int 0, .int 0, .ref q0, .null, .int 0, .null, .null, .null, .null, .int 0, .int 0, .int 0, .int 0])), (t, .inl (cA 2, 6, .inr (.inr (.inr (.inr f))))), (q0, .inl (cA 0, 2, .inl (fun _ => 0))), (q1, .inl (cA 0, 6, .inl (fun _ => 0)))]) rfl ?_
  refine wx_putF (i := 0) (ci := 0) (k := 6) (ws' := [(a, .inr (0, [.null, .null, .int 0, .int 0, .int 0, .ref q0, .ref q1, .int 0, .null, .null, .null, .null, .int 0, .int 0, .int 0, .int 0])), (t, .inl (cA 2, 6, .inr (.inr (.inr (.inr f))))), (q0, .inl (cA 0, 2, .inl (fun _ => 0))), (q1, .inl (cA 0, 6, .inl (fun _ => 0)))]) C rfl rfl (by decide) wc_368 iwX0 tyX0_ok nmX0 rfl rfl rfl rfl rfl (Nat.le_of_ble_eq_true rfl) rfl dX0_init_g1.2.2.2.2.2.2.1 ?_
  refine wx_aload_n 0 C dX0_init_g1.2.2.2.2.2.2.2.1 rfl ?_
  refine wx_iconst (v := 0) C dX0_init_g1.2.2.2.2.2.2.2.2.1 (by decide) ?_
  refine wx_put (i := 0) (ci := 0) (k := 7) (ws' := [(a, .inr (0, [.null, .null, .int 0, .int 0, .int 0, .ref q0, .ref q1, .int 0, .null, .null, .null, .null, .int 0, .int 0, .int 0, .int 0])), (t, .inl (cA 2, 6, .inr (.inr (.inr (.inr f))))), (q0, .inl (cA 0, 2, .inl (fun _ => 0))), (q1, .inl (cA 0, 6, .inl (fun _ => 0)))]) C rfl rfl (by decide) wc_369 iwX0 tyX0_ok nmX0 rfl rfl rfl rfl (Nat.le_of_ble_eq_true rfl) rfl dX0_init_g1.2.2.2.2.2.2.2.2.2.1 ?_
  refine wx_aload_n 0 C dX0_init_g1.2.2.2.2.2.2.2.2.2.2.1 rfl ?_
  refine wx_bipush (v := 6) C dX0_init_g1.2.2.2.2.2.2.2.2.2.2.2 (by decide) ?_
  refine wx_newI (N := 6) C (by decide) (by decide) (Nat.le_of_ble_eq_true rfl) (Nat.le_of_ble_eq_true rfl) (Nat.le_of_ble_eq_true rfl) dX0_init_g2.1 (fun q2 => ?_)
  refine wx_ws (ws' := [(a, .inr (0, [.null, .null, .int 0, .int 0, .int 0, .ref q0, .ref q1, .int 0, .null, .null, .null, .null, .int 0, .int 0, .int 0, .int 0])), (t, .inl (cA 2, 6, .inr (.inr (.inr (.inr f))))), (q0, .inl (cA 0, 2, .inl (fun _ => 0))), (q1, .inl (cA 0, 6, .inl (fun _ => 0))), (q2, .inl (cA 0, 6, .inl (fun _ => 0)))]) rfl ?_
  refine wx_putF (i := 0) (ci := 0) (k := 8) (ws' := [(a, .inr (0, [.null, .null, .int 0, .int 0, .int 0, .ref q0, .ref q1, .int 0, .ref q2, .null, .null, .null, .int 0, .int 0, .int 0, .int 0])), (t, .inl (cA 2, 6, .inr (.inr (.inr (.inr f))))), (q0, .inl (cA 0, 2, .inl (fun _ => 0))), (q1, .inl (cA 0, 6, .inl (fun _ => 0))), (q2, .inl (cA 0, 6, .inl (fun _ => 0)))]) C rfl rfl (by decide) wc_370 iwX0 tyX0_ok nmX0 rfl rfl rfl rfl rfl (Nat.le_of_ble_eq_true rfl) rfl dX0_init_g2.2.1 ?_
  refine wx_aload_n 0 C dX0_init_g2.2.2.1 rfl ?_
  refine wx_sipush (v := 160) C dX0_init_g2.2.2.2.1 (by decide) ?_
  refine wx_newI (N := 160) C (by decide) (by decide) (Nat.le_of_ble_eq_true rfl) (Nat.le_of_ble_eq_true rfl) (Nat.le_of_ble_eq_true rfl) dX0_init_g2.2.2.2.2.1 (fun q3 => ?_)
  refine wx_ws (ws' := [(a, .inr (0, [.null, .null, .int 0, .int 0, .int 0, .ref q0, .ref q1, .int 0, .ref q2, .null, .null, .null, .int 0, .int 0, .int 0, .int 0])), (t, .inl (cA 2, 6, .inr (.inr (.inr (.inr f))))), (q0, .inl (cA 0, 2, .inl (fun _ => 0))), (q1, .inl (cA 0, 6, .inl (fun _ => 0))), (q2, .inl (cA 0, 6, .inl (fun _ => 0))), (q3, .inl (cA 0, 160, .inl (fun _ => 0)))]) rfl ?_
  refine wx_putF (i := 0) (ci := 0) (k := 9) (ws' := [(a, .inr (0, [.null, .null, .int 0, .int 0, .int 0, .ref q0, .ref q1, .int 0, .ref q2, .ref q3, .null, .null, .int 0, .int 0, .int 0, .int 0])), (t, .inl (cA 2, 6, .inr (.inr (.inr (.inr f))))), (q0, .inl (cA 0, 2, .inl (fun _ => 0))), (q1, .inl (cA 0, 6, .inl (fun _ => 0))), (q2, .inl (cA 0, 6, .inl (fun _ => 0))), (q3, .inl (cA 0, 160, .inl (fun _ => 0)))]) C rfl rfl (by decide) wc_371 iwX0 tyX0_ok nmX0 rfl rfl rfl rfl rfl (Nat.le_of_ble_eq_true rfl) rfl dX0_init_g2.2.2.2.2.2.1 ?_
  refine wx_aload_n 0 C dX0_init_g2.2.2.2.2.2.2.1 rfl ?_
  refine wx_bipush (v := 6) C dX0_init_g2.2.2.2.2.2.2.2.1 (by decide) ?_
  refine wx_newI (N := 6) C (by decide) (by decide) (Nat.le_of_ble_eq_true rfl) (Nat.le_of_ble_eq_true rfl) (Nat.le_of_ble_eq_true rfl) dX0_init_g2.2.2.2.2.2.2.2.2.1 (fun q4 => ?_)
  refine wx_ws (ws' := [(a, .inr (0, [.null, .null, .int 0, .int 0, .int 0, .ref q0, .ref q1, .int 0, .ref q2, .ref q3, .null, .null, .int 0, .int 0, .int 0, .int 0])), (t, .inl (cA 2, 6, .inr (.inr (.inr (.inr f))))), (q0, .inl (cA 0, 2, .inl (fun _ => 0))), (q1, .inl (cA 0, 6, .inl (fun _ => 0))), (q2, .inl (cA 0, 6, .inl (fun _ => 0))), (q3, .inl (cA 0, 160, .inl (fun _ => 0))), (q4, .inl (cA 0, 6, .inl (fun _ => 0)))]) rfl ?_
  refine wx_putF (i := 0) (ci := 0) (k := 10) (ws' := [(a, .inr (0, [.null, .null, .int 0, .int 0, .int 0, .ref q0, .ref q1, .int 0, .ref q2, .ref q3, .ref q4, .null, .int 0, .int 0, .int 0, .int 0])), (t, .inl (cA 2, 6, .inr (.inr (.inr (.inr f))))), (q0, .inl (cA 0, 2, .inl (fun _ => 0))), (q1, .inl (cA 0, 6, .inl (fun _ => 0))), (q2, .inl (cA 0, 6, .inl (fun _ => 0))), (q3, .inl (cA 0, 160, .inl (fun _ => 0))), (q4, .inl (cA 0, 6, .inl (fun _ => 0)))]) C rfl rfl (by decide) wc_372 iwX0 tyX0_ok nmX0 rfl rfl rfl rfl rfl (Nat.le_of_ble_eq_true rfl) rfl dX0_init_g2.2.2.2.2.2.2.2.2.2.1 ?_
  refine wx_aload_n 0 C dX0_init_g2.2.2.2.2.2.2.2.2.2.2.1 rfl ?_
  refine wx_iconst (v := 2) C dX0_init_g2.2.2.2.2.2.2.2.2.2.2.2 (by decide) ?_
  refine wx_newZ (N := 2) C (by decide) (by decide) (Nat.le_of_ble_eq_true rfl) (Nat.le_of_ble_eq_true rfl) (Nat.le_of_ble_eq_true rfl) dX0_init_g3.1 (fun q5 => ?_)
  refine wx_ws (ws' := [(a, .inr (0, [.null, .null, .int 0, .int 0, .int 0, .ref q0, .ref q1, .int 0, .ref q2, .ref q3, .ref q4, .null, .int 0, .int 0, .int 0, .int 0])), (t, .inl (cA 2, 6, .inr (.inr (.inr (.inr f))))), (q0, .inl (cA 0, 2, .inl (fun _ => 0))), (q1, .inl (cA 0, 6, .inl (fun _ => 0))), (q2, .inl (cA 0, 6, .inl (fun _ => 0))), (q3, .inl (cA 0, 160, .inl (fun _ => 0))), (q4, .inl (cA 0, 6, .inl (fun _ => 0))), (q5, .inl (cA 1, 2, .inl (fun _ => 0)))]) rfl ?_
  refine wx_putF (i := 0) (ci := 0) (k := 11) (ws' := [(a, .inr (0, [.null, .null, .int 0, .int 0, .int 0, .ref q0, .ref q1, .int 0, .ref q2, .ref q3, .ref q4, .ref q5, .int 0, .int 0, .int 0, .int 0])), (t, .inl (cA 2, 6, .inr (.inr (.inr (.inr f))))), (q0, .inl (cA 0, 2, .inl (fun _ => 0))), (q1, .inl (cA 0, 6, .inl (fun _ => 0))), (q2, .inl (cA 0, 6, .inl (fun _ => 0))), (q3, .inl (cA 0, 160, .inl (fun _ => 0))), (q4, .inl (cA 0, 6, .inl (fun _ => 0))), (q5, .inl (cA 1, 2, .inl (fun _ => 0)))]) C rfl rfl (by decide) wc_373 iwX0 tyX0_ok nmX0 rfl rfl rfl rfl rfl (Nat.le_of_ble_eq_true rfl) rfl dX0_init_g3.2.1 ?_
  refine wx_aload_n 0 C dX0_init_g3.2.2.1 rfl ?_
  refine wx_iconst (v := 0) C dX0_init_g3.2.2.2.1 (by decide) ?_
  refine wx_put (i := 0) (ci := 0) (k := 12) (ws' := [(a, .inr (0, [.null, .null, .int 0, .int 0, .int 0, .ref q0, .ref q1, .int 0, .ref q2, .ref q3, .ref q4, .ref q5, .int 0, .int 0, .int 0, .int 0])), (t, .inl (cA 2, 6, .inr (.inr (.inr (.inr f))))), (q0, .inl (cA 0, 2, .inl (fun _ => 0))), (q1, .inl (cA 0, 6, .inl (fun _ => 0))), (q2, .inl (cA 0, 6, .inl (fun _ => 0))), (q3, .inl (cA 0, 160, .inl (fun _ => 0))), (q4, .inl (cA 0, 6, .inl (fun _ => 0))), (q5, .inl (cA 1, 2, .inl (fun _ => 0)))]) C rfl rfl (by decide) wc_375 iwX0 tyX0_ok nmX0 rfl rfl rfl rfl (Nat.le_of_ble_eq_true rfl) rfl dX0_init_g3.2.2.2.2.1 ?_
  refine wx_aload_n 0 C dX0_init_g3.2.2.2.2.2.1 rfl ?_
  refine wx_iconst (v := 0) C dX0_init_g3.2.2.2.2.2.2.1 (by decide) ?_
  refine wx_put (i := 0) (ci := 0) (k := 13) (ws' := [(a, .inr (0, [.null, .null, .int 0, .int 0, .int 0, .ref q0, .ref q1, .int 0, .ref q2, .ref q3, .ref q4, .ref q5, .int 0, .int 0, .int 0, .int 0])), (t, .inl (cA 2, 6, .inr (.inr (.inr (.inr f))))), (q0, .inl (cA 0, 2, .inl (fun _ => 0))), (q1, .inl (cA 0, 6, .inl (fun _ => 0))), (q2, .inl (cA 0, 6, .inl (fun _ => 0))), (q3, .inl (cA 0, 160, .inl (fun _ => 0))), (q4, .inl (cA 0, 6, .inl (fun _ => 0))), (q5, .inl (cA 1, 2, .inl (fun _ => 0)))]) C rfl rfl (by decide) wc_377 iwX0 tyX0_ok nmX0 rfl rfl rfl rfl (Nat.le_of_ble_eq_true rfl) rfl dX0_init_g3.2.2.2.2.2.2.2.1 ?_
  refine wx_aload_n 0 C dX0_init_g3.2.2.2.2.2.2.2.2.1 rfl ?_
  refine wx_iconst (v := 0) C dX0_init_g3.2.2.2.2.2.2.2.2.2.1 (by decide) ?_
  refine wx_put (i := 0) (ci := 0) (k := 14) (ws' := [(a, .inr (0, [.null, .null, .int 0, .int 0, .int 0, .ref q0, .ref q1, .int 0, .ref q2, .ref q3, .ref q4, .ref q5, .int 0, .int 0, .int 0, .int 0])), (t, .inl (cA 2, 6, .inr (.inr (.inr (.inr f))))), (q0, .inl (cA 0, 2, .inl (fun _ => 0))), (q1, .inl (cA 0, 6, .inl (fun _ => 0))), (q2, .inl (cA 0, 6, .inl (fun _ => 0))), (q3, .inl (cA 0, 160, .inl (fun _ => 0))), (q4, .inl (cA 0, 6, .inl (fun _ => 0))), (q5, .inl (cA 1, 2, .inl (fun _ => 0)))]) C rfl rfl (by decide) wc_379 iwX0 tyX0_ok nmX0 rfl rfl rfl rfl (Nat.le_of_ble_eq_true rfl) rfl dX0_init_g3.2.2.2.2.2.2.2.2.2.2.1 ?_
  refine wx_aload_n 0 C dX0_init_g3.2.2.2.2.2.2.2.2.2.2.2 rfl ?_
  refine wx_iconst (v := 0) C dX0_init_g4.1 (by decide) ?_
  refine wx_put (i := 0) (ci := 0) (k := 15) (ws' := [(a, .inr (0, [.null, .null, .int 0, .int 0, .int 0, .ref q0, .ref q1, .int 0, .ref q2, .ref q3, .ref q4, .ref q5, .int 0, .int 0, .int 0, .int 0])), (t, .inl (cA 2, 6, .inr (.inr (.inr (.inr f))))), (q0, .inl (cA 0, 2, .inl (fun _ => 0))), (q1, .inl (cA 0, 6, .inl (fun _ => 0))), (q2, .inl (cA 0, 6, .inl (fun _ => 0))), (q3, .inl (cA 0, 160, .inl (fun _ => 0))), (q4, .inl (cA 0, 6, .inl (fun _ => 0))), (q5, .inl (cA 1, 2, .inl (fun _ => 0)))]) C rfl rfl (by decide) wc_383 iwX0 tyX0_ok nmX0 rfl rfl rfl rfl (Nat.le_of_ble_eq_true rfl) rfl dX0_init_g4.2.1 ?_
  refine wx_aload_n 0 C dX0_init_g4.2.2.1 rfl ?_
  refine wx_aload_n 1 C dX0_init_g4.2.2.2.1 rfl ?_
  refine wx_putF (i := 0) (ci := 0) (k := 0) (ws' := [(a, .inr (0, [.ref t, .null, .int 0, .int 0, .int 0, .ref q0, .ref q1, .int 0, .ref q2, .ref q3, .ref q4, .ref q5, .int 0, .int 0, .int 0, .int 0])), (t, .inl (cA 2, 6, .inr (.inr (.inr (.inr f))))), (q0, .inl (cA 0, 2, .inl (fun _ => 0))), (q1, .inl (cA 0, 6, .inl (fun _ => 0))), (q2, .inl (cA 0, 6, .inl (fun _ => 0))), (q3, .inl (cA 0, 160, .inl (fun _ => 0))), (q4, .inl (cA 0, 6, .inl (fun _ => 0))), (q5, .inl (cA 1, 2, .inl (fun _ => 0)))]) C rfl rfl (by decide) wc_362 iwX0 tyX0_ok nmX0 rfl rfl rfl rfl rfl (Nat.le_of_ble_eq_true rfl) rfl dX0_init_g4.2.2.2.2.1 ?_
  refine wx_aload_n 0 C dX0_init_g4.2.2.2.2.2.1 rfl ?_
  refine wx_aload_n 1 C dX0_init_g4.2.2.2.2.2.2.1 rfl ?_
  refine wx_iconst (v := 0) C dX0_init_g4.2.2.2.2.2.2.2.1 (by decide) ?_
  refine wx_aald (i := 1) (k := 2) (n := 6) (v := .ref t0) C rfl rfl (by decide) (by show va_rf (f ((0 : Int32).toNatClampNeg)) = _; rw [show (0 : Int32).toNatClampNeg = 0 by decide, ht]; rfl) dX0_init_g4.2.2.2.2.2.2.2.2.1 ?_
  refine wx_put (i := 0) (ci := 0) (k := 1) (ws' := [(a, .inr (0, [.ref t, .ref t0, .int 0, .int 0, .int 0, .ref q0, .ref q1, .int 0, .ref q2, .ref q3, .ref q4, .ref q5, .int 0, .int 0, .int 0, .int 0])), (t, .inl (cA 2, 6, .inr (.inr (.inr (.inr f))))), (q0, .inl (cA 0, 2, .inl (fun _ => 0))), (q1, .inl (cA 0, 6, .inl (fun _ => 0))), (q2, .inl (cA 0, 6, .inl (fun _ => 0))), (q3, .inl (cA 0, 160, .inl (fun _ => 0))), (q4, .inl (cA 0, 6, .inl (fun _ => 0))), (q5, .inl (cA 1, 2, .inl (fun _ => 0)))]) C rfl rfl (by decide) wc_363 iwX0 tyX0_ok nmX0 rfl rfl rfl rfl (Nat.le_of_ble_eq_true rfl) rfl dX0_init_g4.2.2.2.2.2.2.2.2.2.1 ?_
  refine wx_perm (ws' := [(t, .inl (cA 2, 6, .inr (.inr (.inr (.inr f))))), (a, .inr (0, [.ref t, .ref t0, .int 0, .int 0, .int 0, .ref q0, .ref q1, .int 0, .ref q2, .ref q3, .ref q4, .ref q5, .int 0, .int 0, .int 0, .int 0])), (q0, .inl (cA 0, 2, .inl (fun _ => 0))), (q1, .inl (cA 0, 6, .inl (fun _ => 0))), (q2, .inl (cA 0, 6, .inl (fun _ => 0))), (q3, .inl (cA 0, 160, .inl (fun _ => 0))), (q4, .inl (cA 0, 6, .inl (fun _ => 0))), (q5, .inl (cA 1, 2, .inl (fun _ => 0)))]) (List.Perm.swap _ _ _) ?_
  exact wx_vret (u := fun k => [q0, q1, q2, q3, q4, q5].getD k 0) C hrt rfl dX0_init_g4.2.2.2.2.2.2.2.2.2.2
