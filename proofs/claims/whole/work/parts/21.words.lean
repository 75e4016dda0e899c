/-! the words of the tables that the walks use -/
theorem wt_X0_104 : Cond.methodLink RX0 104 yX2_fed ∈ WT := wtm 634 (by decide +kernel)
theorem wt_X0_107 : Cond.methodLink RX0 107 yX2_toll ∈ WT := wtm 638 (by decide +kernel)
theorem wt_X0_109 : Cond.methodLink RX0 109 yX2_signs ∈ WT := wtm 641 (by decide +kernel)
theorem wt_X0_113 : Cond.methodLink RX0 113 yX7_value ∈ WT := wtm 620 (by decide +kernel)
theorem wt_X0_117 : Cond.methodLink RX0 117 yX0_cross ∈ WT := wtm 668 (by decide +kernel)
theorem wt_X0_121 : Cond.methodLink RX0 121 yX0_judge ∈ WT := wtm 669 (by decide +kernel)
theorem wt_X0_124 : Cond.methodLink RX0 124 yX0_isCooked ∈ WT := wtm 784 (by decide +kernel)
theorem wt_X0_128 : Cond.methodLink RX0 128 yX0_worth ∈ WT := wtm 785 (by decide +kernel)
theorem wt_X0_132 : Cond.fieldLink RX0 132 RX6 "items" "[I" ∈ WT := wtm 204 (by decide +kernel)
theorem wt_X0_15 : Cond.fieldLink RX0 15 RX0 "number" "I" ∈ WT := wtm 365 (by decide +kernel)
theorem wt_X0_18 : Cond.fieldLink RX0 18 RX0 "hour" "I" ∈ WT := wtm 366 (by decide +kernel)
theorem wt_X0_21 : Cond.fieldLink RX0 21 RX0 "prides" "[I" ∈ WT := wtm 367 (by decide +kernel)
theorem wt_X0_25 : Cond.fieldLink RX0 25 RX0 "needs" "[I" ∈ WT := wtm 368 (by decide +kernel)
theorem wt_X0_28 : Cond.fieldLink RX0 28 RX0 "needsTogether" "I" ∈ WT := wtm 369 (by decide +kernel)
theorem wt_X0_33 : Cond.fieldLink RX0 33 RX0 "names" "[I" ∈ WT := wtm 370 (by decide +kernel)
theorem wt_X0_36 : Cond.fieldLink RX0 36 RX0 "stack" "[I" ∈ WT := wtm 371 (by decide +kernel)
theorem wt_X0_39 : Cond.fieldLink RX0 39 RX0 "crossing" "[I" ∈ WT := wtm 372 (by decide +kernel)
theorem wt_X0_42 : Cond.fieldLink RX0 42 RX0 "signed" "[Z" ∈ WT := wtm 373 (by decide +kernel)
theorem wt_X0_46 : Cond.fieldLink RX0 46 RX0 "canBe" "Z" ∈ WT := wtm 375 (by decide +kernel)
theorem wt_X0_50 : Cond.fieldLink RX0 50 RX0 "crosses" "I" ∈ WT := wtm 377 (by decide +kernel)
theorem wt_X0_53 : Cond.fieldLink RX0 53 RX0 "toll" "I" ∈ WT := wtm 379 (by decide +kernel)
theorem wt_X0_56 : Cond.fieldLink RX0 56 RX0 "fed" "I" ∈ WT := wtm 383 (by decide +kernel)
theorem wt_X0_59 : Cond.fieldLink RX0 59 RX0 "texts" "[LMenuIsATreaty$Text;" ∈ WT := wtm 362 (by decide +kernel)
theorem wt_X0_63 : Cond.fieldLink RX0 63 RX0 "rule" "LMenuIsATreaty$Text;" ∈ WT := wtm 363 (by decide +kernel)
theorem wt_X0_67 : Cond.fieldLink RX0 67 RX1 "kinds" "[I" ∈ WT := wtm 107 (by decide +kernel)
theorem wt_X0_72 : Cond.fieldLink RX0 72 RX1 "numbers" "[I" ∈ WT := wtm 110 (by decide +kernel)
theorem wt_X0_75 : Cond.fieldLink RX0 75 RX1 "hour" "I" ∈ WT := wtm 121 (by decide +kernel)
theorem wt_X0_76 : Cond.fieldLink RX0 76 RX1 "prides" "[I" ∈ WT := wtm 104 (by decide +kernel)
theorem wt_X0_77 : Cond.methodLink RX0 77 yX1_needsOf ∈ WT := wtm 599 (by decide +kernel)
theorem wt_X0_81 : Cond.methodLink RX0 81 yX1_needsTogether ∈ WT := wtm 600 (by decide +kernel)
theorem wt_X0_84 : Cond.fieldLink RX0 84 RX1 "rule" "I" ∈ WT := wtm 124 (by decide +kernel)
theorem wt_X0_86 : Cond.methodLink RX0 86 yX0_ruleBy ∈ WT := wtm 601 (by decide +kernel)
theorem wt_X0_9 : Cond.fieldLink RX0 9 RX0 "kind" "I" ∈ WT := wtm 364 (by decide +kernel)
theorem wt_X0_90 : Cond.methodLink RX0 90 Lib.Math.max.name ∈ WT := wtm 609 (by decide +kernel)
theorem wt_X0_95 : Cond.methodLink RX0 95 yX0_ask ∈ WT := wtm 616 (by decide +kernel)
theorem wt_X0_99 : Cond.methodLink RX0 99 yX2_bounded ∈ WT := wtm 627 (by decide +kernel)
theorem wt_X1_15 : Cond.fieldLink RX1 15 RX1 "prides" "[I" ∈ WT := wtm 103 (by decide +kernel)
theorem wt_X1_18 : Cond.fieldLink RX1 18 RX1 "kinds" "[I" ∈ WT := wtm 106 (by decide +kernel)
theorem wt_X1_21 : Cond.fieldLink RX1 21 RX1 "numbers" "[I" ∈ WT := wtm 109 (by decide +kernel)
theorem wt_X1_24 : Cond.fieldLink RX1 24 RX1 "needs" "[I" ∈ WT := wtm 112 (by decide +kernel)
theorem wt_X1_27 : Cond.fieldLink RX1 27 RX1 "cooked" "[I" ∈ WT := wtm 114 (by decide +kernel)
theorem wt_X1_30 : Cond.fieldLink RX1 30 RX1 "dishCount" "I" ∈ WT := wtm 116 (by decide +kernel)
theorem wt_X1_34 : Cond.fieldLink RX1 34 RX1 "hour" "I" ∈ WT := wtm 120 (by decide +kernel)
theorem wt_X1_37 : Cond.fieldLink RX1 37 RX1 "rule" "I" ∈ WT := wtm 123 (by decide +kernel)
theorem wt_X1_43 : Cond.methodLink RX1 43 yX1_needsOf ∈ WT := wtm 572 (by decide +kernel)
theorem wt_X1_47 : Cond.methodLink RX1 47 Lib.Math.min.name ∈ WT := wtm 678 (by decide +kernel)
theorem wt_X1_52 : Cond.methodLink RX1 52 arraycopyName ∈ WT := wtm 823 (by decide +kernel)
theorem wt_X1_9 : Cond.fieldLink RX1 9 RX1 "stores" "[I" ∈ WT := wtm 99 (by decide +kernel)
theorem wt_X2_15 : Cond.methodLink RX2 15 Lib.Math.max.name ∈ WT := wtm 633 (by decide +kernel)
theorem wt_X2_22 : Cond.methodLink RX2 22 yX2_bounded ∈ WT := wtm 637 (by decide +kernel)
theorem wt_X2_9 : Cond.methodLink RX2 9 Lib.Math.min.name ∈ WT := wtm 630 (by decide +kernel)
theorem wt_X3_11 : Cond.fieldLink RX3 11 RX3 "stores" "[[I" ∈ WT := wtm 465 (by decide +kernel)
theorem wt_X3_16 : Cond.fieldLink RX3 16 RX3 "barred" "I" ∈ WT := wtm 466 (by decide +kernel)
theorem wt_X3_20 : Cond.fieldLink RX3 20 RX3 "best" "I" ∈ WT := wtm 467 (by decide +kernel)
theorem wt_X3_23 : Cond.fieldLink RX3 23 RX3 "bestWorth" "I" ∈ WT := wtm 469 (by decide +kernel)
theorem wt_X3_26 : Cond.fieldLink RX3 26 RX3 "feast" "I" ∈ WT := wtm 471 (by decide +kernel)
theorem wt_X3_29 : Cond.fieldLink RX3 29 RX3 "feastFed" "I" ∈ WT := wtm 473 (by decide +kernel)
theorem wt_X3_32 : Cond.fieldLink RX3 32 RX3 "peace" "I" ∈ WT := wtm 475 (by decide +kernel)
theorem wt_X3_35 : Cond.fieldLink RX3 35 RX3 "peaceToll" "I" ∈ WT := wtm 477 (by decide +kernel)
theorem wt_X3_38 : Cond.fieldLink RX3 38 RX3 "peaceCount" "I" ∈ WT := wtm 479 (by decide +kernel)
theorem wt_X3_41 : Cond.fieldLink RX3 41 RX3 "house" "LMenuIsATreaty$House;" ∈ WT := wtm 463 (by decide +kernel)
theorem wt_X3_45 : Cond.fieldLink RX3 45 RX3 "cooking" "LMenuIsATreaty$Cooking;" ∈ WT := wtm 464 (by decide +kernel)
theorem wt_X3_49 : Cond.fieldLink RX3 49 RX1 "stores" "[I" ∈ WT := wtm 101 (by decide +kernel)
theorem wt_X3_54 : Cond.methodLink RX3 54 arraycopyName ∈ WT := wtm 728 (by decide +kernel)
theorem wt_X3_60 : Cond.methodLink RX3 60 Lib.Math.min.name ∈ WT := wtm 729 (by decide +kernel)
theorem wt_X3_66 : Cond.methodLink RX3 66 yX3_goThrough ∈ WT := wtm 730 (by decide +kernel)
theorem wt_X3_70 : Cond.fieldLink RX3 70 RX1 "dishCount" "I" ∈ WT := wtm 117 (by decide +kernel)
theorem wt_X3_73 : Cond.methodLink RX3 73 yX3_weigh ∈ WT := wtm 734 (by decide +kernel)
theorem wt_X3_77 : Cond.methodLink RX3 77 yX0_takeUp ∈ WT := wtm 738 (by decide +kernel)
theorem wt_X3_83 : Cond.methodLink RX3 83 yX0_isCooked ∈ WT := wtm 739 (by decide +kernel)
theorem wt_X3_87 : Cond.methodLink RX3 87 yX0_useUp ∈ WT := wtm 740 (by decide +kernel)
theorem wt_X3_91 : Cond.fieldLink RX3 91 RX0 "fed" "I" ∈ WT := wtm 385 (by decide +kernel)
theorem wt_X3_94 : Cond.fieldLink RX3 94 RX0 "toll" "I" ∈ WT := wtm 381 (by decide +kernel)
theorem wt_X4_15 : Cond.fieldLink RX4 15 RX4 "fed" "I" ∈ WT := wtm 432 (by decide +kernel)
theorem wt_X4_19 : Cond.fieldLink RX4 19 RX4 "fedAtFirst" "I" ∈ WT := wtm 434 (by decide +kernel)
theorem wt_X4_22 : Cond.fieldLink RX4 22 RX4 "toll" "I" ∈ WT := wtm 436 (by decide +kernel)
theorem wt_X4_25 : Cond.fieldLink RX4 25 RX4 "failed" "I" ∈ WT := wtm 438 (by decide +kernel)
theorem wt_X4_28 : Cond.fieldLink RX4 28 RX4 "house" "LMenuIsATreaty$House;" ∈ WT := wtm 428 (by decide +kernel)
theorem wt_X4_32 : Cond.fieldLink RX4 32 RX4 "cooking" "LMenuIsATreaty$Cooking;" ∈ WT := wtm 429 (by decide +kernel)
theorem wt_X4_36 : Cond.fieldLink RX4 36 RX1 "stores" "[I" ∈ WT := wtm 100 (by decide +kernel)
theorem wt_X4_39 : Cond.methodLink RX4 39 arraycopyName ∈ WT := wtm 696 (by decide +kernel)
theorem wt_X4_45 : Cond.methodLink RX4 45 yX0_takeUp ∈ WT := wtm 707 (by decide +kernel)
theorem wt_X4_51 : Cond.methodLink RX4 51 yX0_isCooked ∈ WT := wtm 708 (by decide +kernel)
theorem wt_X4_55 : Cond.methodLink RX4 55 yX0_useUp ∈ WT := wtm 709 (by decide +kernel)
theorem wt_X4_59 : Cond.fieldLink RX4 59 RX0 "fed" "I" ∈ WT := wtm 384 (by decide +kernel)
theorem wt_X4_60 : Cond.fieldLink RX4 60 RX0 "toll" "I" ∈ WT := wtm 380 (by decide +kernel)
theorem wt_X4_61 : Cond.methodLink RX4 61 yX4_begin ∈ WT := wtm 692 (by decide +kernel)
theorem wt_X4_64 : Cond.fieldLink RX4 64 RX1 "dishCount" "I" ∈ WT := wtm 118 (by decide +kernel)
theorem wt_X4_67 : Cond.methodLink RX4 67 yX1_kitchenBy ∈ WT := wtm 699 (by decide +kernel)
theorem wt_X4_71 : Cond.methodLink RX4 71 yX4_goOn ∈ WT := wtm 703 (by decide +kernel)
theorem wt_X4_75 : Cond.constant RX4 75 (1103515245) ∈ WT := wtm 810 (by decide +kernel)
theorem wt_X4_9 : Cond.fieldLink RX4 9 RX4 "stores" "[I" ∈ WT := wtm 430 (by decide +kernel)
theorem wt_X5_122 : Cond.methodLink RX5 122 yJ0_length_8abf5 ∈ WT := wtm 290 (by decide +kernel)
theorem wt_X5_128 : Cond.methodLink RX5 128 yJ0_charAt_5068e ∈ WT := wtm 291 (by decide +kernel)
theorem wt_X5_15 : Cond.fieldLink RX5 15 RX5 "size" "I" ∈ WT := wtm 155 (by decide +kernel)
theorem wt_X5_19 : Cond.fieldLink RX5 19 RX5 "at" "I" ∈ WT := wtm 157 (by decide +kernel)
theorem wt_X5_22 : Cond.fieldLink RX5 22 RX5 "token" "I" ∈ WT := wtm 158 (by decide +kernel)
theorem wt_X5_25 : Cond.fieldLink RX5 25 RX5 "place" "I" ∈ WT := wtm 159 (by decide +kernel)
theorem wt_X5_28 : Cond.fieldLink RX5 28 RX5 "code" "I" ∈ WT := wtm 160 (by decide +kernel)
theorem wt_X5_31 : Cond.fieldLink RX5 31 RX5 "fault" "I" ∈ WT := wtm 161 (by decide +kernel)
theorem wt_X5_34 : Cond.methodLink RX5 34 yX7_clear ∈ WT := wtm 270 (by decide +kernel)
theorem wt_X5_39 : Cond.methodLink RX5 39 yX5_advance ∈ WT := wtm 274 (by decide +kernel)
theorem wt_X5_42 : Cond.methodLink RX5 42 yX5_expect ∈ WT := wtm 316 (by decide +kernel)
theorem wt_X5_46 : Cond.methodLink RX5 46 yX5_readEither ∈ WT := wtm 324 (by decide +kernel)
theorem wt_X5_50 : Cond.methodLink RX5 50 yX7_endSection ∈ WT := wtm 352 (by decide +kernel)
theorem wt_X5_53 : Cond.methodLink RX5 53 yX5_fail ∈ WT := wtm 320 (by decide +kernel)
theorem wt_X5_56 : Cond.methodLink RX5 56 yX5_readBoth ∈ WT := wtm 328 (by decide +kernel)
theorem wt_X5_59 : Cond.methodLink RX5 59 yX7_append ∈ WT := wtm 336 (by decide +kernel)
theorem wt_X5_62 : Cond.methodLink RX5 62 yX5_readNot ∈ WT := wtm 332 (by decide +kernel)
theorem wt_X5_65 : Cond.methodLink RX5 65 yX5_readSum ∈ WT := wtm 340 (by decide +kernel)
theorem wt_X5_68 : Cond.methodLink RX5 68 yX5_readTerm ∈ WT := wtm 344 (by decide +kernel)
theorem wt_X5_71 : Cond.methodLink RX5 71 yX5_readOne ∈ WT := wtm 348 (by decide +kernel)
theorem wt_X5_74 : Cond.methodLink RX5 74 yX5_isLetter ∈ WT := wtm 278 (by decide +kernel)
theorem wt_X5_78 : Cond.methodLink RX5 78 yX5_advanceWord ∈ WT := wtm 281 (by decide +kernel)
theorem wt_X5_81 : Cond.methodLink RX5 81 yX5_isDigit ∈ WT := wtm 306 (by decide +kernel)
theorem wt_X5_84 : Cond.methodLink RX5 84 yX5_advanceNumber ∈ WT := wtm 309 (by decide +kernel)
theorem wt_X5_87 : Cond.methodLink RX5 87 yX5_isSign ∈ WT := wtm 313 (by decide +kernel)
theorem wt_X5_9 : Cond.fieldLink RX5 9 RX5 "tape" "[I" ∈ WT := wtm 154 (by decide +kernel)
theorem wt_X5_92 : Cond.methodLink RX5 92 yX5_isWord ∈ WT := wtm 286 (by decide +kernel)
theorem wt_X5_96 : Cond.methodLink RX5 96 yX7_nameCode ∈ WT := wtm 292 (by decide +kernel)
theorem wt_X6_11 : Cond.fieldLink RX6 11 RX6 "sort" "I" ∈ WT := wtm 199 (by decide +kernel)
theorem wt_X6_15 : Cond.fieldLink RX6 15 RX6 "size" "I" ∈ WT := wtm 201 (by decide +kernel)
theorem wt_X6_18 : Cond.fieldLink RX6 18 RX6 "items" "[I" ∈ WT := wtm 203 (by decide +kernel)
theorem wt_X6_22 : Cond.methodLink RX6 22 yX6_hasItem ∈ WT := wtm 798 (by decide +kernel)
theorem wt_X7_15 : Cond.fieldLink RX7 15 RX7 "ends" "[I" ∈ WT := wtm 185 (by decide +kernel)
theorem wt_X7_18 : Cond.fieldLink RX7 18 RX7 "size" "I" ∈ WT := wtm 186 (by decide +kernel)
theorem wt_X7_22 : Cond.methodLink RX7 22 yX7_joined ∈ WT := wtm 624 (by decide +kernel)
theorem wt_X7_9 : Cond.fieldLink RX7 9 RX7 "codes" "[I" ∈ WT := wtm 184 (by decide +kernel)
theorem wt_X8_10 : Cond.fieldLink RX8 10 RX8 "house" "LMenuIsATreaty$House;" ∈ WT := wtm 504 (by decide +kernel)
theorem wt_X8_101 : Cond.fieldLink RX8 101 RX1 "hour" "I" ∈ WT := wtm 122 (by decide +kernel)
theorem wt_X8_104 : Cond.fieldLink RX8 104 RX1 "stores" "[I" ∈ WT := wtm 102 (by decide +kernel)
theorem wt_X8_108 : Cond.methodLink RX8 108 yX8_placeOf ∈ WT := wtm 546 (by decide +kernel)
theorem wt_X8_111 : Cond.fieldLink RX8 111 RX1 "prides" "[I" ∈ WT := wtm 105 (by decide +kernel)
theorem wt_X8_114 : Cond.fieldLink RX8 114 RX1 "numbers" "[I" ∈ WT := wtm 111 (by decide +kernel)
theorem wt_X8_117 : Cond.fieldLink RX8 117 RX1 "needs" "[I" ∈ WT := wtm 113 (by decide +kernel)
theorem wt_X8_120 : Cond.constant RX8 120 (999999) ∈ WT := wtm 581 (by decide +kernel)
theorem wt_X8_121 : Cond.methodLink RX8 121 yX1_addDish ∈ WT := wtm 586 (by decide +kernel)
theorem wt_X8_125 : Cond.methodLink RX8 125 yX8_isPlace ∈ WT := wtm 543 (by decide +kernel)
theorem wt_X8_128 : Cond.methodLink RX8 128 yX8_isKitchen ∈ WT := wtm 549 (by decide +kernel)
theorem wt_X8_131 : Cond.methodLink RX8 131 yX8_toldOfKitchen ∈ WT := wtm 552 (by decide +kernel)
theorem wt_X8_134 : Cond.methodLink RX8 134 yX1_hasDish ∈ WT := wtm 560 (by decide +kernel)
theorem wt_X8_137 : Cond.methodLink RX8 137 yX8_toldOfDish ∈ WT := wtm 564 (by decide +kernel)
theorem wt_X8_140 : Cond.methodLink RX8 140 yX0_takeUp ∈ WT := wtm 595 (by decide +kernel)
theorem wt_X8_144 : Cond.methodLink RX8 144 yX0_cross ∈ WT := wtm 605 (by decide +kernel)
theorem wt_X8_148 : Cond.methodLink RX8 148 yX0_judge ∈ WT := wtm 612 (by decide +kernel)
theorem wt_X8_152 : Cond.fieldLink RX8 152 RX0 "canBe" "Z" ∈ WT := wtm 376 (by decide +kernel)
theorem wt_X8_155 : Cond.fieldLink RX8 155 RX0 "crosses" "I" ∈ WT := wtm 378 (by decide +kernel)
theorem wt_X8_158 : Cond.fieldLink RX8 158 RX0 "toll" "I" ∈ WT := wtm 382 (by decide +kernel)
theorem wt_X8_16 : Cond.fieldLink RX8 16 RX8 "imaged" "LMenuIsATreaty$House;" ∈ WT := wtm 505 (by decide +kernel)
theorem wt_X8_161 : Cond.fieldLink RX8 161 RX0 "signed" "[Z" ∈ WT := wtm 374 (by decide +kernel)
theorem wt_X8_165 : Cond.fieldLink RX8 165 RX0 "fed" "I" ∈ WT := wtm 386 (by decide +kernel)
theorem wt_X8_168 : Cond.methodLink RX8 168 yX0_worth ∈ WT := wtm 644 (by decide +kernel)
theorem wt_X8_171 : Cond.fieldLink RX8 171 RX5 "size" "I" ∈ WT := wtm 156 (by decide +kernel)
theorem wt_X8_174 : Cond.fieldLink RX8 174 RX1 "rule" "I" ∈ WT := wtm 125 (by decide +kernel)
theorem wt_X8_177 : Cond.methodLink RX8 177 yX0_isCooked ∈ WT := wtm 664 (by decide +kernel)
theorem wt_X8_181 : Cond.methodLink RX8 181 yX0_useUp ∈ WT := wtm 670 (by decide +kernel)
theorem wt_X8_184 : Cond.methodLink RX8 184 yX1_countCooked ∈ WT := wtm 674 (by decide +kernel)
theorem wt_X8_187 : Cond.methodLink RX8 187 yX8_isMenu ∈ WT := wtm 683 (by decide +kernel)
theorem wt_X8_19 : Cond.fieldLink RX8 19 RX8 "hasImage" "Z" ∈ WT := wtm 506 (by decide +kernel)
theorem wt_X8_190 : Cond.methodLink RX8 190 yX4_play ∈ WT := wtm 688 (by decide +kernel)
theorem wt_X8_193 : Cond.fieldLink RX8 193 RX4 "failed" "I" ∈ WT := wtm 439 (by decide +kernel)
theorem wt_X8_196 : Cond.fieldLink RX8 196 RX4 "fed" "I" ∈ WT := wtm 433 (by decide +kernel)
theorem wt_X8_197 : Cond.fieldLink RX8 197 RX4 "toll" "I" ∈ WT := wtm 437 (by decide +kernel)
theorem wt_X8_198 : Cond.constant RX8 198 (-100000) ∈ WT := wtm 710 (by decide +kernel)
theorem wt_X8_199 : Cond.constant RX8 199 (-100001) ∈ WT := wtm 715 (by decide +kernel)
theorem wt_X8_200 : Cond.constant RX8 200 (-100002) ∈ WT := wtm 716 (by decide +kernel)
theorem wt_X8_201 : Cond.constant RX8 201 (-100003) ∈ WT := wtm 717 (by decide +kernel)
theorem wt_X8_202 : Cond.fieldLink RX8 202 RX4 "stores" "[I" ∈ WT := wtm 431 (by decide +kernel)
theorem wt_X8_203 : Cond.methodLink RX8 203 arraycopyName ∈ WT := wtm 718 (by decide +kernel)
theorem wt_X8_209 : Cond.fieldLink RX8 209 RX1 "dishCount" "I" ∈ WT := wtm 119 (by decide +kernel)
theorem wt_X8_212 : Cond.methodLink RX8 212 yX1_kitchenBy ∈ WT := wtm 719 (by decide +kernel)
theorem wt_X8_215 : Cond.methodLink RX8 215 yX3_seek ∈ WT := wtm 724 (by decide +kernel)
theorem wt_X8_219 : Cond.fieldLink RX8 219 RX3 "best" "I" ∈ WT := wtm 468 (by decide +kernel)
theorem wt_X8_222 : Cond.fieldLink RX8 222 RX3 "bestWorth" "I" ∈ WT := wtm 470 (by decide +kernel)
theorem wt_X8_225 : Cond.fieldLink RX8 225 RX3 "feast" "I" ∈ WT := wtm 472 (by decide +kernel)
theorem wt_X8_228 : Cond.fieldLink RX8 228 RX3 "feastFed" "I" ∈ WT := wtm 474 (by decide +kernel)
theorem wt_X8_231 : Cond.fieldLink RX8 231 RX3 "peace" "I" ∈ WT := wtm 476 (by decide +kernel)
theorem wt_X8_234 : Cond.fieldLink RX8 234 RX3 "peaceToll" "I" ∈ WT := wtm 478 (by decide +kernel)
theorem wt_X8_237 : Cond.fieldLink RX8 237 RX3 "peaceCount" "I" ∈ WT := wtm 480 (by decide +kernel)
theorem wt_X8_240 : Cond.methodLink RX8 240 yX8_sideOf ∈ WT := wtm 741 (by decide +kernel)
theorem wt_X8_243 : Cond.constantLong RX8 243 (-4611686018427387904) ∈ WT := wtm 757 (by decide +kernel)
theorem wt_X8_245 : Cond.fieldLink RX8 245 RX4 "fedAtFirst" "I" ∈ WT := wtm 435 (by decide +kernel)
theorem wt_X8_248 : Cond.methodLink RX8 248 yX8_lowestTerms ∈ WT := wtm 758 (by decide +kernel)
theorem wt_X8_25 : Cond.fieldLink RX8 25 RX8 "texts" "[LMenuIsATreaty$Text;" ∈ WT := wtm 507 (by decide +kernel)
theorem wt_X8_252 : Cond.methodLink RX8 252 yX8_isSheet ∈ WT := wtm 765 (by decide +kernel)
theorem wt_X8_255 : Cond.methodLink RX8 255 yX6_isMissing ∈ WT := wtm 768 (by decide +kernel)
theorem wt_X8_259 : Cond.fieldLink RX8 259 RX6 "size" "I" ∈ WT := wtm 202 (by decide +kernel)
theorem wt_X8_260 : Cond.methodLink RX8 260 yX8_guess ∈ WT := wtm 772 (by decide +kernel)
theorem wt_X8_264 : Cond.methodLink RX8 264 yX0_firstOtherwise ∈ WT := wtm 780 (by decide +kernel)
theorem wt_X8_268 : Cond.methodLink RX8 268 yX6_become ∈ WT := wtm 790 (by decide +kernel)
theorem wt_X8_271 : Cond.methodLink RX8 271 yX6_put ∈ WT := wtm 794 (by decide +kernel)
theorem wt_X8_274 : Cond.methodLink RX8 274 yX4_draw ∈ WT := wtm 806 (by decide +kernel)
theorem wt_X8_277 : Cond.methodLink RX8 277 yX1_become ∈ WT := wtm 819 (by decide +kernel)
theorem wt_X8_280 : Cond.methodLink RX8 280 yX1_storeOf ∈ WT := wtm 556 (by decide +kernel)
theorem wt_X8_283 : Cond.methodLink RX8 283 yX6_hasItem ∈ WT := wtm 840 (by decide +kernel)
theorem wt_X8_286 : Cond.fieldLink RX8 286 RX6 "sort" "I" ∈ WT := wtm 200 (by decide +kernel)
theorem wt_X8_289 : Cond.methodLink RX8 289 yX6_hasRun ∈ WT := wtm 845 (by decide +kernel)
theorem wt_X8_29 : Cond.fieldLink RX8 29 RX8 "textCount" "I" ∈ WT := wtm 508 (by decide +kernel)
theorem wt_X8_293 : Cond.fieldLink RX8 293 RX6 "items" "[I" ∈ WT := wtm 205 (by decide +kernel)
theorem wt_X8_296 : Cond.methodLink RX8 296 yX8_dish ∈ WT := wtm 853 (by decide +kernel)
theorem wt_X8_299 : Cond.fieldLink RX8 299 RX1 "kinds" "[I" ∈ WT := wtm 108 (by decide +kernel)
theorem wt_X8_302 : Cond.methodLink RX8 302 yX2_isUnder ∈ WT := wtm 858 (by decide +kernel)
theorem wt_X8_307 : Cond.fieldLink RX8 307 RX1 "cooked" "[I" ∈ WT := wtm 115 (by decide +kernel)
theorem wt_X8_310 : Cond.methodLink RX8 310 yX1_needsTogether ∈ WT := wtm 568 (by decide +kernel)
theorem wt_X8_313 : Cond.fieldLink RX8 313 RX8 "POWERS" "[I" ∈ WT := wtm 687 (by decide +kernel)
theorem wt_X8_316 : Cond.methodLink RX8 316 yX0_suppose ∈ WT := wtm 776 (by decide +kernel)
theorem wt_X8_36 : Cond.fieldLink RX8 36 RX8 "reader" "LMenuIsATreaty$Reader;" ∈ WT := wtm 509 (by decide +kernel)
theorem wt_X8_42 : Cond.fieldLink RX8 42 RX8 "sheets" "[LMenuIsATreaty$Sheet;" ∈ WT := wtm 513 (by decide +kernel)
theorem wt_X8_60 : Cond.methodLink RX8 60 yX5_append ∈ WT := wtm 262 (by decide +kernel)
theorem wt_X8_64 : Cond.methodLink RX8 64 yX5_readInto ∈ WT := wtm 266 (by decide +kernel)
theorem wt_X8_73 : Cond.fieldLink RX8 73 RX8 "cooking" "LMenuIsATreaty$Cooking;" ∈ WT := wtm 510 (by decide +kernel)
theorem wt_X8_82 : Cond.fieldLink RX8 82 RX8 "plan" "LMenuIsATreaty$Plan;" ∈ WT := wtm 511 (by decide +kernel)
theorem wt_X8_89 : Cond.fieldLink RX8 89 RX8 "menus" "LMenuIsATreaty$Menus;" ∈ WT := wtm 512 (by decide +kernel)
theorem wt_X8_93 : Cond.methodLink RX8 93 yX8_told ∈ WT := wtm 539 (by decide +kernel)
theorem wt_X8_97 : Cond.methodLink RX8 97 yX8_mostOf ∈ WT := wtm 578 (by decide +kernel)
theorem wt_X9_100 : Cond.methodLink RX9 100 yX9_isOf ∈ WT := wtm 1028 (by decide +kernel)
theorem wt_X9_104 : Cond.methodLink RX9 104 yX9_mostOf ∈ WT := wtm 1044 (by decide +kernel)
theorem wt_X9_108 : Cond.methodLink RX9 108 yX9_told ∈ WT := wtm 1048 (by decide +kernel)
theorem wt_X9_112 : Cond.methodLink RX9 112 yX9_lays ∈ WT := wtm 1065 (by decide +kernel)
theorem wt_X9_116 : Cond.fieldLink RX9 116 RX9 "hourNow" "I" ∈ WT := wtm 879 (by decide +kernel)
theorem wt_X9_119 : Cond.fieldLink RX9 119 RX9 "rule" "I" ∈ WT := wtm 876 (by decide +kernel)
theorem wt_X9_122 : Cond.constantLong RX9 122 (9) ∈ WT := wtm 1073 (by decide +kernel)
theorem wt_X9_124 : Cond.constantLong RX9 124 (999999) ∈ WT := wtm 1074 (by decide +kernel)
theorem wt_X9_126 : Cond.constantLong RX9 126 (8) ∈ WT := wtm 1052 (by decide +kernel)
theorem wt_X9_128 : Cond.methodLink RX9 128 yX9_needsAll ∈ WT := wtm 1053 (by decide +kernel)
theorem wt_X9_13 : Cond.fieldLink RX9 13 RX9 "texts" "[I" ∈ WT := wtm 873 (by decide +kernel)
theorem wt_X9_131 : Cond.methodLink RX9 131 yX9_storeOf ∈ WT := wtm 1061 (by decide +kernel)
theorem wt_X9_134 : Cond.methodLink RX9 134 yX9_needsOf ∈ WT := wtm 1057 (by decide +kernel)
theorem wt_X9_137 : Cond.constantLong RX9 137 (255) ∈ WT := wtm 1080 (by decide +kernel)
theorem wt_X9_139 : Cond.fieldLink RX9 139 RX9 "taped" "I" ∈ WT := wtm 878 (by decide +kernel)
theorem wt_X9_142 : Cond.fieldLink RX9 142 RX9 "size" "I" ∈ WT := wtm 892 (by decide +kernel)
theorem wt_X9_145 : Cond.fieldLink RX9 145 RX9 "from" "I" ∈ WT := wtm 891 (by decide +kernel)
theorem wt_X9_148 : Cond.fieldLink RX9 148 RX9 "here" "I" ∈ WT := wtm 893 (by decide +kernel)
theorem wt_X9_151 : Cond.methodLink RX9 151 yX9_byteAt ∈ WT := wtm 1093 (by decide +kernel)
theorem wt_X9_154 : Cond.fieldLink RX9 154 RX9 "tokenAt" "I" ∈ WT := wtm 895 (by decide +kernel)
theorem wt_X9_157 : Cond.fieldLink RX9 157 RX9 "token" "I" ∈ WT := wtm 894 (by decide +kernel)
theorem wt_X9_160 : Cond.constantLong RX9 160 (97) ∈ WT := wtm 1097 (by decide +kernel)
theorem wt_X9_162 : Cond.constantLong RX9 162 (122) ∈ WT := wtm 1098 (by decide +kernel)
theorem wt_X9_164 : Cond.constantLong RX9 164 (48) ∈ WT := wtm 1099 (by decide +kernel)
theorem wt_X9_166 : Cond.constantLong RX9 166 (57) ∈ WT := wtm 1100 (by decide +kernel)
theorem wt_X9_168 : Cond.fieldLink RX9 168 RX9 "tokenWorth" "J" ∈ WT := wtm 896 (by decide +kernel)
theorem wt_X9_17 : Cond.fieldLink RX9 17 RX9 "textSize" "[I" ∈ WT := wtm 874 (by decide +kernel)
theorem wt_X9_172 : Cond.constantLong RX9 172 (10) ∈ WT := wtm 1101 (by decide +kernel)
theorem wt_X9_174 : Cond.fieldLink RX9 174 RX9 "bad" "Z" ∈ WT := wtm 898 (by decide +kernel)
theorem wt_X9_178 : Cond.fieldLink RX9 178 RX9 "fault" "I" ∈ WT := wtm 899 (by decide +kernel)
theorem wt_X9_181 : Cond.methodLink RX9 181 yX9_isLetter ∈ WT := wtm 1106 (by decide +kernel)
theorem wt_X9_184 : Cond.fieldLink RX9 184 RX9 "open" "I" ∈ WT := wtm 897 (by decide +kernel)
theorem wt_X9_187 : Cond.methodLink RX9 187 yX9_fail ∈ WT := wtm 1114 (by decide +kernel)
theorem wt_X9_190 : Cond.methodLink RX9 190 yX9_next ∈ WT := wtm 1089 (by decide +kernel)
theorem wt_X9_193 : Cond.methodLink RX9 193 yX9_isWord ∈ WT := wtm 1102 (by decide +kernel)
theorem wt_X9_197 : Cond.fieldLink RX9 197 RX9 "ofPart" "I" ∈ WT := wtm 885 (by decide +kernel)
theorem wt_X9_20 : Cond.fieldLink RX9 20 RX9 "tape" "[I" ∈ WT := wtm 877 (by decide +kernel)
theorem wt_X9_200 : Cond.fieldLink RX9 200 RX9 "ofMuch" "I" ∈ WT := wtm 886 (by decide +kernel)
theorem wt_X9_203 : Cond.fieldLink RX9 203 RX9 "ofKitchen" "I" ∈ WT := wtm 887 (by decide +kernel)
theorem wt_X9_206 : Cond.fieldLink RX9 206 RX9 "ofHour" "I" ∈ WT := wtm 888 (by decide +kernel)
theorem wt_X9_209 : Cond.fieldLink RX9 209 RX9 "ofNumber" "I" ∈ WT := wtm 889 (by decide +kernel)
theorem wt_X9_212 : Cond.fieldLink RX9 212 RX9 "ofPride" "I" ∈ WT := wtm 890 (by decide +kernel)
theorem wt_X9_215 : Cond.methodLink RX9 215 yX9_isSign ∈ WT := wtm 1146 (by decide +kernel)
theorem wt_X9_218 : Cond.methodLink RX9 218 yX9_opens ∈ WT := wtm 1130 (by decide +kernel)
theorem wt_X9_222 : Cond.methodLink RX9 222 yX9_atom ∈ WT := wtm 1142 (by decide +kernel)
theorem wt_X9_226 : Cond.methodLink RX9 226 yX9_either ∈ WT := wtm 1118 (by decide +kernel)
theorem wt_X9_229 : Cond.methodLink RX9 229 yX9_name ∈ WT := wtm 1150 (by decide +kernel)
theorem wt_X9_23 : Cond.fieldLink RX9 23 RX9 "store" "[I" ∈ WT := wtm 880 (by decide +kernel)
theorem wt_X9_232 : Cond.methodLink RX9 232 yX9_term ∈ WT := wtm 1138 (by decide +kernel)
theorem wt_X9_235 : Cond.constantLong RX9 235 (43) ∈ WT := wtm 1154 (by decide +kernel)
theorem wt_X9_237 : Cond.methodLink RX9 237 yX9_not ∈ WT := wtm 1126 (by decide +kernel)
theorem wt_X9_240 : Cond.methodLink RX9 240 yX9_added ∈ WT := wtm 1134 (by decide +kernel)
theorem wt_X9_243 : Cond.constantLong RX9 243 (60) ∈ WT := wtm 1155 (by decide +kernel)
theorem wt_X9_245 : Cond.methodLink RX9 245 yX9_both ∈ WT := wtm 1122 (by decide +kernel)
theorem wt_X9_248 : Cond.methodLink RX9 248 yX9_part ∈ WT := wtm 1110 (by decide +kernel)
theorem wt_X9_252 : Cond.methodLink RX9 252 yX9_read ∈ WT := wtm 1085 (by decide +kernel)
theorem wt_X9_255 : Cond.methodLink RX9 255 yX9_within ∈ WT := wtm 1181 (by decide +kernel)
theorem wt_X9_259 : Cond.methodLink RX9 259 yX9_says ∈ WT := wtm 1177 (by decide +kernel)
theorem wt_X9_26 : Cond.fieldLink RX9 26 RX9 "prides" "[I" ∈ WT := wtm 881 (by decide +kernel)
theorem wt_X9_263 : Cond.methodLink RX9 263 yX9_crossOf ∈ WT := wtm 1169 (by decide +kernel)
theorem wt_X9_266 : Cond.methodLink RX9 266 yX9_tollPart ∈ WT := wtm 1173 (by decide +kernel)
theorem wt_X9_270 : Cond.methodLink RX9 270 yX9_tollOf ∈ WT := wtm 1165 (by decide +kernel)
theorem wt_X9_273 : Cond.methodLink RX9 273 yX9_signsAt ∈ WT := wtm 1192 (by decide +kernel)
theorem wt_X9_277 : Cond.constantLong RX9 277 (6) ∈ WT := wtm 1164 (by decide +kernel)
theorem wt_X9_279 : Cond.methodLink RX9 279 yX9_canBe ∈ WT := wtm 1184 (by decide +kernel)
theorem wt_X9_282 : Cond.methodLink RX9 282 yX9_crossAll ∈ WT := wtm 1188 (by decide +kernel)
theorem wt_X9_285 : Cond.methodLink RX9 285 yX9_feedsOf ∈ WT := wtm 1196 (by decide +kernel)
theorem wt_X9_288 : Cond.methodLink RX9 288 yX9_isRatified ∈ WT := wtm 1204 (by decide +kernel)
theorem wt_X9_29 : Cond.fieldLink RX9 29 RX9 "kinds" "[I" ∈ WT := wtm 882 (by decide +kernel)
theorem wt_X9_291 : Cond.methodLink RX9 291 yX9_uses ∈ WT := wtm 1208 (by decide +kernel)
theorem wt_X9_295 : Cond.methodLink RX9 295 yX9_counts ∈ WT := wtm 1212 (by decide +kernel)
theorem wt_X9_299 : Cond.fieldLink RX9 299 RX9 "fed" "I" ∈ WT := wtm 902 (by decide +kernel)
theorem wt_X9_302 : Cond.fieldLink RX9 302 RX9 "tolled" "I" ∈ WT := wtm 903 (by decide +kernel)
theorem wt_X9_305 : Cond.methodLink RX9 305 yX9_isCooked ∈ WT := wtm 1232 (by decide +kernel)
theorem wt_X9_308 : Cond.methodLink RX9 308 yX9_isMenu ∈ WT := wtm 1220 (by decide +kernel)
theorem wt_X9_311 : Cond.methodLink RX9 311 yX9_laysAside ∈ WT := wtm 1224 (by decide +kernel)
theorem wt_X9_314 : Cond.methodLink RX9 314 yX9_cooksAll ∈ WT := wtm 1228 (by decide +kernel)
theorem wt_X9_317 : Cond.methodLink RX9 317 yX9_laysBack ∈ WT := wtm 1236 (by decide +kernel)
theorem wt_X9_32 : Cond.fieldLink RX9 32 RX9 "rows" "[I" ∈ WT := wtm 883 (by decide +kernel)
theorem wt_X9_320 : Cond.constant RX9 320 (-100000) ∈ WT := wtm 1240 (by decide +kernel)
theorem wt_X9_321 : Cond.constant RX9 321 (-100001) ∈ WT := wtm 1245 (by decide +kernel)
theorem wt_X9_322 : Cond.constant RX9 322 (-100002) ∈ WT := wtm 1246 (by decide +kernel)
theorem wt_X9_323 : Cond.constant RX9 323 (-100003) ∈ WT := wtm 1247 (by decide +kernel)
theorem wt_X9_324 : Cond.fieldLink RX9 324 RX9 "bestDigits" "I" ∈ WT := wtm 904 (by decide +kernel)
theorem wt_X9_327 : Cond.fieldLink RX9 327 RX9 "bestValue" "I" ∈ WT := wtm 905 (by decide +kernel)
theorem wt_X9_330 : Cond.fieldLink RX9 330 RX9 "bestFed" "I" ∈ WT := wtm 906 (by decide +kernel)
theorem wt_X9_333 : Cond.fieldLink RX9 333 RX9 "bestFed0" "I" ∈ WT := wtm 907 (by decide +kernel)
theorem wt_X9_336 : Cond.fieldLink RX9 336 RX9 "bestSide" "I" ∈ WT := wtm 908 (by decide +kernel)
theorem wt_X9_339 : Cond.methodLink RX9 339 yX9_menus ∈ WT := wtm 1257 (by decide +kernel)
theorem wt_X9_343 : Cond.fieldLink RX9 343 RX9 "without" "I" ∈ WT := wtm 909 (by decide +kernel)
theorem wt_X9_346 : Cond.constantLong RX9 346 (7) ∈ WT := wtm 1252 (by decide +kernel)
theorem wt_X9_348 : Cond.methodLink RX9 348 yX9_bestOf ∈ WT := wtm 1253 (by decide +kernel)
theorem wt_X9_35 : Cond.fieldLink RX9 35 RX9 "storeWas" "[I" ∈ WT := wtm 900 (by decide +kernel)
theorem wt_X9_351 : Cond.methodLink RX9 351 yX9_dishesOf ∈ WT := wtm 1261 (by decide +kernel)
theorem wt_X9_354 : Cond.constantLong RX9 354 (-4611686018427387904) ∈ WT := wtm 1276 (by decide +kernel)
theorem wt_X9_356 : Cond.methodLink RX9 356 yX9_lowest ∈ WT := wtm 1277 (by decide +kernel)
theorem wt_X9_360 : Cond.methodLink RX9 360 yX9_worthIn ∈ WT := wtm 1292 (by decide +kernel)
theorem wt_X9_363 : Cond.methodLink RX9 363 yX9_firstOther ∈ WT := wtm 1288 (by decide +kernel)
theorem wt_X9_366 : Cond.methodLink RX9 366 yX9_isSheet ∈ WT := wtm 1284 (by decide +kernel)
theorem wt_X9_369 : Cond.methodLink RX9 369 yX9_likeSet ∈ WT := wtm 1296 (by decide +kernel)
theorem wt_X9_372 : Cond.methodLink RX9 372 yX9_sheet ∈ WT := wtm 1304 (by decide +kernel)
theorem wt_X9_375 : Cond.constant RX9 375 (1103515245) ∈ WT := wtm 1318 (by decide +kernel)
theorem wt_X9_376 : Cond.methodLink RX9 376 yX9_worthDrawn ∈ WT := wtm 1314 (by decide +kernel)
theorem wt_X9_379 : Cond.constantLong RX9 379 (20) ∈ WT := wtm 1323 (by decide +kernel)
theorem wt_X9_38 : Cond.fieldLink RX9 38 RX9 "chosen" "[I" ∈ WT := wtm 901 (by decide +kernel)
theorem wt_X9_381 : Cond.constantLong RX9 381 (-9999) ∈ WT := wtm 1324 (by decide +kernel)
theorem wt_X9_383 : Cond.constantLong RX9 383 (9999) ∈ WT := wtm 1325 (by decide +kernel)
theorem wt_X9_385 : Cond.fieldLink RX9 385 RX9 "hourKept" "I" ∈ WT := wtm 915 (by decide +kernel)
theorem wt_X9_388 : Cond.fieldLink RX9 388 RX9 "ruleKept" "I" ∈ WT := wtm 916 (by decide +kernel)
theorem wt_X9_391 : Cond.constantLong RX9 391 (3) ∈ WT := wtm 1287 (by decide +kernel)
theorem wt_X9_393 : Cond.constantLong RX9 393 (-1) ∈ WT := wtm 1308 (by decide +kernel)
theorem wt_X9_395 : Cond.constantLong RX9 395 (2) ∈ WT := wtm 1309 (by decide +kernel)
theorem wt_X9_397 : Cond.methodLink RX9 397 yX9_dish ∈ WT := wtm 1351 (by decide +kernel)
theorem wt_X9_400 : Cond.methodLink RX9 400 yX9_over ∈ WT := wtm 1356 (by decide +kernel)
theorem wt_X9_41 : Cond.fieldLink RX9 41 RX9 "asides" "[I" ∈ WT := wtm 910 (by decide +kernel)
theorem wt_X9_44 : Cond.fieldLink RX9 44 RX9 "storeKept" "[I" ∈ WT := wtm 911 (by decide +kernel)
theorem wt_X9_47 : Cond.fieldLink RX9 47 RX9 "pridesKept" "[I" ∈ WT := wtm 912 (by decide +kernel)
theorem wt_X9_50 : Cond.fieldLink RX9 50 RX9 "rowsKept" "[I" ∈ WT := wtm 913 (by decide +kernel)
theorem wt_X9_53 : Cond.fieldLink RX9 53 RX9 "manyKept" "I" ∈ WT := wtm 914 (by decide +kernel)
theorem wt_X9_56 : Cond.fieldLink RX9 56 RX9 "isThere" "[Z" ∈ WT := wtm 917 (by decide +kernel)
theorem wt_X9_60 : Cond.fieldLink RX9 60 RX9 "sorts" "[I" ∈ WT := wtm 918 (by decide +kernel)
theorem wt_X9_63 : Cond.fieldLink RX9 63 RX9 "sheetSize" "[I" ∈ WT := wtm 919 (by decide +kernel)
theorem wt_X9_66 : Cond.fieldLink RX9 66 RX9 "items" "[I" ∈ WT := wtm 920 (by decide +kernel)
theorem wt_X9_73 : Cond.fieldLink RX9 73 RX9 "textCount" "I" ∈ WT := wtm 875 (by decide +kernel)
theorem wt_X9_76 : Cond.fieldLink RX9 76 RX9 "many" "I" ∈ WT := wtm 884 (by decide +kernel)
theorem wt_X9_79 : Cond.methodLink RX9 79 yX9_in ∈ WT := wtm 1025 (by decide +kernel)
theorem wt_X9_83 : Cond.constantLong RX9 83 (5) ∈ WT := wtm 1036 (by decide +kernel)
theorem wt_X9_85 : Cond.constantLong RX9 85 (15) ∈ WT := wtm 1032 (by decide +kernel)
theorem wt_X9_87 : Cond.methodLink RX9 87 yX9_isPart ∈ WT := wtm 1033 (by decide +kernel)
theorem wt_X9_91 : Cond.methodLink RX9 91 yX9_isKitchen ∈ WT := wtm 1037 (by decide +kernel)
theorem wt_X9_94 : Cond.methodLink RX9 94 yX9_isDish ∈ WT := wtm 1040 (by decide +kernel)
theorem wt_X9_97 : Cond.constant RX9 97 (999999) ∈ WT := wtm 1047 (by decide +kernel)
theorem wt_X9_98 : Cond.constantLong RX9 98 (4) ∈ WT := wtm 1024 (by decide +kernel)
theorem iwX0 : ∀ w ∈ u_ws RX0 TX0 16, w ∈ WT := by
  intro w hw
  obtain ⟨k, hk, rfl⟩ := List.mem_map.mp hw
  have hk := List.mem_range.mp hk
  exact (show ∀ k, k < 16 → u_lay RX0 TX0 k ∈ WT from fun k hk => by
    rcases Nat.lt_or_ge k 1 with h0 | h0
    · have e : k = 0 := by omega
      subst e
      exact wtm 387 (by decide +kernel)
    rcases Nat.lt_or_ge k 2 with h1 | h1
    · have e : k = 1 := by omega
      subst e
      exact wtm 389 (by decide +kernel)
    rcases Nat.lt_or_ge k 3 with h2 | h2
    · have e : k = 2 := by omega
      subst e
      exact wtm 391 (by decide +kernel)
    rcases Nat.lt_or_ge k 4 with h3 | h3
    · have e : k = 3 := by omega
      subst e
      exact wtm 393 (by decide +kernel)
    rcases Nat.lt_or_ge k 5 with h4 | h4
    · have e : k = 4 := by omega
      subst e
      exact wtm 395 (by decide +kernel)
    rcases Nat.lt_or_ge k 6 with h5 | h5
    · have e : k = 5 := by omega
      subst e
      exact wtm 397 (by decide +kernel)
    rcases Nat.lt_or_ge k 7 with h6 | h6
    · have e : k = 6 := by omega
      subst e
      exact wtm 399 (by decide +kernel)
    rcases Nat.lt_or_ge k 8 with h7 | h7
    · have e : k = 7 := by omega
      subst e
      exact wtm 401 (by decide +kernel)
    rcases Nat.lt_or_ge k 9 with h8 | h8
    · have e : k = 8 := by omega
      subst e
      exact wtm 403 (by decide +kernel)
    rcases Nat.lt_or_ge k 10 with h9 | h9
    · have e : k = 9 := by omega
      subst e
      exact wtm 405 (by decide +kernel)
    rcases Nat.lt_or_ge k 11 with h10 | h10
    · have e : k = 10 := by omega
      subst e
      exact wtm 407 (by decide +kernel)
    rcases Nat.lt_or_ge k 12 with h11 | h11
    · have e : k = 11 := by omega
      subst e
      exact wtm 409 (by decide +kernel)
    rcases Nat.lt_or_ge k 13 with h12 | h12
    · have e : k = 12 := by omega
      subst e
      exact wtm 411 (by decide +kernel)
    rcases Nat.lt_or_ge k 14 with h13 | h13
    · have e : k = 13 := by omega
      subst e
      exact wtm 413 (by decide +kernel)
    rcases Nat.lt_or_ge k 15 with h14 | h14
    · have e : k = 14 := by omega
      subst e
      exact wtm 415 (by decide +kernel)
    rcases Nat.lt_or_ge k 16 with h15 | h15
    · have e : k = 15 := by omega
      subst e
      exact wtm 417 (by decide +kernel)
    omega) k hk
theorem iwX1 : ∀ w ∈ u_ws RX1 TX1 9, w ∈ WT := by
  intro w hw
  obtain ⟨k, hk, rfl⟩ := List.mem_map.mp hw
  have hk := List.mem_range.mp hk
  exact (show ∀ k, k < 9 → u_lay RX1 TX1 k ∈ WT from fun k hk => by
    rcases Nat.lt_or_ge k 1 with h0 | h0
    · have e : k = 0 := by omega
      subst e
      exact wtm 126 (by decide +kernel)
    rcases Nat.lt_or_ge k 2 with h1 | h1
    · have e : k = 1 := by omega
      subst e
      exact wtm 128 (by decide +kernel)
    rcases Nat.lt_or_ge k 3 with h2 | h2
    · have e : k = 2 := by omega
      subst e
      exact wtm 130 (by decide +kernel)
    rcases Nat.lt_or_ge k 4 with h3 | h3
    · have e : k = 3 := by omega
      subst e
      exact wtm 132 (by decide +kernel)
    rcases Nat.lt_or_ge k 5 with h4 | h4
    · have e : k = 4 := by omega
      subst e
      exact wtm 134 (by decide +kernel)
    rcases Nat.lt_or_ge k 6 with h5 | h5
    · have e : k = 5 := by omega
      subst e
      exact wtm 136 (by decide +kernel)
    rcases Nat.lt_or_ge k 7 with h6 | h6
    · have e : k = 6 := by omega
      subst e
      exact wtm 138 (by decide +kernel)
    rcases Nat.lt_or_ge k 8 with h7 | h7
    · have e : k = 7 := by omega
      subst e
      exact wtm 140 (by decide +kernel)
    rcases Nat.lt_or_ge k 9 with h8 | h8
    · have e : k = 8 := by omega
      subst e
      exact wtm 142 (by decide +kernel)
    omega) k hk
theorem iwX3 : ∀ w ∈ u_ws RX3 TX3 11, w ∈ WT := by
  intro w hw
  obtain ⟨k, hk, rfl⟩ := List.mem_map.mp hw
  have hk := List.mem_range.mp hk
  exact (show ∀ k, k < 11 → u_lay RX3 TX3 k ∈ WT from fun k hk => by
    rcases Nat.lt_or_ge k 1 with h0 | h0
    · have e : k = 0 := by omega
      subst e
      exact wtm 481 (by decide +kernel)
    rcases Nat.lt_or_ge k 2 with h1 | h1
    · have e : k = 1 := by omega
      subst e
      exact wtm 483 (by decide +kernel)
    rcases Nat.lt_or_ge k 3 with h2 | h2
    · have e : k = 2 := by omega
      subst e
      exact wtm 485 (by decide +kernel)
    rcases Nat.lt_or_ge k 4 with h3 | h3
    · have e : k = 3 := by omega
      subst e
      exact wtm 487 (by decide +kernel)
    rcases Nat.lt_or_ge k 5 with h4 | h4
    · have e : k = 4 := by omega
      subst e
      exact wtm 489 (by decide +kernel)
    rcases Nat.lt_or_ge k 6 with h5 | h5
    · have e : k = 5 := by omega
      subst e
      exact wtm 491 (by decide +kernel)
    rcases Nat.lt_or_ge k 7 with h6 | h6
    · have e : k = 6 := by omega
      subst e
      exact wtm 493 (by decide +kernel)
    rcases Nat.lt_or_ge k 8 with h7 | h7
    · have e : k = 7 := by omega
      subst e
      exact wtm 495 (by decide +kernel)
    rcases Nat.lt_or_ge k 9 with h8 | h8
    · have e : k = 8 := by omega
      subst e
      exact wtm 497 (by decide +kernel)
    rcases Nat.lt_or_ge k 10 with h9 | h9
    · have e : k = 9 := by omega
      subst e
      exact wtm 499 (by decide +kernel)
    rcases Nat.lt_or_ge k 11 with h10 | h10
    · have e : k = 10 := by omega
      subst e
      exact wtm 501 (by decide +kernel)
    omega) k hk
theorem iwX4 : ∀ w ∈ u_ws RX4 TX4 7, w ∈ WT := by
  intro w hw
  obtain ⟨k, hk, rfl⟩ := List.mem_map.mp hw
  have hk := List.mem_range.mp hk
  exact (show ∀ k, k < 7 → u_lay RX4 TX4 k ∈ WT from fun k hk => by
    rcases Nat.lt_or_ge k 1 with h0 | h0
    · have e : k = 0 := by omega
      subst e
      exact wtm 440 (by decide +kernel)
    rcases Nat.lt_or_ge k 2 with h1 | h1
    · have e : k = 1 := by omega
      subst e
      exact wtm 442 (by decide +kernel)
    rcases Nat.lt_or_ge k 3 with h2 | h2
    · have e : k = 2 := by omega
      subst e
      exact wtm 444 (by decide +kernel)
    rcases Nat.lt_or_ge k 4 with h3 | h3
    · have e : k = 3 := by omega
      subst e
      exact wtm 446 (by decide +kernel)
    rcases Nat.lt_or_ge k 5 with h4 | h4
    · have e : k = 4 := by omega
      subst e
      exact wtm 448 (by decide +kernel)
    rcases Nat.lt_or_ge k 6 with h5 | h5
    · have e : k = 5 := by omega
      subst e
      exact wtm 450 (by decide +kernel)
    rcases Nat.lt_or_ge k 7 with h6 | h6
    · have e : k = 6 := by omega
      subst e
      exact wtm 452 (by decide +kernel)
    omega) k hk
theorem iwX5 : ∀ w ∈ u_ws RX5 TX5 7, w ∈ WT := by
  intro w hw
  obtain ⟨k, hk, rfl⟩ := List.mem_map.mp hw
  have hk := List.mem_range.mp hk
  exact (show ∀ k, k < 7 → u_lay RX5 TX5 k ∈ WT from fun k hk => by
    rcases Nat.lt_or_ge k 1 with h0 | h0
    · have e : k = 0 := by omega
      subst e
      exact wtm 162 (by decide +kernel)
    rcases Nat.lt_or_ge k 2 with h1 | h1
    · have e : k = 1 := by omega
      subst e
      exact wtm 164 (by decide +kernel)
    rcases Nat.lt_or_ge k 3 with h2 | h2
    · have e : k = 2 := by omega
      subst e
      exact wtm 166 (by decide +kernel)
    rcases Nat.lt_or_ge k 4 with h3 | h3
    · have e : k = 3 := by omega
      subst e
      exact wtm 168 (by decide +kernel)
    rcases Nat.lt_or_ge k 5 with h4 | h4
    · have e : k = 4 := by omega
      subst e
      exact wtm 170 (by decide +kernel)
    rcases Nat.lt_or_ge k 6 with h5 | h5
    · have e : k = 5 := by omega
      subst e
      exact wtm 172 (by decide +kernel)
    rcases Nat.lt_or_ge k 7 with h6 | h6
    · have e : k = 6 := by omega
      subst e
      exact wtm 174 (by decide +kernel)
    omega) k hk
theorem iwX6 : ∀ w ∈ u_ws RX6 TX6 3, w ∈ WT := by
  intro w hw
  obtain ⟨k, hk, rfl⟩ := List.mem_map.mp hw
  have hk := List.mem_range.mp hk
  exact (show ∀ k, k < 3 → u_lay RX6 TX6 k ∈ WT from fun k hk => by
    rcases Nat.lt_or_ge k 1 with h0 | h0
    · have e : k = 0 := by omega
      subst e
      exact wtm 206 (by decide +kernel)
    rcases Nat.lt_or_ge k 2 with h1 | h1
    · have e : k = 1 := by omega
      subst e
      exact wtm 208 (by decide +kernel)
    rcases Nat.lt_or_ge k 3 with h2 | h2
    · have e : k = 2 := by omega
      subst e
      exact wtm 210 (by decide +kernel)
    omega) k hk
theorem iwX7 : ∀ w ∈ u_ws RX7 TX7 3, w ∈ WT := by
  intro w hw
  obtain ⟨k, hk, rfl⟩ := List.mem_map.mp hw
  have hk := List.mem_range.mp hk
  exact (show ∀ k, k < 3 → u_lay RX7 TX7 k ∈ WT from fun k hk => by
    rcases Nat.lt_or_ge k 1 with h0 | h0
    · have e : k = 0 := by omega
      subst e
      exact wtm 187 (by decide +kernel)
    rcases Nat.lt_or_ge k 2 with h1 | h1
    · have e : k = 1 := by omega
      subst e
      exact wtm 189 (by decide +kernel)
    rcases Nat.lt_or_ge k 3 with h2 | h2
    · have e : k = 2 := by omega
      subst e
      exact wtm 191 (by decide +kernel)
    omega) k hk
theorem iwX8 : ∀ w ∈ u_ws RX8 TX8 10, w ∈ WT := by
  intro w hw
  obtain ⟨k, hk, rfl⟩ := List.mem_map.mp hw
  have hk := List.mem_range.mp hk
  exact (show ∀ k, k < 10 → u_lay RX8 TX8 k ∈ WT from fun k hk => by
    rcases Nat.lt_or_ge k 1 with h0 | h0
    · have e : k = 0 := by omega
      subst e
      exact wtm 514 (by decide +kernel)
    rcases Nat.lt_or_ge k 2 with h1 | h1
    · have e : k = 1 := by omega
      subst e
      exact wtm 516 (by decide +kernel)
    rcases Nat.lt_or_ge k 3 with h2 | h2
    · have e : k = 2 := by omega
      subst e
      exact wtm 518 (by decide +kernel)
    rcases Nat.lt_or_ge k 4 with h3 | h3
    · have e : k = 3 := by omega
      subst e
      exact wtm 520 (by decide +kernel)
    rcases Nat.lt_or_ge k 5 with h4 | h4
    · have e : k = 4 := by omega
      subst e
      exact wtm 522 (by decide +kernel)
    rcases Nat.lt_or_ge k 6 with h5 | h5
    · have e : k = 5 := by omega
      subst e
      exact wtm 524 (by decide +kernel)
    rcases Nat.lt_or_ge k 7 with h6 | h6
    · have e : k = 6 := by omega
      subst e
      exact wtm 526 (by decide +kernel)
    rcases Nat.lt_or_ge k 8 with h7 | h7
    · have e : k = 7 := by omega
      subst e
      exact wtm 528 (by decide +kernel)
    rcases Nat.lt_or_ge k 9 with h8 | h8
    · have e : k = 8 := by omega
      subst e
      exact wtm 530 (by decide +kernel)
    rcases Nat.lt_or_ge k 10 with h9 | h9
    · have e : k = 9 := by omega
      subst e
      exact wtm 532 (by decide +kernel)
    omega) k hk
theorem iwX9 : ∀ w ∈ u_ws RX9 TX9 49, w ∈ WT := by
  intro w hw
  obtain ⟨k, hk, rfl⟩ := List.mem_map.mp hw
  have hk := List.mem_range.mp hk
  exact (show ∀ k, k < 49 → u_lay RX9 TX9 k ∈ WT from fun k hk => by
    rcases Nat.lt_or_ge k 1 with h0 | h0
    · have e : k = 0 := by omega
      subst e
      exact wtm 921 (by decide +kernel)
    rcases Nat.lt_or_ge k 2 with h1 | h1
    · have e : k = 1 := by omega
      subst e
      exact wtm 923 (by decide +kernel)
    rcases Nat.lt_or_ge k 3 with h2 | h2
    · have e : k = 2 := by omega
      subst e
      exact wtm 925 (by decide +kernel)
    rcases Nat.lt_or_ge k 4 with h3 | h3
    · have e : k = 3 := by omega
      subst e
      exact wtm 927 (by decide +kernel)
    rcases Nat.lt_or_ge k 5 with h4 | h4
    · have e : k = 4 := by omega
      subst e
      exact wtm 929 (by decide +kernel)
    rcases Nat.lt_or_ge k 6 with h5 | h5
    · have e : k = 5 := by omega
      subst e
      exact wtm 931 (by decide +kernel)
    rcases Nat.lt_or_ge k 7 with h6 | h6
    · have e : k = 6 := by omega
      subst e
      exact wtm 933 (by decide +kernel)
    rcases Nat.lt_or_ge k 8 with h7 | h7
    · have e : k = 7 := by omega
      subst e
      exact wtm 935 (by decide +kernel)
    rcases Nat.lt_or_ge k 9 with h8 | h8
    · have e : k = 8 := by omega
      subst e
      exact wtm 937 (by decide +kernel)
    rcases Nat.lt_or_ge k 10 with h9 | h9
    · have e : k = 9 := by omega
      subst e
      exact wtm 939 (by decide +kernel)
    rcases Nat.lt_or_ge k 11 with h10 | h10
    · have e : k = 10 := by omega
      subst e
      exact wtm 941 (by decide +kernel)
    rcases Nat.lt_or_ge k 12 with h11 | h11
    · have e : k = 11 := by omega
      subst e
      exact wtm 943 (by decide +kernel)
    rcases Nat.lt_or_ge k 13 with h12 | h12
    · have e : k = 12 := by omega
      subst e
      exact wtm 945 (by decide +kernel)
    rcases Nat.lt_or_ge k 14 with h13 | h13
    · have e : k = 13 := by omega
      subst e
      exact wtm 947 (by decide +kernel)
    rcases Nat.lt_or_ge k 15 with h14 | h14
    · have e : k = 14 := by omega
      subst e
      exact wtm 949 (by decide +kernel)
    rcases Nat.lt_or_ge k 16 with h15 | h15
    · have e : k = 15 := by omega
      subst e
      exact wtm 951 (by decide +kernel)
    rcases Nat.lt_or_ge k 17 with h16 | h16
    · have e : k = 16 := by omega
      subst e
      exact wtm 953 (by decide +kernel)
    rcases Nat.lt_or_ge k 18 with h17 | h17
    · have e : k = 17 := by omega
      subst e
      exact wtm 955 (by decide +kernel)
    rcases Nat.lt_or_ge k 19 with h18 | h18
    · have e : k = 18 := by omega
      subst e
      exact wtm 957 (by decide +kernel)
    rcases Nat.lt_or_ge k 20 with h19 | h19
    · have e : k = 19 := by omega
      subst e
      exact wtm 959 (by decide +kernel)
    rcases Nat.lt_or_ge k 21 with h20 | h20
    · have e : k = 20 := by omega
      subst e
      exact wtm 961 (by decide +kernel)
    rcases Nat.lt_or_ge k 22 with h21 | h21
    · have e : k = 21 := by omega
      subst e
      exact wtm 963 (by decide +kernel)
    rcases Nat.lt_or_ge k 23 with h22 | h22
    · have e : k = 22 := by omega
      subst e
      exact wtm 965 (by decide +kernel)
    rcases Nat.lt_or_ge k 24 with h23 | h23
    · have e : k = 23 := by omega
      subst e
      exact wtm 967 (by decide +kernel)
    rcases Nat.lt_or_ge k 25 with h24 | h24
    · have e : k = 24 := by omega
      subst e
      exact wtm 969 (by decide +kernel)
    rcases Nat.lt_or_ge k 26 with h25 | h25
    · have e : k = 25 := by omega
      subst e
      exact wtm 971 (by decide +kernel)
    rcases Nat.lt_or_ge k 27 with h26 | h26
    · have e : k = 26 := by omega
      subst e
      exact wtm 973 (by decide +kernel)
    rcases Nat.lt_or_ge k 28 with h27 | h27
    · have e : k = 27 := by omega
      subst e
      exact wtm 975 (by decide +kernel)
    rcases Nat.lt_or_ge k 29 with h28 | h28
    · have e : k = 28 := by omega
      subst e
      exact wtm 977 (by decide +kernel)
    rcases Nat.lt_or_ge k 30 with h29 | h29
    · have e : k = 29 := by omega
      subst e
      exact wtm 979 (by decide +kernel)
    rcases Nat.lt_or_ge k 31 with h30 | h30
    · have e : k = 30 := by omega
      subst e
      exact wtm 981 (by decide +kernel)
    rcases Nat.lt_or_ge k 32 with h31 | h31
    · have e : k = 31 := by omega
      subst e
      exact wtm 983 (by decide +kernel)
    rcases Nat.lt_or_ge k 33 with h32 | h32
    · have e : k = 32 := by omega
      subst e
      exact wtm 985 (by decide +kernel)
    rcases Nat.lt_or_ge k 34 with h33 | h33
    · have e : k = 33 := by omega
      subst e
      exact wtm 987 (by decide +kernel)
    rcases Nat.lt_or_ge k 35 with h34 | h34
    · have e : k = 34 := by omega
      subst e
      exact wtm 989 (by decide +kernel)
    rcases Nat.lt_or_ge k 36 with h35 | h35
    · have e : k = 35 := by omega
      subst e
      exact wtm 991 (by decide +kernel)
    rcases Nat.lt_or_ge k 37 with h36 | h36
    · have e : k = 36 := by omega
      subst e
      exact wtm 993 (by decide +kernel)
    rcases Nat.lt_or_ge k 38 with h37 | h37
    · have e : k = 37 := by omega
      subst e
      exact wtm 995 (by decide +kernel)
    rcases Nat.lt_or_ge k 39 with h38 | h38
    · have e : k = 38 := by omega
      subst e
      exact wtm 997 (by decide +kernel)
    rcases Nat.lt_or_ge k 40 with h39 | h39
    · have e : k = 39 := by omega
      subst e
      exact wtm 999 (by decide +kernel)
    rcases Nat.lt_or_ge k 41 with h40 | h40
    · have e : k = 40 := by omega
      subst e
      exact wtm 1001 (by decide +kernel)
    rcases Nat.lt_or_ge k 42 with h41 | h41
    · have e : k = 41 := by omega
      subst e
      exact wtm 1003 (by decide +kernel)
    rcases Nat.lt_or_ge k 43 with h42 | h42
    · have e : k = 42 := by omega
      subst e
      exact wtm 1005 (by decide +kernel)
    rcases Nat.lt_or_ge k 44 with h43 | h43
    · have e : k = 43 := by omega
      subst e
      exact wtm 1007 (by decide +kernel)
    rcases Nat.lt_or_ge k 45 with h44 | h44
    · have e : k = 44 := by omega
      subst e
      exact wtm 1009 (by decide +kernel)
    rcases Nat.lt_or_ge k 46 with h45 | h45
    · have e : k = 45 := by omega
      subst e
      exact wtm 1011 (by decide +kernel)
    rcases Nat.lt_or_ge k 47 with h46 | h46
    · have e : k = 46 := by omega
      subst e
      exact wtm 1013 (by decide +kernel)
    rcases Nat.lt_or_ge k 48 with h47 | h47
    · have e : k = 47 := by omega
      subst e
      exact wtm 1015 (by decide +kernel)
    rcases Nat.lt_or_ge k 49 with h48 | h48
    · have e : k = 48 := by omega
      subst e
      exact wtm 1017 (by decide +kernel)
    omega) k hk
theorem mi_X0_ask : MIV yX0_ask cX0_ask 5 (some .int) 4 := ⟨wtm 619 (by decide +kernel), wtm 618 (by decide +kernel), wtm 15 (by decide +kernel), wtm 78 (by decide +kernel), by decide +kernel, by decide +kernel⟩
theorem mi_X0_cross : MIV yX0_cross cX0_cross 6 none 2 := ⟨wtm 608 (by decide +kernel), wtm 606 (by decide +kernel), wtm 607 (by decide +kernel), wtm 78 (by decide +kernel), by decide +kernel, by decide +kernel⟩
theorem mi_X0_firstOtherwise : MIV yX0_firstOtherwise cX0_firstOtherwise 5 (some .int) 2 := ⟨wtm 783 (by decide +kernel), wtm 781 (by decide +kernel), wtm 782 (by decide +kernel), wtm 78 (by decide +kernel), by decide +kernel, by decide +kernel⟩
theorem mi_X0_isCooked : MIV yX0_isCooked cX0_isCooked 3 (some .boolean) 2 := ⟨wtm 667 (by decide +kernel), wtm 665 (by decide +kernel), wtm 666 (by decide +kernel), wtm 78 (by decide +kernel), by decide +kernel, by decide +kernel⟩
theorem mi_X0_judge : MIV yX0_judge cX0_judge 4 none 1 := ⟨wtm 615 (by decide +kernel), wtm 613 (by decide +kernel), wtm 614 (by decide +kernel), wtm 78 (by decide +kernel), by decide +kernel, by decide +kernel⟩
theorem mi_X0_ruleBy : MIV yX0_ruleBy cX0_ruleBy 2 none 1 := ⟨wtm 604 (by decide +kernel), wtm 603 (by decide +kernel), wtm 14 (by decide +kernel), wtm 78 (by decide +kernel), by decide +kernel, by decide +kernel⟩
theorem mi_X0_suppose : MIV yX0_suppose cX0_suppose 3 none 2 := ⟨wtm 779 (by decide +kernel), wtm 777 (by decide +kernel), wtm 778 (by decide +kernel), wtm 78 (by decide +kernel), by decide +kernel, by decide +kernel⟩
theorem mi_X0_takeUp : MIV yX0_takeUp cX0_takeUp 4 none 2 := ⟨wtm 598 (by decide +kernel), wtm 596 (by decide +kernel), wtm 597 (by decide +kernel), wtm 78 (by decide +kernel), by decide +kernel, by decide +kernel⟩
theorem mi_X0_useUp : MIV yX0_useUp cX0_useUp 6 none 2 := ⟨wtm 673 (by decide +kernel), wtm 671 (by decide +kernel), wtm 672 (by decide +kernel), wtm 78 (by decide +kernel), by decide +kernel, by decide +kernel⟩
theorem mi_X0_worth : MIV yX0_worth cX0_worth 1 (some .int) 0 := ⟨wtm 647 (by decide +kernel), wtm 645 (by decide +kernel), wtm 646 (by decide +kernel), wtm 78 (by decide +kernel), by decide +kernel, by decide +kernel⟩
theorem mi_X1_addDish : MIV yX1_addDish cX1_addDish 4 (some .int) 3 := ⟨wtm 589 (by decide +kernel), wtm 587 (by decide +kernel), wtm 588 (by decide +kernel), wtm 70 (by decide +kernel), by decide +kernel, by decide +kernel⟩
theorem mi_X1_become : MIV yX1_become cX1_become 2 none 1 := ⟨wtm 822 (by decide +kernel), wtm 820 (by decide +kernel), wtm 821 (by decide +kernel), wtm 70 (by decide +kernel), by decide +kernel, by decide +kernel⟩
theorem mi_X1_countCooked : MIV yX1_countCooked cX1_countCooked 2 none 1 := ⟨wtm 677 (by decide +kernel), wtm 675 (by decide +kernel), wtm 676 (by decide +kernel), wtm 70 (by decide +kernel), by decide +kernel, by decide +kernel⟩
theorem mi_X1_hasDish : MIV yX1_hasDish cX1_hasDish 2 (some .boolean) 1 := ⟨wtm 563 (by decide +kernel), wtm 561 (by decide +kernel), wtm 562 (by decide +kernel), wtm 70 (by decide +kernel), by decide +kernel, by decide +kernel⟩
theorem mi_X1_kitchenBy : MIV yX1_kitchenBy cX1_kitchenBy 3 (some .int) 2 := ⟨wtm 702 (by decide +kernel), wtm 700 (by decide +kernel), wtm 701 (by decide +kernel), wtm 70 (by decide +kernel), by decide +kernel, by decide +kernel⟩
theorem mi_X1_needsOf : MIV yX1_needsOf cX1_needsOf 3 (some .int) 2 := ⟨wtm 575 (by decide +kernel), wtm 573 (by decide +kernel), wtm 574 (by decide +kernel), wtm 70 (by decide +kernel), by decide +kernel, by decide +kernel⟩
theorem mi_X1_needsTogether : MIV yX1_needsTogether cX1_needsTogether 4 (some .int) 1 := ⟨wtm 571 (by decide +kernel), wtm 569 (by decide +kernel), wtm 570 (by decide +kernel), wtm 70 (by decide +kernel), by decide +kernel, by decide +kernel⟩
theorem mi_X1_storeOf : MIV yX1_storeOf cX1_storeOf 4 (some .int) 1 := ⟨wtm 559 (by decide +kernel), wtm 557 (by decide +kernel), wtm 558 (by decide +kernel), wtm 70 (by decide +kernel), by decide +kernel, by decide +kernel⟩
theorem mi_X2_bounded : MIS yX2_bounded cX2_bounded 1 (some .int) 1 := ⟨wtm 629 (by decide +kernel), wtm 628 (by decide +kernel), wtm 83 (by decide +kernel), by decide +kernel, by decide +kernel⟩
theorem mi_X2_fed : MIS yX2_fed cX2_fed 5 (some .int) 5 := ⟨wtm 636 (by decide +kernel), wtm 635 (by decide +kernel), wtm 83 (by decide +kernel), by decide +kernel, by decide +kernel⟩
theorem mi_X2_isUnder : MIS yX2_isUnder cX2_isUnder 4 (some .boolean) 2 := ⟨wtm 860 (by decide +kernel), wtm 859 (by decide +kernel), wtm 83 (by decide +kernel), by decide +kernel, by decide +kernel⟩
theorem mi_X2_signs : MIS yX2_signs cX2_signs 4 (some .boolean) 4 := ⟨wtm 643 (by decide +kernel), wtm 642 (by decide +kernel), wtm 83 (by decide +kernel), by decide +kernel, by decide +kernel⟩
theorem mi_X2_toll : MIS yX2_toll cX2_toll 5 (some .int) 5 := ⟨wtm 640 (by decide +kernel), wtm 639 (by decide +kernel), wtm 83 (by decide +kernel), by decide +kernel, by decide +kernel⟩
theorem mi_X3_goThrough : MIV yX3_goThrough cX3_goThrough 7 none 5 := ⟨wtm 733 (by decide +kernel), wtm 732 (by decide +kernel), wtm 19 (by decide +kernel), wtm 80 (by decide +kernel), by decide +kernel, by decide +kernel⟩
theorem mi_X3_seek : MIV yX3_seek cX3_seek 3 none 2 := ⟨wtm 727 (by decide +kernel), wtm 725 (by decide +kernel), wtm 726 (by decide +kernel), wtm 80 (by decide +kernel), by decide +kernel, by decide +kernel⟩
theorem mi_X3_weigh : MIV yX3_weigh cX3_weigh 5 none 4 := ⟨wtm 737 (by decide +kernel), wtm 736 (by decide +kernel), wtm 20 (by decide +kernel), wtm 80 (by decide +kernel), by decide +kernel, by decide +kernel⟩
theorem mi_X4_begin : MIV yX4_begin cX4_begin 1 none 0 := ⟨wtm 695 (by decide +kernel), wtm 694 (by decide +kernel), wtm 17 (by decide +kernel), wtm 79 (by decide +kernel), by decide +kernel, by decide +kernel⟩
theorem mi_X4_draw : MIV yX4_draw cX4_draw 5 (some .int) 1 := ⟨wtm 809 (by decide +kernel), wtm 807 (by decide +kernel), wtm 808 (by decide +kernel), wtm 79 (by decide +kernel), by decide +kernel, by decide +kernel⟩
theorem mi_X4_goOn : MIV yX4_goOn cX4_goOn 3 (some .boolean) 2 := ⟨wtm 706 (by decide +kernel), wtm 705 (by decide +kernel), wtm 18 (by decide +kernel), wtm 79 (by decide +kernel), by decide +kernel, by decide +kernel⟩
theorem mi_X4_play : MIV yX4_play cX4_play 4 none 1 := ⟨wtm 691 (by decide +kernel), wtm 689 (by decide +kernel), wtm 690 (by decide +kernel), wtm 79 (by decide +kernel), by decide +kernel, by decide +kernel⟩
theorem mi_X5_advance : MIV yX5_advance cX5_advance 1 none 0 := ⟨wtm 277 (by decide +kernel), wtm 276 (by decide +kernel), wtm 0 (by decide +kernel), wtm 71 (by decide +kernel), by decide +kernel, by decide +kernel⟩
theorem mi_X5_advanceNumber : MIV yX5_advanceNumber cX5_advanceNumber 1 none 0 := ⟨wtm 312 (by decide +kernel), wtm 311 (by decide +kernel), wtm 3 (by decide +kernel), wtm 71 (by decide +kernel), by decide +kernel, by decide +kernel⟩
theorem mi_X5_advanceWord : MIV yX5_advanceWord cX5_advanceWord 1 none 0 := ⟨wtm 284 (by decide +kernel), wtm 283 (by decide +kernel), wtm 1 (by decide +kernel), wtm 71 (by decide +kernel), by decide +kernel, by decide +kernel⟩
theorem mi_X5_append : MIV yX5_append cX5_append 2 (some .boolean) 1 := ⟨wtm 265 (by decide +kernel), wtm 263 (by decide +kernel), wtm 264 (by decide +kernel), wtm 71 (by decide +kernel), by decide +kernel, by decide +kernel⟩
theorem mi_X5_expect : MIV yX5_expect cX5_expect 2 none 1 := ⟨wtm 319 (by decide +kernel), wtm 318 (by decide +kernel), wtm 4 (by decide +kernel), wtm 71 (by decide +kernel), by decide +kernel, by decide +kernel⟩
theorem mi_X5_fail : MIV yX5_fail cX5_fail 1 none 0 := ⟨wtm 323 (by decide +kernel), wtm 322 (by decide +kernel), wtm 5 (by decide +kernel), wtm 71 (by decide +kernel), by decide +kernel, by decide +kernel⟩
theorem mi_X5_isDigit : MIS yX5_isDigit cX5_isDigit 1 (some .boolean) 1 := ⟨wtm 308 (by decide +kernel), wtm 307 (by decide +kernel), wtm 71 (by decide +kernel), by decide +kernel, by decide +kernel⟩
theorem mi_X5_isLetter : MIS yX5_isLetter cX5_isLetter 1 (some .boolean) 1 := ⟨wtm 280 (by decide +kernel), wtm 279 (by decide +kernel), wtm 71 (by decide +kernel), by decide +kernel, by decide +kernel⟩
theorem mi_X5_isSign : MIS yX5_isSign cX5_isSign 1 (some .boolean) 1 := ⟨wtm 315 (by decide +kernel), wtm 314 (by decide +kernel), wtm 71 (by decide +kernel), by decide +kernel, by decide +kernel⟩
theorem mi_X5_isWord : MIV yX5_isWord cX5_isWord 3 (some .boolean) 1 := ⟨wtm 289 (by decide +kernel), wtm 288 (by decide +kernel), wtm 2 (by decide +kernel), wtm 71 (by decide +kernel), by decide +kernel, by decide +kernel⟩
theorem mi_X5_readBoth : MIV yX5_readBoth cX5_readBoth 4 none 2 := ⟨wtm 331 (by decide +kernel), wtm 330 (by decide +kernel), wtm 7 (by decide +kernel), wtm 71 (by decide +kernel), by decide +kernel, by decide +kernel⟩
theorem mi_X5_readEither : MIV yX5_readEither cX5_readEither 4 none 2 := ⟨wtm 327 (by decide +kernel), wtm 326 (by decide +kernel), wtm 6 (by decide +kernel), wtm 71 (by decide +kernel), by decide +kernel, by decide +kernel⟩
theorem mi_X5_readInto : MIV yX5_readInto cX5_readInto 3 (some .int) 1 := ⟨wtm 269 (by decide +kernel), wtm 267 (by decide +kernel), wtm 268 (by decide +kernel), wtm 71 (by decide +kernel), by decide +kernel, by decide +kernel⟩
theorem mi_X5_readNot : MIV yX5_readNot cX5_readNot 4 none 2 := ⟨wtm 335 (by decide +kernel), wtm 334 (by decide +kernel), wtm 8 (by decide +kernel), wtm 71 (by decide +kernel), by decide +kernel, by decide +kernel⟩
theorem mi_X5_readOne : MIV yX5_readOne cX5_readOne 5 none 2 := ⟨wtm 351 (by decide +kernel), wtm 350 (by decide +kernel), wtm 11 (by decide +kernel), wtm 71 (by decide +kernel), by decide +kernel, by decide +kernel⟩
theorem mi_X5_readSum : MIV yX5_readSum cX5_readSum 5 none 2 := ⟨wtm 343 (by decide +kernel), wtm 342 (by decide +kernel), wtm 9 (by decide +kernel), wtm 71 (by decide +kernel), by decide +kernel, by decide +kernel⟩
theorem mi_X5_readTerm : MIV yX5_readTerm cX5_readTerm 4 none 2 := ⟨wtm 347 (by decide +kernel), wtm 346 (by decide +kernel), wtm 10 (by decide +kernel), wtm 71 (by decide +kernel), by decide +kernel, by decide +kernel⟩
theorem mi_X6_become : MIV yX6_become cX6_become 4 none 2 := ⟨wtm 793 (by decide +kernel), wtm 791 (by decide +kernel), wtm 792 (by decide +kernel), wtm 73 (by decide +kernel), by decide +kernel, by decide +kernel⟩
theorem mi_X6_hasItem : MIV yX6_hasItem cX6_hasItem 2 (some .boolean) 1 := ⟨wtm 801 (by decide +kernel), wtm 799 (by decide +kernel), wtm 800 (by decide +kernel), wtm 73 (by decide +kernel), by decide +kernel, by decide +kernel⟩
theorem mi_X6_hasRun : MIV yX6_hasRun cX6_hasRun 3 (some .boolean) 2 := ⟨wtm 848 (by decide +kernel), wtm 846 (by decide +kernel), wtm 847 (by decide +kernel), wtm 73 (by decide +kernel), by decide +kernel, by decide +kernel⟩
theorem mi_X6_isMissing : MIV yX6_isMissing cX6_isMissing 1 (some .boolean) 0 := ⟨wtm 771 (by decide +kernel), wtm 769 (by decide +kernel), wtm 770 (by decide +kernel), wtm 73 (by decide +kernel), by decide +kernel, by decide +kernel⟩
theorem mi_X6_put : MIV yX6_put cX6_put 3 none 2 := ⟨wtm 797 (by decide +kernel), wtm 795 (by decide +kernel), wtm 796 (by decide +kernel), wtm 73 (by decide +kernel), by decide +kernel, by decide +kernel⟩
theorem mi_X7_append : MIV yX7_append cX7_append 2 none 1 := ⟨wtm 339 (by decide +kernel), wtm 337 (by decide +kernel), wtm 338 (by decide +kernel), wtm 72 (by decide +kernel), by decide +kernel, by decide +kernel⟩
theorem mi_X7_clear : MIV yX7_clear cX7_clear 1 none 0 := ⟨wtm 273 (by decide +kernel), wtm 271 (by decide +kernel), wtm 272 (by decide +kernel), wtm 72 (by decide +kernel), by decide +kernel, by decide +kernel⟩
theorem mi_X7_endSection : MIV yX7_endSection cX7_endSection 2 none 1 := ⟨wtm 355 (by decide +kernel), wtm 353 (by decide +kernel), wtm 354 (by decide +kernel), wtm 72 (by decide +kernel), by decide +kernel, by decide +kernel⟩
theorem mi_X7_joined : MIS yX7_joined cX7_joined 3 (some .int) 3 := ⟨wtm 626 (by decide +kernel), wtm 625 (by decide +kernel), wtm 72 (by decide +kernel), by decide +kernel, by decide +kernel⟩
theorem mi_X7_nameCode : MIS yX7_nameCode cX7_nameCode 1 (some .int) 1 := ⟨wtm 294 (by decide +kernel), wtm 293 (by decide +kernel), wtm 72 (by decide +kernel), by decide +kernel, by decide +kernel⟩
theorem mi_X7_value : MIV yX7_value cX7_value 8 (some .int) 3 := ⟨wtm 623 (by decide +kernel), wtm 621 (by decide +kernel), wtm 622 (by decide +kernel), wtm 72 (by decide +kernel), by decide +kernel, by decide +kernel⟩
theorem mi_X8_dish : MIV yX8_dish cX8_dish 4 (some .int) 3 := ⟨wtm 585 (by decide +kernel), wtm 583 (by decide +kernel), wtm 584 (by decide +kernel), wtm 69 (by decide +kernel), by decide +kernel, by decide +kernel⟩
theorem mi_X8_guess : MIV yX8_guess cX8_guess 10 (some .int) 5 := ⟨wtm 775 (by decide +kernel), wtm 774 (by decide +kernel), wtm 22 (by decide +kernel), wtm 69 (by decide +kernel), by decide +kernel, by decide +kernel⟩
theorem mi_X8_isKitchen : MIS yX8_isKitchen cX8_isKitchen 1 (some .boolean) 1 := ⟨wtm 551 (by decide +kernel), wtm 550 (by decide +kernel), wtm 69 (by decide +kernel), by decide +kernel, by decide +kernel⟩
theorem mi_X8_isMenu : MIV yX8_isMenu cX8_isMenu 5 (some .boolean) 1 := ⟨wtm 686 (by decide +kernel), wtm 685 (by decide +kernel), wtm 16 (by decide +kernel), wtm 69 (by decide +kernel), by decide +kernel, by decide +kernel⟩
theorem mi_X8_isPlace : MIS yX8_isPlace cX8_isPlace 1 (some .boolean) 1 := ⟨wtm 545 (by decide +kernel), wtm 544 (by decide +kernel), wtm 69 (by decide +kernel), by decide +kernel, by decide +kernel⟩
theorem mi_X8_isSheet : MIS yX8_isSheet cX8_isSheet 1 (some .boolean) 1 := ⟨wtm 767 (by decide +kernel), wtm 766 (by decide +kernel), wtm 69 (by decide +kernel), by decide +kernel, by decide +kernel⟩
theorem mi_X8_lowestTerms : MIS yX8_lowestTerms cX8_lowestTerms 7 (some .long) 3 := ⟨wtm 760 (by decide +kernel), wtm 759 (by decide +kernel), wtm 69 (by decide +kernel), by decide +kernel, by decide +kernel⟩
theorem mi_X8_mostOf : MIS yX8_mostOf cX8_mostOf 1 (some .int) 1 := ⟨wtm 580 (by decide +kernel), wtm 579 (by decide +kernel), wtm 69 (by decide +kernel), by decide +kernel, by decide +kernel⟩
theorem mi_X8_placeOf : MIS yX8_placeOf cX8_placeOf 1 (some .int) 1 := ⟨wtm 548 (by decide +kernel), wtm 547 (by decide +kernel), wtm 69 (by decide +kernel), by decide +kernel, by decide +kernel⟩
theorem mi_X8_sideOf : MIV yX8_sideOf cX8_sideOf 5 (some .int) 1 := ⟨wtm 744 (by decide +kernel), wtm 743 (by decide +kernel), wtm 21 (by decide +kernel), wtm 69 (by decide +kernel), by decide +kernel, by decide +kernel⟩
theorem mi_X8_told : MIV yX8_told cX8_told 3 (some .int) 2 := ⟨wtm 542 (by decide +kernel), wtm 540 (by decide +kernel), wtm 541 (by decide +kernel), wtm 69 (by decide +kernel), by decide +kernel, by decide +kernel⟩
theorem mi_X8_toldOfDish : MIV yX8_toldOfDish cX8_toldOfDish 3 (some .int) 2 := ⟨wtm 567 (by decide +kernel), wtm 566 (by decide +kernel), wtm 13 (by decide +kernel), wtm 69 (by decide +kernel), by decide +kernel, by decide +kernel⟩
theorem mi_X8_toldOfKitchen : MIV yX8_toldOfKitchen cX8_toldOfKitchen 3 (some .int) 2 := ⟨wtm 555 (by decide +kernel), wtm 554 (by decide +kernel), wtm 12 (by decide +kernel), wtm 69 (by decide +kernel), by decide +kernel, by decide +kernel⟩
theorem mi_X9_added : MIV yX9_added cX9_added 4 (some .int) 0 := ⟨wtm 1137 (by decide +kernel), wtm 1136 (by decide +kernel), wtm 41 (by decide +kernel), wtm 81 (by decide +kernel), by decide +kernel, by decide +kernel⟩
theorem mi_X9_atom : MIV yX9_atom cX9_atom 2 (some .int) 0 := ⟨wtm 1145 (by decide +kernel), wtm 1144 (by decide +kernel), wtm 43 (by decide +kernel), wtm 81 (by decide +kernel), by decide +kernel, by decide +kernel⟩
theorem mi_X9_bestOf : MIV yX9_bestOf cX9_bestOf 3 none 2 := ⟨wtm 1256 (by decide +kernel), wtm 1255 (by decide +kernel), wtm 62 (by decide +kernel), wtm 81 (by decide +kernel), by decide +kernel, by decide +kernel⟩
theorem mi_X9_both : MIV yX9_both cX9_both 3 (some .int) 0 := ⟨wtm 1125 (by decide +kernel), wtm 1124 (by decide +kernel), wtm 38 (by decide +kernel), wtm 81 (by decide +kernel), by decide +kernel, by decide +kernel⟩
theorem mi_X9_byteAt : MIV yX9_byteAt cX9_byteAt 2 (some .int) 1 := ⟨wtm 1096 (by decide +kernel), wtm 1095 (by decide +kernel), wtm 32 (by decide +kernel), wtm 81 (by decide +kernel), by decide +kernel, by decide +kernel⟩
theorem mi_X9_canBe : MIV yX9_canBe cX9_canBe 4 (some .boolean) 2 := ⟨wtm 1187 (by decide +kernel), wtm 1186 (by decide +kernel), wtm 50 (by decide +kernel), wtm 81 (by decide +kernel), by decide +kernel, by decide +kernel⟩
theorem mi_X9_cooksAll : MIV yX9_cooksAll cX9_cooksAll 3 (some .int) 0 := ⟨wtm 1231 (by decide +kernel), wtm 1230 (by decide +kernel), wtm 59 (by decide +kernel), wtm 81 (by decide +kernel), by decide +kernel, by decide +kernel⟩
theorem mi_X9_counts : MIV yX9_counts cX9_counts 2 none 1 := ⟨wtm 1215 (by decide +kernel), wtm 1214 (by decide +kernel), wtm 56 (by decide +kernel), wtm 81 (by decide +kernel), by decide +kernel, by decide +kernel⟩
theorem mi_X9_crossAll : MIV yX9_crossAll cX9_crossAll 5 (some .int) 2 := ⟨wtm 1191 (by decide +kernel), wtm 1190 (by decide +kernel), wtm 51 (by decide +kernel), wtm 81 (by decide +kernel), by decide +kernel, by decide +kernel⟩
theorem mi_X9_crossOf : MIV yX9_crossOf cX9_crossOf 5 (some .int) 3 := ⟨wtm 1172 (by decide +kernel), wtm 1171 (by decide +kernel), wtm 47 (by decide +kernel), wtm 81 (by decide +kernel), by decide +kernel, by decide +kernel⟩
theorem mi_X9_dish : MIV yX9_dish cX9_dish 4 (some .int) 3 := ⟨wtm 1072 (by decide +kernel), wtm 1070 (by decide +kernel), wtm 1071 (by decide +kernel), wtm 81 (by decide +kernel), by decide +kernel, by decide +kernel⟩
theorem mi_X9_dishesOf : MIS yX9_dishesOf cX9_dishesOf 3 (some .int) 1 := ⟨wtm 1263 (by decide +kernel), wtm 1262 (by decide +kernel), wtm 81 (by decide +kernel), by decide +kernel, by decide +kernel⟩
theorem mi_X9_either : MIV yX9_either cX9_either 3 (some .int) 0 := ⟨wtm 1121 (by decide +kernel), wtm 1120 (by decide +kernel), wtm 37 (by decide +kernel), wtm 81 (by decide +kernel), by decide +kernel, by decide +kernel⟩
theorem mi_X9_fail : MIV yX9_fail cX9_fail 1 none 0 := ⟨wtm 1117 (by decide +kernel), wtm 1116 (by decide +kernel), wtm 36 (by decide +kernel), wtm 81 (by decide +kernel), by decide +kernel, by decide +kernel⟩
theorem mi_X9_feedsOf : MIV yX9_feedsOf cX9_feedsOf 7 (some .int) 2 := ⟨wtm 1199 (by decide +kernel), wtm 1198 (by decide +kernel), wtm 53 (by decide +kernel), wtm 81 (by decide +kernel), by decide +kernel, by decide +kernel⟩
theorem mi_X9_firstOther : MIV yX9_firstOther cX9_firstOther 4 (some .int) 2 := ⟨wtm 1291 (by decide +kernel), wtm 1290 (by decide +kernel), wtm 64 (by decide +kernel), wtm 81 (by decide +kernel), by decide +kernel, by decide +kernel⟩
theorem mi_X9_in : MIS yX9_in cX9_in 6 (some .boolean) 3 := ⟨wtm 1027 (by decide +kernel), wtm 1026 (by decide +kernel), wtm 81 (by decide +kernel), by decide +kernel, by decide +kernel⟩
theorem mi_X9_isCooked : MIV yX9_isCooked cX9_isCooked 3 (some .boolean) 2 := ⟨wtm 1235 (by decide +kernel), wtm 1234 (by decide +kernel), wtm 60 (by decide +kernel), wtm 81 (by decide +kernel), by decide +kernel, by decide +kernel⟩
theorem mi_X9_isDish : MIV yX9_isDish cX9_isDish 2 (some .boolean) 1 := ⟨wtm 1043 (by decide +kernel), wtm 1042 (by decide +kernel), wtm 25 (by decide +kernel), wtm 81 (by decide +kernel), by decide +kernel, by decide +kernel⟩
theorem mi_X9_isKitchen : MIS yX9_isKitchen cX9_isKitchen 1 (some .boolean) 1 := ⟨wtm 1039 (by decide +kernel), wtm 1038 (by decide +kernel), wtm 81 (by decide +kernel), by decide +kernel, by decide +kernel⟩
theorem mi_X9_isLetter : MIV yX9_isLetter cX9_isLetter 3 (some .boolean) 2 := ⟨wtm 1109 (by decide +kernel), wtm 1108 (by decide +kernel), wtm 34 (by decide +kernel), wtm 81 (by decide +kernel), by decide +kernel, by decide +kernel⟩
theorem mi_X9_isMenu : MIV yX9_isMenu cX9_isMenu 4 (some .boolean) 1 := ⟨wtm 1223 (by decide +kernel), wtm 1222 (by decide +kernel), wtm 57 (by decide +kernel), wtm 81 (by decide +kernel), by decide +kernel, by decide +kernel⟩
theorem mi_X9_isOf : MIV yX9_isOf cX9_isOf 3 (some .boolean) 2 := ⟨wtm 1031 (by decide +kernel), wtm 1030 (by decide +kernel), wtm 24 (by decide +kernel), wtm 81 (by decide +kernel), by decide +kernel, by decide +kernel⟩
theorem mi_X9_isPart : MIS yX9_isPart cX9_isPart 1 (some .boolean) 1 := ⟨wtm 1035 (by decide +kernel), wtm 1034 (by decide +kernel), wtm 81 (by decide +kernel), by decide +kernel, by decide +kernel⟩
theorem mi_X9_isRatified : MIV yX9_isRatified cX9_isRatified 4 (some .boolean) 2 := ⟨wtm 1207 (by decide +kernel), wtm 1206 (by decide +kernel), wtm 54 (by decide +kernel), wtm 81 (by decide +kernel), by decide +kernel, by decide +kernel⟩
theorem mi_X9_isSheet : MIS yX9_isSheet cX9_isSheet 1 (some .boolean) 1 := ⟨wtm 1286 (by decide +kernel), wtm 1285 (by decide +kernel), wtm 81 (by decide +kernel), by decide +kernel, by decide +kernel⟩
theorem mi_X9_isSign : MIV yX9_isSign cX9_isSign 2 (some .boolean) 1 := ⟨wtm 1149 (by decide +kernel), wtm 1148 (by decide +kernel), wtm 44 (by decide +kernel), wtm 81 (by decide +kernel), by decide +kernel, by decide +kernel⟩
theorem mi_X9_isWord : MIV yX9_isWord cX9_isWord 9 (some .boolean) 8 := ⟨wtm 1105 (by decide +kernel), wtm 1104 (by decide +kernel), wtm 33 (by decide +kernel), wtm 81 (by decide +kernel), by decide +kernel, by decide +kernel⟩
theorem mi_X9_lays : MIV yX9_lays cX9_lays 4 none 3 := ⟨wtm 1068 (by decide +kernel), wtm 1067 (by decide +kernel), wtm 29 (by decide +kernel), wtm 81 (by decide +kernel), by decide +kernel, by decide +kernel⟩
theorem mi_X9_laysAside : MIV yX9_laysAside cX9_laysAside 2 none 0 := ⟨wtm 1227 (by decide +kernel), wtm 1226 (by decide +kernel), wtm 58 (by decide +kernel), wtm 81 (by decide +kernel), by decide +kernel, by decide +kernel⟩
theorem mi_X9_laysBack : MIV yX9_laysBack cX9_laysBack 2 none 0 := ⟨wtm 1239 (by decide +kernel), wtm 1238 (by decide +kernel), wtm 61 (by decide +kernel), wtm 81 (by decide +kernel), by decide +kernel, by decide +kernel⟩
theorem mi_X9_likeSet : MIV yX9_likeSet cX9_likeSet 4 (some .int) 1 := ⟨wtm 1299 (by decide +kernel), wtm 1298 (by decide +kernel), wtm 66 (by decide +kernel), wtm 81 (by decide +kernel), by decide +kernel, by decide +kernel⟩
theorem mi_X9_lowest : MIS yX9_lowest cX9_lowest 11 (some .long) 3 := ⟨wtm 1279 (by decide +kernel), wtm 1278 (by decide +kernel), wtm 81 (by decide +kernel), by decide +kernel, by decide +kernel⟩
theorem mi_X9_menus : MIV yX9_menus cX9_menus 12 none 7 := ⟨wtm 1260 (by decide +kernel), wtm 1259 (by decide +kernel), wtm 63 (by decide +kernel), wtm 81 (by decide +kernel), by decide +kernel, by decide +kernel⟩
theorem mi_X9_mostOf : MIS yX9_mostOf cX9_mostOf 1 (some .int) 1 := ⟨wtm 1046 (by decide +kernel), wtm 1045 (by decide +kernel), wtm 81 (by decide +kernel), by decide +kernel, by decide +kernel⟩
theorem mi_X9_name : MIV yX9_name cX9_name 1 (some .int) 0 := ⟨wtm 1153 (by decide +kernel), wtm 1152 (by decide +kernel), wtm 45 (by decide +kernel), wtm 81 (by decide +kernel), by decide +kernel, by decide +kernel⟩
theorem mi_X9_needsAll : MIV yX9_needsAll cX9_needsAll 4 (some .int) 1 := ⟨wtm 1056 (by decide +kernel), wtm 1055 (by decide +kernel), wtm 26 (by decide +kernel), wtm 81 (by decide +kernel), by decide +kernel, by decide +kernel⟩
theorem mi_X9_needsOf : MIV yX9_needsOf cX9_needsOf 5 (some .int) 2 := ⟨wtm 1060 (by decide +kernel), wtm 1059 (by decide +kernel), wtm 27 (by decide +kernel), wtm 81 (by decide +kernel), by decide +kernel, by decide +kernel⟩
theorem mi_X9_next : MIV yX9_next cX9_next 3 none 0 := ⟨wtm 1092 (by decide +kernel), wtm 1091 (by decide +kernel), wtm 31 (by decide +kernel), wtm 81 (by decide +kernel), by decide +kernel, by decide +kernel⟩
theorem mi_X9_not : MIV yX9_not cX9_not 4 (some .int) 0 := ⟨wtm 1129 (by decide +kernel), wtm 1128 (by decide +kernel), wtm 39 (by decide +kernel), wtm 81 (by decide +kernel), by decide +kernel, by decide +kernel⟩
theorem mi_X9_opens : MIV yX9_opens cX9_opens 1 (some .boolean) 0 := ⟨wtm 1133 (by decide +kernel), wtm 1132 (by decide +kernel), wtm 40 (by decide +kernel), wtm 81 (by decide +kernel), by decide +kernel, by decide +kernel⟩
theorem mi_X9_over : MIS yX9_over cX9_over 1 (some .int) 1 := ⟨wtm 1358 (by decide +kernel), wtm 1357 (by decide +kernel), wtm 81 (by decide +kernel), by decide +kernel, by decide +kernel⟩
theorem mi_X9_part : MIV yX9_part cX9_part 3 (some .int) 1 := ⟨wtm 1113 (by decide +kernel), wtm 1112 (by decide +kernel), wtm 35 (by decide +kernel), wtm 81 (by decide +kernel), by decide +kernel, by decide +kernel⟩
theorem mi_X9_read : MIV yX9_read cX9_read 6 (some .int) 2 := ⟨wtm 1088 (by decide +kernel), wtm 1087 (by decide +kernel), wtm 30 (by decide +kernel), wtm 81 (by decide +kernel), by decide +kernel, by decide +kernel⟩
theorem mi_X9_says : MIV yX9_says cX9_says 7 (some .int) 5 := ⟨wtm 1180 (by decide +kernel), wtm 1179 (by decide +kernel), wtm 49 (by decide +kernel), wtm 81 (by decide +kernel), by decide +kernel, by decide +kernel⟩
theorem mi_X9_sheet : MIV yX9_sheet cX9_sheet 5 (some .int) 3 := ⟨wtm 1307 (by decide +kernel), wtm 1305 (by decide +kernel), wtm 1306 (by decide +kernel), wtm 81 (by decide +kernel), by decide +kernel, by decide +kernel⟩
theorem mi_X9_signsAt : MIV yX9_signsAt cX9_signsAt 7 (some .boolean) 4 := ⟨wtm 1195 (by decide +kernel), wtm 1194 (by decide +kernel), wtm 52 (by decide +kernel), wtm 81 (by decide +kernel), by decide +kernel, by decide +kernel⟩
theorem mi_X9_storeOf : MIV yX9_storeOf cX9_storeOf 4 (some .int) 1 := ⟨wtm 1064 (by decide +kernel), wtm 1063 (by decide +kernel), wtm 28 (by decide +kernel), wtm 81 (by decide +kernel), by decide +kernel, by decide +kernel⟩
theorem mi_X9_term : MIV yX9_term cX9_term 2 (some .int) 0 := ⟨wtm 1141 (by decide +kernel), wtm 1140 (by decide +kernel), wtm 42 (by decide +kernel), wtm 81 (by decide +kernel), by decide +kernel, by decide +kernel⟩
theorem mi_X9_told : MIV yX9_told cX9_told 3 (some .int) 2 := ⟨wtm 1051 (by decide +kernel), wtm 1049 (by decide +kernel), wtm 1050 (by decide +kernel), wtm 81 (by decide +kernel), by decide +kernel, by decide +kernel⟩
theorem mi_X9_tollOf : MIV yX9_tollOf cX9_tollOf 6 (some .int) 2 := ⟨wtm 1168 (by decide +kernel), wtm 1167 (by decide +kernel), wtm 46 (by decide +kernel), wtm 81 (by decide +kernel), by decide +kernel, by decide +kernel⟩
theorem mi_X9_tollPart : MIV yX9_tollPart cX9_tollPart 7 (some .int) 4 := ⟨wtm 1176 (by decide +kernel), wtm 1175 (by decide +kernel), wtm 48 (by decide +kernel), wtm 81 (by decide +kernel), by decide +kernel, by decide +kernel⟩
theorem mi_X9_uses : MIV yX9_uses cX9_uses 5 none 2 := ⟨wtm 1211 (by decide +kernel), wtm 1210 (by decide +kernel), wtm 55 (by decide +kernel), wtm 81 (by decide +kernel), by decide +kernel, by decide +kernel⟩
theorem mi_X9_within : MIS yX9_within cX9_within 3 (some .int) 3 := ⟨wtm 1183 (by decide +kernel), wtm 1182 (by decide +kernel), wtm 81 (by decide +kernel), by decide +kernel, by decide +kernel⟩
theorem mi_X9_worthDrawn : MIV yX9_worthDrawn cX9_worthDrawn 6 (some .int) 1 := ⟨wtm 1317 (by decide +kernel), wtm 1316 (by decide +kernel), wtm 67 (by decide +kernel), wtm 81 (by decide +kernel), by decide +kernel, by decide +kernel⟩
theorem mi_X9_worthIn : MIV yX9_worthIn cX9_worthIn 3 (some .int) 2 := ⟨wtm 1295 (by decide +kernel), wtm 1294 (by decide +kernel), wtm 65 (by decide +kernel), wtm 81 (by decide +kernel), by decide +kernel, by decide +kernel⟩
