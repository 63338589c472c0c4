theorem jcb_10 : (Int8.ofInt 10).toInt32 = 10 := by decide
theorem jcb_100 : (Int8.ofInt 100).toInt32 = 100 := by decide
theorem jcb_101 : (Int8.ofInt 101).toInt32 = 101 := by decide
theorem jcb_103 : (Int8.ofInt 103).toInt32 = 103 := by decide
theorem jcb_104 : (Int8.ofInt 104).toInt32 = 104 := by decide
theorem jcb_108 : (Int8.ofInt 108).toInt32 = 108 := by decide
theorem jcb_11 : (Int8.ofInt 11).toInt32 = 11 := by decide
theorem jcb_111 : (Int8.ofInt 111).toInt32 = 111 := by decide
theorem jcb_119 : (Int8.ofInt 119).toInt32 = 119 := by decide
theorem jcb_12 : (Int8.ofInt 12).toInt32 = 12 := by decide
theorem jcb_16 : (Int8.ofInt 16).toInt32 = 16 := by decide
theorem jcb_20 : (Int8.ofInt 20).toInt32 = 20 := by decide
theorem jcb_30 : (Int8.ofInt 30).toInt32 = 30 := by decide
theorem jcb_42 : (Int8.ofInt 42).toInt32 = 42 := by decide
theorem jcb_48 : (Int8.ofInt 48).toInt32 = 48 := by decide
theorem jcb_49 : (Int8.ofInt 49).toInt32 = 49 := by decide
theorem jcb_57 : (Int8.ofInt 57).toInt32 = 57 := by decide
theorem jcb_59 : (Int8.ofInt 59).toInt32 = 59 := by decide
theorem jcb_6 : (Int8.ofInt 6).toInt32 = 6 := by decide
theorem jcb_60 : (Int8.ofInt 60).toInt32 = 60 := by decide
theorem jcb_61 : (Int8.ofInt 61).toInt32 = 61 := by decide
theorem jcb_63 : (Int8.ofInt 63).toInt32 = 63 := by decide
theorem jcb_7 : (Int8.ofInt 7).toInt32 = 7 := by decide
theorem jcb_8 : (Int8.ofInt 8).toInt32 = 8 := by decide
theorem jcb_9 : (Int8.ofInt 9).toInt32 = 9 := by decide
theorem jcb_91 : (Int8.ofInt 91).toInt32 = 91 := by decide
theorem jcb_96 : (Int8.ofInt 96).toInt32 = 96 := by decide
theorem jcb_99 : (Int8.ofInt 99).toInt32 = 99 := by decide
theorem jcb_m2 : (Int8.ofInt (-2)).toInt32 = (-2) := by decide
theorem jcb_m3 : (Int8.ofInt (-3)).toInt32 = (-3) := by decide
theorem jcb_m4 : (Int8.ofInt (-4)).toInt32 = (-4) := by decide
theorem jcb_m6 : (Int8.ofInt (-6)).toInt32 = (-6) := by decide
theorem jcb_m9 : (Int8.ofInt (-9)).toInt32 = (-9) := by decide
theorem jci_0 : Int32.ofInt 0 = 0 := by decide
theorem jci_1 : Int32.ofInt 1 = 1 := by decide
theorem jci_2 : Int32.ofInt 2 = 2 := by decide
theorem jci_3 : Int32.ofInt 3 = 3 := by decide
theorem jci_4 : Int32.ofInt 4 = 4 := by decide
theorem jci_5 : Int32.ofInt 5 = 5 := by decide
theorem jci_m1 : Int32.ofInt (-1) = (-1) := by decide
set_option maxRecDepth 100000 in
theorem jcoM_abs : Cond.code Lib.Math.abs.name Lib.Math.abs.code 1 (some .int) ∈ jtb := jtb_mem 365 rfl rfl
set_option maxRecDepth 100000 in
theorem jcoM_max : Cond.code Lib.Math.max.name Lib.Math.max.code 2 (some .int) ∈ jtb := jtb_mem 670 rfl rfl
set_option maxRecDepth 100000 in
theorem jcoM_min : Cond.code Lib.Math.min.name Lib.Math.min.code 2 (some .int) ∈ jtb := jtb_mem 338 rfl rfl
theorem jcs_12345 : (Int16.ofInt 12345).toInt32 = 12345 := by decide
theorem jcs_128 : (Int16.ofInt 128).toInt32 = 128 := by decide
theorem jcs_255 : (Int16.ofInt 255).toInt32 = 255 := by decide
theorem jcs_6272 : (Int16.ofInt 6272).toInt32 = 6272 := by decide
theorem jcs_728 : (Int16.ofInt 728).toInt32 = 728 := by decide
theorem jcs_999 : (Int16.ofInt 999).toInt32 = 999 := by decide
theorem jcs_m1000 : (Int16.ofInt (-1000)).toInt32 = (-1000) := by decide
theorem jcs_m2000 : (Int16.ofInt (-2000)).toInt32 = (-2000) := by decide
set_option maxRecDepth 100000 in
theorem ji_X0_forget : jiw yX0_forget := ⟨jtb_mem 375 rfl rfl, jtb_mem 376 rfl rfl⟩
set_option maxRecDepth 100000 in
theorem ji_X0_keep : jiw yX0_keep := ⟨jtb_mem 444 rfl rfl, jtb_mem 445 rfl rfl⟩
set_option maxRecDepth 100000 in
theorem ji_X0_takeBack : jiw yX0_takeBack := ⟨jtb_mem 486 rfl rfl, jtb_mem 487 rfl rfl⟩
set_option maxRecDepth 100000 in
theorem ji_X1_areFull : jiw yX1_areFull := ⟨jtb_mem 247 rfl rfl, jtb_mem 248 rfl rfl⟩
set_option maxRecDepth 100000 in
theorem ji_X1_digit : jiw yX1_digit := ⟨jtb_mem 283 rfl rfl, jtb_mem 3 rfl rfl⟩
set_option maxRecDepth 100000 in
theorem ji_X1_drop : jiw yX1_drop := ⟨jtb_mem 371 rfl rfl, jtb_mem 372 rfl rfl⟩
set_option maxRecDepth 100000 in
theorem ji_X1_firstMisspelt : jiw yX1_firstMisspelt := ⟨jtb_mem 272 rfl rfl, jtb_mem 1 rfl rfl⟩
set_option maxRecDepth 100000 in
theorem ji_X1_pair : jiw yX1_pair := ⟨jtb_mem 287 rfl rfl, jtb_mem 4 rfl rfl⟩
set_option maxRecDepth 100000 in
theorem ji_X1_take : jiw yX1_take := ⟨jtb_mem 251 rfl rfl, jtb_mem 252 rfl rfl⟩
set_option maxRecDepth 100000 in
theorem ji_X1_tell : jiw yX1_tell := ⟨jtb_mem 267 rfl rfl, jtb_mem 268 rfl rfl⟩
set_option maxRecDepth 100000 in
theorem ji_X1_tellStatement : jiw yX1_tellStatement := ⟨jtb_mem 279 rfl rfl, jtb_mem 2 rfl rfl⟩
set_option maxRecDepth 100000 in
theorem ji_X2_fewest : jiw yX2_fewest := ⟨jtb_mem 560 rfl rfl, jtb_mem 561 rfl rfl⟩
set_option maxRecDepth 100000 in
theorem ji_X2_nextDoor : jiw yX2_nextDoor := ⟨jtb_mem 565 rfl rfl, jtb_mem 9 rfl rfl⟩
set_option maxRecDepth 100000 in
theorem ji_X2_plan : jiw yX2_plan := ⟨jtb_mem 555 rfl rfl, jtb_mem 556 rfl rfl⟩
set_option maxRecDepth 100000 in
theorem ji_X2_stepsBy : jiw yX2_stepsBy := ⟨jtb_mem 569 rfl rfl, jtb_mem 10 rfl rfl⟩
set_option maxRecDepth 100000 in
theorem ji_X2_stop : jiw yX2_stop := ⟨jtb_mem 574 rfl rfl, jtb_mem 575 rfl rfl⟩
set_option maxRecDepth 100000 in
theorem ji_X3_find : jiw yX3_find := ⟨jtb_mem 530 rfl rfl, jtb_mem 531 rfl rfl⟩
set_option maxRecDepth 100000 in
theorem ji_X3_openCells : jiw yX3_openCells := ⟨jtb_mem 542 rfl rfl, jtb_mem 8 rfl rfl⟩
set_option maxRecDepth 100000 in
theorem ji_X3_shortestAt : jiw yX3_shortestAt := ⟨jtb_mem 537 rfl rfl, jtb_mem 7 rfl rfl⟩
set_option maxRecDepth 100000 in
theorem ji_X4_addDebt : jiw yX4_addDebt := ⟨jtb_mem 317 rfl rfl, jtb_mem 318 rfl rfl⟩
set_option maxRecDepth 100000 in
theorem ji_X4_addHouse : jiw yX4_addHouse := ⟨jtb_mem 290 rfl rfl, jtb_mem 291 rfl rfl⟩
set_option maxRecDepth 100000 in
theorem ji_X4_addWalker : jiw yX4_addWalker := ⟨jtb_mem 297 rfl rfl, jtb_mem 298 rfl rfl⟩
set_option maxRecDepth 100000 in
theorem ji_X4_ageBehind : jiw yX4_ageBehind := ⟨jtb_mem 333 rfl rfl, jtb_mem 334 rfl rfl⟩
set_option maxRecDepth 100000 in
theorem ji_X4_aim : jiw yX4_aim := ⟨jtb_mem 309 rfl rfl, jtb_mem 310 rfl rfl⟩
set_option maxRecDepth 100000 in
theorem ji_X4_become : jiw yX4_become := ⟨jtb_mem 260 rfl rfl, jtb_mem 261 rfl rfl⟩
set_option maxRecDepth 100000 in
theorem ji_X4_burden : jiw yX4_burden := ⟨jtb_mem 599 rfl rfl, jtb_mem 600 rfl rfl⟩
set_option maxRecDepth 100000 in
theorem ji_X4_debtsBehind : jiw yX4_debtsBehind := ⟨jtb_mem 471 rfl rfl, jtb_mem 472 rfl rfl⟩
set_option maxRecDepth 100000 in
theorem ji_X4_firstSighting : jiw yX4_firstSighting := ⟨jtb_mem 340 rfl rfl, jtb_mem 341 rfl rfl⟩
set_option maxRecDepth 100000 in
theorem ji_X4_hasHouse : jiw yX4_hasHouse := ⟨jtb_mem 305 rfl rfl, jtb_mem 306 rfl rfl⟩
set_option maxRecDepth 100000 in
theorem ji_X4_hasWalker : jiw yX4_hasWalker := ⟨jtb_mem 313 rfl rfl, jtb_mem 314 rfl rfl⟩
set_option maxRecDepth 100000 in
theorem ji_X4_highestAgeOf : jiw yX4_highestAgeOf := ⟨jtb_mem 665 rfl rfl, jtb_mem 666 rfl rfl⟩
set_option maxRecDepth 100000 in
theorem ji_X4_isLit : jiw yX4_isLit := ⟨jtb_mem 348 rfl rfl, jtb_mem 349 rfl rfl⟩
set_option maxRecDepth 100000 in
theorem ji_X4_minutesBehind : jiw yX4_minutesBehind := ⟨jtb_mem 418 rfl rfl, jtb_mem 419 rfl rfl⟩
set_option maxRecDepth 100000 in
theorem ji_X4_minutesOf : jiw yX4_minutesOf := ⟨jtb_mem 386 rfl rfl, jtb_mem 387 rfl rfl⟩
set_option maxRecDepth 100000 in
theorem ji_X4_owersBehind : jiw yX4_owersBehind := ⟨jtb_mem 393 rfl rfl, jtb_mem 394 rfl rfl⟩
set_option maxRecDepth 100000 in
theorem ji_X4_owes : jiw yX4_owes := ⟨jtb_mem 321 rfl rfl, jtb_mem 322 rfl rfl⟩
set_option maxRecDepth 100000 in
theorem ji_X4_owesBehind : jiw yX4_owesBehind := ⟨jtb_mem 406 rfl rfl, jtb_mem 407 rfl rfl⟩
set_option maxRecDepth 100000 in
theorem ji_X4_pass : jiw yX4_pass := ⟨jtb_mem 329 rfl rfl, jtb_mem 330 rfl rfl⟩
set_option maxRecDepth 100000 in
theorem ji_X4_placeBehind : jiw yX4_placeBehind := ⟨jtb_mem 367 rfl rfl, jtb_mem 368 rfl rfl⟩
set_option maxRecDepth 100000 in
theorem ji_X4_priceBehind : jiw yX4_priceBehind := ⟨jtb_mem 414 rfl rfl, jtb_mem 415 rfl rfl⟩
set_option maxRecDepth 100000 in
theorem ji_X4_pricesBehind : jiw yX4_pricesBehind := ⟨jtb_mem 499 rfl rfl, jtb_mem 500 rfl rfl⟩
set_option maxRecDepth 100000 in
theorem ji_X4_rangeOf : jiw yX4_rangeOf := ⟨jtb_mem 344 rfl rfl, jtb_mem 345 rfl rfl⟩
set_option maxRecDepth 100000 in
theorem ji_X4_seenBy : jiw yX4_seenBy := ⟨jtb_mem 397 rfl rfl, jtb_mem 398 rfl rfl⟩
set_option maxRecDepth 100000 in
theorem ji_X4_seesFrom : jiw yX4_seesFrom := ⟨jtb_mem 410 rfl rfl, jtb_mem 411 rfl rfl⟩
set_option maxRecDepth 100000 in
theorem ji_X4_setCandle : jiw yX4_setCandle := ⟨jtb_mem 587 rfl rfl, jtb_mem 588 rfl rfl⟩
set_option maxRecDepth 100000 in
theorem ji_X4_setDebt : jiw yX4_setDebt := ⟨jtb_mem 325 rfl rfl, jtb_mem 326 rfl rfl⟩
set_option maxRecDepth 100000 in
theorem ji_X4_sightings : jiw yX4_sightings := ⟨jtb_mem 653 rfl rfl, jtb_mem 654 rfl rfl⟩
set_option maxRecDepth 100000 in
theorem ji_X4_turn : jiw yX4_turn := ⟨jtb_mem 301 rfl rfl, jtb_mem 302 rfl rfl⟩
set_option maxRecDepth 100000 in
theorem ji_X5_bestShutter : jiw yX5_bestShutter := ⟨jtb_mem 641 rfl rfl, jtb_mem 16 rfl rfl⟩
set_option maxRecDepth 100000 in
theorem ji_X5_debtless : jiw yX5_debtless := ⟨jtb_mem 613 rfl rfl, jtb_mem 11 rfl rfl⟩
set_option maxRecDepth 100000 in
theorem ji_X5_debtor : jiw yX5_debtor := ⟨jtb_mem 523 rfl rfl, jtb_mem 6 rfl rfl⟩
set_option maxRecDepth 100000 in
theorem ji_X5_eveningsOfNewDebts : jiw yX5_eveningsOfNewDebts := ⟨jtb_mem 702 rfl rfl, jtb_mem 21 rfl rfl⟩
set_option maxRecDepth 100000 in
theorem ji_X5_fitsNumbers : jiw yX5_fitsNumbers := ⟨jtb_mem 629 rfl rfl, jtb_mem 14 rfl rfl⟩
set_option maxRecDepth 100000 in
theorem ji_X5_fittingFigures : jiw yX5_fittingFigures := ⟨jtb_mem 633 rfl rfl, jtb_mem 15 rfl rfl⟩
set_option maxRecDepth 100000 in
theorem ji_X5_fittingKinds : jiw yX5_fittingKinds := ⟨jtb_mem 625 rfl rfl, jtb_mem 13 rfl rfl⟩
set_option maxRecDepth 100000 in
theorem ji_X5_highestAge : jiw yX5_highestAge := ⟨jtb_mem 662 rfl rfl, jtb_mem 18 rfl rfl⟩
set_option maxRecDepth 100000 in
theorem ji_X5_lane : jiw yX5_lane := ⟨jtb_mem 678 rfl rfl, jtb_mem 20 rfl rfl⟩
set_option maxRecDepth 100000 in
theorem ji_X5_longestOwing : jiw yX5_longestOwing := ⟨jtb_mem 674 rfl rfl, jtb_mem 19 rfl rfl⟩
set_option maxRecDepth 100000 in
theorem ji_X5_mostOwed : jiw yX5_mostOwed := ⟨jtb_mem 518 rfl rfl, jtb_mem 5 rfl rfl⟩
set_option maxRecDepth 100000 in
theorem ji_X5_owedByOne : jiw yX5_owedByOne := ⟨jtb_mem 617 rfl rfl, jtb_mem 12 rfl rfl⟩
set_option maxRecDepth 100000 in
theorem ji_X5_refuse : jiw yX5_refuse := ⟨jtb_mem 244 rfl rfl, jtb_mem 0 rfl rfl⟩
set_option maxRecDepth 100000 in
theorem ji_X5_refuseLong : jiw yX5_refuseLong := ⟨jtb_mem 649 rfl rfl, jtb_mem 17 rfl rfl⟩
set_option maxRecDepth 100000 in
theorem ji_X6_again : jiw yX6_again := ⟨jtb_mem 983 rfl rfl, jtb_mem 40 rfl rfl⟩
set_option maxRecDepth 100000 in
theorem ji_X6_allDebts : jiw yX6_allDebts := ⟨jtb_mem 1072 rfl rfl, jtb_mem 48 rfl rfl⟩
set_option maxRecDepth 100000 in
theorem ji_X6_allPrices : jiw yX6_allPrices := ⟨jtb_mem 1090 rfl rfl, jtb_mem 49 rfl rfl⟩
set_option maxRecDepth 100000 in
theorem ji_X6_canSee : jiw yX6_canSee := ⟨jtb_mem 966 rfl rfl, jtb_mem 38 rfl rfl⟩
set_option maxRecDepth 100000 in
theorem ji_X6_carry : jiw yX6_carry := ⟨jtb_mem 923 rfl rfl, jtb_mem 29 rfl rfl⟩
set_option maxRecDepth 100000 in
theorem ji_X6_carryAll : jiw yX6_carryAll := ⟨jtb_mem 919 rfl rfl, jtb_mem 28 rfl rfl⟩
set_option maxRecDepth 100000 in
theorem ji_X6_comesTold : jiw yX6_comesTold := ⟨jtb_mem 927 rfl rfl, jtb_mem 30 rfl rfl⟩
set_option maxRecDepth 100000 in
theorem ji_X6_darkBits : jiw yX6_darkBits := ⟨jtb_mem 1197 rfl rfl, jtb_mem 58 rfl rfl⟩
set_option maxRecDepth 100000 in
theorem ji_X6_drawBelow : jiw yX6_drawBelow := ⟨jtb_mem 1250 rfl rfl, jtb_mem 59 rfl rfl⟩
set_option maxRecDepth 100000 in
theorem ji_X6_eveningBy : jiw yX6_eveningBy := ⟨jtb_mem 955 rfl rfl, jtb_mem 36 rfl rfl⟩
set_option maxRecDepth 100000 in
theorem ji_X6_goEvenings : jiw yX6_goEvenings := ⟨jtb_mem 951 rfl rfl, jtb_mem 35 rfl rfl⟩
set_option maxRecDepth 100000 in
theorem ji_X6_heavyPrices : jiw yX6_heavyPrices := ⟨jtb_mem 1146 rfl rfl, jtb_mem 53 rfl rfl⟩
set_option maxRecDepth 100000 in
theorem ji_X6_here : jiw yX6_here := ⟨jtb_mem 895 rfl rfl, jtb_mem 24 rfl rfl⟩
set_option maxRecDepth 100000 in
theorem ji_X6_houseComes : jiw yX6_houseComes := ⟨jtb_mem 931 rfl rfl, jtb_mem 31 rfl rfl⟩
set_option maxRecDepth 100000 in
theorem ji_X6_isHouse : jiw yX6_isHouse := ⟨jtb_mem 942 rfl rfl, jtb_mem 33 rfl rfl⟩
set_option maxRecDepth 100000 in
theorem ji_X6_isRow : jiw yX6_isRow := ⟨jtb_mem 1162 rfl rfl, jtb_mem 54 rfl rfl⟩
set_option maxRecDepth 100000 in
theorem ji_X6_isWalker : jiw yX6_isWalker := ⟨jtb_mem 946 rfl rfl, jtb_mem 34 rfl rfl⟩
set_option maxRecDepth 100000 in
theorem ji_X6_keepTurn : jiw yX6_keepTurn := ⟨jtb_mem 1052 rfl rfl, jtb_mem 47 rfl rfl⟩
set_option maxRecDepth 100000 in
theorem ji_X6_laneTwos : jiw yX6_laneTwos := ⟨jtb_mem 1193 rfl rfl, jtb_mem 57 rfl rfl⟩
set_option maxRecDepth 100000 in
theorem ji_X6_layPaying : jiw yX6_layPaying := ⟨jtb_mem 1121 rfl rfl, jtb_mem 51 rfl rfl⟩
set_option maxRecDepth 100000 in
theorem ji_X6_layWays : jiw yX6_layWays := ⟨jtb_mem 1110 rfl rfl, jtb_mem 50 rfl rfl⟩
set_option maxRecDepth 100000 in
theorem ji_X6_minutesOf : jiw yX6_minutesOf := ⟨jtb_mem 1004 rfl rfl, jtb_mem 41 rfl rfl⟩
set_option maxRecDepth 100000 in
theorem ji_X6_nextOn : jiw yX6_nextOn := ⟨jtb_mem 1125 rfl rfl, jtb_mem 52 rfl rfl⟩
set_option maxRecDepth 100000 in
theorem ji_X6_oldestAge : jiw yX6_oldestAge := ⟨jtb_mem 1185 rfl rfl, jtb_mem 55 rfl rfl⟩
set_option maxRecDepth 100000 in
theorem ji_X6_oldestBy : jiw yX6_oldestBy := ⟨jtb_mem 1189 rfl rfl, jtb_mem 56 rfl rfl⟩
set_option maxRecDepth 100000 in
theorem ji_X6_owersOf : jiw yX6_owersOf := ⟨jtb_mem 1008 rfl rfl, jtb_mem 42 rfl rfl⟩
set_option maxRecDepth 100000 in
theorem ji_X6_owesBits : jiw yX6_owesBits := ⟨jtb_mem 1021 rfl rfl, jtb_mem 44 rfl rfl⟩
set_option maxRecDepth 100000 in
theorem ji_X6_priceOf : jiw yX6_priceOf := ⟨jtb_mem 1025 rfl rfl, jtb_mem 45 rfl rfl⟩
set_option maxRecDepth 100000 in
theorem ji_X6_reachOf : jiw yX6_reachOf := ⟨jtb_mem 970 rfl rfl, jtb_mem 39 rfl rfl⟩
set_option maxRecDepth 100000 in
theorem ji_X6_readDigits : jiw yX6_readDigits := ⟨jtb_mem 906 rfl rfl, jtb_mem 26 rfl rfl⟩
set_option maxRecDepth 100000 in
theorem ji_X6_readNumbers : jiw yX6_readNumbers := ⟨jtb_mem 902 rfl rfl, jtb_mem 25 rfl rfl⟩
set_option maxRecDepth 100000 in
theorem ji_X6_readStatement : jiw yX6_readStatement := ⟨jtb_mem 891 rfl rfl, jtb_mem 23 rfl rfl⟩
set_option maxRecDepth 100000 in
theorem ji_X6_refuse : jiw yX6_refuse := ⟨jtb_mem 883 rfl rfl, jtb_mem 22 rfl rfl⟩
set_option maxRecDepth 100000 in
theorem ji_X6_seenFrom : jiw yX6_seenFrom := ⟨jtb_mem 962 rfl rfl, jtb_mem 37 rfl rfl⟩
set_option maxRecDepth 100000 in
theorem ji_X6_seersOf : jiw yX6_seersOf := ⟨jtb_mem 1012 rfl rfl, jtb_mem 43 rfl rfl⟩
set_option maxRecDepth 100000 in
theorem ji_X6_think : jiw yX6_think := ⟨jtb_mem 915 rfl rfl, jtb_mem 27 rfl rfl⟩
set_option maxRecDepth 100000 in
theorem ji_X6_walkerComes : jiw yX6_walkerComes := ⟨jtb_mem 938 rfl rfl, jtb_mem 32 rfl rfl⟩
set_option maxRecDepth 100000 in
theorem ji_X6_wrongBoth : jiw yX6_wrongBoth := ⟨jtb_mem 1033 rfl rfl, jtb_mem 46 rfl rfl⟩
set_option maxRecDepth 100000 in
theorem jinM : Cond.initialized "java/lang/Math" ∈ jtb := jtb_mem 70 rfl rfl
set_option maxRecDepth 100000 in
theorem jinS : Cond.initialized "java/lang/System" ∈ jtb := jtb_mem 69 rfl rfl
set_option maxRecDepth 100000 in
theorem jkJ6_265 : Cond.constant RJ6 265 1431655765 ∈ jtb := jtb_mem 478 rfl rfl
set_option maxRecDepth 100000 in
theorem jkJ6_266 : Cond.constant RJ6 266 858993459 ∈ jtb := jtb_mem 479 rfl rfl
set_option maxRecDepth 100000 in
theorem jkJ6_267 : Cond.constant RJ6 267 252645135 ∈ jtb := jtb_mem 480 rfl rfl
set_option maxRecDepth 100000 in
theorem jkX3_58 : Cond.constantLong RX3 58 (-283691315109953) ∈ jtb := jtb_mem 548 rfl rfl
set_option maxRecDepth 100000 in
theorem jkX3_60 : Cond.constantLong RX3 60 (-4432676798594) ∈ jtb := jtb_mem 549 rfl rfl
set_option maxRecDepth 100000 in
theorem jkX5_238 : Cond.constant RX5 238 1000000000 ∈ jtb := jtb_mem 581 rfl rfl
set_option maxRecDepth 100000 in
theorem jkX5_300 : Cond.constantLong RX5 300 4000000000000000000 ∈ jtb := jtb_mem 651 rfl rfl
set_option maxRecDepth 100000 in
theorem jkX5_308 : Cond.constant RX5 308 1103515245 ∈ jtb := jtb_mem 735 rfl rfl
set_option maxRecDepth 100000 in
theorem jkX5_309 : Cond.constant RX5 309 2147483647 ∈ jtb := jtb_mem 739 rfl rfl
set_option maxRecDepth 100000 in
theorem jkX5_310 : Cond.constant RX5 310 65536 ∈ jtb := jtb_mem 740 rfl rfl
set_option maxRecDepth 100000 in
theorem jkX6_160 : Cond.constantLong RX6 160 57 ∈ jtb := jtb_mem 909 rfl rfl
set_option maxRecDepth 100000 in
theorem jkX6_187 : Cond.constantLong RX6 187 60 ∈ jtb := jtb_mem 948 rfl rfl
set_option maxRecDepth 100000 in
theorem jkX6_227 : Cond.constantLong RX6 227 7 ∈ jtb := jtb_mem 1001 rfl rfl
set_option maxRecDepth 100000 in
theorem jkX6_235 : Cond.constantLong RX6 235 5 ∈ jtb := jtb_mem 1018 rfl rfl
set_option maxRecDepth 100000 in
theorem jkX6_271 : Cond.constant RX6 271 1000000000 ∈ jtb := jtb_mem 1131 rfl rfl
set_option maxRecDepth 100000 in
theorem jkX6_285 : Cond.constantLong RX6 285 4000000000000000000 ∈ jtb := jtb_mem 1172 rfl rfl
set_option maxRecDepth 100000 in
theorem jkX6_303 : Cond.constantLong RX6 303 6 ∈ jtb := jtb_mem 1231 rfl rfl
set_option maxRecDepth 100000 in
theorem jkX6_308 : Cond.constant RX6 308 1103515245 ∈ jtb := jtb_mem 1252 rfl rfl
set_option maxRecDepth 100000 in
theorem jkX6_309 : Cond.constant RX6 309 2147483647 ∈ jtb := jtb_mem 1253 rfl rfl
set_option maxRecDepth 100000 in
theorem jkX6_310 : Cond.constant RX6 310 65536 ∈ jtb := jtb_mem 1254 rfl rfl
set_option maxRecDepth 100000 in
theorem jkX6_314 : Cond.constantLong RX6 314 11 ∈ jtb := jtb_mem 1259 rfl rfl
set_option maxRecDepth 100000 in
theorem jkX6_316 : Cond.constantLong RX6 316 16 ∈ jtb := jtb_mem 1260 rfl rfl
set_option maxRecDepth 100000 in
theorem jkX6_83 : Cond.constantLong RX6 83 48 ∈ jtb := jtb_mem 908 rfl rfl
set_option maxRecDepth 100000 in
theorem jlX0_11 : jfl RX0 11 0 0 ∈ jtb := jtb_mem 147 rfl rfl
set_option maxRecDepth 100000 in
theorem jlX0_16 : jfl RX0 16 0 1 ∈ jtb := jtb_mem 148 rfl rfl
set_option maxRecDepth 100000 in
theorem jlX0_24 : jfl RX0 24 0 2 ∈ jtb := jtb_mem 149 rfl rfl
set_option maxRecDepth 100000 in
theorem jlX1_15 : jfl RX1 15 1 1 ∈ jtb := jtb_mem 165 rfl rfl
set_option maxRecDepth 100000 in
theorem jlX1_9 : jfl RX1 9 1 0 ∈ jtb := jtb_mem 164 rfl rfl
set_option maxRecDepth 100000 in
theorem jlX2_21 : jfl RX2 21 2 1 ∈ jtb := jtb_mem 197 rfl rfl
set_option maxRecDepth 100000 in
theorem jlX2_25 : jfl RX2 25 4 0 ∈ jtb := jtb_mem 90 rfl rfl
set_option maxRecDepth 100000 in
theorem jlX2_28 : jfl RX2 28 4 3 ∈ jtb := jtb_mem 98 rfl rfl
set_option maxRecDepth 100000 in
theorem jlX2_9 : jfl RX2 9 2 0 ∈ jtb := jtb_mem 196 rfl rfl
set_option maxRecDepth 100000 in
theorem jlX3_11 : jfl RX3 11 3 0 ∈ jtb := jtb_mem 178 rfl rfl
set_option maxRecDepth 100000 in
theorem jlX3_15 : jfl RX3 15 4 6 ∈ jtb := jtb_mem 105 rfl rfl
set_option maxRecDepth 100000 in
theorem jlX3_27 : jfl RX3 27 3 1 ∈ jtb := jtb_mem 179 rfl rfl
set_option maxRecDepth 100000 in
theorem jlX3_31 : jfl RX3 31 3 2 ∈ jtb := jtb_mem 181 rfl rfl
set_option maxRecDepth 100000 in
theorem jlX3_34 : jfl RX3 34 4 0 ∈ jtb := jtb_mem 91 rfl rfl
set_option maxRecDepth 100000 in
theorem jlX4_15 : jfl RX4 15 4 2 ∈ jtb := jtb_mem 95 rfl rfl
set_option maxRecDepth 100000 in
theorem jlX4_18 : jfl RX4 18 4 3 ∈ jtb := jtb_mem 97 rfl rfl
set_option maxRecDepth 100000 in
theorem jlX4_21 : jfl RX4 21 4 6 ∈ jtb := jtb_mem 104 rfl rfl
set_option maxRecDepth 100000 in
theorem jlX4_24 : jfl RX4 24 4 7 ∈ jtb := jtb_mem 107 rfl rfl
set_option maxRecDepth 100000 in
theorem jlX4_27 : jfl RX4 27 4 8 ∈ jtb := jtb_mem 109 rfl rfl
set_option maxRecDepth 100000 in
theorem jlX4_30 : jfl RX4 30 4 9 ∈ jtb := jtb_mem 111 rfl rfl
set_option maxRecDepth 100000 in
theorem jlX4_39 : jfl RX4 39 4 0 ∈ jtb := jtb_mem 89 rfl rfl
set_option maxRecDepth 100000 in
theorem jlX4_49 : jfl RX4 49 4 4 ∈ jtb := jtb_mem 100 rfl rfl
set_option maxRecDepth 100000 in
theorem jlX4_52 : jfl RX4 52 4 5 ∈ jtb := jtb_mem 102 rfl rfl
set_option maxRecDepth 100000 in
theorem jlX4_55 : jfl RX4 55 4 10 ∈ jtb := jtb_mem 112 rfl rfl
set_option maxRecDepth 100000 in
theorem jlX4_9 : jfl RX4 9 4 1 ∈ jtb := jtb_mem 93 rfl rfl
set_option maxRecDepth 100000 in
theorem jlX5_100 : jfl RX5 100 4 3 ∈ jtb := jtb_mem 99 rfl rfl
set_option maxRecDepth 100000 in
theorem jlX5_12 : jfl RX5 12 5 0 ∈ jtb := jtb_mem 204 rfl rfl
set_option maxRecDepth 100000 in
theorem jlX5_122 : jfl RX5 122 4 6 ∈ jtb := jtb_mem 106 rfl rfl
set_option maxRecDepth 100000 in
theorem jlX5_125 : jfl RX5 125 4 7 ∈ jtb := jtb_mem 108 rfl rfl
set_option maxRecDepth 100000 in
theorem jlX5_128 : jfl RX5 128 4 8 ∈ jtb := jtb_mem 110 rfl rfl
set_option maxRecDepth 100000 in
theorem jlX5_148 : jfl RX5 148 4 0 ∈ jtb := jtb_mem 92 rfl rfl
set_option maxRecDepth 100000 in
theorem jlX5_158 : jfl RX5 158 4 5 ∈ jtb := jtb_mem 103 rfl rfl
set_option maxRecDepth 100000 in
theorem jlX5_16 : jfl RX5 16 5 1 ∈ jtb := jtb_mem 205 rfl rfl
set_option maxRecDepth 100000 in
theorem jlX5_180 : jfl RX5 180 4 10 ∈ jtb := jtb_mem 113 rfl rfl
set_option maxRecDepth 100000 in
theorem jlX5_189 : jfl RX5 189 0 2 ∈ jtb := jtb_mem 150 rfl rfl
set_option maxRecDepth 100000 in
theorem jlX5_19 : jfl RX5 19 5 2 ∈ jtb := jtb_mem 206 rfl rfl
set_option maxRecDepth 100000 in
theorem jlX5_218 : jfl RX5 218 3 1 ∈ jtb := jtb_mem 180 rfl rfl
set_option maxRecDepth 100000 in
theorem jlX5_22 : jfl RX5 22 5 3 ∈ jtb := jtb_mem 207 rfl rfl
set_option maxRecDepth 100000 in
theorem jlX5_221 : jfl RX5 221 3 2 ∈ jtb := jtb_mem 182 rfl rfl
set_option maxRecDepth 100000 in
theorem jlX5_228 : jfl RX5 228 2 1 ∈ jtb := jtb_mem 198 rfl rfl
set_option maxRecDepth 100000 in
theorem jlX5_286 : jfl RX5 286 4 4 ∈ jtb := jtb_mem 101 rfl rfl
set_option maxRecDepth 100000 in
theorem jlX5_29 : jfl RX5 29 5 4 ∈ jtb := jtb_mem 208 rfl rfl
set_option maxRecDepth 100000 in
theorem jlX5_299 : jfl RX5 299 1 1 ∈ jtb := jtb_mem 166 rfl rfl
set_option maxRecDepth 100000 in
theorem jlX5_36 : jfl RX5 36 5 5 ∈ jtb := jtb_mem 209 rfl rfl
set_option maxRecDepth 100000 in
theorem jlX5_43 : jfl RX5 43 5 6 ∈ jtb := jtb_mem 210 rfl rfl
set_option maxRecDepth 100000 in
theorem jlX5_50 : jfl RX5 50 5 7 ∈ jtb := jtb_mem 211 rfl rfl
set_option maxRecDepth 100000 in
theorem jlX5_54 : jfl RX5 54 5 8 ∈ jtb := jtb_mem 212 rfl rfl
set_option maxRecDepth 100000 in
theorem jlX5_58 : jfl RX5 58 5 9 ∈ jtb := jtb_mem 213 rfl rfl
set_option maxRecDepth 100000 in
theorem jlX5_62 : jfl RX5 62 5 10 ∈ jtb := jtb_mem 214 rfl rfl
set_option maxRecDepth 100000 in
theorem jlX5_94 : jfl RX5 94 4 1 ∈ jtb := jtb_mem 94 rfl rfl
set_option maxRecDepth 100000 in
theorem jlX5_97 : jfl RX5 97 4 2 ∈ jtb := jtb_mem 96 rfl rfl
set_option maxRecDepth 100000 in
theorem jlX6_122 : jfl RX6 122 6 10 ∈ jtb := jtb_mem 769 rfl rfl
set_option maxRecDepth 100000 in
theorem jlX6_13 : jfl RX6 13 6 2 ∈ jtb := jtb_mem 761 rfl rfl
set_option maxRecDepth 100000 in
theorem jlX6_146 : jfl RX6 146 6 14 ∈ jtb := jtb_mem 773 rfl rfl
set_option maxRecDepth 100000 in
theorem jlX6_149 : jfl RX6 149 6 15 ∈ jtb := jtb_mem 774 rfl rfl
set_option maxRecDepth 100000 in
theorem jlX6_152 : jfl RX6 152 6 16 ∈ jtb := jtb_mem 775 rfl rfl
set_option maxRecDepth 100000 in
theorem jlX6_16 : jfl RX6 16 6 3 ∈ jtb := jtb_mem 762 rfl rfl
set_option maxRecDepth 100000 in
theorem jlX6_165 : jfl RX6 165 6 17 ∈ jtb := jtb_mem 776 rfl rfl
set_option maxRecDepth 100000 in
theorem jlX6_19 : jfl RX6 19 6 4 ∈ jtb := jtb_mem 763 rfl rfl
set_option maxRecDepth 100000 in
theorem jlX6_205 : jfl RX6 205 6 29 ∈ jtb := jtb_mem 788 rfl rfl
set_option maxRecDepth 100000 in
theorem jlX6_208 : jfl RX6 208 6 25 ∈ jtb := jtb_mem 784 rfl rfl
set_option maxRecDepth 100000 in
theorem jlX6_211 : jfl RX6 211 6 26 ∈ jtb := jtb_mem 785 rfl rfl
set_option maxRecDepth 100000 in
theorem jlX6_214 : jfl RX6 214 6 24 ∈ jtb := jtb_mem 783 rfl rfl
set_option maxRecDepth 100000 in
theorem jlX6_22 : jfl RX6 22 6 6 ∈ jtb := jtb_mem 765 rfl rfl
set_option maxRecDepth 100000 in
theorem jlX6_224 : jfl RX6 224 6 23 ∈ jtb := jtb_mem 782 rfl rfl
set_option maxRecDepth 100000 in
theorem jlX6_25 : jfl RX6 25 6 7 ∈ jtb := jtb_mem 766 rfl rfl
set_option maxRecDepth 100000 in
theorem jlX6_256 : jfl RX6 256 6 32 ∈ jtb := jtb_mem 791 rfl rfl
set_option maxRecDepth 100000 in
theorem jlX6_275 : jfl RX6 275 6 36 ∈ jtb := jtb_mem 795 rfl rfl
set_option maxRecDepth 100000 in
theorem jlX6_28 : jfl RX6 28 6 8 ∈ jtb := jtb_mem 767 rfl rfl
set_option maxRecDepth 100000 in
theorem jlX6_305 : jfl RX6 305 6 38 ∈ jtb := jtb_mem 797 rfl rfl
set_option maxRecDepth 100000 in
theorem jlX6_31 : jfl RX6 31 6 9 ∈ jtb := jtb_mem 768 rfl rfl
set_option maxRecDepth 100000 in
theorem jlX6_34 : jfl RX6 34 6 12 ∈ jtb := jtb_mem 771 rfl rfl
set_option maxRecDepth 100000 in
theorem jlX6_37 : jfl RX6 37 6 13 ∈ jtb := jtb_mem 772 rfl rfl
set_option maxRecDepth 100000 in
theorem jlX6_40 : jfl RX6 40 6 18 ∈ jtb := jtb_mem 777 rfl rfl
set_option maxRecDepth 100000 in
theorem jlX6_43 : jfl RX6 43 6 19 ∈ jtb := jtb_mem 778 rfl rfl
set_option maxRecDepth 100000 in
theorem jlX6_46 : jfl RX6 46 6 20 ∈ jtb := jtb_mem 779 rfl rfl
set_option maxRecDepth 100000 in
theorem jlX6_49 : jfl RX6 49 6 21 ∈ jtb := jtb_mem 780 rfl rfl
set_option maxRecDepth 100000 in
theorem jlX6_52 : jfl RX6 52 6 22 ∈ jtb := jtb_mem 781 rfl rfl
set_option maxRecDepth 100000 in
theorem jlX6_55 : jfl RX6 55 6 27 ∈ jtb := jtb_mem 786 rfl rfl
set_option maxRecDepth 100000 in
theorem jlX6_58 : jfl RX6 58 6 28 ∈ jtb := jtb_mem 787 rfl rfl
set_option maxRecDepth 100000 in
theorem jlX6_61 : jfl RX6 61 6 30 ∈ jtb := jtb_mem 789 rfl rfl
set_option maxRecDepth 100000 in
theorem jlX6_64 : jfl RX6 64 6 31 ∈ jtb := jtb_mem 790 rfl rfl
set_option maxRecDepth 100000 in
theorem jlX6_67 : jfl RX6 67 6 33 ∈ jtb := jtb_mem 792 rfl rfl
set_option maxRecDepth 100000 in
theorem jlX6_7 : jfl RX6 7 6 1 ∈ jtb := jtb_mem 760 rfl rfl
set_option maxRecDepth 100000 in
theorem jlX6_70 : jfl RX6 70 6 34 ∈ jtb := jtb_mem 793 rfl rfl
set_option maxRecDepth 100000 in
theorem jlX6_73 : jfl RX6 73 6 35 ∈ jtb := jtb_mem 794 rfl rfl
set_option maxRecDepth 100000 in
theorem jlX6_76 : jfl RX6 76 6 37 ∈ jtb := jtb_mem 796 rfl rfl
set_option maxRecDepth 100000 in
theorem jlX6_79 : jfl RX6 79 6 11 ∈ jtb := jtb_mem 770 rfl rfl
set_option maxRecDepth 100000 in
theorem jlX6_89 : jfl RX6 89 6 0 ∈ jtb := jtb_mem 759 rfl rfl
set_option maxRecDepth 100000 in
theorem jlX6_92 : jfl RX6 92 6 5 ∈ jtb := jtb_mem 764 rfl rfl
set_option maxRecDepth 100000 in
theorem jmX0_20 : Cond.methodLink RX0 20 yX4_become ∈ jtb := jtb_mem 447 rfl rfl
set_option maxRecDepth 100000 in
theorem jmX0_27 : Cond.methodLink RX0 27 Lib.Math.min.name ∈ jtb := jtb_mem 448 rfl rfl
set_option maxRecDepth 100000 in
theorem jmX1_19 : Cond.methodLink RX1 19 yX1_areFull ∈ jtb := jtb_mem 254 rfl rfl
set_option maxRecDepth 100000 in
theorem jmX1_23 : Cond.methodLink RX1 23 yX1_firstMisspelt ∈ jtb := jtb_mem 270 rfl rfl
set_option maxRecDepth 100000 in
theorem jmX1_27 : Cond.methodLink RX1 27 yX1_tellStatement ∈ jtb := jtb_mem 277 rfl rfl
set_option maxRecDepth 100000 in
theorem jmX1_31 : Cond.methodLink RX1 31 yX1_digitsBehind ∈ jtb := jtb_mem 274 rfl rfl
set_option maxRecDepth 100000 in
theorem jmX1_35 : Cond.methodLink RX1 35 yX1_digit ∈ jtb := jtb_mem 281 rfl rfl
set_option maxRecDepth 100000 in
theorem jmX1_38 : Cond.methodLink RX1 38 yX1_pair ∈ jtb := jtb_mem 285 rfl rfl
set_option maxRecDepth 100000 in
theorem jmX1_41 : Cond.methodLink RX1 41 yX4_addHouse ∈ jtb := jtb_mem 289 rfl rfl
set_option maxRecDepth 100000 in
theorem jmX1_47 : Cond.methodLink RX1 47 yX4_addWalker ∈ jtb := jtb_mem 296 rfl rfl
set_option maxRecDepth 100000 in
theorem jmX1_50 : Cond.methodLink RX1 50 yX4_turn ∈ jtb := jtb_mem 300 rfl rfl
set_option maxRecDepth 100000 in
theorem jmX1_54 : Cond.methodLink RX1 54 yX4_aim ∈ jtb := jtb_mem 308 rfl rfl
set_option maxRecDepth 100000 in
theorem jmX1_58 : Cond.methodLink RX1 58 yX4_addDebt ∈ jtb := jtb_mem 316 rfl rfl
set_option maxRecDepth 100000 in
theorem jmX1_61 : Cond.methodLink RX1 61 yX4_pass ∈ jtb := jtb_mem 328 rfl rfl
set_option maxRecDepth 100000 in
theorem jmX2_15 : Cond.methodLink RX2 15 yX4_owesBehind ∈ jtb := jtb_mem 558 rfl rfl
set_option maxRecDepth 100000 in
theorem jmX2_31 : Cond.methodLink RX2 31 yX2_fewest ∈ jtb := jtb_mem 559 rfl rfl
set_option maxRecDepth 100000 in
theorem jmX2_35 : Cond.methodLink RX2 35 yX2_nextDoor ∈ jtb := jtb_mem 563 rfl rfl
set_option maxRecDepth 100000 in
theorem jmX2_38 : Cond.methodLink RX2 38 yX2_stepsBy ∈ jtb := jtb_mem 567 rfl rfl
set_option maxRecDepth 100000 in
theorem jmX3_20 : Cond.methodLink RX3 20 yX4_owesBehind ∈ jtb := jtb_mem 533 rfl rfl
set_option maxRecDepth 100000 in
theorem jmX3_24 : Cond.methodLink RX3 24 yX4_seesFrom ∈ jtb := jtb_mem 534 rfl rfl
set_option maxRecDepth 100000 in
theorem jmX3_37 : Cond.methodLink RX3 37 yX3_shortestAt ∈ jtb := jtb_mem 535 rfl rfl
set_option maxRecDepth 100000 in
theorem jmX3_44 : Cond.methodLink RX3 44 yJ6_bitCount_0f7a4 ∈ jtb := jtb_mem 539 rfl rfl
set_option maxRecDepth 100000 in
theorem jmX3_50 : Cond.methodLink RX3 50 yX3_openCells ∈ jtb := jtb_mem 540 rfl rfl
set_option maxRecDepth 100000 in
theorem jmX3_54 : Cond.methodLink RX3 54 yX3_shortestOver ∈ jtb := jtb_mem 544 rfl rfl
set_option maxRecDepth 100000 in
theorem jmX4_102 : Cond.methodLink RX4 102 Lib.Math.min.name ∈ jtb := jtb_mem 336 rfl rfl
set_option maxRecDepth 100000 in
theorem jmX4_107 : Cond.methodLink RX4 107 yX4_firstSighting ∈ jtb := jtb_mem 339 rfl rfl
set_option maxRecDepth 100000 in
theorem jmX4_110 : Cond.methodLink RX4 110 yX4_minutesOf ∈ jtb := jtb_mem 421 rfl rfl
set_option maxRecDepth 100000 in
theorem jmX4_113 : Cond.methodLink RX4 113 yX4_minutesBehind ∈ jtb := jtb_mem 417 rfl rfl
set_option maxRecDepth 100000 in
theorem jmX4_116 : Cond.methodLink RX4 116 yX4_owesBehind ∈ jtb := jtb_mem 474 rfl rfl
set_option maxRecDepth 100000 in
theorem jmX4_119 : Cond.methodLink RX4 119 yJ6_bitCount_0f7a4 ∈ jtb := jtb_mem 475 rfl rfl
set_option maxRecDepth 100000 in
theorem jmX4_125 : Cond.methodLink RX4 125 yX4_priceBehind ∈ jtb := jtb_mem 602 rfl rfl
set_option maxRecDepth 100000 in
theorem jmX4_128 : Cond.methodLink RX4 128 Lib.Math.max.name ∈ jtb := jtb_mem 668 rfl rfl
set_option maxRecDepth 100000 in
theorem jmX4_43 : Cond.methodLink RX4 43 arraycopyName ∈ jtb := jtb_mem 263 rfl rfl
set_option maxRecDepth 100000 in
theorem jmX4_62 : Cond.methodLink RX4 62 yX4_hasHouse ∈ jtb := jtb_mem 304 rfl rfl
set_option maxRecDepth 100000 in
theorem jmX4_65 : Cond.methodLink RX4 65 yX4_hasWalker ∈ jtb := jtb_mem 312 rfl rfl
set_option maxRecDepth 100000 in
theorem jmX4_68 : Cond.methodLink RX4 68 yX4_owes ∈ jtb := jtb_mem 320 rfl rfl
set_option maxRecDepth 100000 in
theorem jmX4_72 : Cond.methodLink RX4 72 yX4_setDebt ∈ jtb := jtb_mem 324 rfl rfl
set_option maxRecDepth 100000 in
theorem jmX4_76 : Cond.methodLink RX4 76 yX4_ageBehind ∈ jtb := jtb_mem 332 rfl rfl
set_option maxRecDepth 100000 in
theorem jmX4_80 : Cond.methodLink RX4 80 yX4_placeBehind ∈ jtb := jtb_mem 366 rfl rfl
set_option maxRecDepth 100000 in
theorem jmX4_87 : Cond.methodLink RX4 87 yX4_isLit ∈ jtb := jtb_mem 347 rfl rfl
set_option maxRecDepth 100000 in
theorem jmX4_96 : Cond.methodLink RX4 96 yX4_rangeOf ∈ jtb := jtb_mem 343 rfl rfl
set_option maxRecDepth 100000 in
theorem jmX5_103 : Cond.methodLink RX5 103 yX4_isLit ∈ jtb := jtb_mem 383 rfl rfl
set_option maxRecDepth 100000 in
theorem jmX5_106 : Cond.methodLink RX5 106 yX5_reach ∈ jtb := jtb_mem 384 rfl rfl
set_option maxRecDepth 100000 in
theorem jmX5_110 : Cond.methodLink RX5 110 yX4_minutesOf ∈ jtb := jtb_mem 385 rfl rfl
set_option maxRecDepth 100000 in
theorem jmX5_113 : Cond.methodLink RX5 113 yX4_owersBehind ∈ jtb := jtb_mem 392 rfl rfl
set_option maxRecDepth 100000 in
theorem jmX5_116 : Cond.methodLink RX5 116 yX4_seenBy ∈ jtb := jtb_mem 396 rfl rfl
set_option maxRecDepth 100000 in
theorem jmX5_119 : Cond.methodLink RX5 119 yX4_hasWalker ∈ jtb := jtb_mem 404 rfl rfl
set_option maxRecDepth 100000 in
theorem jmX5_131 : Cond.methodLink RX5 131 yX4_owesBehind ∈ jtb := jtb_mem 405 rfl rfl
set_option maxRecDepth 100000 in
theorem jmX5_134 : Cond.methodLink RX5 134 yX4_seesFrom ∈ jtb := jtb_mem 409 rfl rfl
set_option maxRecDepth 100000 in
theorem jmX5_137 : Cond.methodLink RX5 137 yX4_priceBehind ∈ jtb := jtb_mem 413 rfl rfl
set_option maxRecDepth 100000 in
theorem jmX5_140 : Cond.methodLink RX5 140 yX4_owes ∈ jtb := jtb_mem 426 rfl rfl
set_option maxRecDepth 100000 in
theorem jmX5_144 : Cond.methodLink RX5 144 yX4_ageBehind ∈ jtb := jtb_mem 427 rfl rfl
set_option maxRecDepth 100000 in
theorem jmX5_151 : Cond.methodLink RX5 151 yX5_isCell ∈ jtb := jtb_mem 432 rfl rfl
set_option maxRecDepth 100000 in
theorem jmX5_154 : Cond.methodLink RX5 154 yX4_addHouse ∈ jtb := jtb_mem 433 rfl rfl
set_option maxRecDepth 100000 in
theorem jmX5_161 : Cond.methodLink RX5 161 yX4_addWalker ∈ jtb := jtb_mem 438 rfl rfl
set_option maxRecDepth 100000 in
theorem jmX5_164 : Cond.methodLink RX5 164 yX0_keep ∈ jtb := jtb_mem 443 rfl rfl
set_option maxRecDepth 100000 in
theorem jmX5_167 : Cond.methodLink RX5 167 yX4_turn ∈ jtb := jtb_mem 449 rfl rfl
set_option maxRecDepth 100000 in
theorem jmX5_170 : Cond.methodLink RX5 170 yX4_aim ∈ jtb := jtb_mem 454 rfl rfl
set_option maxRecDepth 100000 in
theorem jmX5_173 : Cond.methodLink RX5 173 yX4_minutesBehind ∈ jtb := jtb_mem 459 rfl rfl
set_option maxRecDepth 100000 in
theorem jmX5_176 : Cond.methodLink RX5 176 yX4_setDebt ∈ jtb := jtb_mem 460 rfl rfl
set_option maxRecDepth 100000 in
theorem jmX5_183 : Cond.methodLink RX5 183 yX4_pass ∈ jtb := jtb_mem 469 rfl rfl
set_option maxRecDepth 100000 in
theorem jmX5_186 : Cond.methodLink RX5 186 yX4_debtsBehind ∈ jtb := jtb_mem 470 rfl rfl
set_option maxRecDepth 100000 in
theorem jmX5_192 : Cond.methodLink RX5 192 yX0_takeBack ∈ jtb := jtb_mem 485 rfl rfl
set_option maxRecDepth 100000 in
theorem jmX5_195 : Cond.methodLink RX5 195 yX4_placeBehind ∈ jtb := jtb_mem 493 rfl rfl
set_option maxRecDepth 100000 in
theorem jmX5_198 : Cond.methodLink RX5 198 yX4_pricesBehind ∈ jtb := jtb_mem 498 rfl rfl
set_option maxRecDepth 100000 in
theorem jmX5_201 : Cond.methodLink RX5 201 yX4_firstSighting ∈ jtb := jtb_mem 506 rfl rfl
set_option maxRecDepth 100000 in
theorem jmX5_204 : Cond.methodLink RX5 204 yX5_steps ∈ jtb := jtb_mem 511 rfl rfl
set_option maxRecDepth 100000 in
theorem jmX5_207 : Cond.methodLink RX5 207 yX5_mostOwed ∈ jtb := jtb_mem 516 rfl rfl
set_option maxRecDepth 100000 in
theorem jmX5_211 : Cond.methodLink RX5 211 yX5_debtor ∈ jtb := jtb_mem 521 rfl rfl
set_option maxRecDepth 100000 in
theorem jmX5_214 : Cond.methodLink RX5 214 yX3_find ∈ jtb := jtb_mem 529 rfl rfl
set_option maxRecDepth 100000 in
theorem jmX5_224 : Cond.methodLink RX5 224 yX2_plan ∈ jtb := jtb_mem 554 rfl rfl
set_option maxRecDepth 100000 in
theorem jmX5_231 : Cond.methodLink RX5 231 yX2_fewest ∈ jtb := jtb_mem 572 rfl rfl
set_option maxRecDepth 100000 in
theorem jmX5_235 : Cond.methodLink RX5 235 yX2_stop ∈ jtb := jtb_mem 573 rfl rfl
set_option maxRecDepth 100000 in
theorem jmX5_239 : Cond.methodLink RX5 239 yJ6_bitCount_0f7a4 ∈ jtb := jtb_mem 520 rfl rfl
set_option maxRecDepth 100000 in
theorem jmX5_244 : Cond.methodLink RX5 244 yX4_setCandle ∈ jtb := jtb_mem 586 rfl rfl
set_option maxRecDepth 100000 in
theorem jmX5_247 : Cond.methodLink RX5 247 yX4_burden ∈ jtb := jtb_mem 598 rfl rfl
set_option maxRecDepth 100000 in
theorem jmX5_250 : Cond.methodLink RX5 250 yX5_debtless ∈ jtb := jtb_mem 611 rfl rfl
set_option maxRecDepth 100000 in
theorem jmX5_253 : Cond.methodLink RX5 253 yX5_owedByOne ∈ jtb := jtb_mem 615 rfl rfl
set_option maxRecDepth 100000 in
theorem jmX5_256 : Cond.methodLink RX5 256 yX5_fittingKinds ∈ jtb := jtb_mem 623 rfl rfl
set_option maxRecDepth 100000 in
theorem jmX5_259 : Cond.methodLink RX5 259 yX5_fittingFigures ∈ jtb := jtb_mem 631 rfl rfl
set_option maxRecDepth 100000 in
theorem jmX5_262 : Cond.methodLink RX5 262 yX5_bestShutter ∈ jtb := jtb_mem 639 rfl rfl
set_option maxRecDepth 100000 in
theorem jmX5_265 : Cond.methodLink RX5 265 yX5_refuseLong ∈ jtb := jtb_mem 647 rfl rfl
set_option maxRecDepth 100000 in
theorem jmX5_269 : Cond.methodLink RX5 269 yX4_sightings ∈ jtb := jtb_mem 652 rfl rfl
set_option maxRecDepth 100000 in
theorem jmX5_272 : Cond.methodLink RX5 272 yX5_highestAge ∈ jtb := jtb_mem 660 rfl rfl
set_option maxRecDepth 100000 in
theorem jmX5_275 : Cond.methodLink RX5 275 Lib.Math.max.name ∈ jtb := jtb_mem 671 rfl rfl
set_option maxRecDepth 100000 in
theorem jmX5_280 : Cond.methodLink RX5 280 yX5_longestOwing ∈ jtb := jtb_mem 672 rfl rfl
set_option maxRecDepth 100000 in
theorem jmX5_283 : Cond.methodLink RX5 283 yX5_lane ∈ jtb := jtb_mem 676 rfl rfl
set_option maxRecDepth 100000 in
theorem jmX5_289 : Cond.methodLink RX5 289 yX5_eveningsOfNewDebts ∈ jtb := jtb_mem 700 rfl rfl
set_option maxRecDepth 100000 in
theorem jmX5_293 : Cond.methodLink RX5 293 yX5_nextSeed ∈ jtb := jtb_mem 732 rfl rfl
set_option maxRecDepth 100000 in
theorem jmX5_296 : Cond.methodLink RX5 296 yX5_drawnCell ∈ jtb := jtb_mem 736 rfl rfl
set_option maxRecDepth 100000 in
theorem jmX5_302 : Cond.methodLink RX5 302 yX5_fitsNumbers ∈ jtb := jtb_mem 627 rfl rfl
set_option maxRecDepth 100000 in
theorem jmX5_305 : Cond.methodLink RX5 305 yX4_highestAgeOf ∈ jtb := jtb_mem 664 rfl rfl
set_option maxRecDepth 100000 in
theorem jmX5_311 : Cond.methodLink RX5 311 Lib.Math.abs.name ∈ jtb := jtb_mem 363 rfl rfl
set_option maxRecDepth 100000 in
theorem jmX5_314 : Cond.methodLink RX5 314 yJ6_compare_7cf53 ∈ jtb := jtb_mem 357 rfl rfl
set_option maxRecDepth 100000 in
theorem jmX5_65 : Cond.methodLink RX5 65 yX5_refuse ∈ jtb := jtb_mem 242 rfl rfl
set_option maxRecDepth 100000 in
theorem jmX5_69 : Cond.methodLink RX5 69 yX1_areFull ∈ jtb := jtb_mem 246 rfl rfl
set_option maxRecDepth 100000 in
theorem jmX5_73 : Cond.methodLink RX5 73 yX1_take ∈ jtb := jtb_mem 250 rfl rfl
set_option maxRecDepth 100000 in
theorem jmX5_76 : Cond.methodLink RX5 76 yX4_become ∈ jtb := jtb_mem 259 rfl rfl
set_option maxRecDepth 100000 in
theorem jmX5_80 : Cond.methodLink RX5 80 yX1_tell ∈ jtb := jtb_mem 266 rfl rfl
set_option maxRecDepth 100000 in
theorem jmX5_84 : Cond.methodLink RX5 84 yX1_drop ∈ jtb := jtb_mem 370 rfl rfl
set_option maxRecDepth 100000 in
theorem jmX5_87 : Cond.methodLink RX5 87 yX0_forget ∈ jtb := jtb_mem 374 rfl rfl
set_option maxRecDepth 100000 in
theorem jmX5_90 : Cond.methodLink RX5 90 yX4_hasHouse ∈ jtb := jtb_mem 382 rfl rfl
set_option maxRecDepth 100000 in
theorem jmX6_103 : Cond.methodLink RX6 103 yX6_stepsOf ∈ jtb := jtb_mem 972 rfl rfl
set_option maxRecDepth 100000 in
theorem jmX6_106 : Cond.methodLink RX6 106 yX6_canSee ∈ jtb := jtb_mem 964 rfl rfl
set_option maxRecDepth 100000 in
theorem jmX6_110 : Cond.methodLink RX6 110 yX6_minutesOf ∈ jtb := jtb_mem 1002 rfl rfl
set_option maxRecDepth 100000 in
theorem jmX6_113 : Cond.methodLink RX6 113 yX6_priceOf ∈ jtb := jtb_mem 1023 rfl rfl
set_option maxRecDepth 100000 in
theorem jmX6_116 : Cond.methodLink RX6 116 yX6_owesBits ∈ jtb := jtb_mem 1019 rfl rfl
set_option maxRecDepth 100000 in
theorem jmX6_119 : Cond.methodLink RX6 119 yX6_onesOf ∈ jtb := jtb_mem 1074 rfl rfl
set_option maxRecDepth 100000 in
theorem jmX6_125 : Cond.methodLink RX6 125 yX6_towards ∈ jtb := jtb_mem 957 rfl rfl
set_option maxRecDepth 100000 in
theorem jmX6_128 : Cond.methodLink RX6 128 yX6_seenFrom ∈ jtb := jtb_mem 960 rfl rfl
set_option maxRecDepth 100000 in
theorem jmX6_131 : Cond.methodLink RX6 131 yX6_hasBit ∈ jtb := jtb_mem 978 rfl rfl
set_option maxRecDepth 100000 in
theorem jmX6_135 : Cond.methodLink RX6 135 yX6_eveningBy ∈ jtb := jtb_mem 953 rfl rfl
set_option maxRecDepth 100000 in
theorem jmX6_139 : Cond.methodLink RX6 139 yX6_isCell ∈ jtb := jtb_mem 933 rfl rfl
set_option maxRecDepth 100000 in
theorem jmX6_143 : Cond.methodLink RX6 143 yX6_refuse ∈ jtb := jtb_mem 881 rfl rfl
set_option maxRecDepth 100000 in
theorem jmX6_156 : Cond.methodLink RX6 156 yX6_here ∈ jtb := jtb_mem 893 rfl rfl
set_option maxRecDepth 100000 in
theorem jmX6_162 : Cond.methodLink RX6 162 yX6_readDigits ∈ jtb := jtb_mem 904 rfl rfl
set_option maxRecDepth 100000 in
theorem jmX6_168 : Cond.methodLink RX6 168 yX6_isLetter ∈ jtb := jtb_mem 897 rfl rfl
set_option maxRecDepth 100000 in
theorem jmX6_171 : Cond.methodLink RX6 171 yX6_readNumbers ∈ jtb := jtb_mem 900 rfl rfl
set_option maxRecDepth 100000 in
theorem jmX6_175 : Cond.methodLink RX6 175 yX6_houseComes ∈ jtb := jtb_mem 929 rfl rfl
set_option maxRecDepth 100000 in
theorem jmX6_178 : Cond.methodLink RX6 178 yX6_walkerComes ∈ jtb := jtb_mem 936 rfl rfl
set_option maxRecDepth 100000 in
theorem jmX6_181 : Cond.methodLink RX6 181 yX6_isHouse ∈ jtb := jtb_mem 940 rfl rfl
set_option maxRecDepth 100000 in
theorem jmX6_184 : Cond.methodLink RX6 184 yX6_isWalker ∈ jtb := jtb_mem 944 rfl rfl
set_option maxRecDepth 100000 in
theorem jmX6_189 : Cond.methodLink RX6 189 yX6_goEvenings ∈ jtb := jtb_mem 949 rfl rfl
set_option maxRecDepth 100000 in
theorem jmX6_193 : Cond.methodLink RX6 193 yX6_readStatement ∈ jtb := jtb_mem 889 rfl rfl
set_option maxRecDepth 100000 in
theorem jmX6_196 : Cond.methodLink RX6 196 yX6_think ∈ jtb := jtb_mem 913 rfl rfl
set_option maxRecDepth 100000 in
theorem jmX6_199 : Cond.methodLink RX6 199 yX6_comesTold ∈ jtb := jtb_mem 925 rfl rfl
set_option maxRecDepth 100000 in
theorem jmX6_202 : Cond.methodLink RX6 202 yX6_again ∈ jtb := jtb_mem 981 rfl rfl
set_option maxRecDepth 100000 in
theorem jmX6_217 : Cond.methodLink RX6 217 yX6_carry ∈ jtb := jtb_mem 921 rfl rfl
set_option maxRecDepth 100000 in
theorem jmX6_220 : Cond.methodLink RX6 220 yX6_carryAll ∈ jtb := jtb_mem 917 rfl rfl
set_option maxRecDepth 100000 in
theorem jmX6_229 : Cond.methodLink RX6 229 yX6_owersOf ∈ jtb := jtb_mem 1006 rfl rfl
set_option maxRecDepth 100000 in
theorem jmX6_232 : Cond.methodLink RX6 232 yX6_seersOf ∈ jtb := jtb_mem 1010 rfl rfl
set_option maxRecDepth 100000 in
theorem jmX6_237 : Cond.methodLink RX6 237 yX6_wrongBoth ∈ jtb := jtb_mem 1031 rfl rfl
set_option maxRecDepth 100000 in
theorem jmX6_240 : Cond.methodLink RX6 240 yX6_wrongNumber ∈ jtb := jtb_mem 1039 rfl rfl
set_option maxRecDepth 100000 in
theorem jmX6_244 : Cond.methodLink RX6 244 yX6_keepTurn ∈ jtb := jtb_mem 1050 rfl rfl
set_option maxRecDepth 100000 in
theorem jmX6_247 : Cond.methodLink RX6 247 yX6_allDebts ∈ jtb := jtb_mem 1070 rfl rfl
set_option maxRecDepth 100000 in
theorem jmX6_250 : Cond.methodLink RX6 250 yX6_wrongBit ∈ jtb := jtb_mem 1081 rfl rfl
set_option maxRecDepth 100000 in
theorem jmX6_253 : Cond.methodLink RX6 253 yX6_allPrices ∈ jtb := jtb_mem 1088 rfl rfl
set_option maxRecDepth 100000 in
theorem jmX6_259 : Cond.methodLink RX6 259 yX6_beside ∈ jtb := jtb_mem 1112 rfl rfl
set_option maxRecDepth 100000 in
theorem jmX6_262 : Cond.methodLink RX6 262 yX6_layWays ∈ jtb := jtb_mem 1108 rfl rfl
set_option maxRecDepth 100000 in
theorem jmX6_265 : Cond.methodLink RX6 265 yX6_layPaying ∈ jtb := jtb_mem 1119 rfl rfl
set_option maxRecDepth 100000 in
theorem jmX6_268 : Cond.methodLink RX6 268 yX6_nextOn ∈ jtb := jtb_mem 1123 rfl rfl
set_option maxRecDepth 100000 in
theorem jmX6_272 : Cond.methodLink RX6 272 yX6_heavyPrices ∈ jtb := jtb_mem 1144 rfl rfl
set_option maxRecDepth 100000 in
theorem jmX6_278 : Cond.methodLink RX6 278 yX6_isRow ∈ jtb := jtb_mem 1160 rfl rfl
set_option maxRecDepth 100000 in
theorem jmX6_281 : Cond.methodLink RX6 281 yX6_divisor ∈ jtb := jtb_mem 1176 rfl rfl
set_option maxRecDepth 100000 in
theorem jmX6_287 : Cond.methodLink RX6 287 yX6_partOf ∈ jtb := jtb_mem 1173 rfl rfl
set_option maxRecDepth 100000 in
theorem jmX6_291 : Cond.methodLink RX6 291 yX6_oldestAge ∈ jtb := jtb_mem 1183 rfl rfl
set_option maxRecDepth 100000 in
theorem jmX6_294 : Cond.methodLink RX6 294 yX6_oldestBy ∈ jtb := jtb_mem 1187 rfl rfl
set_option maxRecDepth 100000 in
theorem jmX6_297 : Cond.methodLink RX6 297 yX6_laneTwos ∈ jtb := jtb_mem 1191 rfl rfl
set_option maxRecDepth 100000 in
theorem jmX6_300 : Cond.methodLink RX6 300 yX6_darkBits ∈ jtb := jtb_mem 1195 rfl rfl
set_option maxRecDepth 100000 in
theorem jmX6_311 : Cond.methodLink RX6 311 yX6_drawBelow ∈ jtb := jtb_mem 1248 rfl rfl
set_option maxRecDepth 100000 in
theorem jmX6_85 : Cond.methodLink RX6 85 yX6_in ∈ jtb := jtb_mem 910 rfl rfl
set_option maxRecDepth 100000 in
theorem jmX6_95 : Cond.methodLink RX6 95 yX6_apartBy ∈ jtb := jtb_mem 975 rfl rfl
set_option maxRecDepth 100000 in
theorem jmX6_99 : Cond.methodLink RX6 99 yX6_reachOf ∈ jtb := jtb_mem 968 rfl rfl
set_option maxRecDepth 100000 in
theorem jnatS : Cond.native arraycopyName ∈ jtb := jtb_mem 265 rfl rfl
set_option maxRecDepth 100000 in
theorem js_J6_bitCount_0f7a4 : Cond.static yJ6_bitCount_0f7a4 ∈ jtb := jtb_mem 476 rfl rfl
set_option maxRecDepth 100000 in
theorem js_J6_compare_7cf53 : Cond.static yJ6_compare_7cf53 ∈ jtb := jtb_mem 358 rfl rfl
set_option maxRecDepth 100000 in
theorem js_X1_digitsBehind : Cond.static yX1_digitsBehind ∈ jtb := jtb_mem 275 rfl rfl
set_option maxRecDepth 100000 in
theorem js_X3_shortestOver : Cond.static yX3_shortestOver ∈ jtb := jtb_mem 545 rfl rfl
set_option maxRecDepth 100000 in
theorem js_X5_drawnCell : Cond.static yX5_drawnCell ∈ jtb := jtb_mem 737 rfl rfl
set_option maxRecDepth 100000 in
theorem js_X5_isCell : Cond.static yX5_isCell ∈ jtb := jtb_mem 294 rfl rfl
set_option maxRecDepth 100000 in
theorem js_X5_minutes : Cond.static yX5_minutes ∈ jtb := jtb_mem 390 rfl rfl
set_option maxRecDepth 100000 in
theorem js_X5_nextSeed : Cond.static yX5_nextSeed ∈ jtb := jtb_mem 733 rfl rfl
set_option maxRecDepth 100000 in
theorem js_X5_reach : Cond.static yX5_reach ∈ jtb := jtb_mem 352 rfl rfl
set_option maxRecDepth 100000 in
theorem js_X5_stepTowards : Cond.static yX5_stepTowards ∈ jtb := jtb_mem 355 rfl rfl
set_option maxRecDepth 100000 in
theorem js_X5_steps : Cond.static yX5_steps ∈ jtb := jtb_mem 361 rfl rfl
set_option maxRecDepth 100000 in
theorem js_X6_apartBy : Cond.static yX6_apartBy ∈ jtb := jtb_mem 976 rfl rfl
set_option maxRecDepth 100000 in
theorem js_X6_beside : Cond.static yX6_beside ∈ jtb := jtb_mem 1113 rfl rfl
set_option maxRecDepth 100000 in
theorem js_X6_divisor : Cond.static yX6_divisor ∈ jtb := jtb_mem 1177 rfl rfl
set_option maxRecDepth 100000 in
theorem js_X6_hasBit : Cond.static yX6_hasBit ∈ jtb := jtb_mem 979 rfl rfl
set_option maxRecDepth 100000 in
theorem js_X6_in : Cond.static yX6_in ∈ jtb := jtb_mem 911 rfl rfl
set_option maxRecDepth 100000 in
theorem js_X6_isCell : Cond.static yX6_isCell ∈ jtb := jtb_mem 934 rfl rfl
set_option maxRecDepth 100000 in
theorem js_X6_isLetter : Cond.static yX6_isLetter ∈ jtb := jtb_mem 898 rfl rfl
set_option maxRecDepth 100000 in
theorem js_X6_onesOf : Cond.static yX6_onesOf ∈ jtb := jtb_mem 1075 rfl rfl
set_option maxRecDepth 100000 in
theorem js_X6_partOf : Cond.static yX6_partOf ∈ jtb := jtb_mem 1174 rfl rfl
set_option maxRecDepth 100000 in
theorem js_X6_stepsOf : Cond.static yX6_stepsOf ∈ jtb := jtb_mem 973 rfl rfl
set_option maxRecDepth 100000 in
theorem js_X6_towards : Cond.static yX6_towards ∈ jtb := jtb_mem 958 rfl rfl
set_option maxRecDepth 100000 in
theorem js_X6_wrongBit : Cond.static yX6_wrongBit ∈ jtb := jtb_mem 1082 rfl rfl
set_option maxRecDepth 100000 in
theorem js_X6_wrongNumber : Cond.static yX6_wrongNumber ∈ jtb := jtb_mem 1040 rfl rfl
set_option maxRecDepth 100000 in
theorem jstM_abs : Cond.static Lib.Math.abs.name ∈ jtb := jtb_mem 364 rfl rfl
set_option maxRecDepth 100000 in
theorem jstM_max : Cond.static Lib.Math.max.name ∈ jtb := jtb_mem 669 rfl rfl
set_option maxRecDepth 100000 in
theorem jstM_min : Cond.static Lib.Math.min.name ∈ jtb := jtb_mem 337 rfl rfl
set_option maxRecDepth 100000 in
theorem jstS : Cond.static arraycopyName ∈ jtb := jtb_mem 264 rfl rfl
set_option maxRecDepth 100000 in
theorem jw_J6_bitCount_0f7a4 : jvw yJ6_bitCount_0f7a4 cJ6_bitCount_0f7a4 1 (some .int) 1 := ⟨jtb_mem 477 rfl rfl, jtb_mem 71 rfl rfl, by decide +kernel⟩
set_option maxRecDepth 100000 in
theorem jw_J6_compare_7cf53 : jvw yJ6_compare_7cf53 cJ6_compare_7cf53 2 (some .int) 2 := ⟨jtb_mem 359 rfl rfl, jtb_mem 71 rfl rfl, by decide +kernel⟩
set_option maxRecDepth 100000 in
theorem jw_X0_forget : jvw yX0_forget cX0_forget 1 none 0 := ⟨jtb_mem 377 rfl rfl, jtb_mem 64 rfl rfl, by decide +kernel⟩
set_option maxRecDepth 100000 in
theorem jw_X0_keep : jvw yX0_keep cX0_keep 2 none 1 := ⟨jtb_mem 446 rfl rfl, jtb_mem 64 rfl rfl, by decide +kernel⟩
set_option maxRecDepth 100000 in
theorem jw_X0_takeBack : jvw yX0_takeBack cX0_takeBack 2 none 1 := ⟨jtb_mem 488 rfl rfl, jtb_mem 64 rfl rfl, by decide +kernel⟩
set_option maxRecDepth 100000 in
theorem jw_X1_areFull : jvw yX1_areFull cX1_areFull 1 (some .boolean) 0 := ⟨jtb_mem 249 rfl rfl, jtb_mem 65 rfl rfl, by decide +kernel⟩
set_option maxRecDepth 100000 in
theorem jw_X1_digit : jvw yX1_digit cX1_digit 2 (some .int) 1 := ⟨jtb_mem 284 rfl rfl, jtb_mem 65 rfl rfl, by decide +kernel⟩
set_option maxRecDepth 100000 in
theorem jw_X1_digitsBehind : jvw yX1_digitsBehind cX1_digitsBehind 1 (some .int) 1 := ⟨jtb_mem 276 rfl rfl, jtb_mem 65 rfl rfl, by decide +kernel⟩
set_option maxRecDepth 100000 in
theorem jw_X1_drop : jvw yX1_drop cX1_drop 1 none 0 := ⟨jtb_mem 373 rfl rfl, jtb_mem 65 rfl rfl, by decide +kernel⟩
set_option maxRecDepth 100000 in
theorem jw_X1_firstMisspelt : jvw yX1_firstMisspelt cX1_firstMisspelt 5 (some .int) 0 := ⟨jtb_mem 273 rfl rfl, jtb_mem 65 rfl rfl, by decide +kernel⟩
set_option maxRecDepth 100000 in
theorem jw_X1_pair : jvw yX1_pair cX1_pair 2 (some .int) 1 := ⟨jtb_mem 288 rfl rfl, jtb_mem 65 rfl rfl, by decide +kernel⟩
set_option maxRecDepth 100000 in
theorem jw_X1_take : jvw yX1_take cX1_take 2 (some .int) 1 := ⟨jtb_mem 253 rfl rfl, jtb_mem 65 rfl rfl, by decide +kernel⟩
set_option maxRecDepth 100000 in
theorem jw_X1_tell : jvw yX1_tell cX1_tell 6 (some .int) 1 := ⟨jtb_mem 269 rfl rfl, jtb_mem 65 rfl rfl, by decide +kernel⟩
set_option maxRecDepth 100000 in
theorem jw_X1_tellStatement : jvw yX1_tellStatement cX1_tellStatement 3 (some .boolean) 2 := ⟨jtb_mem 280 rfl rfl, jtb_mem 65 rfl rfl, by decide +kernel⟩
set_option maxRecDepth 100000 in
theorem jw_X2_fewest : jvw yX2_fewest cX2_fewest 5 (some .int) 3 := ⟨jtb_mem 562 rfl rfl, jtb_mem 67 rfl rfl, by decide +kernel⟩
set_option maxRecDepth 100000 in
theorem jw_X2_nextDoor : jvw yX2_nextDoor cX2_nextDoor 8 (some .int) 3 := ⟨jtb_mem 566 rfl rfl, jtb_mem 67 rfl rfl, by decide +kernel⟩
set_option maxRecDepth 100000 in
theorem jw_X2_plan : jvw yX2_plan cX2_plan 5 none 2 := ⟨jtb_mem 557 rfl rfl, jtb_mem 67 rfl rfl, by decide +kernel⟩
set_option maxRecDepth 100000 in
theorem jw_X2_stepsBy : jvw yX2_stepsBy cX2_stepsBy 5 (some .int) 4 := ⟨jtb_mem 570 rfl rfl, jtb_mem 67 rfl rfl, by decide +kernel⟩
set_option maxRecDepth 100000 in
theorem jw_X2_stop : jvw yX2_stop cX2_stop 8 (some .int) 3 := ⟨jtb_mem 576 rfl rfl, jtb_mem 67 rfl rfl, by decide +kernel⟩
set_option maxRecDepth 100000 in
theorem jw_X3_find : jvw yX3_find cX3_find 8 none 3 := ⟨jtb_mem 532 rfl rfl, jtb_mem 66 rfl rfl, by decide +kernel⟩
set_option maxRecDepth 100000 in
theorem jw_X3_openCells : jvw yX3_openCells cX3_openCells 5 (some .long) 1 := ⟨jtb_mem 543 rfl rfl, jtb_mem 66 rfl rfl, by decide +kernel⟩
set_option maxRecDepth 100000 in
theorem jw_X3_shortestAt : jvw yX3_shortestAt cX3_shortestAt 8 (some .int) 4 := ⟨jtb_mem 538 rfl rfl, jtb_mem 66 rfl rfl, by decide +kernel⟩
set_option maxRecDepth 100000 in
theorem jw_X3_shortestOver : jvw yX3_shortestOver cX3_shortestOver 10 (some .int) 3 := ⟨jtb_mem 546 rfl rfl, jtb_mem 66 rfl rfl, by decide +kernel⟩
set_option maxRecDepth 100000 in
theorem jw_X4_addDebt : jvw yX4_addDebt cX4_addDebt 3 (some .boolean) 2 := ⟨jtb_mem 319 rfl rfl, jtb_mem 62 rfl rfl, by decide +kernel⟩
set_option maxRecDepth 100000 in
theorem jw_X4_addHouse : jvw yX4_addHouse cX4_addHouse 4 (some .boolean) 3 := ⟨jtb_mem 292 rfl rfl, jtb_mem 62 rfl rfl, by decide +kernel⟩
set_option maxRecDepth 100000 in
theorem jw_X4_addWalker : jvw yX4_addWalker cX4_addWalker 4 (some .boolean) 3 := ⟨jtb_mem 299 rfl rfl, jtb_mem 62 rfl rfl, by decide +kernel⟩
set_option maxRecDepth 100000 in
theorem jw_X4_ageBehind : jvw yX4_ageBehind cX4_ageBehind 6 (some .int) 3 := ⟨jtb_mem 335 rfl rfl, jtb_mem 62 rfl rfl, by decide +kernel⟩
set_option maxRecDepth 100000 in
theorem jw_X4_aim : jvw yX4_aim cX4_aim 3 (some .boolean) 2 := ⟨jtb_mem 311 rfl rfl, jtb_mem 62 rfl rfl, by decide +kernel⟩
set_option maxRecDepth 100000 in
theorem jw_X4_become : jvw yX4_become cX4_become 2 none 1 := ⟨jtb_mem 262 rfl rfl, jtb_mem 62 rfl rfl, by decide +kernel⟩
set_option maxRecDepth 100000 in
theorem jw_X4_burden : jvw yX4_burden cX4_burden 4 (some .int) 0 := ⟨jtb_mem 601 rfl rfl, jtb_mem 62 rfl rfl, by decide +kernel⟩
set_option maxRecDepth 100000 in
theorem jw_X4_debtsBehind : jvw yX4_debtsBehind cX4_debtsBehind 4 (some .int) 1 := ⟨jtb_mem 473 rfl rfl, jtb_mem 62 rfl rfl, by decide +kernel⟩
set_option maxRecDepth 100000 in
theorem jw_X4_firstSighting : jvw yX4_firstSighting cX4_firstSighting 7 (some .int) 3 := ⟨jtb_mem 342 rfl rfl, jtb_mem 62 rfl rfl, by decide +kernel⟩
set_option maxRecDepth 100000 in
theorem jw_X4_hasHouse : jvw yX4_hasHouse cX4_hasHouse 2 (some .boolean) 1 := ⟨jtb_mem 307 rfl rfl, jtb_mem 62 rfl rfl, by decide +kernel⟩
set_option maxRecDepth 100000 in
theorem jw_X4_hasWalker : jvw yX4_hasWalker cX4_hasWalker 2 (some .boolean) 1 := ⟨jtb_mem 315 rfl rfl, jtb_mem 62 rfl rfl, by decide +kernel⟩
set_option maxRecDepth 100000 in
theorem jw_X4_highestAgeOf : jvw yX4_highestAgeOf cX4_highestAgeOf 4 (some .int) 1 := ⟨jtb_mem 667 rfl rfl, jtb_mem 62 rfl rfl, by decide +kernel⟩
set_option maxRecDepth 100000 in
theorem jw_X4_isLit : jvw yX4_isLit cX4_isLit 2 (some .boolean) 1 := ⟨jtb_mem 350 rfl rfl, jtb_mem 62 rfl rfl, by decide +kernel⟩
set_option maxRecDepth 100000 in
theorem jw_X4_minutesBehind : jvw yX4_minutesBehind cX4_minutesBehind 5 (some .int) 3 := ⟨jtb_mem 420 rfl rfl, jtb_mem 62 rfl rfl, by decide +kernel⟩
set_option maxRecDepth 100000 in
theorem jw_X4_minutesOf : jvw yX4_minutesOf cX4_minutesOf 3 (some .int) 2 := ⟨jtb_mem 388 rfl rfl, jtb_mem 62 rfl rfl, by decide +kernel⟩
set_option maxRecDepth 100000 in
theorem jw_X4_owersBehind : jvw yX4_owersBehind cX4_owersBehind 5 (some .int) 2 := ⟨jtb_mem 395 rfl rfl, jtb_mem 62 rfl rfl, by decide +kernel⟩
set_option maxRecDepth 100000 in
theorem jw_X4_owes : jvw yX4_owes cX4_owes 3 (some .boolean) 2 := ⟨jtb_mem 323 rfl rfl, jtb_mem 62 rfl rfl, by decide +kernel⟩
set_option maxRecDepth 100000 in
theorem jw_X4_owesBehind : jvw yX4_owesBehind cX4_owesBehind 5 (some .int) 2 := ⟨jtb_mem 408 rfl rfl, jtb_mem 62 rfl rfl, by decide +kernel⟩
set_option maxRecDepth 100000 in
theorem jw_X4_pass : jvw yX4_pass cX4_pass 4 (some .boolean) 1 := ⟨jtb_mem 331 rfl rfl, jtb_mem 62 rfl rfl, by decide +kernel⟩
set_option maxRecDepth 100000 in
theorem jw_X4_placeBehind : jvw yX4_placeBehind cX4_placeBehind 5 (some .int) 2 := ⟨jtb_mem 369 rfl rfl, jtb_mem 62 rfl rfl, by decide +kernel⟩
set_option maxRecDepth 100000 in
theorem jw_X4_priceBehind : jvw yX4_priceBehind cX4_priceBehind 5 (some .int) 2 := ⟨jtb_mem 416 rfl rfl, jtb_mem 62 rfl rfl, by decide +kernel⟩
set_option maxRecDepth 100000 in
theorem jw_X4_pricesBehind : jvw yX4_pricesBehind cX4_pricesBehind 5 (some .int) 1 := ⟨jtb_mem 501 rfl rfl, jtb_mem 62 rfl rfl, by decide +kernel⟩
set_option maxRecDepth 100000 in
theorem jw_X4_rangeOf : jvw yX4_rangeOf cX4_rangeOf 4 (some .int) 2 := ⟨jtb_mem 346 rfl rfl, jtb_mem 62 rfl rfl, by decide +kernel⟩
set_option maxRecDepth 100000 in
theorem jw_X4_seenBy : jvw yX4_seenBy cX4_seenBy 4 (some .int) 1 := ⟨jtb_mem 399 rfl rfl, jtb_mem 62 rfl rfl, by decide +kernel⟩
set_option maxRecDepth 100000 in
theorem jw_X4_seesFrom : jvw yX4_seesFrom cX4_seesFrom 5 (some .int) 2 := ⟨jtb_mem 412 rfl rfl, jtb_mem 62 rfl rfl, by decide +kernel⟩
set_option maxRecDepth 100000 in
theorem jw_X4_setCandle : jvw yX4_setCandle cX4_setCandle 1 (some .int) 0 := ⟨jtb_mem 589 rfl rfl, jtb_mem 62 rfl rfl, by decide +kernel⟩
set_option maxRecDepth 100000 in
theorem jw_X4_setDebt : jvw yX4_setDebt cX4_setDebt 4 none 3 := ⟨jtb_mem 327 rfl rfl, jtb_mem 62 rfl rfl, by decide +kernel⟩
set_option maxRecDepth 100000 in
theorem jw_X4_sightings : jvw yX4_sightings cX4_sightings 6 (some .int) 3 := ⟨jtb_mem 655 rfl rfl, jtb_mem 62 rfl rfl, by decide +kernel⟩
set_option maxRecDepth 100000 in
theorem jw_X4_turn : jvw yX4_turn cX4_turn 2 (some .boolean) 1 := ⟨jtb_mem 303 rfl rfl, jtb_mem 62 rfl rfl, by decide +kernel⟩
set_option maxRecDepth 100000 in
theorem jw_X5_bestShutter : jvw yX5_bestShutter cX5_bestShutter 5 (some .int) 2 := ⟨jtb_mem 642 rfl rfl, jtb_mem 61 rfl rfl, by decide +kernel⟩
set_option maxRecDepth 100000 in
theorem jw_X5_debtless : jvw yX5_debtless cX5_debtless 3 (some .int) 0 := ⟨jtb_mem 614 rfl rfl, jtb_mem 61 rfl rfl, by decide +kernel⟩
set_option maxRecDepth 100000 in
theorem jw_X5_debtor : jvw yX5_debtor cX5_debtor 5 (some .int) 0 := ⟨jtb_mem 524 rfl rfl, jtb_mem 61 rfl rfl, by decide +kernel⟩
set_option maxRecDepth 100000 in
theorem jw_X5_drawnCell : jvw yX5_drawnCell cX5_drawnCell 1 (some .int) 1 := ⟨jtb_mem 738 rfl rfl, jtb_mem 61 rfl rfl, by decide +kernel⟩
set_option maxRecDepth 100000 in
theorem jw_X5_eveningsOfNewDebts : jvw yX5_eveningsOfNewDebts cX5_eveningsOfNewDebts 6 (some .long) 0 := ⟨jtb_mem 703 rfl rfl, jtb_mem 61 rfl rfl, by decide +kernel⟩
set_option maxRecDepth 100000 in
theorem jw_X5_fitsNumbers : jvw yX5_fitsNumbers cX5_fitsNumbers 5 (some .boolean) 2 := ⟨jtb_mem 630 rfl rfl, jtb_mem 61 rfl rfl, by decide +kernel⟩
set_option maxRecDepth 100000 in
theorem jw_X5_fittingFigures : jvw yX5_fittingFigures cX5_fittingFigures 5 (some .int) 2 := ⟨jtb_mem 634 rfl rfl, jtb_mem 61 rfl rfl, by decide +kernel⟩
set_option maxRecDepth 100000 in
theorem jw_X5_fittingKinds : jvw yX5_fittingKinds cX5_fittingKinds 5 (some .int) 2 := ⟨jtb_mem 626 rfl rfl, jtb_mem 61 rfl rfl, by decide +kernel⟩
set_option maxRecDepth 100000 in
theorem jw_X5_highestAge : jvw yX5_highestAge cX5_highestAge 3 (some .int) 0 := ⟨jtb_mem 663 rfl rfl, jtb_mem 61 rfl rfl, by decide +kernel⟩
set_option maxRecDepth 100000 in
theorem jw_X5_isCell : jvw yX5_isCell cX5_isCell 1 (some .boolean) 1 := ⟨jtb_mem 295 rfl rfl, jtb_mem 61 rfl rfl, by decide +kernel⟩
set_option maxRecDepth 100000 in
theorem jw_X5_lane : jvw yX5_lane cX5_lane 5 (some .int) 0 := ⟨jtb_mem 679 rfl rfl, jtb_mem 61 rfl rfl, by decide +kernel⟩
set_option maxRecDepth 100000 in
theorem jw_X5_longestOwing : jvw yX5_longestOwing cX5_longestOwing 3 (some .int) 0 := ⟨jtb_mem 675 rfl rfl, jtb_mem 61 rfl rfl, by decide +kernel⟩
set_option maxRecDepth 100000 in
theorem jw_X5_minutes : jvw yX5_minutes cX5_minutes 4 (some .int) 3 := ⟨jtb_mem 391 rfl rfl, jtb_mem 61 rfl rfl, by decide +kernel⟩
set_option maxRecDepth 100000 in
theorem jw_X5_mostOwed : jvw yX5_mostOwed cX5_mostOwed 5 (some .int) 0 := ⟨jtb_mem 519 rfl rfl, jtb_mem 61 rfl rfl, by decide +kernel⟩
set_option maxRecDepth 100000 in
theorem jw_X5_nextSeed : jvw yX5_nextSeed cX5_nextSeed 1 (some .int) 1 := ⟨jtb_mem 734 rfl rfl, jtb_mem 61 rfl rfl, by decide +kernel⟩
set_option maxRecDepth 100000 in
theorem jw_X5_owedByOne : jvw yX5_owedByOne cX5_owedByOne 3 (some .int) 0 := ⟨jtb_mem 618 rfl rfl, jtb_mem 61 rfl rfl, by decide +kernel⟩
set_option maxRecDepth 100000 in
theorem jw_X5_reach : jvw yX5_reach cX5_reach 2 (some .int) 2 := ⟨jtb_mem 353 rfl rfl, jtb_mem 61 rfl rfl, by decide +kernel⟩
set_option maxRecDepth 100000 in
theorem jw_X5_refuse : jvw yX5_refuse cX5_refuse 2 (some .int) 1 := ⟨jtb_mem 245 rfl rfl, jtb_mem 61 rfl rfl, by decide +kernel⟩
set_option maxRecDepth 100000 in
theorem jw_X5_refuseLong : jvw yX5_refuseLong cX5_refuseLong 2 (some .long) 1 := ⟨jtb_mem 650 rfl rfl, jtb_mem 61 rfl rfl, by decide +kernel⟩
set_option maxRecDepth 100000 in
theorem jw_X5_stepTowards : jvw yX5_stepTowards cX5_stepTowards 2 (some .int) 2 := ⟨jtb_mem 356 rfl rfl, jtb_mem 61 rfl rfl, by decide +kernel⟩
set_option maxRecDepth 100000 in
theorem jw_X5_steps : jvw yX5_steps cX5_steps 2 (some .int) 2 := ⟨jtb_mem 362 rfl rfl, jtb_mem 61 rfl rfl, by decide +kernel⟩
set_option maxRecDepth 100000 in
theorem jw_X6_again : jvw yX6_again cX6_again 1 none 0 := ⟨jtb_mem 984 rfl rfl, jtb_mem 68 rfl rfl, by decide +kernel⟩
set_option maxRecDepth 100000 in
theorem jw_X6_allDebts : jvw yX6_allDebts cX6_allDebts 3 (some .int) 0 := ⟨jtb_mem 1073 rfl rfl, jtb_mem 68 rfl rfl, by decide +kernel⟩
set_option maxRecDepth 100000 in
theorem jw_X6_allPrices : jvw yX6_allPrices cX6_allPrices 3 (some .int) 0 := ⟨jtb_mem 1091 rfl rfl, jtb_mem 68 rfl rfl, by decide +kernel⟩
set_option maxRecDepth 100000 in
theorem jw_X6_apartBy : jvw yX6_apartBy cX6_apartBy 2 (some .int) 2 := ⟨jtb_mem 977 rfl rfl, jtb_mem 68 rfl rfl, by decide +kernel⟩
set_option maxRecDepth 100000 in
theorem jw_X6_beside : jvw yX6_beside cX6_beside 2 (some .int) 2 := ⟨jtb_mem 1114 rfl rfl, jtb_mem 68 rfl rfl, by decide +kernel⟩
set_option maxRecDepth 100000 in
theorem jw_X6_canSee : jvw yX6_canSee cX6_canSee 5 (some .boolean) 3 := ⟨jtb_mem 967 rfl rfl, jtb_mem 68 rfl rfl, by decide +kernel⟩
set_option maxRecDepth 100000 in
theorem jw_X6_carry : jvw yX6_carry cX6_carry 2 (some .int) 1 := ⟨jtb_mem 924 rfl rfl, jtb_mem 68 rfl rfl, by decide +kernel⟩
set_option maxRecDepth 100000 in
theorem jw_X6_carryAll : jvw yX6_carryAll cX6_carryAll 4 none 2 := ⟨jtb_mem 920 rfl rfl, jtb_mem 68 rfl rfl, by decide +kernel⟩
set_option maxRecDepth 100000 in
theorem jw_X6_comesTold : jvw yX6_comesTold cX6_comesTold 6 (some .boolean) 1 := ⟨jtb_mem 928 rfl rfl, jtb_mem 68 rfl rfl, by decide +kernel⟩
set_option maxRecDepth 100000 in
theorem jw_X6_darkBits : jvw yX6_darkBits cX6_darkBits 3 (some .int) 0 := ⟨jtb_mem 1198 rfl rfl, jtb_mem 68 rfl rfl, by decide +kernel⟩
set_option maxRecDepth 100000 in
theorem jw_X6_divisor : jvw yX6_divisor cX6_divisor 10 (some .long) 2 := ⟨jtb_mem 1178 rfl rfl, jtb_mem 68 rfl rfl, by decide +kernel⟩
set_option maxRecDepth 100000 in
theorem jw_X6_drawBelow : jvw yX6_drawBelow cX6_drawBelow 2 (some .int) 1 := ⟨jtb_mem 1251 rfl rfl, jtb_mem 68 rfl rfl, by decide +kernel⟩
set_option maxRecDepth 100000 in
theorem jw_X6_eveningBy : jvw yX6_eveningBy cX6_eveningBy 5 none 1 := ⟨jtb_mem 956 rfl rfl, jtb_mem 68 rfl rfl, by decide +kernel⟩
set_option maxRecDepth 100000 in
theorem jw_X6_goEvenings : jvw yX6_goEvenings cX6_goEvenings 3 none 1 := ⟨jtb_mem 952 rfl rfl, jtb_mem 68 rfl rfl, by decide +kernel⟩
set_option maxRecDepth 100000 in
theorem jw_X6_hasBit : jvw yX6_hasBit cX6_hasBit 2 (some .boolean) 2 := ⟨jtb_mem 980 rfl rfl, jtb_mem 68 rfl rfl, by decide +kernel⟩
set_option maxRecDepth 100000 in
theorem jw_X6_heavyPrices : jvw yX6_heavyPrices cX6_heavyPrices 4 (some .int) 0 := ⟨jtb_mem 1147 rfl rfl, jtb_mem 68 rfl rfl, by decide +kernel⟩
set_option maxRecDepth 100000 in
theorem jw_X6_here : jvw yX6_here cX6_here 1 (some .int) 0 := ⟨jtb_mem 896 rfl rfl, jtb_mem 68 rfl rfl, by decide +kernel⟩
set_option maxRecDepth 100000 in
theorem jw_X6_houseComes : jvw yX6_houseComes cX6_houseComes 6 (some .boolean) 3 := ⟨jtb_mem 932 rfl rfl, jtb_mem 68 rfl rfl, by decide +kernel⟩
set_option maxRecDepth 100000 in
theorem jw_X6_in : jvw yX6_in cX6_in 6 (some .boolean) 3 := ⟨jtb_mem 912 rfl rfl, jtb_mem 68 rfl rfl, by decide +kernel⟩
set_option maxRecDepth 100000 in
theorem jw_X6_isCell : jvw yX6_isCell cX6_isCell 1 (some .boolean) 1 := ⟨jtb_mem 935 rfl rfl, jtb_mem 68 rfl rfl, by decide +kernel⟩
set_option maxRecDepth 100000 in
theorem jw_X6_isHouse : jvw yX6_isHouse cX6_isHouse 2 (some .boolean) 1 := ⟨jtb_mem 943 rfl rfl, jtb_mem 68 rfl rfl, by decide +kernel⟩
set_option maxRecDepth 100000 in
theorem jw_X6_isLetter : jvw yX6_isLetter cX6_isLetter 1 (some .boolean) 1 := ⟨jtb_mem 899 rfl rfl, jtb_mem 68 rfl rfl, by decide +kernel⟩
set_option maxRecDepth 100000 in
theorem jw_X6_isRow : jvw yX6_isRow cX6_isRow 6 (some .boolean) 2 := ⟨jtb_mem 1163 rfl rfl, jtb_mem 68 rfl rfl, by decide +kernel⟩
set_option maxRecDepth 100000 in
theorem jw_X6_isWalker : jvw yX6_isWalker cX6_isWalker 2 (some .boolean) 1 := ⟨jtb_mem 947 rfl rfl, jtb_mem 68 rfl rfl, by decide +kernel⟩
set_option maxRecDepth 100000 in
theorem jw_X6_keepTurn : jvw yX6_keepTurn cX6_keepTurn 2 none 0 := ⟨jtb_mem 1053 rfl rfl, jtb_mem 68 rfl rfl, by decide +kernel⟩
set_option maxRecDepth 100000 in
theorem jw_X6_laneTwos : jvw yX6_laneTwos cX6_laneTwos 4 (some .int) 0 := ⟨jtb_mem 1194 rfl rfl, jtb_mem 68 rfl rfl, by decide +kernel⟩
set_option maxRecDepth 100000 in
theorem jw_X6_layPaying : jvw yX6_layPaying cX6_layPaying 6 none 0 := ⟨jtb_mem 1122 rfl rfl, jtb_mem 68 rfl rfl, by decide +kernel⟩
set_option maxRecDepth 100000 in
theorem jw_X6_layWays : jvw yX6_layWays cX6_layWays 7 none 1 := ⟨jtb_mem 1111 rfl rfl, jtb_mem 68 rfl rfl, by decide +kernel⟩
set_option maxRecDepth 100000 in
theorem jw_X6_minutesOf : jvw yX6_minutesOf cX6_minutesOf 4 (some .int) 2 := ⟨jtb_mem 1005 rfl rfl, jtb_mem 68 rfl rfl, by decide +kernel⟩
set_option maxRecDepth 100000 in
theorem jw_X6_nextOn : jvw yX6_nextOn cX6_nextOn 4 (some .int) 2 := ⟨jtb_mem 1126 rfl rfl, jtb_mem 68 rfl rfl, by decide +kernel⟩
set_option maxRecDepth 100000 in
theorem jw_X6_oldestAge : jvw yX6_oldestAge cX6_oldestAge 4 (some .int) 0 := ⟨jtb_mem 1186 rfl rfl, jtb_mem 68 rfl rfl, by decide +kernel⟩
set_option maxRecDepth 100000 in
theorem jw_X6_oldestBy : jvw yX6_oldestBy cX6_oldestBy 4 (some .int) 0 := ⟨jtb_mem 1190 rfl rfl, jtb_mem 68 rfl rfl, by decide +kernel⟩
set_option maxRecDepth 100000 in
theorem jw_X6_onesOf : jvw yX6_onesOf cX6_onesOf 3 (some .int) 1 := ⟨jtb_mem 1076 rfl rfl, jtb_mem 68 rfl rfl, by decide +kernel⟩
set_option maxRecDepth 100000 in
theorem jw_X6_owersOf : jvw yX6_owersOf cX6_owersOf 4 (some .int) 1 := ⟨jtb_mem 1009 rfl rfl, jtb_mem 68 rfl rfl, by decide +kernel⟩
set_option maxRecDepth 100000 in
theorem jw_X6_owesBits : jvw yX6_owesBits cX6_owesBits 4 (some .int) 1 := ⟨jtb_mem 1022 rfl rfl, jtb_mem 68 rfl rfl, by decide +kernel⟩
set_option maxRecDepth 100000 in
theorem jw_X6_partOf : jvw yX6_partOf cX6_partOf 7 (some .long) 3 := ⟨jtb_mem 1175 rfl rfl, jtb_mem 68 rfl rfl, by decide +kernel⟩
set_option maxRecDepth 100000 in
theorem jw_X6_priceOf : jvw yX6_priceOf cX6_priceOf 5 (some .int) 1 := ⟨jtb_mem 1026 rfl rfl, jtb_mem 68 rfl rfl, by decide +kernel⟩
set_option maxRecDepth 100000 in
theorem jw_X6_reachOf : jvw yX6_reachOf cX6_reachOf 2 (some .int) 1 := ⟨jtb_mem 971 rfl rfl, jtb_mem 68 rfl rfl, by decide +kernel⟩
set_option maxRecDepth 100000 in
theorem jw_X6_readDigits : jvw yX6_readDigits cX6_readDigits 4 (some .int) 1 := ⟨jtb_mem 907 rfl rfl, jtb_mem 68 rfl rfl, by decide +kernel⟩
set_option maxRecDepth 100000 in
theorem jw_X6_readNumbers : jvw yX6_readNumbers cX6_readNumbers 3 none 2 := ⟨jtb_mem 903 rfl rfl, jtb_mem 68 rfl rfl, by decide +kernel⟩
set_option maxRecDepth 100000 in
theorem jw_X6_readStatement : jvw yX6_readStatement cX6_readStatement 3 none 0 := ⟨jtb_mem 892 rfl rfl, jtb_mem 68 rfl rfl, by decide +kernel⟩
set_option maxRecDepth 100000 in
theorem jw_X6_refuse : jvw yX6_refuse cX6_refuse 2 (some .int) 1 := ⟨jtb_mem 884 rfl rfl, jtb_mem 68 rfl rfl, by decide +kernel⟩
set_option maxRecDepth 100000 in
theorem jw_X6_seenFrom : jvw yX6_seenFrom cX6_seenFrom 5 (some .int) 2 := ⟨jtb_mem 963 rfl rfl, jtb_mem 68 rfl rfl, by decide +kernel⟩
set_option maxRecDepth 100000 in
theorem jw_X6_seersOf : jvw yX6_seersOf cX6_seersOf 4 (some .int) 1 := ⟨jtb_mem 1013 rfl rfl, jtb_mem 68 rfl rfl, by decide +kernel⟩
set_option maxRecDepth 100000 in
theorem jw_X6_stepsOf : jvw yX6_stepsOf cX6_stepsOf 2 (some .int) 2 := ⟨jtb_mem 974 rfl rfl, jtb_mem 68 rfl rfl, by decide +kernel⟩
set_option maxRecDepth 100000 in
theorem jw_X6_think : jvw yX6_think cX6_think 1 none 0 := ⟨jtb_mem 916 rfl rfl, jtb_mem 68 rfl rfl, by decide +kernel⟩
set_option maxRecDepth 100000 in
theorem jw_X6_towards : jvw yX6_towards cX6_towards 2 (some .int) 2 := ⟨jtb_mem 959 rfl rfl, jtb_mem 68 rfl rfl, by decide +kernel⟩
set_option maxRecDepth 100000 in
theorem jw_X6_walkerComes : jvw yX6_walkerComes cX6_walkerComes 6 (some .boolean) 3 := ⟨jtb_mem 939 rfl rfl, jtb_mem 68 rfl rfl, by decide +kernel⟩
set_option maxRecDepth 100000 in
theorem jw_X6_wrongBit : jvw yX6_wrongBit cX6_wrongBit 3 (some .int) 3 := ⟨jtb_mem 1083 rfl rfl, jtb_mem 68 rfl rfl, by decide +kernel⟩
set_option maxRecDepth 100000 in
theorem jw_X6_wrongBoth : jvw yX6_wrongBoth cX6_wrongBoth 3 (some .int) 2 := ⟨jtb_mem 1034 rfl rfl, jtb_mem 68 rfl rfl, by decide +kernel⟩
set_option maxRecDepth 100000 in
theorem jw_X6_wrongNumber : jvw yX6_wrongNumber cX6_wrongNumber 3 (some .int) 3 := ⟨jtb_mem 1041 rfl rfl, jtb_mem 68 rfl rfl, by decide +kernel⟩
