theorem jtk_0 {w : Cond} (i : Nat) (h : (k2_sels lw_privs)[i]? = some w) (h2 : goodWord w = true) : w ∈ jtb := List.mem_filter.mpr ⟨List.mem_append.mpr (Or.inl (List.mem_of_getElem? h)), h2⟩
theorem jtk_1 {w : Cond} (i : Nat) (h : tables_1_1[i]? = some w) (h2 : goodWord w = true) : w ∈ jtb := List.mem_filter.mpr ⟨List.mem_append.mpr (Or.inr (List.mem_append.mpr (Or.inl (List.mem_of_getElem? h)))), h2⟩
theorem jtk_2 {w : Cond} (i : Nat) (h : tables_1_2[i]? = some w) (h2 : goodWord w = true) : w ∈ jtb := List.mem_filter.mpr ⟨List.mem_append.mpr (Or.inr (List.mem_append.mpr (Or.inr (List.mem_append.mpr (Or.inl (List.mem_of_getElem? h)))))), h2⟩
theorem jtk_3 {w : Cond} (i : Nat) (h : tables_1_3[i]? = some w) (h2 : goodWord w = true) : w ∈ jtb := List.mem_filter.mpr ⟨List.mem_append.mpr (Or.inr (List.mem_append.mpr (Or.inr (List.mem_append.mpr (Or.inr (List.mem_append.mpr (Or.inl (List.mem_of_getElem? h)))))))), h2⟩
theorem jtk_4 {w : Cond} (i : Nat) (h : tables_1_4[i]? = some w) (h2 : goodWord w = true) : w ∈ jtb := List.mem_filter.mpr ⟨List.mem_append.mpr (Or.inr (List.mem_append.mpr (Or.inr (List.mem_append.mpr (Or.inr (List.mem_append.mpr (Or.inr (List.mem_append.mpr (Or.inl (List.mem_of_getElem? h)))))))))), h2⟩
theorem jtk_5 {w : Cond} (i : Nat) (h : tables_1_5[i]? = some w) (h2 : goodWord w = true) : w ∈ jtb := List.mem_filter.mpr ⟨List.mem_append.mpr (Or.inr (List.mem_append.mpr (Or.inr (List.mem_append.mpr (Or.inr (List.mem_append.mpr (Or.inr (List.mem_append.mpr (Or.inr (List.mem_append.mpr (Or.inl (List.mem_of_getElem? h)))))))))))), h2⟩
theorem jtk_6 {w : Cond} (i : Nat) (h : tables_1_6[i]? = some w) (h2 : goodWord w = true) : w ∈ jtb := List.mem_filter.mpr ⟨List.mem_append.mpr (Or.inr (List.mem_append.mpr (Or.inr (List.mem_append.mpr (Or.inr (List.mem_append.mpr (Or.inr (List.mem_append.mpr (Or.inr (List.mem_append.mpr (Or.inr (List.mem_of_getElem? h)))))))))))), h2⟩
theorem jcb_10 : (Int8.ofInt 10).toInt32 = 10 := by decide
theorem jcb_100 : (Int8.ofInt 100).toInt32 = 100 := by decide
theorem jcb_101 : (Int8.ofInt 101).toInt32 = 101 := by decide
theorem jcb_103 : (Int8.ofInt 103).toInt32 = 103 := by decide
theorem jcb_104 : (Int8.ofInt 104).toInt32 = 104 := by decide
theorem jcb_108 : (Int8.ofInt 108).toInt32 = 108 := by decide
theorem jcb_11 : (Int8.ofInt 11).toInt32 = 11 := by decide
theorem jcb_111 : (Int8.ofInt 111).toInt32 = 111 := by decide
theorem jcb_119 : (Int8.ofInt 119).toInt32 = 119 := by decide
theorem jcb_12 : (Int8.ofInt 12).toInt32 = 12 := by decide
theorem jcb_16 : (Int8.ofInt 16).toInt32 = 16 := by decide
theorem jcb_20 : (Int8.ofInt 20).toInt32 = 20 := by decide
theorem jcb_30 : (Int8.ofInt 30).toInt32 = 30 := by decide
theorem jcb_42 : (Int8.ofInt 42).toInt32 = 42 := by decide
theorem jcb_48 : (Int8.ofInt 48).toInt32 = 48 := by decide
theorem jcb_49 : (Int8.ofInt 49).toInt32 = 49 := by decide
theorem jcb_57 : (Int8.ofInt 57).toInt32 = 57 := by decide
theorem jcb_59 : (Int8.ofInt 59).toInt32 = 59 := by decide
theorem jcb_6 : (Int8.ofInt 6).toInt32 = 6 := by decide
theorem jcb_60 : (Int8.ofInt 60).toInt32 = 60 := by decide
theorem jcb_61 : (Int8.ofInt 61).toInt32 = 61 := by decide
theorem jcb_63 : (Int8.ofInt 63).toInt32 = 63 := by decide
theorem jcb_7 : (Int8.ofInt 7).toInt32 = 7 := by decide
theorem jcb_8 : (Int8.ofInt 8).toInt32 = 8 := by decide
theorem jcb_9 : (Int8.ofInt 9).toInt32 = 9 := by decide
theorem jcb_91 : (Int8.ofInt 91).toInt32 = 91 := by decide
theorem jcb_96 : (Int8.ofInt 96).toInt32 = 96 := by decide
theorem jcb_99 : (Int8.ofInt 99).toInt32 = 99 := by decide
theorem jcb_m2 : (Int8.ofInt (-2)).toInt32 = (-2) := by decide
theorem jcb_m3 : (Int8.ofInt (-3)).toInt32 = (-3) := by decide
theorem jcb_m4 : (Int8.ofInt (-4)).toInt32 = (-4) := by decide
theorem jcb_m6 : (Int8.ofInt (-6)).toInt32 = (-6) := by decide
theorem jcb_m9 : (Int8.ofInt (-9)).toInt32 = (-9) := by decide
theorem jci_0 : Int32.ofInt 0 = 0 := by decide
theorem jci_1 : Int32.ofInt 1 = 1 := by decide
theorem jci_2 : Int32.ofInt 2 = 2 := by decide
theorem jci_3 : Int32.ofInt 3 = 3 := by decide
theorem jci_4 : Int32.ofInt 4 = 4 := by decide
theorem jci_5 : Int32.ofInt 5 = 5 := by decide
theorem jci_m1 : Int32.ofInt (-1) = (-1) := by decide
set_option maxRecDepth 100000 in
theorem jcoM_abs : Cond.code Lib.Math.abs.name Lib.Math.abs.code 1 (some .int) ∈ jtb := jtk_2 65 rfl rfl
set_option maxRecDepth 100000 in
theorem jcoM_max : Cond.code Lib.Math.max.name Lib.Math.max.code 2 (some .int) ∈ jtb := jtk_3 130 rfl rfl
set_option maxRecDepth 100000 in
theorem jcoM_min : Cond.code Lib.Math.min.name Lib.Math.min.code 2 (some .int) ∈ jtb := jtk_2 38 rfl rfl
theorem jcs_12345 : (Int16.ofInt 12345).toInt32 = 12345 := by decide
theorem jcs_128 : (Int16.ofInt 128).toInt32 = 128 := by decide
theorem jcs_255 : (Int16.ofInt 255).toInt32 = 255 := by decide
theorem jcs_6272 : (Int16.ofInt 6272).toInt32 = 6272 := by decide
theorem jcs_728 : (Int16.ofInt 728).toInt32 = 728 := by decide
theorem jcs_999 : (Int16.ofInt 999).toInt32 = 999 := by decide
theorem jcs_m1000 : (Int16.ofInt (-1000)).toInt32 = (-1000) := by decide
theorem jcs_m2000 : (Int16.ofInt (-2000)).toInt32 = (-2000) := by decide
set_option maxRecDepth 100000 in
theorem ji_X0_forget : jiw yX0_forget := ⟨jtk_2 75 rfl rfl, jtk_2 76 rfl rfl⟩
set_option maxRecDepth 100000 in
theorem ji_X0_keep : jiw yX0_keep := ⟨jtk_2 144 rfl rfl, jtk_2 145 rfl rfl⟩
set_option maxRecDepth 100000 in
theorem ji_X0_takeBack : jiw yX0_takeBack := ⟨jtk_2 186 rfl rfl, jtk_2 187 rfl rfl⟩
set_option maxRecDepth 100000 in
theorem ji_X1_areFull : jiw yX1_areFull := ⟨jtk_1 187 rfl rfl, jtk_1 188 rfl rfl⟩
set_option maxRecDepth 100000 in
theorem ji_X1_digit : jiw yX1_digit := ⟨jtk_1 223 rfl rfl, jtk_0 3 rfl rfl⟩
set_option maxRecDepth 100000 in
theorem ji_X1_drop : jiw yX1_drop := ⟨jtk_2 71 rfl rfl, jtk_2 72 rfl rfl⟩
set_option maxRecDepth 100000 in
theorem ji_X1_firstMisspelt : jiw yX1_firstMisspelt := ⟨jtk_1 212 rfl rfl, jtk_0 1 rfl rfl⟩
set_option maxRecDepth 100000 in
theorem ji_X1_pair : jiw yX1_pair := ⟨jtk_1 227 rfl rfl, jtk_0 4 rfl rfl⟩
set_option maxRecDepth 100000 in
theorem ji_X1_take : jiw yX1_take := ⟨jtk_1 191 rfl rfl, jtk_1 192 rfl rfl⟩
set_option maxRecDepth 100000 in
theorem ji_X1_tell : jiw yX1_tell := ⟨jtk_1 207 rfl rfl, jtk_1 208 rfl rfl⟩
set_option maxRecDepth 100000 in
theorem ji_X1_tellStatement : jiw yX1_tellStatement := ⟨jtk_1 219 rfl rfl, jtk_0 2 rfl rfl⟩
set_option maxRecDepth 100000 in
theorem ji_X2_fewest : jiw yX2_fewest := ⟨jtk_3 20 rfl rfl, jtk_3 21 rfl rfl⟩
set_option maxRecDepth 100000 in
theorem ji_X2_nextDoor : jiw yX2_nextDoor := ⟨jtk_3 25 rfl rfl, jtk_0 9 rfl rfl⟩
set_option maxRecDepth 100000 in
theorem ji_X2_plan : jiw yX2_plan := ⟨jtk_3 15 rfl rfl, jtk_3 16 rfl rfl⟩
set_option maxRecDepth 100000 in
theorem ji_X2_stepsBy : jiw yX2_stepsBy := ⟨jtk_3 29 rfl rfl, jtk_0 10 rfl rfl⟩
set_option maxRecDepth 100000 in
theorem ji_X2_stop : jiw yX2_stop := ⟨jtk_3 34 rfl rfl, jtk_3 35 rfl rfl⟩
set_option maxRecDepth 100000 in
theorem ji_X3_find : jiw yX3_find := ⟨jtk_2 230 rfl rfl, jtk_2 231 rfl rfl⟩
set_option maxRecDepth 100000 in
theorem ji_X3_openCells : jiw yX3_openCells := ⟨jtk_3 2 rfl rfl, jtk_0 8 rfl rfl⟩
set_option maxRecDepth 100000 in
theorem ji_X3_shortestAt : jiw yX3_shortestAt := ⟨jtk_2 237 rfl rfl, jtk_0 7 rfl rfl⟩
set_option maxRecDepth 100000 in
theorem ji_X4_addDebt : jiw yX4_addDebt := ⟨jtk_2 17 rfl rfl, jtk_2 18 rfl rfl⟩
set_option maxRecDepth 100000 in
theorem ji_X4_addHouse : jiw yX4_addHouse := ⟨jtk_1 230 rfl rfl, jtk_1 231 rfl rfl⟩
set_option maxRecDepth 100000 in
theorem ji_X4_addWalker : jiw yX4_addWalker := ⟨jtk_1 237 rfl rfl, jtk_1 238 rfl rfl⟩
set_option maxRecDepth 100000 in
theorem ji_X4_ageBehind : jiw yX4_ageBehind := ⟨jtk_2 33 rfl rfl, jtk_2 34 rfl rfl⟩
set_option maxRecDepth 100000 in
theorem ji_X4_aim : jiw yX4_aim := ⟨jtk_2 9 rfl rfl, jtk_2 10 rfl rfl⟩
set_option maxRecDepth 100000 in
theorem ji_X4_become : jiw yX4_become := ⟨jtk_1 200 rfl rfl, jtk_1 201 rfl rfl⟩
set_option maxRecDepth 100000 in
theorem ji_X4_burden : jiw yX4_burden := ⟨jtk_3 59 rfl rfl, jtk_3 60 rfl rfl⟩
set_option maxRecDepth 100000 in
theorem ji_X4_debtsBehind : jiw yX4_debtsBehind := ⟨jtk_2 171 rfl rfl, jtk_2 172 rfl rfl⟩
set_option maxRecDepth 100000 in
theorem ji_X4_firstSighting : jiw yX4_firstSighting := ⟨jtk_2 40 rfl rfl, jtk_2 41 rfl rfl⟩
set_option maxRecDepth 100000 in
theorem ji_X4_hasHouse : jiw yX4_hasHouse := ⟨jtk_2 5 rfl rfl, jtk_2 6 rfl rfl⟩
set_option maxRecDepth 100000 in
theorem ji_X4_hasWalker : jiw yX4_hasWalker := ⟨jtk_2 13 rfl rfl, jtk_2 14 rfl rfl⟩
set_option maxRecDepth 100000 in
theorem ji_X4_highestAgeOf : jiw yX4_highestAgeOf := ⟨jtk_3 125 rfl rfl, jtk_3 126 rfl rfl⟩
set_option maxRecDepth 100000 in
theorem ji_X4_isLit : jiw yX4_isLit := ⟨jtk_2 48 rfl rfl, jtk_2 49 rfl rfl⟩
set_option maxRecDepth 100000 in
theorem ji_X4_minutesBehind : jiw yX4_minutesBehind := ⟨jtk_2 118 rfl rfl, jtk_2 119 rfl rfl⟩
set_option maxRecDepth 100000 in
theorem ji_X4_minutesOf : jiw yX4_minutesOf := ⟨jtk_2 86 rfl rfl, jtk_2 87 rfl rfl⟩
set_option maxRecDepth 100000 in
theorem ji_X4_owersBehind : jiw yX4_owersBehind := ⟨jtk_2 93 rfl rfl, jtk_2 94 rfl rfl⟩
set_option maxRecDepth 100000 in
theorem ji_X4_owes : jiw yX4_owes := ⟨jtk_2 21 rfl rfl, jtk_2 22 rfl rfl⟩
set_option maxRecDepth 100000 in
theorem ji_X4_owesBehind : jiw yX4_owesBehind := ⟨jtk_2 106 rfl rfl, jtk_2 107 rfl rfl⟩
set_option maxRecDepth 100000 in
theorem ji_X4_pass : jiw yX4_pass := ⟨jtk_2 29 rfl rfl, jtk_2 30 rfl rfl⟩
set_option maxRecDepth 100000 in
theorem ji_X4_placeBehind : jiw yX4_placeBehind := ⟨jtk_2 67 rfl rfl, jtk_2 68 rfl rfl⟩
set_option maxRecDepth 100000 in
theorem ji_X4_priceBehind : jiw yX4_priceBehind := ⟨jtk_2 114 rfl rfl, jtk_2 115 rfl rfl⟩
set_option maxRecDepth 100000 in
theorem ji_X4_pricesBehind : jiw yX4_pricesBehind := ⟨jtk_2 199 rfl rfl, jtk_2 200 rfl rfl⟩
set_option maxRecDepth 100000 in
theorem ji_X4_rangeOf : jiw yX4_rangeOf := ⟨jtk_2 44 rfl rfl, jtk_2 45 rfl rfl⟩
set_option maxRecDepth 100000 in
theorem ji_X4_seenBy : jiw yX4_seenBy := ⟨jtk_2 97 rfl rfl, jtk_2 98 rfl rfl⟩
set_option maxRecDepth 100000 in
theorem ji_X4_seesFrom : jiw yX4_seesFrom := ⟨jtk_2 110 rfl rfl, jtk_2 111 rfl rfl⟩
set_option maxRecDepth 100000 in
theorem ji_X4_setCandle : jiw yX4_setCandle := ⟨jtk_3 47 rfl rfl, jtk_3 48 rfl rfl⟩
set_option maxRecDepth 100000 in
theorem ji_X4_setDebt : jiw yX4_setDebt := ⟨jtk_2 25 rfl rfl, jtk_2 26 rfl rfl⟩
set_option maxRecDepth 100000 in
theorem ji_X4_sightings : jiw yX4_sightings := ⟨jtk_3 113 rfl rfl, jtk_3 114 rfl rfl⟩
set_option maxRecDepth 100000 in
theorem ji_X4_turn : jiw yX4_turn := ⟨jtk_2 1 rfl rfl, jtk_2 2 rfl rfl⟩
set_option maxRecDepth 100000 in
theorem ji_X5_bestShutter : jiw yX5_bestShutter := ⟨jtk_3 101 rfl rfl, jtk_0 16 rfl rfl⟩
set_option maxRecDepth 100000 in
theorem ji_X5_debtless : jiw yX5_debtless := ⟨jtk_3 73 rfl rfl, jtk_0 11 rfl rfl⟩
set_option maxRecDepth 100000 in
theorem ji_X5_debtor : jiw yX5_debtor := ⟨jtk_2 223 rfl rfl, jtk_0 6 rfl rfl⟩
set_option maxRecDepth 100000 in
theorem ji_X5_eveningsOfNewDebts : jiw yX5_eveningsOfNewDebts := ⟨jtk_3 162 rfl rfl, jtk_0 21 rfl rfl⟩
set_option maxRecDepth 100000 in
theorem ji_X5_fitsNumbers : jiw yX5_fitsNumbers := ⟨jtk_3 89 rfl rfl, jtk_0 14 rfl rfl⟩
set_option maxRecDepth 100000 in
theorem ji_X5_fittingFigures : jiw yX5_fittingFigures := ⟨jtk_3 93 rfl rfl, jtk_0 15 rfl rfl⟩
set_option maxRecDepth 100000 in
theorem ji_X5_fittingKinds : jiw yX5_fittingKinds := ⟨jtk_3 85 rfl rfl, jtk_0 13 rfl rfl⟩
set_option maxRecDepth 100000 in
theorem ji_X5_highestAge : jiw yX5_highestAge := ⟨jtk_3 122 rfl rfl, jtk_0 18 rfl rfl⟩
set_option maxRecDepth 100000 in
theorem ji_X5_lane : jiw yX5_lane := ⟨jtk_3 138 rfl rfl, jtk_0 20 rfl rfl⟩
set_option maxRecDepth 100000 in
theorem ji_X5_longestOwing : jiw yX5_longestOwing := ⟨jtk_3 134 rfl rfl, jtk_0 19 rfl rfl⟩
set_option maxRecDepth 100000 in
theorem ji_X5_mostOwed : jiw yX5_mostOwed := ⟨jtk_2 218 rfl rfl, jtk_0 5 rfl rfl⟩
set_option maxRecDepth 100000 in
theorem ji_X5_owedByOne : jiw yX5_owedByOne := ⟨jtk_3 77 rfl rfl, jtk_0 12 rfl rfl⟩
set_option maxRecDepth 100000 in
theorem ji_X5_refuse : jiw yX5_refuse := ⟨jtk_1 184 rfl rfl, jtk_0 0 rfl rfl⟩
set_option maxRecDepth 100000 in
theorem ji_X5_refuseLong : jiw yX5_refuseLong := ⟨jtk_3 109 rfl rfl, jtk_0 17 rfl rfl⟩
set_option maxRecDepth 100000 in
theorem ji_X6_again : jiw yX6_again := ⟨jtk_4 203 rfl rfl, jtk_0 40 rfl rfl⟩
set_option maxRecDepth 100000 in
theorem ji_X6_allDebts : jiw yX6_allDebts := ⟨jtk_5 52 rfl rfl, jtk_0 48 rfl rfl⟩
set_option maxRecDepth 100000 in
theorem ji_X6_allPrices : jiw yX6_allPrices := ⟨jtk_5 70 rfl rfl, jtk_0 49 rfl rfl⟩
set_option maxRecDepth 100000 in
theorem ji_X6_canSee : jiw yX6_canSee := ⟨jtk_4 186 rfl rfl, jtk_0 38 rfl rfl⟩
set_option maxRecDepth 100000 in
theorem ji_X6_carry : jiw yX6_carry := ⟨jtk_4 143 rfl rfl, jtk_0 29 rfl rfl⟩
set_option maxRecDepth 100000 in
theorem ji_X6_carryAll : jiw yX6_carryAll := ⟨jtk_4 139 rfl rfl, jtk_0 28 rfl rfl⟩
set_option maxRecDepth 100000 in
theorem ji_X6_comesTold : jiw yX6_comesTold := ⟨jtk_4 147 rfl rfl, jtk_0 30 rfl rfl⟩
set_option maxRecDepth 100000 in
theorem ji_X6_darkBits : jiw yX6_darkBits := ⟨jtk_5 177 rfl rfl, jtk_0 58 rfl rfl⟩
set_option maxRecDepth 100000 in
theorem ji_X6_drawBelow : jiw yX6_drawBelow := ⟨jtk_5 230 rfl rfl, jtk_0 59 rfl rfl⟩
set_option maxRecDepth 100000 in
theorem ji_X6_eveningBy : jiw yX6_eveningBy := ⟨jtk_4 175 rfl rfl, jtk_0 36 rfl rfl⟩
set_option maxRecDepth 100000 in
theorem ji_X6_goEvenings : jiw yX6_goEvenings := ⟨jtk_4 171 rfl rfl, jtk_0 35 rfl rfl⟩
set_option maxRecDepth 100000 in
theorem ji_X6_heavyPrices : jiw yX6_heavyPrices := ⟨jtk_5 126 rfl rfl, jtk_0 53 rfl rfl⟩
set_option maxRecDepth 100000 in
theorem ji_X6_here : jiw yX6_here := ⟨jtk_4 115 rfl rfl, jtk_0 24 rfl rfl⟩
set_option maxRecDepth 100000 in
theorem ji_X6_houseComes : jiw yX6_houseComes := ⟨jtk_4 151 rfl rfl, jtk_0 31 rfl rfl⟩
set_option maxRecDepth 100000 in
theorem ji_X6_isHouse : jiw yX6_isHouse := ⟨jtk_4 162 rfl rfl, jtk_0 33 rfl rfl⟩
set_option maxRecDepth 100000 in
theorem ji_X6_isRow : jiw yX6_isRow := ⟨jtk_5 142 rfl rfl, jtk_0 54 rfl rfl⟩
set_option maxRecDepth 100000 in
theorem ji_X6_isWalker : jiw yX6_isWalker := ⟨jtk_4 166 rfl rfl, jtk_0 34 rfl rfl⟩
set_option maxRecDepth 100000 in
theorem ji_X6_keepTurn : jiw yX6_keepTurn := ⟨jtk_5 32 rfl rfl, jtk_0 47 rfl rfl⟩
set_option maxRecDepth 100000 in
theorem ji_X6_laneTwos : jiw yX6_laneTwos := ⟨jtk_5 173 rfl rfl, jtk_0 57 rfl rfl⟩
set_option maxRecDepth 100000 in
theorem ji_X6_layPaying : jiw yX6_layPaying := ⟨jtk_5 101 rfl rfl, jtk_0 51 rfl rfl⟩
set_option maxRecDepth 100000 in
theorem ji_X6_layWays : jiw yX6_layWays := ⟨jtk_5 90 rfl rfl, jtk_0 50 rfl rfl⟩
set_option maxRecDepth 100000 in
theorem ji_X6_minutesOf : jiw yX6_minutesOf := ⟨jtk_4 224 rfl rfl, jtk_0 41 rfl rfl⟩
set_option maxRecDepth 100000 in
theorem ji_X6_nextOn : jiw yX6_nextOn := ⟨jtk_5 105 rfl rfl, jtk_0 52 rfl rfl⟩
set_option maxRecDepth 100000 in
theorem ji_X6_oldestAge : jiw yX6_oldestAge := ⟨jtk_5 165 rfl rfl, jtk_0 55 rfl rfl⟩
set_option maxRecDepth 100000 in
theorem ji_X6_oldestBy : jiw yX6_oldestBy := ⟨jtk_5 169 rfl rfl, jtk_0 56 rfl rfl⟩
set_option maxRecDepth 100000 in
theorem ji_X6_owersOf : jiw yX6_owersOf := ⟨jtk_4 228 rfl rfl, jtk_0 42 rfl rfl⟩
set_option maxRecDepth 100000 in
theorem ji_X6_owesBits : jiw yX6_owesBits := ⟨jtk_5 1 rfl rfl, jtk_0 44 rfl rfl⟩
set_option maxRecDepth 100000 in
theorem ji_X6_priceOf : jiw yX6_priceOf := ⟨jtk_5 5 rfl rfl, jtk_0 45 rfl rfl⟩
set_option maxRecDepth 100000 in
theorem ji_X6_reachOf : jiw yX6_reachOf := ⟨jtk_4 190 rfl rfl, jtk_0 39 rfl rfl⟩
set_option maxRecDepth 100000 in
theorem ji_X6_readDigits : jiw yX6_readDigits := ⟨jtk_4 126 rfl rfl, jtk_0 26 rfl rfl⟩
set_option maxRecDepth 100000 in
theorem ji_X6_readNumbers : jiw yX6_readNumbers := ⟨jtk_4 122 rfl rfl, jtk_0 25 rfl rfl⟩
set_option maxRecDepth 100000 in
theorem ji_X6_readStatement : jiw yX6_readStatement := ⟨jtk_4 111 rfl rfl, jtk_0 23 rfl rfl⟩
set_option maxRecDepth 100000 in
theorem ji_X6_refuse : jiw yX6_refuse := ⟨jtk_4 103 rfl rfl, jtk_0 22 rfl rfl⟩
set_option maxRecDepth 100000 in
theorem ji_X6_seenFrom : jiw yX6_seenFrom := ⟨jtk_4 182 rfl rfl, jtk_0 37 rfl rfl⟩
set_option maxRecDepth 100000 in
theorem ji_X6_seersOf : jiw yX6_seersOf := ⟨jtk_4 232 rfl rfl, jtk_0 43 rfl rfl⟩
set_option maxRecDepth 100000 in
theorem ji_X6_think : jiw yX6_think := ⟨jtk_4 135 rfl rfl, jtk_0 27 rfl rfl⟩
set_option maxRecDepth 100000 in
theorem ji_X6_walkerComes : jiw yX6_walkerComes := ⟨jtk_4 158 rfl rfl, jtk_0 32 rfl rfl⟩
set_option maxRecDepth 100000 in
theorem ji_X6_wrongBoth : jiw yX6_wrongBoth := ⟨jtk_5 13 rfl rfl, jtk_0 46 rfl rfl⟩
set_option maxRecDepth 100000 in
theorem jinM : Cond.initialized "java/lang/Math" ∈ jtb := jtk_1 10 rfl rfl
set_option maxRecDepth 100000 in
theorem jinS : Cond.initialized "java/lang/System" ∈ jtb := jtk_1 9 rfl rfl
set_option maxRecDepth 100000 in
theorem jkJ6_265 : Cond.constant RJ6 265 1431655765 ∈ jtb := jtk_2 178 rfl rfl
set_option maxRecDepth 100000 in
theorem jkJ6_266 : Cond.constant RJ6 266 858993459 ∈ jtb := jtk_2 179 rfl rfl
set_option maxRecDepth 100000 in
theorem jkJ6_267 : Cond.constant RJ6 267 252645135 ∈ jtb := jtk_2 180 rfl rfl
set_option maxRecDepth 100000 in
theorem jkX3_58 : Cond.constantLong RX3 58 (-283691315109953) ∈ jtb := jtk_3 8 rfl rfl
set_option maxRecDepth 100000 in
theorem jkX3_60 : Cond.constantLong RX3 60 (-4432676798594) ∈ jtb := jtk_3 9 rfl rfl
set_option maxRecDepth 100000 in
theorem jkX5_238 : Cond.constant RX5 238 1000000000 ∈ jtb := jtk_3 41 rfl rfl
set_option maxRecDepth 100000 in
theorem jkX5_300 : Cond.constantLong RX5 300 4000000000000000000 ∈ jtb := jtk_3 111 rfl rfl
set_option maxRecDepth 100000 in
theorem jkX5_308 : Cond.constant RX5 308 1103515245 ∈ jtb := jtk_3 195 rfl rfl
set_option maxRecDepth 100000 in
theorem jkX5_309 : Cond.constant RX5 309 2147483647 ∈ jtb := jtk_3 199 rfl rfl
set_option maxRecDepth 100000 in
theorem jkX5_310 : Cond.constant RX5 310 65536 ∈ jtb := jtk_3 200 rfl rfl
set_option maxRecDepth 100000 in
theorem jkX6_160 : Cond.constantLong RX6 160 57 ∈ jtb := jtk_4 129 rfl rfl
set_option maxRecDepth 100000 in
theorem jkX6_187 : Cond.constantLong RX6 187 60 ∈ jtb := jtk_4 168 rfl rfl
set_option maxRecDepth 100000 in
theorem jkX6_227 : Cond.constantLong RX6 227 7 ∈ jtb := jtk_4 221 rfl rfl
set_option maxRecDepth 100000 in
theorem jkX6_235 : Cond.constantLong RX6 235 5 ∈ jtb := jtk_4 238 rfl rfl
set_option maxRecDepth 100000 in
theorem jkX6_271 : Cond.constant RX6 271 1000000000 ∈ jtb := jtk_5 111 rfl rfl
set_option maxRecDepth 100000 in
theorem jkX6_285 : Cond.constantLong RX6 285 4000000000000000000 ∈ jtb := jtk_5 152 rfl rfl
set_option maxRecDepth 100000 in
theorem jkX6_303 : Cond.constantLong RX6 303 6 ∈ jtb := jtk_5 211 rfl rfl
set_option maxRecDepth 100000 in
theorem jkX6_308 : Cond.constant RX6 308 1103515245 ∈ jtb := jtk_5 232 rfl rfl
set_option maxRecDepth 100000 in
theorem jkX6_309 : Cond.constant RX6 309 2147483647 ∈ jtb := jtk_5 233 rfl rfl
set_option maxRecDepth 100000 in
theorem jkX6_310 : Cond.constant RX6 310 65536 ∈ jtb := jtk_5 234 rfl rfl
set_option maxRecDepth 100000 in
theorem jkX6_314 : Cond.constantLong RX6 314 11 ∈ jtb := jtk_5 239 rfl rfl
set_option maxRecDepth 100000 in
theorem jkX6_316 : Cond.constantLong RX6 316 16 ∈ jtb := jtk_6 0 rfl rfl
set_option maxRecDepth 100000 in
theorem jkX6_83 : Cond.constantLong RX6 83 48 ∈ jtb := jtk_4 128 rfl rfl
set_option maxRecDepth 100000 in
theorem jlX0_11 : jfl RX0 11 0 0 ∈ jtb := jtk_1 87 rfl rfl
set_option maxRecDepth 100000 in
theorem jlX0_16 : jfl RX0 16 0 1 ∈ jtb := jtk_1 88 rfl rfl
set_option maxRecDepth 100000 in
theorem jlX0_24 : jfl RX0 24 0 2 ∈ jtb := jtk_1 89 rfl rfl
set_option maxRecDepth 100000 in
theorem jlX1_15 : jfl RX1 15 1 1 ∈ jtb := jtk_1 105 rfl rfl
set_option maxRecDepth 100000 in
theorem jlX1_9 : jfl RX1 9 1 0 ∈ jtb := jtk_1 104 rfl rfl
set_option maxRecDepth 100000 in
theorem jlX2_21 : jfl RX2 21 2 1 ∈ jtb := jtk_1 137 rfl rfl
set_option maxRecDepth 100000 in
theorem jlX2_25 : jfl RX2 25 4 0 ∈ jtb := jtk_1 30 rfl rfl
set_option maxRecDepth 100000 in
theorem jlX2_28 : jfl RX2 28 4 3 ∈ jtb := jtk_1 38 rfl rfl
set_option maxRecDepth 100000 in
theorem jlX2_9 : jfl RX2 9 2 0 ∈ jtb := jtk_1 136 rfl rfl
set_option maxRecDepth 100000 in
theorem jlX3_11 : jfl RX3 11 3 0 ∈ jtb := jtk_1 118 rfl rfl
set_option maxRecDepth 100000 in
theorem jlX3_15 : jfl RX3 15 4 6 ∈ jtb := jtk_1 45 rfl rfl
set_option maxRecDepth 100000 in
theorem jlX3_27 : jfl RX3 27 3 1 ∈ jtb := jtk_1 119 rfl rfl
set_option maxRecDepth 100000 in
theorem jlX3_31 : jfl RX3 31 3 2 ∈ jtb := jtk_1 121 rfl rfl
set_option maxRecDepth 100000 in
theorem jlX3_34 : jfl RX3 34 4 0 ∈ jtb := jtk_1 31 rfl rfl
set_option maxRecDepth 100000 in
theorem jlX4_15 : jfl RX4 15 4 2 ∈ jtb := jtk_1 35 rfl rfl
set_option maxRecDepth 100000 in
theorem jlX4_18 : jfl RX4 18 4 3 ∈ jtb := jtk_1 37 rfl rfl
set_option maxRecDepth 100000 in
theorem jlX4_21 : jfl RX4 21 4 6 ∈ jtb := jtk_1 44 rfl rfl
set_option maxRecDepth 100000 in
theorem jlX4_24 : jfl RX4 24 4 7 ∈ jtb := jtk_1 47 rfl rfl
set_option maxRecDepth 100000 in
theorem jlX4_27 : jfl RX4 27 4 8 ∈ jtb := jtk_1 49 rfl rfl
set_option maxRecDepth 100000 in
theorem jlX4_30 : jfl RX4 30 4 9 ∈ jtb := jtk_1 51 rfl rfl
set_option maxRecDepth 100000 in
theorem jlX4_39 : jfl RX4 39 4 0 ∈ jtb := jtk_1 29 rfl rfl
set_option maxRecDepth 100000 in
theorem jlX4_49 : jfl RX4 49 4 4 ∈ jtb := jtk_1 40 rfl rfl
set_option maxRecDepth 100000 in
theorem jlX4_52 : jfl RX4 52 4 5 ∈ jtb := jtk_1 42 rfl rfl
set_option maxRecDepth 100000 in
theorem jlX4_55 : jfl RX4 55 4 10 ∈ jtb := jtk_1 52 rfl rfl
set_option maxRecDepth 100000 in
theorem jlX4_9 : jfl RX4 9 4 1 ∈ jtb := jtk_1 33 rfl rfl
set_option maxRecDepth 100000 in
theorem jlX5_100 : jfl RX5 100 4 3 ∈ jtb := jtk_1 39 rfl rfl
set_option maxRecDepth 100000 in
theorem jlX5_12 : jfl RX5 12 5 0 ∈ jtb := jtk_1 144 rfl rfl
set_option maxRecDepth 100000 in
theorem jlX5_122 : jfl RX5 122 4 6 ∈ jtb := jtk_1 46 rfl rfl
set_option maxRecDepth 100000 in
theorem jlX5_125 : jfl RX5 125 4 7 ∈ jtb := jtk_1 48 rfl rfl
set_option maxRecDepth 100000 in
theorem jlX5_128 : jfl RX5 128 4 8 ∈ jtb := jtk_1 50 rfl rfl
set_option maxRecDepth 100000 in
theorem jlX5_148 : jfl RX5 148 4 0 ∈ jtb := jtk_1 32 rfl rfl
set_option maxRecDepth 100000 in
theorem jlX5_158 : jfl RX5 158 4 5 ∈ jtb := jtk_1 43 rfl rfl
set_option maxRecDepth 100000 in
theorem jlX5_16 : jfl RX5 16 5 1 ∈ jtb := jtk_1 145 rfl rfl
set_option maxRecDepth 100000 in
theorem jlX5_180 : jfl RX5 180 4 10 ∈ jtb := jtk_1 53 rfl rfl
set_option maxRecDepth 100000 in
theorem jlX5_189 : jfl RX5 189 0 2 ∈ jtb := jtk_1 90 rfl rfl
set_option maxRecDepth 100000 in
theorem jlX5_19 : jfl RX5 19 5 2 ∈ jtb := jtk_1 146 rfl rfl
set_option maxRecDepth 100000 in
theorem jlX5_218 : jfl RX5 218 3 1 ∈ jtb := jtk_1 120 rfl rfl
set_option maxRecDepth 100000 in
theorem jlX5_22 : jfl RX5 22 5 3 ∈ jtb := jtk_1 147 rfl rfl
set_option maxRecDepth 100000 in
theorem jlX5_221 : jfl RX5 221 3 2 ∈ jtb := jtk_1 122 rfl rfl
set_option maxRecDepth 100000 in
theorem jlX5_228 : jfl RX5 228 2 1 ∈ jtb := jtk_1 138 rfl rfl
set_option maxRecDepth 100000 in
theorem jlX5_286 : jfl RX5 286 4 4 ∈ jtb := jtk_1 41 rfl rfl
set_option maxRecDepth 100000 in
theorem jlX5_29 : jfl RX5 29 5 4 ∈ jtb := jtk_1 148 rfl rfl
set_option maxRecDepth 100000 in
theorem jlX5_299 : jfl RX5 299 1 1 ∈ jtb := jtk_1 106 rfl rfl
set_option maxRecDepth 100000 in
theorem jlX5_36 : jfl RX5 36 5 5 ∈ jtb := jtk_1 149 rfl rfl
set_option maxRecDepth 100000 in
theorem jlX5_43 : jfl RX5 43 5 6 ∈ jtb := jtk_1 150 rfl rfl
set_option maxRecDepth 100000 in
theorem jlX5_50 : jfl RX5 50 5 7 ∈ jtb := jtk_1 151 rfl rfl
set_option maxRecDepth 100000 in
theorem jlX5_54 : jfl RX5 54 5 8 ∈ jtb := jtk_1 152 rfl rfl
set_option maxRecDepth 100000 in
theorem jlX5_58 : jfl RX5 58 5 9 ∈ jtb := jtk_1 153 rfl rfl
set_option maxRecDepth 100000 in
theorem jlX5_62 : jfl RX5 62 5 10 ∈ jtb := jtk_1 154 rfl rfl
set_option maxRecDepth 100000 in
theorem jlX5_94 : jfl RX5 94 4 1 ∈ jtb := jtk_1 34 rfl rfl
set_option maxRecDepth 100000 in
theorem jlX5_97 : jfl RX5 97 4 2 ∈ jtb := jtk_1 36 rfl rfl
set_option maxRecDepth 100000 in
theorem jlX6_122 : jfl RX6 122 6 10 ∈ jtb := jtk_3 229 rfl rfl
set_option maxRecDepth 100000 in
theorem jlX6_13 : jfl RX6 13 6 2 ∈ jtb := jtk_3 221 rfl rfl
set_option maxRecDepth 100000 in
theorem jlX6_146 : jfl RX6 146 6 14 ∈ jtb := jtk_3 233 rfl rfl
set_option maxRecDepth 100000 in
theorem jlX6_149 : jfl RX6 149 6 15 ∈ jtb := jtk_3 234 rfl rfl
set_option maxRecDepth 100000 in
theorem jlX6_152 : jfl RX6 152 6 16 ∈ jtb := jtk_3 235 rfl rfl
set_option maxRecDepth 100000 in
theorem jlX6_16 : jfl RX6 16 6 3 ∈ jtb := jtk_3 222 rfl rfl
set_option maxRecDepth 100000 in
theorem jlX6_165 : jfl RX6 165 6 17 ∈ jtb := jtk_3 236 rfl rfl
set_option maxRecDepth 100000 in
theorem jlX6_19 : jfl RX6 19 6 4 ∈ jtb := jtk_3 223 rfl rfl
set_option maxRecDepth 100000 in
theorem jlX6_205 : jfl RX6 205 6 29 ∈ jtb := jtk_4 8 rfl rfl
set_option maxRecDepth 100000 in
theorem jlX6_208 : jfl RX6 208 6 25 ∈ jtb := jtk_4 4 rfl rfl
set_option maxRecDepth 100000 in
theorem jlX6_211 : jfl RX6 211 6 26 ∈ jtb := jtk_4 5 rfl rfl
set_option maxRecDepth 100000 in
theorem jlX6_214 : jfl RX6 214 6 24 ∈ jtb := jtk_4 3 rfl rfl
set_option maxRecDepth 100000 in
theorem jlX6_22 : jfl RX6 22 6 6 ∈ jtb := jtk_3 225 rfl rfl
set_option maxRecDepth 100000 in
theorem jlX6_224 : jfl RX6 224 6 23 ∈ jtb := jtk_4 2 rfl rfl
set_option maxRecDepth 100000 in
theorem jlX6_25 : jfl RX6 25 6 7 ∈ jtb := jtk_3 226 rfl rfl
set_option maxRecDepth 100000 in
theorem jlX6_256 : jfl RX6 256 6 32 ∈ jtb := jtk_4 11 rfl rfl
set_option maxRecDepth 100000 in
theorem jlX6_275 : jfl RX6 275 6 36 ∈ jtb := jtk_4 15 rfl rfl
set_option maxRecDepth 100000 in
theorem jlX6_28 : jfl RX6 28 6 8 ∈ jtb := jtk_3 227 rfl rfl
set_option maxRecDepth 100000 in
theorem jlX6_305 : jfl RX6 305 6 38 ∈ jtb := jtk_4 17 rfl rfl
set_option maxRecDepth 100000 in
theorem jlX6_31 : jfl RX6 31 6 9 ∈ jtb := jtk_3 228 rfl rfl
set_option maxRecDepth 100000 in
theorem jlX6_34 : jfl RX6 34 6 12 ∈ jtb := jtk_3 231 rfl rfl
set_option maxRecDepth 100000 in
theorem jlX6_37 : jfl RX6 37 6 13 ∈ jtb := jtk_3 232 rfl rfl
set_option maxRecDepth 100000 in
theorem jlX6_40 : jfl RX6 40 6 18 ∈ jtb := jtk_3 237 rfl rfl
set_option maxRecDepth 100000 in
theorem jlX6_43 : jfl RX6 43 6 19 ∈ jtb := jtk_3 238 rfl rfl
set_option maxRecDepth 100000 in
theorem jlX6_46 : jfl RX6 46 6 20 ∈ jtb := jtk_3 239 rfl rfl
set_option maxRecDepth 100000 in
theorem jlX6_49 : jfl RX6 49 6 21 ∈ jtb := jtk_4 0 rfl rfl
set_option maxRecDepth 100000 in
theorem jlX6_52 : jfl RX6 52 6 22 ∈ jtb := jtk_4 1 rfl rfl
set_option maxRecDepth 100000 in
theorem jlX6_55 : jfl RX6 55 6 27 ∈ jtb := jtk_4 6 rfl rfl
set_option maxRecDepth 100000 in
theorem jlX6_58 : jfl RX6 58 6 28 ∈ jtb := jtk_4 7 rfl rfl
set_option maxRecDepth 100000 in
theorem jlX6_61 : jfl RX6 61 6 30 ∈ jtb := jtk_4 9 rfl rfl
set_option maxRecDepth 100000 in
theorem jlX6_64 : jfl RX6 64 6 31 ∈ jtb := jtk_4 10 rfl rfl
set_option maxRecDepth 100000 in
theorem jlX6_67 : jfl RX6 67 6 33 ∈ jtb := jtk_4 12 rfl rfl
set_option maxRecDepth 100000 in
theorem jlX6_7 : jfl RX6 7 6 1 ∈ jtb := jtk_3 220 rfl rfl
set_option maxRecDepth 100000 in
theorem jlX6_70 : jfl RX6 70 6 34 ∈ jtb := jtk_4 13 rfl rfl
set_option maxRecDepth 100000 in
theorem jlX6_73 : jfl RX6 73 6 35 ∈ jtb := jtk_4 14 rfl rfl
set_option maxRecDepth 100000 in
theorem jlX6_76 : jfl RX6 76 6 37 ∈ jtb := jtk_4 16 rfl rfl
set_option maxRecDepth 100000 in
theorem jlX6_79 : jfl RX6 79 6 11 ∈ jtb := jtk_3 230 rfl rfl
set_option maxRecDepth 100000 in
theorem jlX6_89 : jfl RX6 89 6 0 ∈ jtb := jtk_3 219 rfl rfl
set_option maxRecDepth 100000 in
theorem jlX6_92 : jfl RX6 92 6 5 ∈ jtb := jtk_3 224 rfl rfl
set_option maxRecDepth 100000 in
theorem jmX0_20 : Cond.methodLink RX0 20 yX4_become ∈ jtb := jtk_2 147 rfl rfl
set_option maxRecDepth 100000 in
theorem jmX0_27 : Cond.methodLink RX0 27 Lib.Math.min.name ∈ jtb := jtk_2 148 rfl rfl
set_option maxRecDepth 100000 in
theorem jmX1_19 : Cond.methodLink RX1 19 yX1_areFull ∈ jtb := jtk_1 194 rfl rfl
set_option maxRecDepth 100000 in
theorem jmX1_23 : Cond.methodLink RX1 23 yX1_firstMisspelt ∈ jtb := jtk_1 210 rfl rfl
set_option maxRecDepth 100000 in
theorem jmX1_27 : Cond.methodLink RX1 27 yX1_tellStatement ∈ jtb := jtk_1 217 rfl rfl
set_option maxRecDepth 100000 in
theorem jmX1_31 : Cond.methodLink RX1 31 yX1_digitsBehind ∈ jtb := jtk_1 214 rfl rfl
set_option maxRecDepth 100000 in
theorem jmX1_35 : Cond.methodLink RX1 35 yX1_digit ∈ jtb := jtk_1 221 rfl rfl
set_option maxRecDepth 100000 in
theorem jmX1_38 : Cond.methodLink RX1 38 yX1_pair ∈ jtb := jtk_1 225 rfl rfl
set_option maxRecDepth 100000 in
theorem jmX1_41 : Cond.methodLink RX1 41 yX4_addHouse ∈ jtb := jtk_1 229 rfl rfl
set_option maxRecDepth 100000 in
theorem jmX1_47 : Cond.methodLink RX1 47 yX4_addWalker ∈ jtb := jtk_1 236 rfl rfl
set_option maxRecDepth 100000 in
theorem jmX1_50 : Cond.methodLink RX1 50 yX4_turn ∈ jtb := jtk_2 0 rfl rfl
set_option maxRecDepth 100000 in
theorem jmX1_54 : Cond.methodLink RX1 54 yX4_aim ∈ jtb := jtk_2 8 rfl rfl
set_option maxRecDepth 100000 in
theorem jmX1_58 : Cond.methodLink RX1 58 yX4_addDebt ∈ jtb := jtk_2 16 rfl rfl
set_option maxRecDepth 100000 in
theorem jmX1_61 : Cond.methodLink RX1 61 yX4_pass ∈ jtb := jtk_2 28 rfl rfl
set_option maxRecDepth 100000 in
theorem jmX2_15 : Cond.methodLink RX2 15 yX4_owesBehind ∈ jtb := jtk_3 18 rfl rfl
set_option maxRecDepth 100000 in
theorem jmX2_31 : Cond.methodLink RX2 31 yX2_fewest ∈ jtb := jtk_3 19 rfl rfl
set_option maxRecDepth 100000 in
theorem jmX2_35 : Cond.methodLink RX2 35 yX2_nextDoor ∈ jtb := jtk_3 23 rfl rfl
set_option maxRecDepth 100000 in
theorem jmX2_38 : Cond.methodLink RX2 38 yX2_stepsBy ∈ jtb := jtk_3 27 rfl rfl
set_option maxRecDepth 100000 in
theorem jmX3_20 : Cond.methodLink RX3 20 yX4_owesBehind ∈ jtb := jtk_2 233 rfl rfl
set_option maxRecDepth 100000 in
theorem jmX3_24 : Cond.methodLink RX3 24 yX4_seesFrom ∈ jtb := jtk_2 234 rfl rfl
set_option maxRecDepth 100000 in
theorem jmX3_37 : Cond.methodLink RX3 37 yX3_shortestAt ∈ jtb := jtk_2 235 rfl rfl
set_option maxRecDepth 100000 in
theorem jmX3_44 : Cond.methodLink RX3 44 yJ6_bitCount_0f7a4 ∈ jtb := jtk_2 239 rfl rfl
set_option maxRecDepth 100000 in
theorem jmX3_50 : Cond.methodLink RX3 50 yX3_openCells ∈ jtb := jtk_3 0 rfl rfl
set_option maxRecDepth 100000 in
theorem jmX3_54 : Cond.methodLink RX3 54 yX3_shortestOver ∈ jtb := jtk_3 4 rfl rfl
set_option maxRecDepth 100000 in
theorem jmX4_102 : Cond.methodLink RX4 102 Lib.Math.min.name ∈ jtb := jtk_2 36 rfl rfl
set_option maxRecDepth 100000 in
theorem jmX4_107 : Cond.methodLink RX4 107 yX4_firstSighting ∈ jtb := jtk_2 39 rfl rfl
set_option maxRecDepth 100000 in
theorem jmX4_110 : Cond.methodLink RX4 110 yX4_minutesOf ∈ jtb := jtk_2 121 rfl rfl
set_option maxRecDepth 100000 in
theorem jmX4_113 : Cond.methodLink RX4 113 yX4_minutesBehind ∈ jtb := jtk_2 117 rfl rfl
set_option maxRecDepth 100000 in
theorem jmX4_116 : Cond.methodLink RX4 116 yX4_owesBehind ∈ jtb := jtk_2 174 rfl rfl
set_option maxRecDepth 100000 in
theorem jmX4_119 : Cond.methodLink RX4 119 yJ6_bitCount_0f7a4 ∈ jtb := jtk_2 175 rfl rfl
set_option maxRecDepth 100000 in
theorem jmX4_125 : Cond.methodLink RX4 125 yX4_priceBehind ∈ jtb := jtk_3 62 rfl rfl
set_option maxRecDepth 100000 in
theorem jmX4_128 : Cond.methodLink RX4 128 Lib.Math.max.name ∈ jtb := jtk_3 128 rfl rfl
set_option maxRecDepth 100000 in
theorem jmX4_43 : Cond.methodLink RX4 43 arraycopyName ∈ jtb := jtk_1 203 rfl rfl
set_option maxRecDepth 100000 in
theorem jmX4_62 : Cond.methodLink RX4 62 yX4_hasHouse ∈ jtb := jtk_2 4 rfl rfl
set_option maxRecDepth 100000 in
theorem jmX4_65 : Cond.methodLink RX4 65 yX4_hasWalker ∈ jtb := jtk_2 12 rfl rfl
set_option maxRecDepth 100000 in
theorem jmX4_68 : Cond.methodLink RX4 68 yX4_owes ∈ jtb := jtk_2 20 rfl rfl
set_option maxRecDepth 100000 in
theorem jmX4_72 : Cond.methodLink RX4 72 yX4_setDebt ∈ jtb := jtk_2 24 rfl rfl
set_option maxRecDepth 100000 in
theorem jmX4_76 : Cond.methodLink RX4 76 yX4_ageBehind ∈ jtb := jtk_2 32 rfl rfl
set_option maxRecDepth 100000 in
theorem jmX4_80 : Cond.methodLink RX4 80 yX4_placeBehind ∈ jtb := jtk_2 66 rfl rfl
set_option maxRecDepth 100000 in
theorem jmX4_87 : Cond.methodLink RX4 87 yX4_isLit ∈ jtb := jtk_2 47 rfl rfl
set_option maxRecDepth 100000 in
theorem jmX4_96 : Cond.methodLink RX4 96 yX4_rangeOf ∈ jtb := jtk_2 43 rfl rfl
set_option maxRecDepth 100000 in
theorem jmX5_103 : Cond.methodLink RX5 103 yX4_isLit ∈ jtb := jtk_2 83 rfl rfl
set_option maxRecDepth 100000 in
theorem jmX5_106 : Cond.methodLink RX5 106 yX5_reach ∈ jtb := jtk_2 84 rfl rfl
set_option maxRecDepth 100000 in
theorem jmX5_110 : Cond.methodLink RX5 110 yX4_minutesOf ∈ jtb := jtk_2 85 rfl rfl
set_option maxRecDepth 100000 in
theorem jmX5_113 : Cond.methodLink RX5 113 yX4_owersBehind ∈ jtb := jtk_2 92 rfl rfl
set_option maxRecDepth 100000 in
theorem jmX5_116 : Cond.methodLink RX5 116 yX4_seenBy ∈ jtb := jtk_2 96 rfl rfl
set_option maxRecDepth 100000 in
theorem jmX5_119 : Cond.methodLink RX5 119 yX4_hasWalker ∈ jtb := jtk_2 104 rfl rfl
set_option maxRecDepth 100000 in
theorem jmX5_131 : Cond.methodLink RX5 131 yX4_owesBehind ∈ jtb := jtk_2 105 rfl rfl
set_option maxRecDepth 100000 in
theorem jmX5_134 : Cond.methodLink RX5 134 yX4_seesFrom ∈ jtb := jtk_2 109 rfl rfl
set_option maxRecDepth 100000 in
theorem jmX5_137 : Cond.methodLink RX5 137 yX4_priceBehind ∈ jtb := jtk_2 113 rfl rfl
set_option maxRecDepth 100000 in
theorem jmX5_140 : Cond.methodLink RX5 140 yX4_owes ∈ jtb := jtk_2 126 rfl rfl
set_option maxRecDepth 100000 in
theorem jmX5_144 : Cond.methodLink RX5 144 yX4_ageBehind ∈ jtb := jtk_2 127 rfl rfl
set_option maxRecDepth 100000 in
theorem jmX5_151 : Cond.methodLink RX5 151 yX5_isCell ∈ jtb := jtk_2 132 rfl rfl
set_option maxRecDepth 100000 in
theorem jmX5_154 : Cond.methodLink RX5 154 yX4_addHouse ∈ jtb := jtk_2 133 rfl rfl
set_option maxRecDepth 100000 in
theorem jmX5_161 : Cond.methodLink RX5 161 yX4_addWalker ∈ jtb := jtk_2 138 rfl rfl
set_option maxRecDepth 100000 in
theorem jmX5_164 : Cond.methodLink RX5 164 yX0_keep ∈ jtb := jtk_2 143 rfl rfl
set_option maxRecDepth 100000 in
theorem jmX5_167 : Cond.methodLink RX5 167 yX4_turn ∈ jtb := jtk_2 149 rfl rfl
set_option maxRecDepth 100000 in
theorem jmX5_170 : Cond.methodLink RX5 170 yX4_aim ∈ jtb := jtk_2 154 rfl rfl
set_option maxRecDepth 100000 in
theorem jmX5_173 : Cond.methodLink RX5 173 yX4_minutesBehind ∈ jtb := jtk_2 159 rfl rfl
set_option maxRecDepth 100000 in
theorem jmX5_176 : Cond.methodLink RX5 176 yX4_setDebt ∈ jtb := jtk_2 160 rfl rfl
set_option maxRecDepth 100000 in
theorem jmX5_183 : Cond.methodLink RX5 183 yX4_pass ∈ jtb := jtk_2 169 rfl rfl
set_option maxRecDepth 100000 in
theorem jmX5_186 : Cond.methodLink RX5 186 yX4_debtsBehind ∈ jtb := jtk_2 170 rfl rfl
set_option maxRecDepth 100000 in
theorem jmX5_192 : Cond.methodLink RX5 192 yX0_takeBack ∈ jtb := jtk_2 185 rfl rfl
set_option maxRecDepth 100000 in
theorem jmX5_195 : Cond.methodLink RX5 195 yX4_placeBehind ∈ jtb := jtk_2 193 rfl rfl
set_option maxRecDepth 100000 in
theorem jmX5_198 : Cond.methodLink RX5 198 yX4_pricesBehind ∈ jtb := jtk_2 198 rfl rfl
set_option maxRecDepth 100000 in
theorem jmX5_201 : Cond.methodLink RX5 201 yX4_firstSighting ∈ jtb := jtk_2 206 rfl rfl
set_option maxRecDepth 100000 in
theorem jmX5_204 : Cond.methodLink RX5 204 yX5_steps ∈ jtb := jtk_2 211 rfl rfl
set_option maxRecDepth 100000 in
theorem jmX5_207 : Cond.methodLink RX5 207 yX5_mostOwed ∈ jtb := jtk_2 216 rfl rfl
set_option maxRecDepth 100000 in
theorem jmX5_211 : Cond.methodLink RX5 211 yX5_debtor ∈ jtb := jtk_2 221 rfl rfl
set_option maxRecDepth 100000 in
theorem jmX5_214 : Cond.methodLink RX5 214 yX3_find ∈ jtb := jtk_2 229 rfl rfl
set_option maxRecDepth 100000 in
theorem jmX5_224 : Cond.methodLink RX5 224 yX2_plan ∈ jtb := jtk_3 14 rfl rfl
set_option maxRecDepth 100000 in
theorem jmX5_231 : Cond.methodLink RX5 231 yX2_fewest ∈ jtb := jtk_3 32 rfl rfl
set_option maxRecDepth 100000 in
theorem jmX5_235 : Cond.methodLink RX5 235 yX2_stop ∈ jtb := jtk_3 33 rfl rfl
set_option maxRecDepth 100000 in
theorem jmX5_239 : Cond.methodLink RX5 239 yJ6_bitCount_0f7a4 ∈ jtb := jtk_2 220 rfl rfl
set_option maxRecDepth 100000 in
theorem jmX5_244 : Cond.methodLink RX5 244 yX4_setCandle ∈ jtb := jtk_3 46 rfl rfl
set_option maxRecDepth 100000 in
theorem jmX5_247 : Cond.methodLink RX5 247 yX4_burden ∈ jtb := jtk_3 58 rfl rfl
set_option maxRecDepth 100000 in
theorem jmX5_250 : Cond.methodLink RX5 250 yX5_debtless ∈ jtb := jtk_3 71 rfl rfl
set_option maxRecDepth 100000 in
theorem jmX5_253 : Cond.methodLink RX5 253 yX5_owedByOne ∈ jtb := jtk_3 75 rfl rfl
set_option maxRecDepth 100000 in
theorem jmX5_256 : Cond.methodLink RX5 256 yX5_fittingKinds ∈ jtb := jtk_3 83 rfl rfl
set_option maxRecDepth 100000 in
theorem jmX5_259 : Cond.methodLink RX5 259 yX5_fittingFigures ∈ jtb := jtk_3 91 rfl rfl
set_option maxRecDepth 100000 in
theorem jmX5_262 : Cond.methodLink RX5 262 yX5_bestShutter ∈ jtb := jtk_3 99 rfl rfl
set_option maxRecDepth 100000 in
theorem jmX5_265 : Cond.methodLink RX5 265 yX5_refuseLong ∈ jtb := jtk_3 107 rfl rfl
set_option maxRecDepth 100000 in
theorem jmX5_269 : Cond.methodLink RX5 269 yX4_sightings ∈ jtb := jtk_3 112 rfl rfl
set_option maxRecDepth 100000 in
theorem jmX5_272 : Cond.methodLink RX5 272 yX5_highestAge ∈ jtb := jtk_3 120 rfl rfl
set_option maxRecDepth 100000 in
theorem jmX5_275 : Cond.methodLink RX5 275 Lib.Math.max.name ∈ jtb := jtk_3 131 rfl rfl
set_option maxRecDepth 100000 in
theorem jmX5_280 : Cond.methodLink RX5 280 yX5_longestOwing ∈ jtb := jtk_3 132 rfl rfl
set_option maxRecDepth 100000 in
theorem jmX5_283 : Cond.methodLink RX5 283 yX5_lane ∈ jtb := jtk_3 136 rfl rfl
set_option maxRecDepth 100000 in
theorem jmX5_289 : Cond.methodLink RX5 289 yX5_eveningsOfNewDebts ∈ jtb := jtk_3 160 rfl rfl
set_option maxRecDepth 100000 in
theorem jmX5_293 : Cond.methodLink RX5 293 yX5_nextSeed ∈ jtb := jtk_3 192 rfl rfl
set_option maxRecDepth 100000 in
theorem jmX5_296 : Cond.methodLink RX5 296 yX5_drawnCell ∈ jtb := jtk_3 196 rfl rfl
set_option maxRecDepth 100000 in
theorem jmX5_302 : Cond.methodLink RX5 302 yX5_fitsNumbers ∈ jtb := jtk_3 87 rfl rfl
set_option maxRecDepth 100000 in
theorem jmX5_305 : Cond.methodLink RX5 305 yX4_highestAgeOf ∈ jtb := jtk_3 124 rfl rfl
set_option maxRecDepth 100000 in
theorem jmX5_311 : Cond.methodLink RX5 311 Lib.Math.abs.name ∈ jtb := jtk_2 63 rfl rfl
set_option maxRecDepth 100000 in
theorem jmX5_314 : Cond.methodLink RX5 314 yJ6_compare_7cf53 ∈ jtb := jtk_2 57 rfl rfl
set_option maxRecDepth 100000 in
theorem jmX5_65 : Cond.methodLink RX5 65 yX5_refuse ∈ jtb := jtk_1 182 rfl rfl
set_option maxRecDepth 100000 in
theorem jmX5_69 : Cond.methodLink RX5 69 yX1_areFull ∈ jtb := jtk_1 186 rfl rfl
set_option maxRecDepth 100000 in
theorem jmX5_73 : Cond.methodLink RX5 73 yX1_take ∈ jtb := jtk_1 190 rfl rfl
set_option maxRecDepth 100000 in
theorem jmX5_76 : Cond.methodLink RX5 76 yX4_become ∈ jtb := jtk_1 199 rfl rfl
set_option maxRecDepth 100000 in
theorem jmX5_80 : Cond.methodLink RX5 80 yX1_tell ∈ jtb := jtk_1 206 rfl rfl
set_option maxRecDepth 100000 in
theorem jmX5_84 : Cond.methodLink RX5 84 yX1_drop ∈ jtb := jtk_2 70 rfl rfl
set_option maxRecDepth 100000 in
theorem jmX5_87 : Cond.methodLink RX5 87 yX0_forget ∈ jtb := jtk_2 74 rfl rfl
set_option maxRecDepth 100000 in
theorem jmX5_90 : Cond.methodLink RX5 90 yX4_hasHouse ∈ jtb := jtk_2 82 rfl rfl
set_option maxRecDepth 100000 in
theorem jmX6_103 : Cond.methodLink RX6 103 yX6_stepsOf ∈ jtb := jtk_4 192 rfl rfl
set_option maxRecDepth 100000 in
theorem jmX6_106 : Cond.methodLink RX6 106 yX6_canSee ∈ jtb := jtk_4 184 rfl rfl
set_option maxRecDepth 100000 in
theorem jmX6_110 : Cond.methodLink RX6 110 yX6_minutesOf ∈ jtb := jtk_4 222 rfl rfl
set_option maxRecDepth 100000 in
theorem jmX6_113 : Cond.methodLink RX6 113 yX6_priceOf ∈ jtb := jtk_5 3 rfl rfl
set_option maxRecDepth 100000 in
theorem jmX6_116 : Cond.methodLink RX6 116 yX6_owesBits ∈ jtb := jtk_4 239 rfl rfl
set_option maxRecDepth 100000 in
theorem jmX6_119 : Cond.methodLink RX6 119 yX6_onesOf ∈ jtb := jtk_5 54 rfl rfl
set_option maxRecDepth 100000 in
theorem jmX6_125 : Cond.methodLink RX6 125 yX6_towards ∈ jtb := jtk_4 177 rfl rfl
set_option maxRecDepth 100000 in
theorem jmX6_128 : Cond.methodLink RX6 128 yX6_seenFrom ∈ jtb := jtk_4 180 rfl rfl
set_option maxRecDepth 100000 in
theorem jmX6_131 : Cond.methodLink RX6 131 yX6_hasBit ∈ jtb := jtk_4 198 rfl rfl
set_option maxRecDepth 100000 in
theorem jmX6_135 : Cond.methodLink RX6 135 yX6_eveningBy ∈ jtb := jtk_4 173 rfl rfl
set_option maxRecDepth 100000 in
theorem jmX6_139 : Cond.methodLink RX6 139 yX6_isCell ∈ jtb := jtk_4 153 rfl rfl
set_option maxRecDepth 100000 in
theorem jmX6_143 : Cond.methodLink RX6 143 yX6_refuse ∈ jtb := jtk_4 101 rfl rfl
set_option maxRecDepth 100000 in
theorem jmX6_156 : Cond.methodLink RX6 156 yX6_here ∈ jtb := jtk_4 113 rfl rfl
set_option maxRecDepth 100000 in
theorem jmX6_162 : Cond.methodLink RX6 162 yX6_readDigits ∈ jtb := jtk_4 124 rfl rfl
set_option maxRecDepth 100000 in
theorem jmX6_168 : Cond.methodLink RX6 168 yX6_isLetter ∈ jtb := jtk_4 117 rfl rfl
set_option maxRecDepth 100000 in
theorem jmX6_171 : Cond.methodLink RX6 171 yX6_readNumbers ∈ jtb := jtk_4 120 rfl rfl
set_option maxRecDepth 100000 in
theorem jmX6_175 : Cond.methodLink RX6 175 yX6_houseComes ∈ jtb := jtk_4 149 rfl rfl
set_option maxRecDepth 100000 in
theorem jmX6_178 : Cond.methodLink RX6 178 yX6_walkerComes ∈ jtb := jtk_4 156 rfl rfl
set_option maxRecDepth 100000 in
theorem jmX6_181 : Cond.methodLink RX6 181 yX6_isHouse ∈ jtb := jtk_4 160 rfl rfl
set_option maxRecDepth 100000 in
theorem jmX6_184 : Cond.methodLink RX6 184 yX6_isWalker ∈ jtb := jtk_4 164 rfl rfl
set_option maxRecDepth 100000 in
theorem jmX6_189 : Cond.methodLink RX6 189 yX6_goEvenings ∈ jtb := jtk_4 169 rfl rfl
set_option maxRecDepth 100000 in
theorem jmX6_193 : Cond.methodLink RX6 193 yX6_readStatement ∈ jtb := jtk_4 109 rfl rfl
set_option maxRecDepth 100000 in
theorem jmX6_196 : Cond.methodLink RX6 196 yX6_think ∈ jtb := jtk_4 133 rfl rfl
set_option maxRecDepth 100000 in
theorem jmX6_199 : Cond.methodLink RX6 199 yX6_comesTold ∈ jtb := jtk_4 145 rfl rfl
set_option maxRecDepth 100000 in
theorem jmX6_202 : Cond.methodLink RX6 202 yX6_again ∈ jtb := jtk_4 201 rfl rfl
set_option maxRecDepth 100000 in
theorem jmX6_217 : Cond.methodLink RX6 217 yX6_carry ∈ jtb := jtk_4 141 rfl rfl
set_option maxRecDepth 100000 in
theorem jmX6_220 : Cond.methodLink RX6 220 yX6_carryAll ∈ jtb := jtk_4 137 rfl rfl
set_option maxRecDepth 100000 in
theorem jmX6_229 : Cond.methodLink RX6 229 yX6_owersOf ∈ jtb := jtk_4 226 rfl rfl
set_option maxRecDepth 100000 in
theorem jmX6_232 : Cond.methodLink RX6 232 yX6_seersOf ∈ jtb := jtk_4 230 rfl rfl
set_option maxRecDepth 100000 in
theorem jmX6_237 : Cond.methodLink RX6 237 yX6_wrongBoth ∈ jtb := jtk_5 11 rfl rfl
set_option maxRecDepth 100000 in
theorem jmX6_240 : Cond.methodLink RX6 240 yX6_wrongNumber ∈ jtb := jtk_5 19 rfl rfl
set_option maxRecDepth 100000 in
theorem jmX6_244 : Cond.methodLink RX6 244 yX6_keepTurn ∈ jtb := jtk_5 30 rfl rfl
set_option maxRecDepth 100000 in
theorem jmX6_247 : Cond.methodLink RX6 247 yX6_allDebts ∈ jtb := jtk_5 50 rfl rfl
set_option maxRecDepth 100000 in
theorem jmX6_250 : Cond.methodLink RX6 250 yX6_wrongBit ∈ jtb := jtk_5 61 rfl rfl
set_option maxRecDepth 100000 in
theorem jmX6_253 : Cond.methodLink RX6 253 yX6_allPrices ∈ jtb := jtk_5 68 rfl rfl
set_option maxRecDepth 100000 in
theorem jmX6_259 : Cond.methodLink RX6 259 yX6_beside ∈ jtb := jtk_5 92 rfl rfl
set_option maxRecDepth 100000 in
theorem jmX6_262 : Cond.methodLink RX6 262 yX6_layWays ∈ jtb := jtk_5 88 rfl rfl
set_option maxRecDepth 100000 in
theorem jmX6_265 : Cond.methodLink RX6 265 yX6_layPaying ∈ jtb := jtk_5 99 rfl rfl
set_option maxRecDepth 100000 in
theorem jmX6_268 : Cond.methodLink RX6 268 yX6_nextOn ∈ jtb := jtk_5 103 rfl rfl
set_option maxRecDepth 100000 in
theorem jmX6_272 : Cond.methodLink RX6 272 yX6_heavyPrices ∈ jtb := jtk_5 124 rfl rfl
set_option maxRecDepth 100000 in
theorem jmX6_278 : Cond.methodLink RX6 278 yX6_isRow ∈ jtb := jtk_5 140 rfl rfl
set_option maxRecDepth 100000 in
theorem jmX6_281 : Cond.methodLink RX6 281 yX6_divisor ∈ jtb := jtk_5 156 rfl rfl
set_option maxRecDepth 100000 in
theorem jmX6_287 : Cond.methodLink RX6 287 yX6_partOf ∈ jtb := jtk_5 153 rfl rfl
set_option maxRecDepth 100000 in
theorem jmX6_291 : Cond.methodLink RX6 291 yX6_oldestAge ∈ jtb := jtk_5 163 rfl rfl
set_option maxRecDepth 100000 in
theorem jmX6_294 : Cond.methodLink RX6 294 yX6_oldestBy ∈ jtb := jtk_5 167 rfl rfl
set_option maxRecDepth 100000 in
theorem jmX6_297 : Cond.methodLink RX6 297 yX6_laneTwos ∈ jtb := jtk_5 171 rfl rfl
set_option maxRecDepth 100000 in
theorem jmX6_300 : Cond.methodLink RX6 300 yX6_darkBits ∈ jtb := jtk_5 175 rfl rfl
set_option maxRecDepth 100000 in
theorem jmX6_311 : Cond.methodLink RX6 311 yX6_drawBelow ∈ jtb := jtk_5 228 rfl rfl
set_option maxRecDepth 100000 in
theorem jmX6_85 : Cond.methodLink RX6 85 yX6_in ∈ jtb := jtk_4 130 rfl rfl
set_option maxRecDepth 100000 in
theorem jmX6_95 : Cond.methodLink RX6 95 yX6_apartBy ∈ jtb := jtk_4 195 rfl rfl
set_option maxRecDepth 100000 in
theorem jmX6_99 : Cond.methodLink RX6 99 yX6_reachOf ∈ jtb := jtk_4 188 rfl rfl
set_option maxRecDepth 100000 in
theorem jnatS : Cond.native arraycopyName ∈ jtb := jtk_1 205 rfl rfl
set_option maxRecDepth 100000 in
theorem js_J6_bitCount_0f7a4 : Cond.static yJ6_bitCount_0f7a4 ∈ jtb := jtk_2 176 rfl rfl
set_option maxRecDepth 100000 in
theorem js_J6_compare_7cf53 : Cond.static yJ6_compare_7cf53 ∈ jtb := jtk_2 58 rfl rfl
set_option maxRecDepth 100000 in
theorem js_X1_digitsBehind : Cond.static yX1_digitsBehind ∈ jtb := jtk_1 215 rfl rfl
set_option maxRecDepth 100000 in
theorem js_X3_shortestOver : Cond.static yX3_shortestOver ∈ jtb := jtk_3 5 rfl rfl
set_option maxRecDepth 100000 in
theorem js_X5_drawnCell : Cond.static yX5_drawnCell ∈ jtb := jtk_3 197 rfl rfl
set_option maxRecDepth 100000 in
theorem js_X5_isCell : Cond.static yX5_isCell ∈ jtb := jtk_1 234 rfl rfl
set_option maxRecDepth 100000 in
theorem js_X5_minutes : Cond.static yX5_minutes ∈ jtb := jtk_2 90 rfl rfl
set_option maxRecDepth 100000 in
theorem js_X5_nextSeed : Cond.static yX5_nextSeed ∈ jtb := jtk_3 193 rfl rfl
set_option maxRecDepth 100000 in
theorem js_X5_reach : Cond.static yX5_reach ∈ jtb := jtk_2 52 rfl rfl
set_option maxRecDepth 100000 in
theorem js_X5_stepTowards : Cond.static yX5_stepTowards ∈ jtb := jtk_2 55 rfl rfl
set_option maxRecDepth 100000 in
theorem js_X5_steps : Cond.static yX5_steps ∈ jtb := jtk_2 61 rfl rfl
set_option maxRecDepth 100000 in
theorem js_X6_apartBy : Cond.static yX6_apartBy ∈ jtb := jtk_4 196 rfl rfl
set_option maxRecDepth 100000 in
theorem js_X6_beside : Cond.static yX6_beside ∈ jtb := jtk_5 93 rfl rfl
set_option maxRecDepth 100000 in
theorem js_X6_divisor : Cond.static yX6_divisor ∈ jtb := jtk_5 157 rfl rfl
set_option maxRecDepth 100000 in
theorem js_X6_hasBit : Cond.static yX6_hasBit ∈ jtb := jtk_4 199 rfl rfl
set_option maxRecDepth 100000 in
theorem js_X6_in : Cond.static yX6_in ∈ jtb := jtk_4 131 rfl rfl
set_option maxRecDepth 100000 in
theorem js_X6_isCell : Cond.static yX6_isCell ∈ jtb := jtk_4 154 rfl rfl
set_option maxRecDepth 100000 in
theorem js_X6_isLetter : Cond.static yX6_isLetter ∈ jtb := jtk_4 118 rfl rfl
set_option maxRecDepth 100000 in
theorem js_X6_onesOf : Cond.static yX6_onesOf ∈ jtb := jtk_5 55 rfl rfl
set_option maxRecDepth 100000 in
theorem js_X6_partOf : Cond.static yX6_partOf ∈ jtb := jtk_5 154 rfl rfl
set_option maxRecDepth 100000 in
theorem js_X6_stepsOf : Cond.static yX6_stepsOf ∈ jtb := jtk_4 193 rfl rfl
set_option maxRecDepth 100000 in
theorem js_X6_towards : Cond.static yX6_towards ∈ jtb := jtk_4 178 rfl rfl
set_option maxRecDepth 100000 in
theorem js_X6_wrongBit : Cond.static yX6_wrongBit ∈ jtb := jtk_5 62 rfl rfl
set_option maxRecDepth 100000 in
theorem js_X6_wrongNumber : Cond.static yX6_wrongNumber ∈ jtb := jtk_5 20 rfl rfl
set_option maxRecDepth 100000 in
theorem jstM_abs : Cond.static Lib.Math.abs.name ∈ jtb := jtk_2 64 rfl rfl
set_option maxRecDepth 100000 in
theorem jstM_max : Cond.static Lib.Math.max.name ∈ jtb := jtk_3 129 rfl rfl
set_option maxRecDepth 100000 in
theorem jstM_min : Cond.static Lib.Math.min.name ∈ jtb := jtk_2 37 rfl rfl
set_option maxRecDepth 100000 in
theorem jstS : Cond.static arraycopyName ∈ jtb := jtk_1 204 rfl rfl
set_option maxRecDepth 100000 in
theorem jw_J6_bitCount_0f7a4 : jvw yJ6_bitCount_0f7a4 cJ6_bitCount_0f7a4 1 (some .int) 1 := ⟨jtk_2 177 rfl rfl, jtk_1 11 rfl rfl, by decide +kernel⟩
set_option maxRecDepth 100000 in
theorem jw_J6_compare_7cf53 : jvw yJ6_compare_7cf53 cJ6_compare_7cf53 2 (some .int) 2 := ⟨jtk_2 59 rfl rfl, jtk_1 11 rfl rfl, by decide +kernel⟩
set_option maxRecDepth 100000 in
theorem jw_X0_forget : jvw yX0_forget cX0_forget 1 none 0 := ⟨jtk_2 77 rfl rfl, jtk_1 4 rfl rfl, by decide +kernel⟩
set_option maxRecDepth 100000 in
theorem jw_X0_keep : jvw yX0_keep cX0_keep 2 none 1 := ⟨jtk_2 146 rfl rfl, jtk_1 4 rfl rfl, by decide +kernel⟩
set_option maxRecDepth 100000 in
theorem jw_X0_takeBack : jvw yX0_takeBack cX0_takeBack 2 none 1 := ⟨jtk_2 188 rfl rfl, jtk_1 4 rfl rfl, by decide +kernel⟩
set_option maxRecDepth 100000 in
theorem jw_X1_areFull : jvw yX1_areFull cX1_areFull 1 (some .boolean) 0 := ⟨jtk_1 189 rfl rfl, jtk_1 5 rfl rfl, by decide +kernel⟩
set_option maxRecDepth 100000 in
theorem jw_X1_digit : jvw yX1_digit cX1_digit 2 (some .int) 1 := ⟨jtk_1 224 rfl rfl, jtk_1 5 rfl rfl, by decide +kernel⟩
set_option maxRecDepth 100000 in
theorem jw_X1_digitsBehind : jvw yX1_digitsBehind cX1_digitsBehind 1 (some .int) 1 := ⟨jtk_1 216 rfl rfl, jtk_1 5 rfl rfl, by decide +kernel⟩
set_option maxRecDepth 100000 in
theorem jw_X1_drop : jvw yX1_drop cX1_drop 1 none 0 := ⟨jtk_2 73 rfl rfl, jtk_1 5 rfl rfl, by decide +kernel⟩
set_option maxRecDepth 100000 in
theorem jw_X1_firstMisspelt : jvw yX1_firstMisspelt cX1_firstMisspelt 5 (some .int) 0 := ⟨jtk_1 213 rfl rfl, jtk_1 5 rfl rfl, by decide +kernel⟩
set_option maxRecDepth 100000 in
theorem jw_X1_pair : jvw yX1_pair cX1_pair 2 (some .int) 1 := ⟨jtk_1 228 rfl rfl, jtk_1 5 rfl rfl, by decide +kernel⟩
set_option maxRecDepth 100000 in
theorem jw_X1_take : jvw yX1_take cX1_take 2 (some .int) 1 := ⟨jtk_1 193 rfl rfl, jtk_1 5 rfl rfl, by decide +kernel⟩
set_option maxRecDepth 100000 in
theorem jw_X1_tell : jvw yX1_tell cX1_tell 6 (some .int) 1 := ⟨jtk_1 209 rfl rfl, jtk_1 5 rfl rfl, by decide +kernel⟩
set_option maxRecDepth 100000 in
theorem jw_X1_tellStatement : jvw yX1_tellStatement cX1_tellStatement 3 (some .boolean) 2 := ⟨jtk_1 220 rfl rfl, jtk_1 5 rfl rfl, by decide +kernel⟩
set_option maxRecDepth 100000 in
theorem jw_X2_fewest : jvw yX2_fewest cX2_fewest 5 (some .int) 3 := ⟨jtk_3 22 rfl rfl, jtk_1 7 rfl rfl, by decide +kernel⟩
set_option maxRecDepth 100000 in
theorem jw_X2_nextDoor : jvw yX2_nextDoor cX2_nextDoor 8 (some .int) 3 := ⟨jtk_3 26 rfl rfl, jtk_1 7 rfl rfl, by decide +kernel⟩
set_option maxRecDepth 100000 in
theorem jw_X2_plan : jvw yX2_plan cX2_plan 5 none 2 := ⟨jtk_3 17 rfl rfl, jtk_1 7 rfl rfl, by decide +kernel⟩
set_option maxRecDepth 100000 in
theorem jw_X2_stepsBy : jvw yX2_stepsBy cX2_stepsBy 5 (some .int) 4 := ⟨jtk_3 30 rfl rfl, jtk_1 7 rfl rfl, by decide +kernel⟩
set_option maxRecDepth 100000 in
theorem jw_X2_stop : jvw yX2_stop cX2_stop 8 (some .int) 3 := ⟨jtk_3 36 rfl rfl, jtk_1 7 rfl rfl, by decide +kernel⟩
set_option maxRecDepth 100000 in
theorem jw_X3_find : jvw yX3_find cX3_find 8 none 3 := ⟨jtk_2 232 rfl rfl, jtk_1 6 rfl rfl, by decide +kernel⟩
set_option maxRecDepth 100000 in
theorem jw_X3_openCells : jvw yX3_openCells cX3_openCells 5 (some .long) 1 := ⟨jtk_3 3 rfl rfl, jtk_1 6 rfl rfl, by decide +kernel⟩
set_option maxRecDepth 100000 in
theorem jw_X3_shortestAt : jvw yX3_shortestAt cX3_shortestAt 8 (some .int) 4 := ⟨jtk_2 238 rfl rfl, jtk_1 6 rfl rfl, by decide +kernel⟩
set_option maxRecDepth 100000 in
theorem jw_X3_shortestOver : jvw yX3_shortestOver cX3_shortestOver 10 (some .int) 3 := ⟨jtk_3 6 rfl rfl, jtk_1 6 rfl rfl, by decide +kernel⟩
set_option maxRecDepth 100000 in
theorem jw_X4_addDebt : jvw yX4_addDebt cX4_addDebt 3 (some .boolean) 2 := ⟨jtk_2 19 rfl rfl, jtk_1 2 rfl rfl, by decide +kernel⟩
set_option maxRecDepth 100000 in
theorem jw_X4_addHouse : jvw yX4_addHouse cX4_addHouse 4 (some .boolean) 3 := ⟨jtk_1 232 rfl rfl, jtk_1 2 rfl rfl, by decide +kernel⟩
set_option maxRecDepth 100000 in
theorem jw_X4_addWalker : jvw yX4_addWalker cX4_addWalker 4 (some .boolean) 3 := ⟨jtk_1 239 rfl rfl, jtk_1 2 rfl rfl, by decide +kernel⟩
set_option maxRecDepth 100000 in
theorem jw_X4_ageBehind : jvw yX4_ageBehind cX4_ageBehind 6 (some .int) 3 := ⟨jtk_2 35 rfl rfl, jtk_1 2 rfl rfl, by decide +kernel⟩
set_option maxRecDepth 100000 in
theorem jw_X4_aim : jvw yX4_aim cX4_aim 3 (some .boolean) 2 := ⟨jtk_2 11 rfl rfl, jtk_1 2 rfl rfl, by decide +kernel⟩
set_option maxRecDepth 100000 in
theorem jw_X4_become : jvw yX4_become cX4_become 2 none 1 := ⟨jtk_1 202 rfl rfl, jtk_1 2 rfl rfl, by decide +kernel⟩
set_option maxRecDepth 100000 in
theorem jw_X4_burden : jvw yX4_burden cX4_burden 4 (some .int) 0 := ⟨jtk_3 61 rfl rfl, jtk_1 2 rfl rfl, by decide +kernel⟩
set_option maxRecDepth 100000 in
theorem jw_X4_debtsBehind : jvw yX4_debtsBehind cX4_debtsBehind 4 (some .int) 1 := ⟨jtk_2 173 rfl rfl, jtk_1 2 rfl rfl, by decide +kernel⟩
set_option maxRecDepth 100000 in
theorem jw_X4_firstSighting : jvw yX4_firstSighting cX4_firstSighting 7 (some .int) 3 := ⟨jtk_2 42 rfl rfl, jtk_1 2 rfl rfl, by decide +kernel⟩
set_option maxRecDepth 100000 in
theorem jw_X4_hasHouse : jvw yX4_hasHouse cX4_hasHouse 2 (some .boolean) 1 := ⟨jtk_2 7 rfl rfl, jtk_1 2 rfl rfl, by decide +kernel⟩
set_option maxRecDepth 100000 in
theorem jw_X4_hasWalker : jvw yX4_hasWalker cX4_hasWalker 2 (some .boolean) 1 := ⟨jtk_2 15 rfl rfl, jtk_1 2 rfl rfl, by decide +kernel⟩
set_option maxRecDepth 100000 in
theorem jw_X4_highestAgeOf : jvw yX4_highestAgeOf cX4_highestAgeOf 4 (some .int) 1 := ⟨jtk_3 127 rfl rfl, jtk_1 2 rfl rfl, by decide +kernel⟩
set_option maxRecDepth 100000 in
theorem jw_X4_isLit : jvw yX4_isLit cX4_isLit 2 (some .boolean) 1 := ⟨jtk_2 50 rfl rfl, jtk_1 2 rfl rfl, by decide +kernel⟩
set_option maxRecDepth 100000 in
theorem jw_X4_minutesBehind : jvw yX4_minutesBehind cX4_minutesBehind 5 (some .int) 3 := ⟨jtk_2 120 rfl rfl, jtk_1 2 rfl rfl, by decide +kernel⟩
set_option maxRecDepth 100000 in
theorem jw_X4_minutesOf : jvw yX4_minutesOf cX4_minutesOf 3 (some .int) 2 := ⟨jtk_2 88 rfl rfl, jtk_1 2 rfl rfl, by decide +kernel⟩
set_option maxRecDepth 100000 in
theorem jw_X4_owersBehind : jvw yX4_owersBehind cX4_owersBehind 5 (some .int) 2 := ⟨jtk_2 95 rfl rfl, jtk_1 2 rfl rfl, by decide +kernel⟩
set_option maxRecDepth 100000 in
theorem jw_X4_owes : jvw yX4_owes cX4_owes 3 (some .boolean) 2 := ⟨jtk_2 23 rfl rfl, jtk_1 2 rfl rfl, by decide +kernel⟩
set_option maxRecDepth 100000 in
theorem jw_X4_owesBehind : jvw yX4_owesBehind cX4_owesBehind 5 (some .int) 2 := ⟨jtk_2 108 rfl rfl, jtk_1 2 rfl rfl, by decide +kernel⟩
set_option maxRecDepth 100000 in
theorem jw_X4_pass : jvw yX4_pass cX4_pass 4 (some .boolean) 1 := ⟨jtk_2 31 rfl rfl, jtk_1 2 rfl rfl, by decide +kernel⟩
set_option maxRecDepth 100000 in
theorem jw_X4_placeBehind : jvw yX4_placeBehind cX4_placeBehind 5 (some .int) 2 := ⟨jtk_2 69 rfl rfl, jtk_1 2 rfl rfl, by decide +kernel⟩
set_option maxRecDepth 100000 in
theorem jw_X4_priceBehind : jvw yX4_priceBehind cX4_priceBehind 5 (some .int) 2 := ⟨jtk_2 116 rfl rfl, jtk_1 2 rfl rfl, by decide +kernel⟩
set_option maxRecDepth 100000 in
theorem jw_X4_pricesBehind : jvw yX4_pricesBehind cX4_pricesBehind 5 (some .int) 1 := ⟨jtk_2 201 rfl rfl, jtk_1 2 rfl rfl, by decide +kernel⟩
set_option maxRecDepth 100000 in
theorem jw_X4_rangeOf : jvw yX4_rangeOf cX4_rangeOf 4 (some .int) 2 := ⟨jtk_2 46 rfl rfl, jtk_1 2 rfl rfl, by decide +kernel⟩
set_option maxRecDepth 100000 in
theorem jw_X4_seenBy : jvw yX4_seenBy cX4_seenBy 4 (some .int) 1 := ⟨jtk_2 99 rfl rfl, jtk_1 2 rfl rfl, by decide +kernel⟩
set_option maxRecDepth 100000 in
theorem jw_X4_seesFrom : jvw yX4_seesFrom cX4_seesFrom 5 (some .int) 2 := ⟨jtk_2 112 rfl rfl, jtk_1 2 rfl rfl, by decide +kernel⟩
set_option maxRecDepth 100000 in
theorem jw_X4_setCandle : jvw yX4_setCandle cX4_setCandle 1 (some .int) 0 := ⟨jtk_3 49 rfl rfl, jtk_1 2 rfl rfl, by decide +kernel⟩
set_option maxRecDepth 100000 in
theorem jw_X4_setDebt : jvw yX4_setDebt cX4_setDebt 4 none 3 := ⟨jtk_2 27 rfl rfl, jtk_1 2 rfl rfl, by decide +kernel⟩
set_option maxRecDepth 100000 in
theorem jw_X4_sightings : jvw yX4_sightings cX4_sightings 6 (some .int) 3 := ⟨jtk_3 115 rfl rfl, jtk_1 2 rfl rfl, by decide +kernel⟩
set_option maxRecDepth 100000 in
theorem jw_X4_turn : jvw yX4_turn cX4_turn 2 (some .boolean) 1 := ⟨jtk_2 3 rfl rfl, jtk_1 2 rfl rfl, by decide +kernel⟩
set_option maxRecDepth 100000 in
theorem jw_X5_bestShutter : jvw yX5_bestShutter cX5_bestShutter 5 (some .int) 2 := ⟨jtk_3 102 rfl rfl, jtk_1 1 rfl rfl, by decide +kernel⟩
set_option maxRecDepth 100000 in
theorem jw_X5_debtless : jvw yX5_debtless cX5_debtless 3 (some .int) 0 := ⟨jtk_3 74 rfl rfl, jtk_1 1 rfl rfl, by decide +kernel⟩
set_option maxRecDepth 100000 in
theorem jw_X5_debtor : jvw yX5_debtor cX5_debtor 5 (some .int) 0 := ⟨jtk_2 224 rfl rfl, jtk_1 1 rfl rfl, by decide +kernel⟩
set_option maxRecDepth 100000 in
theorem jw_X5_drawnCell : jvw yX5_drawnCell cX5_drawnCell 1 (some .int) 1 := ⟨jtk_3 198 rfl rfl, jtk_1 1 rfl rfl, by decide +kernel⟩
set_option maxRecDepth 100000 in
theorem jw_X5_eveningsOfNewDebts : jvw yX5_eveningsOfNewDebts cX5_eveningsOfNewDebts 6 (some .long) 0 := ⟨jtk_3 163 rfl rfl, jtk_1 1 rfl rfl, by decide +kernel⟩
set_option maxRecDepth 100000 in
theorem jw_X5_fitsNumbers : jvw yX5_fitsNumbers cX5_fitsNumbers 5 (some .boolean) 2 := ⟨jtk_3 90 rfl rfl, jtk_1 1 rfl rfl, by decide +kernel⟩
set_option maxRecDepth 100000 in
theorem jw_X5_fittingFigures : jvw yX5_fittingFigures cX5_fittingFigures 5 (some .int) 2 := ⟨jtk_3 94 rfl rfl, jtk_1 1 rfl rfl, by decide +kernel⟩
set_option maxRecDepth 100000 in
theorem jw_X5_fittingKinds : jvw yX5_fittingKinds cX5_fittingKinds 5 (some .int) 2 := ⟨jtk_3 86 rfl rfl, jtk_1 1 rfl rfl, by decide +kernel⟩
set_option maxRecDepth 100000 in
theorem jw_X5_highestAge : jvw yX5_highestAge cX5_highestAge 3 (some .int) 0 := ⟨jtk_3 123 rfl rfl, jtk_1 1 rfl rfl, by decide +kernel⟩
set_option maxRecDepth 100000 in
theorem jw_X5_isCell : jvw yX5_isCell cX5_isCell 1 (some .boolean) 1 := ⟨jtk_1 235 rfl rfl, jtk_1 1 rfl rfl, by decide +kernel⟩
set_option maxRecDepth 100000 in
theorem jw_X5_lane : jvw yX5_lane cX5_lane 5 (some .int) 0 := ⟨jtk_3 139 rfl rfl, jtk_1 1 rfl rfl, by decide +kernel⟩
set_option maxRecDepth 100000 in
theorem jw_X5_longestOwing : jvw yX5_longestOwing cX5_longestOwing 3 (some .int) 0 := ⟨jtk_3 135 rfl rfl, jtk_1 1 rfl rfl, by decide +kernel⟩
set_option maxRecDepth 100000 in
theorem jw_X5_minutes : jvw yX5_minutes cX5_minutes 4 (some .int) 3 := ⟨jtk_2 91 rfl rfl, jtk_1 1 rfl rfl, by decide +kernel⟩
set_option maxRecDepth 100000 in
theorem jw_X5_mostOwed : jvw yX5_mostOwed cX5_mostOwed 5 (some .int) 0 := ⟨jtk_2 219 rfl rfl, jtk_1 1 rfl rfl, by decide +kernel⟩
set_option maxRecDepth 100000 in
theorem jw_X5_nextSeed : jvw yX5_nextSeed cX5_nextSeed 1 (some .int) 1 := ⟨jtk_3 194 rfl rfl, jtk_1 1 rfl rfl, by decide +kernel⟩
set_option maxRecDepth 100000 in
theorem jw_X5_owedByOne : jvw yX5_owedByOne cX5_owedByOne 3 (some .int) 0 := ⟨jtk_3 78 rfl rfl, jtk_1 1 rfl rfl, by decide +kernel⟩
set_option maxRecDepth 100000 in
theorem jw_X5_reach : jvw yX5_reach cX5_reach 2 (some .int) 2 := ⟨jtk_2 53 rfl rfl, jtk_1 1 rfl rfl, by decide +kernel⟩
set_option maxRecDepth 100000 in
theorem jw_X5_refuse : jvw yX5_refuse cX5_refuse 2 (some .int) 1 := ⟨jtk_1 185 rfl rfl, jtk_1 1 rfl rfl, by decide +kernel⟩
set_option maxRecDepth 100000 in
theorem jw_X5_refuseLong : jvw yX5_refuseLong cX5_refuseLong 2 (some .long) 1 := ⟨jtk_3 110 rfl rfl, jtk_1 1 rfl rfl, by decide +kernel⟩
set_option maxRecDepth 100000 in
theorem jw_X5_stepTowards : jvw yX5_stepTowards cX5_stepTowards 2 (some .int) 2 := ⟨jtk_2 56 rfl rfl, jtk_1 1 rfl rfl, by decide +kernel⟩
set_option maxRecDepth 100000 in
theorem jw_X5_steps : jvw yX5_steps cX5_steps 2 (some .int) 2 := ⟨jtk_2 62 rfl rfl, jtk_1 1 rfl rfl, by decide +kernel⟩
set_option maxRecDepth 100000 in
theorem jw_X6_again : jvw yX6_again cX6_again 1 none 0 := ⟨jtk_4 204 rfl rfl, jtk_1 8 rfl rfl, by decide +kernel⟩
set_option maxRecDepth 100000 in
theorem jw_X6_allDebts : jvw yX6_allDebts cX6_allDebts 3 (some .int) 0 := ⟨jtk_5 53 rfl rfl, jtk_1 8 rfl rfl, by decide +kernel⟩
set_option maxRecDepth 100000 in
theorem jw_X6_allPrices : jvw yX6_allPrices cX6_allPrices 3 (some .int) 0 := ⟨jtk_5 71 rfl rfl, jtk_1 8 rfl rfl, by decide +kernel⟩
set_option maxRecDepth 100000 in
theorem jw_X6_apartBy : jvw yX6_apartBy cX6_apartBy 2 (some .int) 2 := ⟨jtk_4 197 rfl rfl, jtk_1 8 rfl rfl, by decide +kernel⟩
set_option maxRecDepth 100000 in
theorem jw_X6_beside : jvw yX6_beside cX6_beside 2 (some .int) 2 := ⟨jtk_5 94 rfl rfl, jtk_1 8 rfl rfl, by decide +kernel⟩
set_option maxRecDepth 100000 in
theorem jw_X6_canSee : jvw yX6_canSee cX6_canSee 5 (some .boolean) 3 := ⟨jtk_4 187 rfl rfl, jtk_1 8 rfl rfl, by decide +kernel⟩
set_option maxRecDepth 100000 in
theorem jw_X6_carry : jvw yX6_carry cX6_carry 2 (some .int) 1 := ⟨jtk_4 144 rfl rfl, jtk_1 8 rfl rfl, by decide +kernel⟩
set_option maxRecDepth 100000 in
theorem jw_X6_carryAll : jvw yX6_carryAll cX6_carryAll 4 none 2 := ⟨jtk_4 140 rfl rfl, jtk_1 8 rfl rfl, by decide +kernel⟩
set_option maxRecDepth 100000 in
theorem jw_X6_comesTold : jvw yX6_comesTold cX6_comesTold 6 (some .boolean) 1 := ⟨jtk_4 148 rfl rfl, jtk_1 8 rfl rfl, by decide +kernel⟩
set_option maxRecDepth 100000 in
theorem jw_X6_darkBits : jvw yX6_darkBits cX6_darkBits 3 (some .int) 0 := ⟨jtk_5 178 rfl rfl, jtk_1 8 rfl rfl, by decide +kernel⟩
set_option maxRecDepth 100000 in
theorem jw_X6_divisor : jvw yX6_divisor cX6_divisor 10 (some .long) 2 := ⟨jtk_5 158 rfl rfl, jtk_1 8 rfl rfl, by decide +kernel⟩
set_option maxRecDepth 100000 in
theorem jw_X6_drawBelow : jvw yX6_drawBelow cX6_drawBelow 2 (some .int) 1 := ⟨jtk_5 231 rfl rfl, jtk_1 8 rfl rfl, by decide +kernel⟩
set_option maxRecDepth 100000 in
theorem jw_X6_eveningBy : jvw yX6_eveningBy cX6_eveningBy 5 none 1 := ⟨jtk_4 176 rfl rfl, jtk_1 8 rfl rfl, by decide +kernel⟩
set_option maxRecDepth 100000 in
theorem jw_X6_goEvenings : jvw yX6_goEvenings cX6_goEvenings 3 none 1 := ⟨jtk_4 172 rfl rfl, jtk_1 8 rfl rfl, by decide +kernel⟩
set_option maxRecDepth 100000 in
theorem jw_X6_hasBit : jvw yX6_hasBit cX6_hasBit 2 (some .boolean) 2 := ⟨jtk_4 200 rfl rfl, jtk_1 8 rfl rfl, by decide +kernel⟩
set_option maxRecDepth 100000 in
theorem jw_X6_heavyPrices : jvw yX6_heavyPrices cX6_heavyPrices 4 (some .int) 0 := ⟨jtk_5 127 rfl rfl, jtk_1 8 rfl rfl, by decide +kernel⟩
set_option maxRecDepth 100000 in
theorem jw_X6_here : jvw yX6_here cX6_here 1 (some .int) 0 := ⟨jtk_4 116 rfl rfl, jtk_1 8 rfl rfl, by decide +kernel⟩
set_option maxRecDepth 100000 in
theorem jw_X6_houseComes : jvw yX6_houseComes cX6_houseComes 6 (some .boolean) 3 := ⟨jtk_4 152 rfl rfl, jtk_1 8 rfl rfl, by decide +kernel⟩
set_option maxRecDepth 100000 in
theorem jw_X6_in : jvw yX6_in cX6_in 6 (some .boolean) 3 := ⟨jtk_4 132 rfl rfl, jtk_1 8 rfl rfl, by decide +kernel⟩
set_option maxRecDepth 100000 in
theorem jw_X6_isCell : jvw yX6_isCell cX6_isCell 1 (some .boolean) 1 := ⟨jtk_4 155 rfl rfl, jtk_1 8 rfl rfl, by decide +kernel⟩
set_option maxRecDepth 100000 in
theorem jw_X6_isHouse : jvw yX6_isHouse cX6_isHouse 2 (some .boolean) 1 := ⟨jtk_4 163 rfl rfl, jtk_1 8 rfl rfl, by decide +kernel⟩
set_option maxRecDepth 100000 in
theorem jw_X6_isLetter : jvw yX6_isLetter cX6_isLetter 1 (some .boolean) 1 := ⟨jtk_4 119 rfl rfl, jtk_1 8 rfl rfl, by decide +kernel⟩
set_option maxRecDepth 100000 in
theorem jw_X6_isRow : jvw yX6_isRow cX6_isRow 6 (some .boolean) 2 := ⟨jtk_5 143 rfl rfl, jtk_1 8 rfl rfl, by decide +kernel⟩
set_option maxRecDepth 100000 in
theorem jw_X6_isWalker : jvw yX6_isWalker cX6_isWalker 2 (some .boolean) 1 := ⟨jtk_4 167 rfl rfl, jtk_1 8 rfl rfl, by decide +kernel⟩
set_option maxRecDepth 100000 in
theorem jw_X6_keepTurn : jvw yX6_keepTurn cX6_keepTurn 2 none 0 := ⟨jtk_5 33 rfl rfl, jtk_1 8 rfl rfl, by decide +kernel⟩
set_option maxRecDepth 100000 in
theorem jw_X6_laneTwos : jvw yX6_laneTwos cX6_laneTwos 4 (some .int) 0 := ⟨jtk_5 174 rfl rfl, jtk_1 8 rfl rfl, by decide +kernel⟩
set_option maxRecDepth 100000 in
theorem jw_X6_layPaying : jvw yX6_layPaying cX6_layPaying 6 none 0 := ⟨jtk_5 102 rfl rfl, jtk_1 8 rfl rfl, by decide +kernel⟩
set_option maxRecDepth 100000 in
theorem jw_X6_layWays : jvw yX6_layWays cX6_layWays 7 none 1 := ⟨jtk_5 91 rfl rfl, jtk_1 8 rfl rfl, by decide +kernel⟩
set_option maxRecDepth 100000 in
theorem jw_X6_minutesOf : jvw yX6_minutesOf cX6_minutesOf 4 (some .int) 2 := ⟨jtk_4 225 rfl rfl, jtk_1 8 rfl rfl, by decide +kernel⟩
set_option maxRecDepth 100000 in
theorem jw_X6_nextOn : jvw yX6_nextOn cX6_nextOn 4 (some .int) 2 := ⟨jtk_5 106 rfl rfl, jtk_1 8 rfl rfl, by decide +kernel⟩
set_option maxRecDepth 100000 in
theorem jw_X6_oldestAge : jvw yX6_oldestAge cX6_oldestAge 4 (some .int) 0 := ⟨jtk_5 166 rfl rfl, jtk_1 8 rfl rfl, by decide +kernel⟩
set_option maxRecDepth 100000 in
theorem jw_X6_oldestBy : jvw yX6_oldestBy cX6_oldestBy 4 (some .int) 0 := ⟨jtk_5 170 rfl rfl, jtk_1 8 rfl rfl, by decide +kernel⟩
set_option maxRecDepth 100000 in
theorem jw_X6_onesOf : jvw yX6_onesOf cX6_onesOf 3 (some .int) 1 := ⟨jtk_5 56 rfl rfl, jtk_1 8 rfl rfl, by decide +kernel⟩
set_option maxRecDepth 100000 in
theorem jw_X6_owersOf : jvw yX6_owersOf cX6_owersOf 4 (some .int) 1 := ⟨jtk_4 229 rfl rfl, jtk_1 8 rfl rfl, by decide +kernel⟩
set_option maxRecDepth 100000 in
theorem jw_X6_owesBits : jvw yX6_owesBits cX6_owesBits 4 (some .int) 1 := ⟨jtk_5 2 rfl rfl, jtk_1 8 rfl rfl, by decide +kernel⟩
set_option maxRecDepth 100000 in
theorem jw_X6_partOf : jvw yX6_partOf cX6_partOf 7 (some .long) 3 := ⟨jtk_5 155 rfl rfl, jtk_1 8 rfl rfl, by decide +kernel⟩
set_option maxRecDepth 100000 in
theorem jw_X6_priceOf : jvw yX6_priceOf cX6_priceOf 5 (some .int) 1 := ⟨jtk_5 6 rfl rfl, jtk_1 8 rfl rfl, by decide +kernel⟩
set_option maxRecDepth 100000 in
theorem jw_X6_reachOf : jvw yX6_reachOf cX6_reachOf 2 (some .int) 1 := ⟨jtk_4 191 rfl rfl, jtk_1 8 rfl rfl, by decide +kernel⟩
set_option maxRecDepth 100000 in
theorem jw_X6_readDigits : jvw yX6_readDigits cX6_readDigits 4 (some .int) 1 := ⟨jtk_4 127 rfl rfl, jtk_1 8 rfl rfl, by decide +kernel⟩
set_option maxRecDepth 100000 in
theorem jw_X6_readNumbers : jvw yX6_readNumbers cX6_readNumbers 3 none 2 := ⟨jtk_4 123 rfl rfl, jtk_1 8 rfl rfl, by decide +kernel⟩
set_option maxRecDepth 100000 in
theorem jw_X6_readStatement : jvw yX6_readStatement cX6_readStatement 3 none 0 := ⟨jtk_4 112 rfl rfl, jtk_1 8 rfl rfl, by decide +kernel⟩
set_option maxRecDepth 100000 in
theorem jw_X6_refuse : jvw yX6_refuse cX6_refuse 2 (some .int) 1 := ⟨jtk_4 104 rfl rfl, jtk_1 8 rfl rfl, by decide +kernel⟩
set_option maxRecDepth 100000 in
theorem jw_X6_seenFrom : jvw yX6_seenFrom cX6_seenFrom 5 (some .int) 2 := ⟨jtk_4 183 rfl rfl, jtk_1 8 rfl rfl, by decide +kernel⟩
set_option maxRecDepth 100000 in
theorem jw_X6_seersOf : jvw yX6_seersOf cX6_seersOf 4 (some .int) 1 := ⟨jtk_4 233 rfl rfl, jtk_1 8 rfl rfl, by decide +kernel⟩
set_option maxRecDepth 100000 in
theorem jw_X6_stepsOf : jvw yX6_stepsOf cX6_stepsOf 2 (some .int) 2 := ⟨jtk_4 194 rfl rfl, jtk_1 8 rfl rfl, by decide +kernel⟩
set_option maxRecDepth 100000 in
theorem jw_X6_think : jvw yX6_think cX6_think 1 none 0 := ⟨jtk_4 136 rfl rfl, jtk_1 8 rfl rfl, by decide +kernel⟩
set_option maxRecDepth 100000 in
theorem jw_X6_towards : jvw yX6_towards cX6_towards 2 (some .int) 2 := ⟨jtk_4 179 rfl rfl, jtk_1 8 rfl rfl, by decide +kernel⟩
set_option maxRecDepth 100000 in
theorem jw_X6_walkerComes : jvw yX6_walkerComes cX6_walkerComes 6 (some .boolean) 3 := ⟨jtk_4 159 rfl rfl, jtk_1 8 rfl rfl, by decide +kernel⟩
set_option maxRecDepth 100000 in
theorem jw_X6_wrongBit : jvw yX6_wrongBit cX6_wrongBit 3 (some .int) 3 := ⟨jtk_5 63 rfl rfl, jtk_1 8 rfl rfl, by decide +kernel⟩
set_option maxRecDepth 100000 in
theorem jw_X6_wrongBoth : jvw yX6_wrongBoth cX6_wrongBoth 3 (some .int) 2 := ⟨jtk_5 14 rfl rfl, jtk_1 8 rfl rfl, by decide +kernel⟩
set_option maxRecDepth 100000 in
theorem jw_X6_wrongNumber : jvw yX6_wrongNumber cX6_wrongNumber 3 (some .int) 3 := ⟨jtk_5 21 rfl rfl, jtk_1 8 rfl rfl, by decide +kernel⟩
