set_option maxRecDepth 20000 in
theorem cf_0 : CF 0 RX0 TX0 1 := ⟨by decide, rfl, by decide +kernel, tyX0_ok, nmX0⟩
theorem ok_0 : ∀ j, j < 1 → okT (tyC 0 j) = true := by decide +kernel
set_option maxRecDepth 20000 in
theorem cf_1 : CF 1 RX1 TX1 3 := ⟨by decide, rfl, by decide +kernel, tyX1_ok, nmX1⟩
theorem ok_1 : ∀ j, j < 3 → okT (tyC 1 j) = true := by decide +kernel
set_option maxRecDepth 20000 in
theorem cf_2 : CF 2 RX2 TX2 2 := ⟨by decide, rfl, by decide +kernel, tyX2_ok, nmX2⟩
theorem ok_2 : ∀ j, j < 2 → okT (tyC 2 j) = true := by decide +kernel
set_option maxRecDepth 20000 in
theorem cf_3 : CF 3 RX3 TX3 6 := ⟨by decide, rfl, by decide +kernel, tyX3_ok, nmX3⟩
theorem ok_3 : ∀ j, j < 6 → okT (tyC 3 j) = true := by decide +kernel
set_option maxRecDepth 20000 in
theorem cf_4 : CF 4 RX4 TX4 6 := ⟨by decide, rfl, by decide +kernel, tyX4_ok, nmX4⟩
theorem ok_4 : ∀ j, j < 6 → okT (tyC 4 j) = true := by decide +kernel
set_option maxRecDepth 20000 in
theorem cf_5 : CF 5 RX5 TX5 4 := ⟨by decide, rfl, by decide +kernel, tyX5_ok, nmX5⟩
theorem ok_5 : ∀ j, j < 4 → okT (tyC 5 j) = true := by decide +kernel
set_option maxRecDepth 20000 in
theorem cf_6 : CF 6 RX6 TX6 5 := ⟨by decide, rfl, by decide +kernel, tyX6_ok, nmX6⟩
theorem ok_6 : ∀ j, j < 5 → okT (tyC 6 j) = true := by decide +kernel
set_option maxRecDepth 20000 in
theorem cf_7 : CF 7 RX7 TX7 2 := ⟨by decide, rfl, by decide +kernel, tyX7_ok, nmX7⟩
theorem ok_7 : ∀ j, j < 2 → okT (tyC 7 j) = true := by decide +kernel
set_option maxRecDepth 20000 in
theorem cf_8 : CF 8 RX8 TX8 2 := ⟨by decide, rfl, by decide +kernel, tyX8_ok, nmX8⟩
theorem ok_8 : ∀ j, j < 2 → okT (tyC 8 j) = true := by decide +kernel
set_option maxRecDepth 20000 in
theorem cf_9 : CF 9 RX9 TX9 15 := ⟨by decide, rfl, by decide +kernel, tyX9_ok, nmX9⟩
theorem ok_9 : ∀ j, j < 15 → okT (tyC 9 j) = true := by decide +kernel
set_option maxRecDepth 20000 in
theorem cf_10 : CF 10 RX10 TX10 33 := ⟨by decide, rfl, by decide +kernel, tyX10_ok, nmX10⟩
theorem ok_10 : ∀ j, j < 33 → okT (tyC 10 j) = true := by decide +kernel
def m1 : Int32 := -1
def m2 : Int32 := -2
def m101 : Int32 := -101
def m102 : Int32 := -102
def m103 : Int32 := -103
def m104 : Int32 := -104
theorem ic_b_m104 : (Int8.ofInt (-104 : Int)).toInt32 = m104 := by decide
theorem ic_b_m103 : (Int8.ofInt (-103 : Int)).toInt32 = m103 := by decide
theorem ic_b_m102 : (Int8.ofInt (-102 : Int)).toInt32 = m102 := by decide
theorem ic_b_m101 : (Int8.ofInt (-101 : Int)).toInt32 = m101 := by decide
theorem ic_b_m2 : (Int8.ofInt (-2 : Int)).toInt32 = m2 := by decide
theorem ic_b_6 : (Int8.ofInt (6 : Int)).toInt32 = (nI 6) := by decide
theorem ic_b_7 : (Int8.ofInt (7 : Int)).toInt32 = (nI 7) := by decide
theorem ic_b_8 : (Int8.ofInt (8 : Int)).toInt32 = (nI 8) := by decide
theorem ic_b_9 : (Int8.ofInt (9 : Int)).toInt32 = (nI 9) := by decide
theorem ic_b_10 : (Int8.ofInt (10 : Int)).toInt32 = (nI 10) := by decide
theorem ic_b_11 : (Int8.ofInt (11 : Int)).toInt32 = (nI 11) := by decide
theorem ic_b_13 : (Int8.ofInt (13 : Int)).toInt32 = (nI 13) := by decide
theorem ic_b_14 : (Int8.ofInt (14 : Int)).toInt32 = (nI 14) := by decide
theorem ic_b_15 : (Int8.ofInt (15 : Int)).toInt32 = (nI 15) := by decide
theorem ic_b_19 : (Int8.ofInt (19 : Int)).toInt32 = (nI 19) := by decide
theorem ic_b_22 : (Int8.ofInt (22 : Int)).toInt32 = (nI 22) := by decide
theorem ic_b_26 : (Int8.ofInt (26 : Int)).toInt32 = (nI 26) := by decide
theorem ic_b_32 : (Int8.ofInt (32 : Int)).toInt32 = (nI 32) := by decide
theorem ic_b_44 : (Int8.ofInt (44 : Int)).toInt32 = (nI 44) := by decide
theorem ic_b_48 : (Int8.ofInt (48 : Int)).toInt32 = (nI 48) := by decide
theorem ic_b_50 : (Int8.ofInt (50 : Int)).toInt32 = (nI 50) := by decide
theorem ic_b_57 : (Int8.ofInt (57 : Int)).toInt32 = (nI 57) := by decide
theorem ic_b_58 : (Int8.ofInt (58 : Int)).toInt32 = (nI 58) := by decide
theorem ic_b_59 : (Int8.ofInt (59 : Int)).toInt32 = (nI 59) := by decide
theorem ic_b_97 : (Int8.ofInt (97 : Int)).toInt32 = (nI 97) := by decide
theorem ic_b_99 : (Int8.ofInt (99 : Int)).toInt32 = (nI 99) := by decide
theorem ic_b_100 : (Int8.ofInt (100 : Int)).toInt32 = (nI 100) := by decide
theorem ic_b_112 : (Int8.ofInt (112 : Int)).toInt32 = (nI 112) := by decide
theorem ic_b_122 : (Int8.ofInt (122 : Int)).toInt32 = (nI 122) := by decide
theorem ic_b_126 : (Int8.ofInt (126 : Int)).toInt32 = (nI 126) := by decide
theorem ic_i_m1 : Int32.ofInt (-1 : Int) = m1 := by decide
theorem ic_i_0 : Int32.ofInt (0 : Int) = (nI 0) := by decide
theorem ic_i_1 : Int32.ofInt (1 : Int) = (nI 1) := by decide
theorem ic_i_2 : Int32.ofInt (2 : Int) = (nI 2) := by decide
theorem ic_i_3 : Int32.ofInt (3 : Int) = (nI 3) := by decide
theorem ic_i_4 : Int32.ofInt (4 : Int) = (nI 4) := by decide
theorem ic_i_5 : Int32.ofInt (5 : Int) = (nI 5) := by decide
theorem ic_s_196 : (Int16.ofInt (196 : Int)).toInt32 = (nI 196) := by decide
theorem ic_s_225 : (Int16.ofInt (225 : Int)).toInt32 = (nI 225) := by decide
theorem ic_s_1125 : (Int16.ofInt (1125 : Int)).toInt32 = (nI 1125) := by decide
theorem m_arrI : Cond.arrayClass .int ∈ lw_tbl := List.mem_of_getElem? (i := 129) (by decide +kernel)
theorem m_ovE : Cond.arrayOver (.object "DialMenus$Entry") ∈ lw_tbl := List.mem_of_getElem? (i := 159) (by decide +kernel)
theorem m_ovA : Cond.arrayOver (.array .int) ∈ lw_tbl := List.mem_of_getElem? (i := 235) (by decide +kernel)
theorem m_smC : Cond.sameMethod "[I" "java/lang/Object" "clone" "()Ljava/lang/Object;" ∈ lw_tbl := List.mem_of_getElem? (i := 139) (by decide +kernel)
theorem m_cast : Cond.castable "[I" "java/lang/Cloneable" ∈ lw_tbl := List.mem_of_getElem? (i := 143) (by decide +kernel)
theorem m_stmax : Cond.static Lib.Math.max.name ∈ lw_tbl := List.mem_of_getElem? (i := 120) (by decide +kernel)
theorem m_cdmax : Cond.code Lib.Math.max.name Lib.Math.max.code 2 (some .int) ∈ lw_tbl := List.mem_of_getElem? (i := 121) (by decide +kernel)
theorem m_stmin : Cond.static Lib.Math.min.name ∈ lw_tbl := List.mem_of_getElem? (i := 564) (by decide +kernel)
theorem m_cdmin : Cond.code Lib.Math.min.name Lib.Math.min.code 2 (some .int) ∈ lw_tbl := List.mem_of_getElem? (i := 565) (by decide +kernel)
theorem m_inM : Cond.initialized "java/lang/Math" ∈ lw_tbl := List.mem_of_getElem? (i := 93) (by decide +kernel)
theorem m_inS : Cond.initialized "java/lang/System" ∈ lw_tbl := List.mem_of_getElem? (i := 103) (by decide +kernel)
theorem m_natA : Cond.native arraycopyName ∈ lw_tbl := List.mem_of_getElem? (i := 481) (by decide +kernel)
theorem m_stA : Cond.static arraycopyName ∈ lw_tbl := List.mem_of_getElem? (i := 480) (by decide +kernel)
theorem m_oi : Cond.instanceMethod objectInit ∈ lw_tbl := List.mem_of_getElem? (i := 111) (by decide +kernel)
theorem m_oc : Cond.code objectInit ⟨#[0xb1]⟩ 1 none ∈ lw_tbl := List.mem_of_getElem? (i := 112) (by decide +kernel)
theorem mf_X8_init : MF yX8_init cX8_init 2 none 1 := ⟨List.mem_of_getElem? (i := 117) (by decide +kernel), List.mem_of_getElem? (i := 92) (by decide +kernel), ⟨by decide +kernel, by decide +kernel⟩, by decide +kernel⟩
theorem mf_X0_init : MF yX0_init cX0_init 1 none 0 := ⟨List.mem_of_getElem? (i := 196) (by decide +kernel), List.mem_of_getElem? (i := 97) (by decide +kernel), ⟨by decide +kernel, by decide +kernel⟩, by decide +kernel⟩
theorem mf_X7_get : MF yX7_get cX7_get 2 (some (.object "DialMenus$Entry")) 1 := ⟨List.mem_of_getElem? (i := 498) (by decide +kernel), List.mem_of_getElem? (i := 95) (by decide +kernel), ⟨by decide +kernel, by decide +kernel⟩, by decide +kernel⟩
theorem mf_X7_isAhead : MF yX7_isAhead cX7_isAhead 5 (some .boolean) 2 := ⟨List.mem_of_getElem? (i := 562) (by decide +kernel), List.mem_of_getElem? (i := 95) (by decide +kernel), ⟨by decide +kernel, by decide +kernel⟩, by decide +kernel⟩
theorem mf_X8_get : MF yX8_get cX8_get 2 (some .int) 1 := ⟨List.mem_of_getElem? (i := 360) (by decide +kernel), List.mem_of_getElem? (i := 92) (by decide +kernel), ⟨by decide +kernel, by decide +kernel⟩, by decide +kernel⟩
theorem mf_X8_size : MF yX8_size cX8_size 1 (some .int) 0 := ⟨List.mem_of_getElem? (i := 339) (by decide +kernel), List.mem_of_getElem? (i := 92) (by decide +kernel), ⟨by decide +kernel, by decide +kernel⟩, by decide +kernel⟩
theorem mf_X0_placeInList : MF yX0_placeInList cX0_placeInList 4 (some .int) 2 := ⟨List.mem_of_getElem? (i := 726) (by decide +kernel), List.mem_of_getElem? (i := 97) (by decide +kernel), ⟨by decide +kernel, by decide +kernel⟩, by decide +kernel⟩
theorem mf_X1_digitAt : MF yX1_digitAt cX1_digitAt 2 (some .int) 1 := ⟨List.mem_of_getElem? (i := 645) (by decide +kernel), List.mem_of_getElem? (i := 102) (by decide +kernel), ⟨by decide +kernel, by decide +kernel⟩, by decide +kernel⟩
theorem mf_X1_beginsWith : MF yX1_beginsWith cX1_beginsWith 3 (some .boolean) 1 := ⟨List.mem_of_getElem? (i := 720) (by decide +kernel), List.mem_of_getElem? (i := 102) (by decide +kernel), ⟨by decide +kernel, by decide +kernel⟩, by decide +kernel⟩
theorem mf_X7_beginsWith : MF yX7_beginsWith cX7_beginsWith 4 (some .boolean) 2 := ⟨List.mem_of_getElem? (i := 716) (by decide +kernel), List.mem_of_getElem? (i := 95) (by decide +kernel), ⟨by decide +kernel, by decide +kernel⟩, by decide +kernel⟩
theorem mf_X7_size : MF yX7_size cX7_size 1 (some .int) 0 := ⟨List.mem_of_getElem? (i := 421) (by decide +kernel), List.mem_of_getElem? (i := 95) (by decide +kernel), ⟨by decide +kernel, by decide +kernel⟩, by decide +kernel⟩
theorem mf_X8_clear : MF yX8_clear cX8_clear 2 (some .int) 0 := ⟨List.mem_of_getElem? (i := 347) (by decide +kernel), List.mem_of_getElem? (i := 92) (by decide +kernel), ⟨by decide +kernel, by decide +kernel⟩, by decide +kernel⟩
theorem mf_X8_isFull : MF yX8_isFull cX8_isFull 1 (some .boolean) 0 := ⟨List.mem_of_getElem? (i := 330) (by decide +kernel), List.mem_of_getElem? (i := 92) (by decide +kernel), ⟨by decide +kernel, by decide +kernel⟩, by decide +kernel⟩
theorem mf_X8_insert : MF yX8_insert cX8_insert 4 none 2 := ⟨List.mem_of_getElem? (i := 732) (by decide +kernel), List.mem_of_getElem? (i := 92) (by decide +kernel), ⟨by decide +kernel, by decide +kernel⟩, by decide +kernel⟩
theorem mf_X0_listFor : MF yX0_listFor cX0_listFor 4 (some (.object "DialMenus$Row")) 2 := ⟨List.mem_of_getElem? (i := 711) (by decide +kernel), List.mem_of_getElem? (i := 97) (by decide +kernel), ⟨by decide +kernel, by decide +kernel⟩, by decide +kernel⟩
theorem mf_X1_sharedDigits : MF yX1_sharedDigits cX1_sharedDigits 3 (some .int) 1 := ⟨List.mem_of_getElem? (i := 540) (by decide +kernel), List.mem_of_getElem? (i := 102) (by decide +kernel), ⟨by decide +kernel, by decide +kernel⟩, by decide +kernel⟩
theorem mf_X7_sharedDigits : MF yX7_sharedDigits cX7_sharedDigits 5 (some .int) 2 := ⟨List.mem_of_getElem? (i := 548) (by decide +kernel), List.mem_of_getElem? (i := 95) (by decide +kernel), ⟨by decide +kernel, by decide +kernel⟩, by decide +kernel⟩
theorem mf_X0_placeIn : MF yX0_placeIn cX0_placeIn 6 (some .int) 3 := ⟨List.mem_of_getElem? (i := 558) (by decide +kernel), List.mem_of_getElem? (i := 97) (by decide +kernel), ⟨by decide +kernel, by decide +kernel⟩, by decide +kernel⟩
theorem mf_X7_lengthOf : MF yX7_lengthOf cX7_lengthOf 3 (some .int) 1 := ⟨List.mem_of_getElem? (i := 519) (by decide +kernel), List.mem_of_getElem? (i := 95) (by decide +kernel), ⟨by decide +kernel, by decide +kernel⟩, by decide +kernel⟩
theorem mf_X0_presses : MF yX0_presses cX0_presses 5 (some .int) 2 := ⟨List.mem_of_getElem? (i := 554) (by decide +kernel), List.mem_of_getElem? (i := 97) (by decide +kernel), ⟨by decide +kernel, by decide +kernel⟩, by decide +kernel⟩
theorem mf_X0_distinguishingLength : MF yX0_distinguishingLength cX0_distinguishingLength 5 (some .int) 2 := ⟨List.mem_of_getElem? (i := 544) (by decide +kernel), List.mem_of_getElem? (i := 97) (by decide +kernel), ⟨by decide +kernel, by decide +kernel⟩, by decide +kernel⟩
theorem mf_X7_areTwins : MF yX7_areTwins cX7_areTwins 6 (some .boolean) 2 := ⟨List.mem_of_getElem? (i := 536) (by decide +kernel), List.mem_of_getElem? (i := 95) (by decide +kernel), ⟨by decide +kernel, by decide +kernel⟩, by decide +kernel⟩
theorem mf_X0_twinsBelow : MF yX0_twinsBelow cX0_twinsBelow 6 (some .int) 3 := ⟨List.mem_of_getElem? (i := 532) (by decide +kernel), List.mem_of_getElem? (i := 97) (by decide +kernel), ⟨by decide +kernel, by decide +kernel⟩, by decide +kernel⟩
theorem mf_X0_twins : MF yX0_twins cX0_twins 3 (some .int) 2 := ⟨List.mem_of_getElem? (i := 527) (by decide +kernel), List.mem_of_getElem? (i := 97) (by decide +kernel), ⟨by decide +kernel, by decide +kernel⟩, by decide +kernel⟩
theorem mf_X0_namesWithTwins : MF yX0_namesWithTwins cX0_namesWithTwins 4 (some .int) 1 := ⟨List.mem_of_getElem? (i := 662) (by decide +kernel), List.mem_of_getElem? (i := 97) (by decide +kernel), ⟨by decide +kernel, by decide +kernel⟩, by decide +kernel⟩
theorem mf_X0_differentCodes : MF yX0_differentCodes cX0_differentCodes 4 (some .int) 1 := ⟨List.mem_of_getElem? (i := 667) (by decide +kernel), List.mem_of_getElem? (i := 97) (by decide +kernel), ⟨by decide +kernel, by decide +kernel⟩, by decide +kernel⟩
theorem mf_X0_greatestDistinguishingLength : MF yX0_greatestDistinguishingLength cX0_greatestDistinguishingLength 4 (some .int) 1 := ⟨List.mem_of_getElem? (i := 671) (by decide +kernel), List.mem_of_getElem? (i := 97) (by decide +kernel), ⟨by decide +kernel, by decide +kernel⟩, by decide +kernel⟩
theorem mf_X7_frequencyOf : MF yX7_frequencyOf cX7_frequencyOf 3 (some .int) 1 := ⟨List.mem_of_getElem? (i := 523) (by decide +kernel), List.mem_of_getElem? (i := 95) (by decide +kernel), ⟨by decide +kernel, by decide +kernel⟩, by decide +kernel⟩
theorem mf_X0_sumOfPresses : MF yX0_sumOfPresses cX0_sumOfPresses 4 (some .int) 1 := ⟨List.mem_of_getElem? (i := 676) (by decide +kernel), List.mem_of_getElem? (i := 97) (by decide +kernel), ⟨by decide +kernel, by decide +kernel⟩, by decide +kernel⟩
theorem mf_X1_init : MF yX1_init cX1_init 7 none 4 := ⟨List.mem_of_getElem? (i := 432) (by decide +kernel), List.mem_of_getElem? (i := 102) (by decide +kernel), ⟨by decide +kernel, by decide +kernel⟩, by decide +kernel⟩
theorem mf_X2_digitOf : MF yX2_digitOf cX2_digitOf 2 (some .int) 1 := ⟨List.mem_of_getElem? (i := 455) (by decide +kernel), List.mem_of_getElem? (i := 94) (by decide +kernel), ⟨by decide +kernel, by decide +kernel⟩, by decide +kernel⟩
theorem mf_X1_encode : MF yX1_encode cX1_encode 3 none 1 := ⟨List.mem_of_getElem? (i := 451) (by decide +kernel), List.mem_of_getElem? (i := 102) (by decide +kernel), ⟨by decide +kernel, by decide +kernel⟩, by decide +kernel⟩
theorem mf_X1_letterAt : MF yX1_letterAt cX1_letterAt 2 (some .int) 1 := ⟨List.mem_of_getElem? (i := 633) (by decide +kernel), List.mem_of_getElem? (i := 102) (by decide +kernel), ⟨by decide +kernel, by decide +kernel⟩, by decide +kernel⟩
theorem mf_X1_comesBefore : MF yX1_comesBefore cX1_comesBefore 3 (some .boolean) 1 := ⟨List.mem_of_getElem? (i := 467) (by decide +kernel), List.mem_of_getElem? (i := 102) (by decide +kernel), ⟨by decide +kernel, by decide +kernel⟩, by decide +kernel⟩
theorem mf_X1_isWritten : MF yX1_isWritten cX1_isWritten 5 (some .boolean) 3 := ⟨List.mem_of_getElem? (i := 416) (by decide +kernel), List.mem_of_getElem? (i := 102) (by decide +kernel), ⟨by decide +kernel, by decide +kernel⟩, by decide +kernel⟩
theorem mf_X1_isTypedAt : MF yX1_isTypedAt cX1_isTypedAt 4 (some .boolean) 2 := ⟨List.mem_of_getElem? (i := 755) (by decide +kernel), List.mem_of_getElem? (i := 102) (by decide +kernel), ⟨by decide +kernel, by decide +kernel⟩, by decide +kernel⟩
theorem mf_X2_init : MF yX2_init cX2_init 1 none 0 := ⟨List.mem_of_getElem? (i := 134) (by decide +kernel), List.mem_of_getElem? (i := 94) (by decide +kernel), ⟨by decide +kernel, by decide +kernel⟩, by decide +kernel⟩
theorem mf_X2_read : MF yX2_read cX2_read 8 (some .int) 1 := ⟨List.mem_of_getElem? (i := 475) (by decide +kernel), List.mem_of_getElem? (i := 94) (by decide +kernel), ⟨by decide +kernel, by decide +kernel⟩, by decide +kernel⟩
theorem mf_X3_init : MF yX3_init cX3_init 1 none 0 := ⟨List.mem_of_getElem? (i := 171) (by decide +kernel), List.mem_of_getElem? (i := 96) (by decide +kernel), ⟨by decide +kernel, by decide +kernel⟩, by decide +kernel⟩
theorem mf_X3_items : MF yX3_items cX3_items 1 (some .int) 0 := ⟨List.mem_of_getElem? (i := 400) (by decide +kernel), List.mem_of_getElem? (i := 96) (by decide +kernel), ⟨by decide +kernel, by decide +kernel⟩, by decide +kernel⟩
theorem mf_X3_startOf : MF yX3_startOf cX3_startOf 2 (some .int) 1 := ⟨List.mem_of_getElem? (i := 404) (by decide +kernel), List.mem_of_getElem? (i := 96) (by decide +kernel), ⟨by decide +kernel, by decide +kernel⟩, by decide +kernel⟩
theorem mf_X3_lengthOf : MF yX3_lengthOf cX3_lengthOf 2 (some .int) 1 := ⟨List.mem_of_getElem? (i := 408) (by decide +kernel), List.mem_of_getElem? (i := 96) (by decide +kernel), ⟨by decide +kernel, by decide +kernel⟩, by decide +kernel⟩
theorem mf_X3_frequencyOf : MF yX3_frequencyOf cX3_frequencyOf 2 (some .int) 1 := ⟨List.mem_of_getElem? (i := 368) (by decide +kernel), List.mem_of_getElem? (i := 96) (by decide +kernel), ⟨by decide +kernel, by decide +kernel⟩, by decide +kernel⟩
theorem mf_X3_entryOf : MF yX3_entryOf cX3_entryOf 3 (some (.object "DialMenus$Entry")) 2 := ⟨List.mem_of_getElem? (i := 425) (by decide +kernel), List.mem_of_getElem? (i := 96) (by decide +kernel), ⟨by decide +kernel, by decide +kernel⟩, by decide +kernel⟩
theorem mf_X3_endsWithItem : MF yX3_endsWithItem cX3_endsWithItem 1 (some .boolean) 0 := ⟨List.mem_of_getElem? (i := 392) (by decide +kernel), List.mem_of_getElem? (i := 96) (by decide +kernel), ⟨by decide +kernel, by decide +kernel⟩, by decide +kernel⟩
theorem mf_X3_fitsFrequency : MF yX3_fitsFrequency cX3_fitsFrequency 5 (some .boolean) 2 := ⟨List.mem_of_getElem? (i := 364) (by decide +kernel), List.mem_of_getElem? (i := 96) (by decide +kernel), ⟨by decide +kernel, by decide +kernel⟩, by decide +kernel⟩
theorem mf_X3_isSameText : MF yX3_isSameText cX3_isSameText 5 (some .boolean) 3 := ⟨List.mem_of_getElem? (i := 384) (by decide +kernel), List.mem_of_getElem? (i := 96) (by decide +kernel), ⟨by decide +kernel, by decide +kernel⟩, by decide +kernel⟩
theorem mf_X3_isListed : MF yX3_isListed cX3_isListed 4 (some .boolean) 2 := ⟨List.mem_of_getElem? (i := 380) (by decide +kernel), List.mem_of_getElem? (i := 96) (by decide +kernel), ⟨by decide +kernel, by decide +kernel⟩, by decide +kernel⟩
theorem mf_X3_endsName : MF yX3_endsName cX3_endsName 4 (some .boolean) 2 := ⟨List.mem_of_getElem? (i := 376) (by decide +kernel), List.mem_of_getElem? (i := 96) (by decide +kernel), ⟨by decide +kernel, by decide +kernel⟩, by decide +kernel⟩
theorem mf_X3_fitsName : MF yX3_fitsName cX3_fitsName 4 (some .boolean) 2 := ⟨List.mem_of_getElem? (i := 372) (by decide +kernel), List.mem_of_getElem? (i := 96) (by decide +kernel), ⟨by decide +kernel, by decide +kernel⟩, by decide +kernel⟩
theorem mf_X3_scan : MF yX3_scan cX3_scan 5 (some .int) 1 := ⟨List.mem_of_getElem? (i := 355) (by decide +kernel), List.mem_of_getElem? (i := 96) (by decide +kernel), ⟨by decide +kernel, by decide +kernel⟩, by decide +kernel⟩
theorem mf_X4_init : MF yX4_init cX4_init 1 none 0 := ⟨List.mem_of_getElem? (i := 253) (by decide +kernel), List.mem_of_getElem? (i := 100) (by decide +kernel), ⟨by decide +kernel, by decide +kernel⟩, by decide +kernel⟩
theorem mf_J7_fill_53178 : MF yJ7_fill_53178 cJ7_fill_53178 4 none 2 := ⟨List.mem_of_getElem? (i := 605) (by decide +kernel), List.mem_of_getElem? (i := 104) (by decide +kernel), ⟨by decide +kernel, by decide +kernel⟩, by decide +kernel⟩
theorem mf_X4_start : MF yX4_start cX4_start 3 none 2 := ⟨List.mem_of_getElem? (i := 600) (by decide +kernel), List.mem_of_getElem? (i := 100) (by decide +kernel), ⟨by decide +kernel, by decide +kernel⟩, by decide +kernel⟩
theorem mf_X4_has : MF yX4_has cX4_has 2 (some .boolean) 1 := ⟨List.mem_of_getElem? (i := 574) (by decide +kernel), List.mem_of_getElem? (i := 100) (by decide +kernel), ⟨by decide +kernel, by decide +kernel⟩, by decide +kernel⟩
theorem mf_X4_addStep : MF yX4_addStep cX4_addStep 3 none 2 := ⟨List.mem_of_getElem? (i := 621) (by decide +kernel), List.mem_of_getElem? (i := 100) (by decide +kernel), ⟨by decide +kernel, by decide +kernel⟩, by decide +kernel⟩
theorem mf_X4_addBranching : MF yX4_addBranching cX4_addBranching 1 none 0 := ⟨List.mem_of_getElem? (i := 613) (by decide +kernel), List.mem_of_getElem? (i := 100) (by decide +kernel), ⟨by decide +kernel, by decide +kernel⟩, by decide +kernel⟩
theorem mf_X4_width : MF yX4_width cX4_width 1 (some .int) 0 := ⟨List.mem_of_getElem? (i := 812) (by decide +kernel), List.mem_of_getElem? (i := 100) (by decide +kernel), ⟨by decide +kernel, by decide +kernel⟩, by decide +kernel⟩
theorem mf_X4_branchings : MF yX4_branchings cX4_branchings 1 (some .int) 0 := ⟨List.mem_of_getElem? (i := 861) (by decide +kernel), List.mem_of_getElem? (i := 100) (by decide +kernel), ⟨by decide +kernel, by decide +kernel⟩, by decide +kernel⟩
theorem mf_X4_lengthOf : MF yX4_lengthOf cX4_lengthOf 2 (some .int) 1 := ⟨List.mem_of_getElem? (i := 570) (by decide +kernel), List.mem_of_getElem? (i := 100) (by decide +kernel), ⟨by decide +kernel, by decide +kernel⟩, by decide +kernel⟩
theorem mf_X4_stepOf : MF yX4_stepOf cX4_stepOf 3 (some .int) 2 := ⟨List.mem_of_getElem? (i := 824) (by decide +kernel), List.mem_of_getElem? (i := 100) (by decide +kernel), ⟨by decide +kernel, by decide +kernel⟩, by decide +kernel⟩
theorem mf_X4_cost : MF yX4_cost cX4_cost 4 (some .int) 1 := ⟨List.mem_of_getElem? (i := 799) (by decide +kernel), List.mem_of_getElem? (i := 100) (by decide +kernel), ⟨by decide +kernel, by decide +kernel⟩, by decide +kernel⟩
theorem mf_X4_longestPath : MF yX4_longestPath cX4_longestPath 3 (some .int) 0 := ⟨List.mem_of_getElem? (i := 857) (by decide +kernel), List.mem_of_getElem? (i := 100) (by decide +kernel), ⟨by decide +kernel, by decide +kernel⟩, by decide +kernel⟩
theorem mf_X4_partsOfWhole : MF yX4_partsOfWhole cX4_partsOfWhole 1 (some .int) 0 := ⟨List.mem_of_getElem? (i := 865) (by decide +kernel), List.mem_of_getElem? (i := 100) (by decide +kernel), ⟨by decide +kernel, by decide +kernel⟩, by decide +kernel⟩
theorem mf_X4_hasSamePath : MF yX4_hasSamePath cX4_hasSamePath 4 (some .boolean) 2 := ⟨List.mem_of_getElem? (i := 820) (by decide +kernel), List.mem_of_getElem? (i := 100) (by decide +kernel), ⟨by decide +kernel, by decide +kernel⟩, by decide +kernel⟩
theorem mf_X4_differentPaths : MF yX4_differentPaths cX4_differentPaths 4 (some .int) 1 := ⟨List.mem_of_getElem? (i := 816) (by decide +kernel), List.mem_of_getElem? (i := 100) (by decide +kernel), ⟨by decide +kernel, by decide +kernel⟩, by decide +kernel⟩
theorem mf_X4_beginsAsWanted : MF yX4_beginsAsWanted cX4_beginsAsWanted 4 (some .boolean) 1 := ⟨List.mem_of_getElem? (i := 847) (by decide +kernel), List.mem_of_getElem? (i := 100) (by decide +kernel), ⟨by decide +kernel, by decide +kernel⟩, by decide +kernel⟩
theorem mf_X8_add : MF yX8_add cX8_add 2 none 1 := ⟨List.mem_of_getElem? (i := 334) (by decide +kernel), List.mem_of_getElem? (i := 92) (by decide +kernel), ⟨by decide +kernel, by decide +kernel⟩, by decide +kernel⟩
theorem mf_X4_splitDecimals : MF yX4_splitDecimals cX4_splitDecimals 4 none 1 := ⟨List.mem_of_getElem? (i := 841) (by decide +kernel), List.mem_of_getElem? (i := 100) (by decide +kernel), ⟨by decide +kernel, by decide +kernel⟩, by decide +kernel⟩
theorem mf_X4_follow : MF yX4_follow cX4_follow 3 (some .int) 1 := ⟨List.mem_of_getElem? (i := 837) (by decide +kernel), List.mem_of_getElem? (i := 100) (by decide +kernel), ⟨by decide +kernel, by decide +kernel⟩, by decide +kernel⟩
theorem mf_X5_init : MF yX5_init cX5_init 1 none 0 := ⟨List.mem_of_getElem? (i := 232) (by decide +kernel), List.mem_of_getElem? (i := 99) (by decide +kernel), ⟨by decide +kernel, by decide +kernel⟩, by decide +kernel⟩
theorem mf_X5_run : MF yX5_run cX5_run 3 (some .int) 2 := ⟨List.mem_of_getElem? (i := 588) (by decide +kernel), List.mem_of_getElem? (i := 99) (by decide +kernel), ⟨by decide +kernel, by decide +kernel⟩, by decide +kernel⟩
theorem mf_X5_firstSizeOf : MF yX5_firstSizeOf cX5_firstSizeOf 4 (some .int) 3 := ⟨List.mem_of_getElem? (i := 617) (by decide +kernel), List.mem_of_getElem? (i := 99) (by decide +kernel), ⟨by decide +kernel, by decide +kernel⟩, by decide +kernel⟩
theorem mf_X5_layPath : MF yX5_layPath cX5_layPath 11 none 3 := ⟨List.mem_of_getElem? (i := 609) (by decide +kernel), List.mem_of_getElem? (i := 99) (by decide +kernel), ⟨by decide +kernel, by decide +kernel⟩, by decide +kernel⟩
theorem mf_X5_planParts : MF yX5_planParts cX5_planParts 8 none 3 := ⟨List.mem_of_getElem? (i := 592) (by decide +kernel), List.mem_of_getElem? (i := 99) (by decide +kernel), ⟨by decide +kernel, by decide +kernel⟩, by decide +kernel⟩
theorem mf_X5_sumOf : MF yX5_sumOf cX5_sumOf 4 (some .int) 2 := ⟨List.mem_of_getElem? (i := 596) (by decide +kernel), List.mem_of_getElem? (i := 99) (by decide +kernel), ⟨by decide +kernel, by decide +kernel⟩, by decide +kernel⟩
theorem mf_X5_planRun : MF yX5_planRun cX5_planRun 7 none 3 := ⟨List.mem_of_getElem? (i := 585) (by decide +kernel), List.mem_of_getElem? (i := 99) (by decide +kernel), ⟨by decide +kernel, by decide +kernel⟩, by decide +kernel⟩
theorem mf_X5_planInto : MF yX5_planInto cX5_planInto 7 (some (.object "DialMenus$Menu")) 3 := ⟨List.mem_of_getElem? (i := 578) (by decide +kernel), List.mem_of_getElem? (i := 99) (by decide +kernel), ⟨by decide +kernel, by decide +kernel⟩, by decide +kernel⟩
theorem mf_X6_init : MF yX6_init cX6_init 1 none 0 := ⟨List.mem_of_getElem? (i := 208) (by decide +kernel), List.mem_of_getElem? (i := 98) (by decide +kernel), ⟨by decide +kernel, by decide +kernel⟩, by decide +kernel⟩
theorem mf_X6_isWithin : MF yX6_isWithin cX6_isWithin 2 (some .boolean) 2 := ⟨List.mem_of_getElem? (i := 763) (by decide +kernel), List.mem_of_getElem? (i := 98) (by decide +kernel), ⟨by decide +kernel, by decide +kernel⟩, by decide +kernel⟩
theorem mf_X6_keepsBest : MF yX6_keepsBest cX6_keepsBest 3 (some .boolean) 2 := ⟨List.mem_of_getElem? (i := 777) (by decide +kernel), List.mem_of_getElem? (i := 98) (by decide +kernel), ⟨by decide +kernel, by decide +kernel⟩, by decide +kernel⟩
theorem mf_X7_isTypedAt : MF yX7_isTypedAt cX7_isTypedAt 5 (some .boolean) 3 := ⟨List.mem_of_getElem? (i := 751) (by decide +kernel), List.mem_of_getElem? (i := 95) (by decide +kernel), ⟨by decide +kernel, by decide +kernel⟩, by decide +kernel⟩
theorem mf_X6_bestNameAt : MF yX6_bestNameAt cX6_bestNameAt 5 (some .int) 3 := ⟨List.mem_of_getElem? (i := 773) (by decide +kernel), List.mem_of_getElem? (i := 98) (by decide +kernel), ⟨by decide +kernel, by decide +kernel⟩, by decide +kernel⟩
theorem mf_X6_layBest : MF yX6_layBest cX6_layBest 6 none 2 := ⟨List.mem_of_getElem? (i := 768) (by decide +kernel), List.mem_of_getElem? (i := 98) (by decide +kernel), ⟨by decide +kernel, by decide +kernel⟩, by decide +kernel⟩
theorem mf_X6_studyDigit : MF yX6_studyDigit cX6_studyDigit 2 none 1 := ⟨List.mem_of_getElem? (i := 746) (by decide +kernel), List.mem_of_getElem? (i := 98) (by decide +kernel), ⟨by decide +kernel, by decide +kernel⟩, by decide +kernel⟩
theorem mf_X6_studyName : MF yX6_studyName cX6_studyName 3 none 2 := ⟨List.mem_of_getElem? (i := 760) (by decide +kernel), List.mem_of_getElem? (i := 98) (by decide +kernel), ⟨by decide +kernel, by decide +kernel⟩, by decide +kernel⟩
theorem mf_X6_study : MF yX6_study cX6_study 6 none 2 := ⟨List.mem_of_getElem? (i := 740) (by decide +kernel), List.mem_of_getElem? (i := 98) (by decide +kernel), ⟨by decide +kernel, by decide +kernel⟩, by decide +kernel⟩
theorem mf_X6_best : MF yX6_best cX6_best 1 (some (.object "DialMenus$Row")) 0 := ⟨List.mem_of_getElem? (i := 791) (by decide +kernel), List.mem_of_getElem? (i := 98) (by decide +kernel), ⟨by decide +kernel, by decide +kernel⟩, by decide +kernel⟩
theorem mf_X6_number : MF yX6_number cX6_number 2 (some .int) 1 := ⟨List.mem_of_getElem? (i := 783) (by decide +kernel), List.mem_of_getElem? (i := 98) (by decide +kernel), ⟨by decide +kernel, by decide +kernel⟩, by decide +kernel⟩
theorem mf_X7_init : MF yX7_init cX7_init 1 none 0 := ⟨List.mem_of_getElem? (i := 156) (by decide +kernel), List.mem_of_getElem? (i := 95) (by decide +kernel), ⟨by decide +kernel, by decide +kernel⟩, by decide +kernel⟩
theorem mf_X7_has : MF yX7_has cX7_has 2 (some .boolean) 1 := ⟨List.mem_of_getElem? (i := 494) (by decide +kernel), List.mem_of_getElem? (i := 95) (by decide +kernel), ⟨by decide +kernel, by decide +kernel⟩, by decide +kernel⟩
theorem mf_X7_placeOf : MF yX7_placeOf cX7_placeOf 7 (some .int) 1 := ⟨List.mem_of_getElem? (i := 463) (by decide +kernel), List.mem_of_getElem? (i := 95) (by decide +kernel), ⟨by decide +kernel, by decide +kernel⟩, by decide +kernel⟩
theorem mf_X7_insert : MF yX7_insert cX7_insert 4 none 1 := ⟨List.mem_of_getElem? (i := 459) (by decide +kernel), List.mem_of_getElem? (i := 95) (by decide +kernel), ⟨by decide +kernel, by decide +kernel⟩, by decide +kernel⟩
theorem mf_X7_remove : MF yX7_remove cX7_remove 3 none 1 := ⟨List.mem_of_getElem? (i := 502) (by decide +kernel), List.mem_of_getElem? (i := 95) (by decide +kernel), ⟨by decide +kernel, by decide +kernel⟩, by decide +kernel⟩
theorem mf_X7_contains : MF yX7_contains cX7_contains 8 (some .boolean) 3 := ⟨List.mem_of_getElem? (i := 412) (by decide +kernel), List.mem_of_getElem? (i := 95) (by decide +kernel), ⟨by decide +kernel, by decide +kernel⟩, by decide +kernel⟩
theorem mf_X7_encode : MF yX7_encode cX7_encode 6 none 1 := ⟨List.mem_of_getElem? (i := 485) (by decide +kernel), List.mem_of_getElem? (i := 95) (by decide +kernel), ⟨by decide +kernel, by decide +kernel⟩, by decide +kernel⟩
theorem mf_X7_setFrequency : MF yX7_setFrequency cX7_setFrequency 5 (some .int) 2 := ⟨List.mem_of_getElem? (i := 511) (by decide +kernel), List.mem_of_getElem? (i := 95) (by decide +kernel), ⟨by decide +kernel, by decide +kernel⟩, by decide +kernel⟩
theorem mf_X7_letterAt : MF yX7_letterAt cX7_letterAt 4 (some .int) 2 := ⟨List.mem_of_getElem? (i := 629) (by decide +kernel), List.mem_of_getElem? (i := 95) (by decide +kernel), ⟨by decide +kernel, by decide +kernel⟩, by decide +kernel⟩
theorem mf_X7_digitAt : MF yX7_digitAt cX7_digitAt 4 (some .int) 2 := ⟨List.mem_of_getElem? (i := 641) (by decide +kernel), List.mem_of_getElem? (i := 95) (by decide +kernel), ⟨by decide +kernel, by decide +kernel⟩, by decide +kernel⟩
theorem mf_X7_sumOfFrequencies : MF yX7_sumOfFrequencies cX7_sumOfFrequencies 6 (some .int) 0 := ⟨List.mem_of_getElem? (i := 658) (by decide +kernel), List.mem_of_getElem? (i := 95) (by decide +kernel), ⟨by decide +kernel, by decide +kernel⟩, by decide +kernel⟩
theorem mf_X7_sumOfLengths : MF yX7_sumOfLengths cX7_sumOfLengths 6 (some .int) 0 := ⟨List.mem_of_getElem? (i := 682) (by decide +kernel), List.mem_of_getElem? (i := 95) (by decide +kernel), ⟨by decide +kernel, by decide +kernel⟩, by decide +kernel⟩
theorem mf_X8_removeLast : MF yX8_removeLast cX8_removeLast 1 none 0 := ⟨List.mem_of_getElem? (i := 694) (by decide +kernel), List.mem_of_getElem? (i := 92) (by decide +kernel), ⟨by decide +kernel, by decide +kernel⟩, by decide +kernel⟩
theorem mf_X9_init : MF yX9_init cX9_init 1 none 0 := ⟨List.mem_of_getElem? (i := 109) (by decide +kernel), List.mem_of_getElem? (i := 91) (by decide +kernel), ⟨by decide +kernel, by decide +kernel⟩, by decide +kernel⟩
theorem mf_X9_letter : MF yX9_letter cX9_letter 2 (some .int) 1 := ⟨List.mem_of_getElem? (i := 326) (by decide +kernel), List.mem_of_getElem? (i := 91) (by decide +kernel), ⟨by decide +kernel, by decide +kernel⟩, by decide +kernel⟩
theorem mf_X9_blank : MF yX9_blank cX9_blank 1 (some .int) 0 := ⟨List.mem_of_getElem? (i := 343) (by decide +kernel), List.mem_of_getElem? (i := 91) (by decide +kernel), ⟨by decide +kernel, by decide +kernel⟩, by decide +kernel⟩
theorem mf_X9_fault : MF yX9_fault cX9_fault 1 (some .int) 0 := ⟨List.mem_of_getElem? (i := 351) (by decide +kernel), List.mem_of_getElem? (i := 91) (by decide +kernel), ⟨by decide +kernel, by decide +kernel⟩, by decide +kernel⟩
theorem mf_X9_isAnyItemKnown : MF yX9_isAnyItemKnown cX9_isAnyItemKnown 2 (some .boolean) 0 := ⟨List.mem_of_getElem? (i := 396) (by decide +kernel), List.mem_of_getElem? (i := 91) (by decide +kernel), ⟨by decide +kernel, by decide +kernel⟩, by decide +kernel⟩
theorem mf_X9_names : MF yX9_names cX9_names 5 (some .int) 0 := ⟨List.mem_of_getElem? (i := 388) (by decide +kernel), List.mem_of_getElem? (i := 91) (by decide +kernel), ⟨by decide +kernel, by decide +kernel⟩, by decide +kernel⟩
theorem mf_X9_dial : MF yX9_dial cX9_dial 2 (some .int) 0 := ⟨List.mem_of_getElem? (i := 471) (by decide +kernel), List.mem_of_getElem? (i := 91) (by decide +kernel), ⟨by decide +kernel, by decide +kernel⟩, by decide +kernel⟩
theorem mf_X9_drop : MF yX9_drop cX9_drop 2 (some .int) 1 := ⟨List.mem_of_getElem? (i := 490) (by decide +kernel), List.mem_of_getElem? (i := 91) (by decide +kernel), ⟨by decide +kernel, by decide +kernel⟩, by decide +kernel⟩
theorem mf_X9_use : MF yX9_use cX9_use 3 (some .int) 2 := ⟨List.mem_of_getElem? (i := 507) (by decide +kernel), List.mem_of_getElem? (i := 91) (by decide +kernel), ⟨by decide +kernel, by decide +kernel⟩, by decide +kernel⟩
theorem mf_X9_name : MF yX9_name cX9_name 3 (some .int) 2 := ⟨List.mem_of_getElem? (i := 515) (by decide +kernel), List.mem_of_getElem? (i := 91) (by decide +kernel), ⟨by decide +kernel, by decide +kernel⟩, by decide +kernel⟩
theorem mf_X9_sign : MF yX9_sign cX9_sign 3 (some .int) 2 := ⟨List.mem_of_getElem? (i := 625) (by decide +kernel), List.mem_of_getElem? (i := 91) (by decide +kernel), ⟨by decide +kernel, by decide +kernel⟩, by decide +kernel⟩
theorem mf_X9_digit : MF yX9_digit cX9_digit 3 (some .int) 2 := ⟨List.mem_of_getElem? (i := 637) (by decide +kernel), List.mem_of_getElem? (i := 91) (by decide +kernel), ⟨by decide +kernel, by decide +kernel⟩, by decide +kernel⟩
theorem mf_X9_laid : MF yX9_laid cX9_laid 2 (some .int) 1 := ⟨List.mem_of_getElem? (i := 649) (by decide +kernel), List.mem_of_getElem? (i := 91) (by decide +kernel), ⟨by decide +kernel, by decide +kernel⟩, by decide +kernel⟩
theorem mf_X9_about : MF yX9_about cX9_about 2 (some .int) 1 := ⟨List.mem_of_getElem? (i := 654) (by decide +kernel), List.mem_of_getElem? (i := 91) (by decide +kernel), ⟨by decide +kernel, by decide +kernel⟩, by decide +kernel⟩
theorem mf_X9_press : MF yX9_press cX9_press 2 (some .int) 1 := ⟨List.mem_of_getElem? (i := 686) (by decide +kernel), List.mem_of_getElem? (i := 91) (by decide +kernel), ⟨by decide +kernel, by decide +kernel⟩, by decide +kernel⟩
theorem mf_X9_back : MF yX9_back cX9_back 1 (some .int) 0 := ⟨List.mem_of_getElem? (i := 690) (by decide +kernel), List.mem_of_getElem? (i := 91) (by decide +kernel), ⟨by decide +kernel, by decide +kernel⟩, by decide +kernel⟩
theorem mf_X9_wipe : MF yX9_wipe cX9_wipe 1 (some .int) 0 := ⟨List.mem_of_getElem? (i := 698) (by decide +kernel), List.mem_of_getElem? (i := 91) (by decide +kernel), ⟨by decide +kernel, by decide +kernel⟩, by decide +kernel⟩
theorem mf_X9_typed : MF yX9_typed cX9_typed 2 (some .int) 1 := ⟨List.mem_of_getElem? (i := 702) (by decide +kernel), List.mem_of_getElem? (i := 91) (by decide +kernel), ⟨by decide +kernel, by decide +kernel⟩, by decide +kernel⟩
theorem mf_X9_choice : MF yX9_choice cX9_choice 2 (some .int) 1 := ⟨List.mem_of_getElem? (i := 707) (by decide +kernel), List.mem_of_getElem? (i := 91) (by decide +kernel), ⟨by decide +kernel, by decide +kernel⟩, by decide +kernel⟩
theorem mf_X9_spelling : MF yX9_spelling cX9_spelling 2 (some .int) 1 := ⟨List.mem_of_getElem? (i := 736) (by decide +kernel), List.mem_of_getElem? (i := 91) (by decide +kernel), ⟨by decide +kernel, by decide +kernel⟩, by decide +kernel⟩
theorem mf_X9_piece : MF yX9_piece cX9_piece 2 (some .int) 1 := ⟨List.mem_of_getElem? (i := 787) (by decide +kernel), List.mem_of_getElem? (i := 91) (by decide +kernel), ⟨by decide +kernel, by decide +kernel⟩, by decide +kernel⟩
theorem mf_X9_adoptSpare : MF yX9_adoptSpare cX9_adoptSpare 2 none 0 := ⟨List.mem_of_getElem? (i := 804) (by decide +kernel), List.mem_of_getElem? (i := 91) (by decide +kernel), ⟨by decide +kernel, by decide +kernel⟩, by decide +kernel⟩
theorem mf_X9_build : MF yX9_build cX9_build 3 (some .int) 1 := ⟨List.mem_of_getElem? (i := 795) (by decide +kernel), List.mem_of_getElem? (i := 91) (by decide +kernel), ⟨by decide +kernel, by decide +kernel⟩, by decide +kernel⟩
theorem mf_X9_tend : MF yX9_tend cX9_tend 4 (some .int) 1 := ⟨List.mem_of_getElem? (i := 808) (by decide +kernel), List.mem_of_getElem? (i := 91) (by decide +kernel), ⟨by decide +kernel, by decide +kernel⟩, by decide +kernel⟩
theorem mf_X9_path : MF yX9_path cX9_path 3 (some .int) 2 := ⟨List.mem_of_getElem? (i := 828) (by decide +kernel), List.mem_of_getElem? (i := 91) (by decide +kernel), ⟨by decide +kernel, by decide +kernel⟩, by decide +kernel⟩
theorem mf_X9_leads : MF yX9_leads cX9_leads 2 (some .int) 1 := ⟨List.mem_of_getElem? (i := 833) (by decide +kernel), List.mem_of_getElem? (i := 91) (by decide +kernel), ⟨by decide +kernel, by decide +kernel⟩, by decide +kernel⟩
theorem mf_X9_menu : MF yX9_menu cX9_menu 2 (some .int) 1 := ⟨List.mem_of_getElem? (i := 853) (by decide +kernel), List.mem_of_getElem? (i := 91) (by decide +kernel), ⟨by decide +kernel, by decide +kernel⟩, by decide +kernel⟩
theorem mf_X9_count : MF yX9_count cX9_count 2 (some .int) 1 := ⟨List.mem_of_getElem? (i := 869) (by decide +kernel), List.mem_of_getElem? (i := 91) (by decide +kernel), ⟨by decide +kernel, by decide +kernel⟩, by decide +kernel⟩
theorem mf_X9_mix : MF yX9_mix cX9_mix 3 (some .long) 2 := ⟨List.mem_of_getElem? (i := 877) (by decide +kernel), List.mem_of_getElem? (i := 91) (by decide +kernel), ⟨by decide +kernel, by decide +kernel⟩, by decide +kernel⟩
theorem mf_X9_mixNames : MF yX9_mixNames cX9_mixNames 9 (some .long) 1 := ⟨List.mem_of_getElem? (i := 882) (by decide +kernel), List.mem_of_getElem? (i := 91) (by decide +kernel), ⟨by decide +kernel, by decide +kernel⟩, by decide +kernel⟩
theorem mf_X9_mixPaths : MF yX9_mixPaths cX9_mixPaths 8 (some .long) 1 := ⟨List.mem_of_getElem? (i := 892) (by decide +kernel), List.mem_of_getElem? (i := 91) (by decide +kernel), ⟨by decide +kernel, by decide +kernel⟩, by decide +kernel⟩
theorem mf_X9_mixRow : MF yX9_mixRow cX9_mixRow 6 (some .long) 2 := ⟨List.mem_of_getElem? (i := 887) (by decide +kernel), List.mem_of_getElem? (i := 91) (by decide +kernel), ⟨by decide +kernel, by decide +kernel⟩, by decide +kernel⟩
theorem mf_X9_digest : MF yX9_digest cX9_digest 4 (some .long) 0 := ⟨List.mem_of_getElem? (i := 873) (by decide +kernel), List.mem_of_getElem? (i := 91) (by decide +kernel), ⟨by decide +kernel, by decide +kernel⟩, by decide +kernel⟩
theorem mf_X10_init : MF yX10_init cX10_init 2 none 0 := ⟨List.mem_of_getElem? (i := 898) (by decide +kernel), List.mem_of_getElem? (i := 101) (by decide +kernel), ⟨by decide +kernel, by decide +kernel⟩, by decide +kernel⟩
theorem mf_X10_within : MF yX10_within cX10_within 3 (some .boolean) 3 := ⟨List.mem_of_getElem? (i := 1006) (by decide +kernel), List.mem_of_getElem? (i := 101) (by decide +kernel), ⟨by decide +kernel, by decide +kernel⟩, by decide +kernel⟩
theorem mf_X10_letter : MF yX10_letter cX10_letter 2 (some .int) 1 := ⟨List.mem_of_getElem? (i := 1003) (by decide +kernel), List.mem_of_getElem? (i := 101) (by decide +kernel), ⟨by decide +kernel, by decide +kernel⟩, by decide +kernel⟩
theorem mf_X10_blank : MF yX10_blank cX10_blank 2 (some .int) 0 := ⟨List.mem_of_getElem? (i := 1010) (by decide +kernel), List.mem_of_getElem? (i := 101) (by decide +kernel), ⟨by decide +kernel, by decide +kernel⟩, by decide +kernel⟩
theorem mf_X10_goes : MF yX10_goes cX10_goes 3 (some .boolean) 2 := ⟨List.mem_of_getElem? (i := 1034) (by decide +kernel), List.mem_of_getElem? (i := 101) (by decide +kernel), ⟨by decide +kernel, by decide +kernel⟩, by decide +kernel⟩
theorem mf_X10_isNewTwice : MF yX10_isNewTwice cX10_isNewTwice 5 (some .boolean) 0 := ⟨List.mem_of_getElem? (i := 1030) (by decide +kernel), List.mem_of_getElem? (i := 101) (by decide +kernel), ⟨by decide +kernel, by decide +kernel⟩, by decide +kernel⟩
theorem mf_X10_takesName : MF yX10_takesName cX10_takesName 3 (some .boolean) 1 := ⟨List.mem_of_getElem? (i := 1026) (by decide +kernel), List.mem_of_getElem? (i := 101) (by decide +kernel), ⟨by decide +kernel, by decide +kernel⟩, by decide +kernel⟩
theorem mf_X10_takesUse : MF yX10_takesUse cX10_takesUse 4 (some .boolean) 1 := ⟨List.mem_of_getElem? (i := 1038) (by decide +kernel), List.mem_of_getElem? (i := 101) (by decide +kernel), ⟨by decide +kernel, by decide +kernel⟩, by decide +kernel⟩
theorem mf_X10_takes : MF yX10_takes cX10_takes 2 (some .boolean) 1 := ⟨List.mem_of_getElem? (i := 1022) (by decide +kernel), List.mem_of_getElem? (i := 101) (by decide +kernel), ⟨by decide +kernel, by decide +kernel⟩, by decide +kernel⟩
theorem mf_X10_read : MF yX10_read cX10_read 2 (some .int) 0 := ⟨List.mem_of_getElem? (i := 1018) (by decide +kernel), List.mem_of_getElem? (i := 101) (by decide +kernel), ⟨by decide +kernel, by decide +kernel⟩, by decide +kernel⟩
theorem mf_X10_fault : MF yX10_fault cX10_fault 1 (some .int) 0 := ⟨List.mem_of_getElem? (i := 1014) (by decide +kernel), List.mem_of_getElem? (i := 101) (by decide +kernel), ⟨by decide +kernel, by decide +kernel⟩, by decide +kernel⟩
theorem mf_X10_compareNew : MF yX10_compareNew cX10_compareNew 6 (some .int) 2 := ⟨List.mem_of_getElem? (i := 1050) (by decide +kernel), List.mem_of_getElem? (i := 101) (by decide +kernel), ⟨by decide +kernel, by decide +kernel⟩, by decide +kernel⟩
theorem mf_X10_isThere : MF yX10_isThere cX10_isThere 4 (some .boolean) 1 := ⟨List.mem_of_getElem? (i := 1046) (by decide +kernel), List.mem_of_getElem? (i := 101) (by decide +kernel), ⟨by decide +kernel, by decide +kernel⟩, by decide +kernel⟩
theorem mf_X10_moveName : MF yX10_moveName cX10_moveName 4 none 2 := ⟨List.mem_of_getElem? (i := 1058) (by decide +kernel), List.mem_of_getElem? (i := 101) (by decide +kernel), ⟨by decide +kernel, by decide +kernel⟩, by decide +kernel⟩
theorem mf_X10_comes : MF yX10_comes cX10_comes 4 none 1 := ⟨List.mem_of_getElem? (i := 1054) (by decide +kernel), List.mem_of_getElem? (i := 101) (by decide +kernel), ⟨by decide +kernel, by decide +kernel⟩, by decide +kernel⟩
theorem mf_X10_names : MF yX10_names cX10_names 3 (some .int) 0 := ⟨List.mem_of_getElem? (i := 1042) (by decide +kernel), List.mem_of_getElem? (i := 101) (by decide +kernel), ⟨by decide +kernel, by decide +kernel⟩, by decide +kernel⟩
theorem mf_X10_isDial : MF yX10_isDial cX10_isDial 6 (some .boolean) 0 := ⟨List.mem_of_getElem? (i := 1066) (by decide +kernel), List.mem_of_getElem? (i := 101) (by decide +kernel), ⟨by decide +kernel, by decide +kernel⟩, by decide +kernel⟩
theorem mf_X10_dial : MF yX10_dial cX10_dial 5 (some .int) 0 := ⟨List.mem_of_getElem? (i := 1062) (by decide +kernel), List.mem_of_getElem? (i := 101) (by decide +kernel), ⟨by decide +kernel, by decide +kernel⟩, by decide +kernel⟩
theorem mf_X10_isName : MF yX10_isName cX10_isName 2 (some .boolean) 1 := ⟨List.mem_of_getElem? (i := 1074) (by decide +kernel), List.mem_of_getElem? (i := 101) (by decide +kernel), ⟨by decide +kernel, by decide +kernel⟩, by decide +kernel⟩
theorem mf_X10_drop : MF yX10_drop cX10_drop 3 (some .int) 1 := ⟨List.mem_of_getElem? (i := 1070) (by decide +kernel), List.mem_of_getElem? (i := 101) (by decide +kernel), ⟨by decide +kernel, by decide +kernel⟩, by decide +kernel⟩
theorem mf_X10_use : MF yX10_use cX10_use 4 (some .int) 2 := ⟨List.mem_of_getElem? (i := 1078) (by decide +kernel), List.mem_of_getElem? (i := 101) (by decide +kernel), ⟨by decide +kernel, by decide +kernel⟩, by decide +kernel⟩
theorem mf_X10_codeAt : MF yX10_codeAt cX10_codeAt 3 (some .int) 2 := ⟨List.mem_of_getElem? (i := 1102) (by decide +kernel), List.mem_of_getElem? (i := 101) (by decide +kernel), ⟨by decide +kernel, by decide +kernel⟩, by decide +kernel⟩
theorem mf_X10_begins : MF yX10_begins cX10_begins 6 (some .boolean) 3 := ⟨List.mem_of_getElem? (i := 1098) (by decide +kernel), List.mem_of_getElem? (i := 101) (by decide +kernel), ⟨by decide +kernel, by decide +kernel⟩, by decide +kernel⟩
theorem mf_X10_isTwin : MF yX10_isTwin cX10_isTwin 3 (some .boolean) 2 := ⟨List.mem_of_getElem? (i := 1094) (by decide +kernel), List.mem_of_getElem? (i := 101) (by decide +kernel), ⟨by decide +kernel, by decide +kernel⟩, by decide +kernel⟩
theorem mf_X10_twins : MF yX10_twins cX10_twins 4 (some .int) 1 := ⟨List.mem_of_getElem? (i := 1090) (by decide +kernel), List.mem_of_getElem? (i := 101) (by decide +kernel), ⟨by decide +kernel, by decide +kernel⟩, by decide +kernel⟩
theorem mf_X10_telling : MF yX10_telling cX10_telling 5 (some .int) 1 := ⟨List.mem_of_getElem? (i := 1106) (by decide +kernel), List.mem_of_getElem? (i := 101) (by decide +kernel), ⟨by decide +kernel, by decide +kernel⟩, by decide +kernel⟩
theorem mf_X10_isAhead : MF yX10_isAhead cX10_isAhead 3 (some .boolean) 2 := ⟨List.mem_of_getElem? (i := 1119) (by decide +kernel), List.mem_of_getElem? (i := 101) (by decide +kernel), ⟨by decide +kernel, by decide +kernel⟩, by decide +kernel⟩
theorem mf_X10_placeIn : MF yX10_placeIn cX10_placeIn 5 (some .int) 2 := ⟨List.mem_of_getElem? (i := 1115) (by decide +kernel), List.mem_of_getElem? (i := 101) (by decide +kernel), ⟨by decide +kernel, by decide +kernel⟩, by decide +kernel⟩
theorem mf_X10_presses : MF yX10_presses cX10_presses 5 (some .int) 1 := ⟨List.mem_of_getElem? (i := 1110) (by decide +kernel), List.mem_of_getElem? (i := 101) (by decide +kernel), ⟨by decide +kernel, by decide +kernel⟩, by decide +kernel⟩
theorem mf_X10_costAt : MF yX10_costAt cX10_costAt 3 (some .int) 2 := ⟨List.mem_of_getElem? (i := 1143) (by decide +kernel), List.mem_of_getElem? (i := 101) (by decide +kernel), ⟨by decide +kernel, by decide +kernel⟩, by decide +kernel⟩
theorem mf_X10_partsAt : MF yX10_partsAt cX10_partsAt 4 (some .int) 3 := ⟨List.mem_of_getElem? (i := 1139) (by decide +kernel), List.mem_of_getElem? (i := 101) (by decide +kernel), ⟨by decide +kernel, by decide +kernel⟩, by decide +kernel⟩
theorem mf_X10_bestParts : MF yX10_bestParts cX10_bestParts 8 (some .int) 3 := ⟨List.mem_of_getElem? (i := 1135) (by decide +kernel), List.mem_of_getElem? (i := 101) (by decide +kernel), ⟨by decide +kernel, by decide +kernel⟩, by decide +kernel⟩
theorem mf_X10_usesOf : MF yX10_usesOf cX10_usesOf 5 (some .int) 2 := ⟨List.mem_of_getElem? (i := 1147) (by decide +kernel), List.mem_of_getElem? (i := 101) (by decide +kernel), ⟨by decide +kernel, by decide +kernel⟩, by decide +kernel⟩
theorem mf_X10_layStretch : MF yX10_layStretch cX10_layStretch 7 none 3 := ⟨List.mem_of_getElem? (i := 1131) (by decide +kernel), List.mem_of_getElem? (i := 101) (by decide +kernel), ⟨by decide +kernel, by decide +kernel⟩, by decide +kernel⟩
theorem mf_X10_layCosts : MF yX10_layCosts cX10_layCosts 4 none 1 := ⟨List.mem_of_getElem? (i := 1127) (by decide +kernel), List.mem_of_getElem? (i := 101) (by decide +kernel), ⟨by decide +kernel, by decide +kernel⟩, by decide +kernel⟩
theorem mf_X10_firstCut : MF yX10_firstCut cX10_firstCut 5 (some .int) 3 := ⟨List.mem_of_getElem? (i := 1159) (by decide +kernel), List.mem_of_getElem? (i := 101) (by decide +kernel), ⟨by decide +kernel, by decide +kernel⟩, by decide +kernel⟩
theorem mf_X10_partsOf : MF yX10_partsOf cX10_partsOf 6 (some .int) 3 := ⟨List.mem_of_getElem? (i := 1155) (by decide +kernel), List.mem_of_getElem? (i := 101) (by decide +kernel), ⟨by decide +kernel, by decide +kernel⟩, by decide +kernel⟩
theorem mf_X10_layPath : MF yX10_layPath cX10_layPath 8 none 2 := ⟨List.mem_of_getElem? (i := 1151) (by decide +kernel), List.mem_of_getElem? (i := 101) (by decide +kernel), ⟨by decide +kernel, by decide +kernel⟩, by decide +kernel⟩
theorem mf_X10_layMenu : MF yX10_layMenu cX10_layMenu 3 none 1 := ⟨List.mem_of_getElem? (i := 1123) (by decide +kernel), List.mem_of_getElem? (i := 101) (by decide +kernel), ⟨by decide +kernel, by decide +kernel⟩, by decide +kernel⟩
theorem mf_X10_nameNow : MF yX10_nameNow cX10_nameNow 3 (some .int) 2 := ⟨List.mem_of_getElem? (i := 1086) (by decide +kernel), List.mem_of_getElem? (i := 101) (by decide +kernel), ⟨by decide +kernel, by decide +kernel⟩, by decide +kernel⟩
theorem mf_X10_name : MF yX10_name cX10_name 3 (some .int) 2 := ⟨List.mem_of_getElem? (i := 1082) (by decide +kernel), List.mem_of_getElem? (i := 101) (by decide +kernel), ⟨by decide +kernel, by decide +kernel⟩, by decide +kernel⟩
theorem mf_X10_sign : MF yX10_sign cX10_sign 3 (some .int) 2 := ⟨List.mem_of_getElem? (i := 1163) (by decide +kernel), List.mem_of_getElem? (i := 101) (by decide +kernel), ⟨by decide +kernel, by decide +kernel⟩, by decide +kernel⟩
theorem mf_X10_digit : MF yX10_digit cX10_digit 3 (some .int) 2 := ⟨List.mem_of_getElem? (i := 1167) (by decide +kernel), List.mem_of_getElem? (i := 101) (by decide +kernel), ⟨by decide +kernel, by decide +kernel⟩, by decide +kernel⟩
theorem mf_X10_laid : MF yX10_laid cX10_laid 2 (some .int) 1 := ⟨List.mem_of_getElem? (i := 1171) (by decide +kernel), List.mem_of_getElem? (i := 101) (by decide +kernel), ⟨by decide +kernel, by decide +kernel⟩, by decide +kernel⟩
theorem mf_X10_usesAll : MF yX10_usesAll cX10_usesAll 3 (some .int) 0 := ⟨List.mem_of_getElem? (i := 1183) (by decide +kernel), List.mem_of_getElem? (i := 101) (by decide +kernel), ⟨by decide +kernel, by decide +kernel⟩, by decide +kernel⟩
theorem mf_X10_withTwins : MF yX10_withTwins cX10_withTwins 3 (some .int) 0 := ⟨List.mem_of_getElem? (i := 1187) (by decide +kernel), List.mem_of_getElem? (i := 101) (by decide +kernel), ⟨by decide +kernel, by decide +kernel⟩, by decide +kernel⟩
theorem mf_X10_codesMany : MF yX10_codesMany cX10_codesMany 5 (some .int) 0 := ⟨List.mem_of_getElem? (i := 1191) (by decide +kernel), List.mem_of_getElem? (i := 101) (by decide +kernel), ⟨by decide +kernel, by decide +kernel⟩, by decide +kernel⟩
theorem mf_X10_mostTelling : MF yX10_mostTelling cX10_mostTelling 4 (some .int) 0 := ⟨List.mem_of_getElem? (i := 1195) (by decide +kernel), List.mem_of_getElem? (i := 101) (by decide +kernel), ⟨by decide +kernel, by decide +kernel⟩, by decide +kernel⟩
theorem mf_X10_pressesAll : MF yX10_pressesAll cX10_pressesAll 3 (some .int) 0 := ⟨List.mem_of_getElem? (i := 1199) (by decide +kernel), List.mem_of_getElem? (i := 101) (by decide +kernel), ⟨by decide +kernel, by decide +kernel⟩, by decide +kernel⟩
theorem mf_X10_digitsAll : MF yX10_digitsAll cX10_digitsAll 3 (some .int) 0 := ⟨List.mem_of_getElem? (i := 1203) (by decide +kernel), List.mem_of_getElem? (i := 101) (by decide +kernel), ⟨by decide +kernel, by decide +kernel⟩, by decide +kernel⟩
theorem mf_X10_aboutNow : MF yX10_aboutNow cX10_aboutNow 2 (some .int) 1 := ⟨List.mem_of_getElem? (i := 1179) (by decide +kernel), List.mem_of_getElem? (i := 101) (by decide +kernel), ⟨by decide +kernel, by decide +kernel⟩, by decide +kernel⟩
theorem mf_X10_about : MF yX10_about cX10_about 2 (some .int) 1 := ⟨List.mem_of_getElem? (i := 1175) (by decide +kernel), List.mem_of_getElem? (i := 101) (by decide +kernel), ⟨by decide +kernel, by decide +kernel⟩, by decide +kernel⟩
theorem mf_X10_press : MF yX10_press cX10_press 2 (some .int) 1 := ⟨List.mem_of_getElem? (i := 1207) (by decide +kernel), List.mem_of_getElem? (i := 101) (by decide +kernel), ⟨by decide +kernel, by decide +kernel⟩, by decide +kernel⟩
theorem mf_X10_back : MF yX10_back cX10_back 1 (some .int) 0 := ⟨List.mem_of_getElem? (i := 1211) (by decide +kernel), List.mem_of_getElem? (i := 101) (by decide +kernel), ⟨by decide +kernel, by decide +kernel⟩, by decide +kernel⟩
theorem mf_X10_wipe : MF yX10_wipe cX10_wipe 2 (some .int) 0 := ⟨List.mem_of_getElem? (i := 1215) (by decide +kernel), List.mem_of_getElem? (i := 101) (by decide +kernel), ⟨by decide +kernel, by decide +kernel⟩, by decide +kernel⟩
theorem mf_X10_typed : MF yX10_typed cX10_typed 2 (some .int) 1 := ⟨List.mem_of_getElem? (i := 1219) (by decide +kernel), List.mem_of_getElem? (i := 101) (by decide +kernel), ⟨by decide +kernel, by decide +kernel⟩, by decide +kernel⟩
theorem mf_X10_isChosen : MF yX10_isChosen cX10_isChosen 4 (some .boolean) 1 := ⟨List.mem_of_getElem? (i := 1227) (by decide +kernel), List.mem_of_getElem? (i := 101) (by decide +kernel), ⟨by decide +kernel, by decide +kernel⟩, by decide +kernel⟩
theorem mf_X10_chosenAhead : MF yX10_chosenAhead cX10_chosenAhead 4 (some .int) 1 := ⟨List.mem_of_getElem? (i := 1231) (by decide +kernel), List.mem_of_getElem? (i := 101) (by decide +kernel), ⟨by decide +kernel, by decide +kernel⟩, by decide +kernel⟩
theorem mf_X10_choice : MF yX10_choice cX10_choice 3 (some .int) 1 := ⟨List.mem_of_getElem? (i := 1223) (by decide +kernel), List.mem_of_getElem? (i := 101) (by decide +kernel), ⟨by decide +kernel, by decide +kernel⟩, by decide +kernel⟩
theorem mf_X10_fitsAt : MF yX10_fitsAt cX10_fitsAt 5 (some .boolean) 2 := ⟨List.mem_of_getElem? (i := 1252) (by decide +kernel), List.mem_of_getElem? (i := 101) (by decide +kernel), ⟨by decide +kernel, by decide +kernel⟩, by decide +kernel⟩
theorem mf_X10_takesPiece : MF yX10_takesPiece cX10_takesPiece 5 none 3 := ⟨List.mem_of_getElem? (i := 1247) (by decide +kernel), List.mem_of_getElem? (i := 101) (by decide +kernel), ⟨by decide +kernel, by decide +kernel⟩, by decide +kernel⟩
theorem mf_X10_laySpellings : MF yX10_laySpellings cX10_laySpellings 3 none 0 := ⟨List.mem_of_getElem? (i := 1243) (by decide +kernel), List.mem_of_getElem? (i := 101) (by decide +kernel), ⟨by decide +kernel, by decide +kernel⟩, by decide +kernel⟩
theorem mf_X10_spellingNow : MF yX10_spellingNow cX10_spellingNow 2 (some .int) 1 := ⟨List.mem_of_getElem? (i := 1239) (by decide +kernel), List.mem_of_getElem? (i := 101) (by decide +kernel), ⟨by decide +kernel, by decide +kernel⟩, by decide +kernel⟩
theorem mf_X10_spelling : MF yX10_spelling cX10_spelling 2 (some .int) 1 := ⟨List.mem_of_getElem? (i := 1235) (by decide +kernel), List.mem_of_getElem? (i := 101) (by decide +kernel), ⟨by decide +kernel, by decide +kernel⟩, by decide +kernel⟩
theorem mf_X10_bestName : MF yX10_bestName cX10_bestName 3 (some .int) 1 := ⟨List.mem_of_getElem? (i := 1264) (by decide +kernel), List.mem_of_getElem? (i := 101) (by decide +kernel), ⟨by decide +kernel, by decide +kernel⟩, by decide +kernel⟩
theorem mf_X10_pieceNow : MF yX10_pieceNow cX10_pieceNow 5 (some .int) 1 := ⟨List.mem_of_getElem? (i := 1260) (by decide +kernel), List.mem_of_getElem? (i := 101) (by decide +kernel), ⟨by decide +kernel, by decide +kernel⟩, by decide +kernel⟩
theorem mf_X10_piece : MF yX10_piece cX10_piece 2 (some .int) 1 := ⟨List.mem_of_getElem? (i := 1256) (by decide +kernel), List.mem_of_getElem? (i := 101) (by decide +kernel), ⟨by decide +kernel, by decide +kernel⟩, by decide +kernel⟩
theorem mf_X10_isPathChanged : MF yX10_isPathChanged cX10_isPathChanged 4 (some .boolean) 1 := ⟨List.mem_of_getElem? (i := 1276) (by decide +kernel), List.mem_of_getElem? (i := 101) (by decide +kernel), ⟨by decide +kernel, by decide +kernel⟩, by decide +kernel⟩
theorem mf_X10_takeMenu : MF yX10_takeMenu cX10_takeMenu 4 (some .int) 1 := ⟨List.mem_of_getElem? (i := 1272) (by decide +kernel), List.mem_of_getElem? (i := 101) (by decide +kernel), ⟨by decide +kernel, by decide +kernel⟩, by decide +kernel⟩
theorem mf_X10_costNow : MF yX10_costNow cX10_costNow 3 (some .int) 0 := ⟨List.mem_of_getElem? (i := 1280) (by decide +kernel), List.mem_of_getElem? (i := 101) (by decide +kernel), ⟨by decide +kernel, by decide +kernel⟩, by decide +kernel⟩
theorem mf_X10_leastCost : MF yX10_leastCost cX10_leastCost 1 (some .int) 0 := ⟨List.mem_of_getElem? (i := 1288) (by decide +kernel), List.mem_of_getElem? (i := 101) (by decide +kernel), ⟨by decide +kernel, by decide +kernel⟩, by decide +kernel⟩
theorem mf_X10_build : MF yX10_build cX10_build 2 (some .int) 1 := ⟨List.mem_of_getElem? (i := 1268) (by decide +kernel), List.mem_of_getElem? (i := 101) (by decide +kernel), ⟨by decide +kernel, by decide +kernel⟩, by decide +kernel⟩
theorem mf_X10_tend : MF yX10_tend cX10_tend 3 (some .int) 1 := ⟨List.mem_of_getElem? (i := 1284) (by decide +kernel), List.mem_of_getElem? (i := 101) (by decide +kernel), ⟨by decide +kernel, by decide +kernel⟩, by decide +kernel⟩
theorem mf_X10_path : MF yX10_path cX10_path 3 (some .int) 2 := ⟨List.mem_of_getElem? (i := 1292) (by decide +kernel), List.mem_of_getElem? (i := 101) (by decide +kernel), ⟨by decide +kernel, by decide +kernel⟩, by decide +kernel⟩
theorem mf_X10_layAsked : MF yX10_layAsked cX10_layAsked 6 (some .boolean) 1 := ⟨List.mem_of_getElem? (i := 1300) (by decide +kernel), List.mem_of_getElem? (i := 101) (by decide +kernel), ⟨by decide +kernel, by decide +kernel⟩, by decide +kernel⟩
theorem mf_X10_isLed : MF yX10_isLed cX10_isLed 4 (some .boolean) 1 := ⟨List.mem_of_getElem? (i := 1304) (by decide +kernel), List.mem_of_getElem? (i := 101) (by decide +kernel), ⟨by decide +kernel, by decide +kernel⟩, by decide +kernel⟩
theorem mf_X10_leads : MF yX10_leads cX10_leads 5 (some .int) 1 := ⟨List.mem_of_getElem? (i := 1296) (by decide +kernel), List.mem_of_getElem? (i := 101) (by decide +kernel), ⟨by decide +kernel, by decide +kernel⟩, by decide +kernel⟩
theorem mf_X10_longest : MF yX10_longest cX10_longest 3 (some .int) 0 := ⟨List.mem_of_getElem? (i := 1316) (by decide +kernel), List.mem_of_getElem? (i := 101) (by decide +kernel), ⟨by decide +kernel, by decide +kernel⟩, by decide +kernel⟩
theorem mf_X10_isSamePath : MF yX10_isSamePath cX10_isSamePath 6 (some .boolean) 3 := ⟨List.mem_of_getElem? (i := 1324) (by decide +kernel), List.mem_of_getElem? (i := 101) (by decide +kernel), ⟨by decide +kernel, by decide +kernel⟩, by decide +kernel⟩
theorem mf_X10_menusMany : MF yX10_menusMany cX10_menusMany 4 (some .int) 0 := ⟨List.mem_of_getElem? (i := 1320) (by decide +kernel), List.mem_of_getElem? (i := 101) (by decide +kernel), ⟨by decide +kernel, by decide +kernel⟩, by decide +kernel⟩
theorem mf_X10_wholeParts : MF yX10_wholeParts cX10_wholeParts 3 (some .int) 0 := ⟨List.mem_of_getElem? (i := 1328) (by decide +kernel), List.mem_of_getElem? (i := 101) (by decide +kernel), ⟨by decide +kernel, by decide +kernel⟩, by decide +kernel⟩
theorem mf_X10_menuNow : MF yX10_menuNow cX10_menuNow 2 (some .int) 1 := ⟨List.mem_of_getElem? (i := 1312) (by decide +kernel), List.mem_of_getElem? (i := 101) (by decide +kernel), ⟨by decide +kernel, by decide +kernel⟩, by decide +kernel⟩
theorem mf_X10_menu : MF yX10_menu cX10_menu 2 (some .int) 1 := ⟨List.mem_of_getElem? (i := 1308) (by decide +kernel), List.mem_of_getElem? (i := 101) (by decide +kernel), ⟨by decide +kernel, by decide +kernel⟩, by decide +kernel⟩
theorem mf_X10_howMany : MF yX10_howMany cX10_howMany 2 (some .int) 1 := ⟨List.mem_of_getElem? (i := 1336) (by decide +kernel), List.mem_of_getElem? (i := 101) (by decide +kernel), ⟨by decide +kernel, by decide +kernel⟩, by decide +kernel⟩
theorem mf_X10_count : MF yX10_count cX10_count 2 (some .int) 1 := ⟨List.mem_of_getElem? (i := 1332) (by decide +kernel), List.mem_of_getElem? (i := 101) (by decide +kernel), ⟨by decide +kernel, by decide +kernel⟩, by decide +kernel⟩
theorem mf_X10_mix : MF yX10_mix cX10_mix 3 none 1 := ⟨List.mem_of_getElem? (i := 1345) (by decide +kernel), List.mem_of_getElem? (i := 101) (by decide +kernel), ⟨by decide +kernel, by decide +kernel⟩, by decide +kernel⟩
theorem mf_X10_mixName : MF yX10_mixName cX10_mixName 3 none 1 := ⟨List.mem_of_getElem? (i := 1350) (by decide +kernel), List.mem_of_getElem? (i := 101) (by decide +kernel), ⟨by decide +kernel, by decide +kernel⟩, by decide +kernel⟩
theorem mf_X10_mixTyped : MF yX10_mixTyped cX10_mixTyped 2 none 0 := ⟨List.mem_of_getElem? (i := 1354) (by decide +kernel), List.mem_of_getElem? (i := 101) (by decide +kernel), ⟨by decide +kernel, by decide +kernel⟩, by decide +kernel⟩
theorem mf_X10_mixMenu : MF yX10_mixMenu cX10_mixMenu 3 none 0 := ⟨List.mem_of_getElem? (i := 1359) (by decide +kernel), List.mem_of_getElem? (i := 101) (by decide +kernel), ⟨by decide +kernel, by decide +kernel⟩, by decide +kernel⟩
theorem mf_X10_digest : MF yX10_digest cX10_digest 2 (some .long) 0 := ⟨List.mem_of_getElem? (i := 1340) (by decide +kernel), List.mem_of_getElem? (i := 101) (by decide +kernel), ⟨by decide +kernel, by decide +kernel⟩, by decide +kernel⟩
theorem m_0 : Cond.selects RX3 yX3_fitsFrequency yX3_fitsFrequency ∈ lw_tbl := List.mem_of_getElem? (i := 0) (by decide +kernel)
theorem m_1 : Cond.selects RX3 yX3_frequencyOf yX3_frequencyOf ∈ lw_tbl := List.mem_of_getElem? (i := 1) (by decide +kernel)
theorem m_2 : Cond.selects RX3 yX3_fitsName yX3_fitsName ∈ lw_tbl := List.mem_of_getElem? (i := 2) (by decide +kernel)
theorem m_3 : Cond.selects RX3 yX3_endsName yX3_endsName ∈ lw_tbl := List.mem_of_getElem? (i := 3) (by decide +kernel)
theorem m_4 : Cond.selects RX3 yX3_isListed yX3_isListed ∈ lw_tbl := List.mem_of_getElem? (i := 4) (by decide +kernel)
theorem m_5 : Cond.selects RX3 yX3_isSameText yX3_isSameText ∈ lw_tbl := List.mem_of_getElem? (i := 5) (by decide +kernel)
theorem m_6 : Cond.selects RX9 yX9_isAnyItemKnown yX9_isAnyItemKnown ∈ lw_tbl := List.mem_of_getElem? (i := 6) (by decide +kernel)
theorem m_7 : Cond.selects RX7 yX7_placeOf yX7_placeOf ∈ lw_tbl := List.mem_of_getElem? (i := 7) (by decide +kernel)
theorem m_8 : Cond.selects RX7 yX7_get yX7_get ∈ lw_tbl := List.mem_of_getElem? (i := 8) (by decide +kernel)
theorem m_9 : Cond.selects RX0 yX0_twinsBelow yX0_twinsBelow ∈ lw_tbl := List.mem_of_getElem? (i := 9) (by decide +kernel)
theorem m_10 : Cond.selects RX4 yX4_has yX4_has ∈ lw_tbl := List.mem_of_getElem? (i := 10) (by decide +kernel)
theorem m_11 : Cond.selects RX5 yX5_planRun yX5_planRun ∈ lw_tbl := List.mem_of_getElem? (i := 11) (by decide +kernel)
theorem m_12 : Cond.selects RX5 yX5_planParts yX5_planParts ∈ lw_tbl := List.mem_of_getElem? (i := 12) (by decide +kernel)
theorem m_13 : Cond.selects RX5 yX5_sumOf yX5_sumOf ∈ lw_tbl := List.mem_of_getElem? (i := 13) (by decide +kernel)
theorem m_14 : Cond.selects RX5 yX5_layPath yX5_layPath ∈ lw_tbl := List.mem_of_getElem? (i := 14) (by decide +kernel)
theorem m_15 : Cond.selects RX5 yX5_firstSizeOf yX5_firstSizeOf ∈ lw_tbl := List.mem_of_getElem? (i := 15) (by decide +kernel)
theorem m_16 : Cond.selects RX0 yX0_placeInList yX0_placeInList ∈ lw_tbl := List.mem_of_getElem? (i := 16) (by decide +kernel)
theorem m_17 : Cond.selects RX6 yX6_studyDigit yX6_studyDigit ∈ lw_tbl := List.mem_of_getElem? (i := 17) (by decide +kernel)
theorem m_18 : Cond.selects RX6 yX6_studyName yX6_studyName ∈ lw_tbl := List.mem_of_getElem? (i := 18) (by decide +kernel)
theorem m_19 : Cond.selects RX6 yX6_layBest yX6_layBest ∈ lw_tbl := List.mem_of_getElem? (i := 19) (by decide +kernel)
theorem m_20 : Cond.selects RX6 yX6_bestNameAt yX6_bestNameAt ∈ lw_tbl := List.mem_of_getElem? (i := 20) (by decide +kernel)
theorem m_21 : Cond.selects RX6 yX6_keepsBest yX6_keepsBest ∈ lw_tbl := List.mem_of_getElem? (i := 21) (by decide +kernel)
theorem m_22 : Cond.selects RX9 yX9_adoptSpare yX9_adoptSpare ∈ lw_tbl := List.mem_of_getElem? (i := 22) (by decide +kernel)
theorem m_23 : Cond.selects RX4 yX4_hasSamePath yX4_hasSamePath ∈ lw_tbl := List.mem_of_getElem? (i := 23) (by decide +kernel)
theorem m_24 : Cond.selects RX4 yX4_splitDecimals yX4_splitDecimals ∈ lw_tbl := List.mem_of_getElem? (i := 24) (by decide +kernel)
theorem m_25 : Cond.selects RX4 yX4_beginsAsWanted yX4_beginsAsWanted ∈ lw_tbl := List.mem_of_getElem? (i := 25) (by decide +kernel)
theorem m_26 : Cond.selects RX9 yX9_mixNames yX9_mixNames ∈ lw_tbl := List.mem_of_getElem? (i := 26) (by decide +kernel)
theorem m_27 : Cond.selects RX9 yX9_mixPaths yX9_mixPaths ∈ lw_tbl := List.mem_of_getElem? (i := 27) (by decide +kernel)
theorem m_28 : Cond.selects RX10 yX10_read yX10_read ∈ lw_tbl := List.mem_of_getElem? (i := 28) (by decide +kernel)
theorem m_29 : Cond.selects RX10 yX10_takes yX10_takes ∈ lw_tbl := List.mem_of_getElem? (i := 29) (by decide +kernel)
theorem m_30 : Cond.selects RX10 yX10_takesName yX10_takesName ∈ lw_tbl := List.mem_of_getElem? (i := 30) (by decide +kernel)
theorem m_31 : Cond.selects RX10 yX10_isNewTwice yX10_isNewTwice ∈ lw_tbl := List.mem_of_getElem? (i := 31) (by decide +kernel)
theorem m_32 : Cond.selects RX10 yX10_goes yX10_goes ∈ lw_tbl := List.mem_of_getElem? (i := 32) (by decide +kernel)
theorem m_33 : Cond.selects RX10 yX10_takesUse yX10_takesUse ∈ lw_tbl := List.mem_of_getElem? (i := 33) (by decide +kernel)
theorem m_34 : Cond.selects RX10 yX10_isThere yX10_isThere ∈ lw_tbl := List.mem_of_getElem? (i := 34) (by decide +kernel)
theorem m_35 : Cond.selects RX10 yX10_compareNew yX10_compareNew ∈ lw_tbl := List.mem_of_getElem? (i := 35) (by decide +kernel)
theorem m_36 : Cond.selects RX10 yX10_comes yX10_comes ∈ lw_tbl := List.mem_of_getElem? (i := 36) (by decide +kernel)
theorem m_37 : Cond.selects RX10 yX10_moveName yX10_moveName ∈ lw_tbl := List.mem_of_getElem? (i := 37) (by decide +kernel)
theorem m_38 : Cond.selects RX10 yX10_isDial yX10_isDial ∈ lw_tbl := List.mem_of_getElem? (i := 38) (by decide +kernel)
theorem m_39 : Cond.selects RX10 yX10_isName yX10_isName ∈ lw_tbl := List.mem_of_getElem? (i := 39) (by decide +kernel)
theorem m_40 : Cond.selects RX10 yX10_nameNow yX10_nameNow ∈ lw_tbl := List.mem_of_getElem? (i := 40) (by decide +kernel)
theorem m_41 : Cond.selects RX10 yX10_twins yX10_twins ∈ lw_tbl := List.mem_of_getElem? (i := 41) (by decide +kernel)
theorem m_42 : Cond.selects RX10 yX10_isTwin yX10_isTwin ∈ lw_tbl := List.mem_of_getElem? (i := 42) (by decide +kernel)
theorem m_43 : Cond.selects RX10 yX10_begins yX10_begins ∈ lw_tbl := List.mem_of_getElem? (i := 43) (by decide +kernel)
theorem m_44 : Cond.selects RX10 yX10_codeAt yX10_codeAt ∈ lw_tbl := List.mem_of_getElem? (i := 44) (by decide +kernel)
theorem m_45 : Cond.selects RX10 yX10_telling yX10_telling ∈ lw_tbl := List.mem_of_getElem? (i := 45) (by decide +kernel)
theorem m_46 : Cond.selects RX10 yX10_presses yX10_presses ∈ lw_tbl := List.mem_of_getElem? (i := 46) (by decide +kernel)
theorem m_47 : Cond.selects RX10 yX10_placeIn yX10_placeIn ∈ lw_tbl := List.mem_of_getElem? (i := 47) (by decide +kernel)
theorem m_48 : Cond.selects RX10 yX10_isAhead yX10_isAhead ∈ lw_tbl := List.mem_of_getElem? (i := 48) (by decide +kernel)
theorem m_49 : Cond.selects RX10 yX10_layMenu yX10_layMenu ∈ lw_tbl := List.mem_of_getElem? (i := 49) (by decide +kernel)
theorem m_50 : Cond.selects RX10 yX10_layCosts yX10_layCosts ∈ lw_tbl := List.mem_of_getElem? (i := 50) (by decide +kernel)
theorem m_51 : Cond.selects RX10 yX10_layStretch yX10_layStretch ∈ lw_tbl := List.mem_of_getElem? (i := 51) (by decide +kernel)
theorem m_52 : Cond.selects RX10 yX10_bestParts yX10_bestParts ∈ lw_tbl := List.mem_of_getElem? (i := 52) (by decide +kernel)
theorem m_53 : Cond.selects RX10 yX10_partsAt yX10_partsAt ∈ lw_tbl := List.mem_of_getElem? (i := 53) (by decide +kernel)
theorem m_54 : Cond.selects RX10 yX10_costAt yX10_costAt ∈ lw_tbl := List.mem_of_getElem? (i := 54) (by decide +kernel)
theorem m_55 : Cond.selects RX10 yX10_usesOf yX10_usesOf ∈ lw_tbl := List.mem_of_getElem? (i := 55) (by decide +kernel)
theorem m_56 : Cond.selects RX10 yX10_layPath yX10_layPath ∈ lw_tbl := List.mem_of_getElem? (i := 56) (by decide +kernel)
theorem m_57 : Cond.selects RX10 yX10_partsOf yX10_partsOf ∈ lw_tbl := List.mem_of_getElem? (i := 57) (by decide +kernel)
theorem m_58 : Cond.selects RX10 yX10_firstCut yX10_firstCut ∈ lw_tbl := List.mem_of_getElem? (i := 58) (by decide +kernel)
theorem m_59 : Cond.selects RX10 yX10_aboutNow yX10_aboutNow ∈ lw_tbl := List.mem_of_getElem? (i := 59) (by decide +kernel)
theorem m_60 : Cond.selects RX10 yX10_usesAll yX10_usesAll ∈ lw_tbl := List.mem_of_getElem? (i := 60) (by decide +kernel)
theorem m_61 : Cond.selects RX10 yX10_withTwins yX10_withTwins ∈ lw_tbl := List.mem_of_getElem? (i := 61) (by decide +kernel)
theorem m_62 : Cond.selects RX10 yX10_codesMany yX10_codesMany ∈ lw_tbl := List.mem_of_getElem? (i := 62) (by decide +kernel)
theorem m_63 : Cond.selects RX10 yX10_mostTelling yX10_mostTelling ∈ lw_tbl := List.mem_of_getElem? (i := 63) (by decide +kernel)
theorem m_64 : Cond.selects RX10 yX10_pressesAll yX10_pressesAll ∈ lw_tbl := List.mem_of_getElem? (i := 64) (by decide +kernel)
theorem m_65 : Cond.selects RX10 yX10_digitsAll yX10_digitsAll ∈ lw_tbl := List.mem_of_getElem? (i := 65) (by decide +kernel)
theorem m_66 : Cond.selects RX10 yX10_isChosen yX10_isChosen ∈ lw_tbl := List.mem_of_getElem? (i := 66) (by decide +kernel)
theorem m_67 : Cond.selects RX10 yX10_chosenAhead yX10_chosenAhead ∈ lw_tbl := List.mem_of_getElem? (i := 67) (by decide +kernel)
theorem m_68 : Cond.selects RX10 yX10_spellingNow yX10_spellingNow ∈ lw_tbl := List.mem_of_getElem? (i := 68) (by decide +kernel)
theorem m_69 : Cond.selects RX10 yX10_laySpellings yX10_laySpellings ∈ lw_tbl := List.mem_of_getElem? (i := 69) (by decide +kernel)
theorem m_70 : Cond.selects RX10 yX10_takesPiece yX10_takesPiece ∈ lw_tbl := List.mem_of_getElem? (i := 70) (by decide +kernel)
theorem m_71 : Cond.selects RX10 yX10_fitsAt yX10_fitsAt ∈ lw_tbl := List.mem_of_getElem? (i := 71) (by decide +kernel)
theorem m_72 : Cond.selects RX10 yX10_pieceNow yX10_pieceNow ∈ lw_tbl := List.mem_of_getElem? (i := 72) (by decide +kernel)
theorem m_73 : Cond.selects RX10 yX10_bestName yX10_bestName ∈ lw_tbl := List.mem_of_getElem? (i := 73) (by decide +kernel)
theorem m_74 : Cond.selects RX10 yX10_takeMenu yX10_takeMenu ∈ lw_tbl := List.mem_of_getElem? (i := 74) (by decide +kernel)
theorem m_75 : Cond.selects RX10 yX10_isPathChanged yX10_isPathChanged ∈ lw_tbl := List.mem_of_getElem? (i := 75) (by decide +kernel)
theorem m_76 : Cond.selects RX10 yX10_costNow yX10_costNow ∈ lw_tbl := List.mem_of_getElem? (i := 76) (by decide +kernel)
theorem m_77 : Cond.selects RX10 yX10_leastCost yX10_leastCost ∈ lw_tbl := List.mem_of_getElem? (i := 77) (by decide +kernel)
theorem m_78 : Cond.selects RX10 yX10_layAsked yX10_layAsked ∈ lw_tbl := List.mem_of_getElem? (i := 78) (by decide +kernel)
theorem m_79 : Cond.selects RX10 yX10_isLed yX10_isLed ∈ lw_tbl := List.mem_of_getElem? (i := 79) (by decide +kernel)
theorem m_80 : Cond.selects RX10 yX10_menuNow yX10_menuNow ∈ lw_tbl := List.mem_of_getElem? (i := 80) (by decide +kernel)
theorem m_81 : Cond.selects RX10 yX10_longest yX10_longest ∈ lw_tbl := List.mem_of_getElem? (i := 81) (by decide +kernel)
theorem m_82 : Cond.selects RX10 yX10_menusMany yX10_menusMany ∈ lw_tbl := List.mem_of_getElem? (i := 82) (by decide +kernel)
theorem m_83 : Cond.selects RX10 yX10_isSamePath yX10_isSamePath ∈ lw_tbl := List.mem_of_getElem? (i := 83) (by decide +kernel)
theorem m_84 : Cond.selects RX10 yX10_wholeParts yX10_wholeParts ∈ lw_tbl := List.mem_of_getElem? (i := 84) (by decide +kernel)
theorem m_85 : Cond.selects RX10 yX10_howMany yX10_howMany ∈ lw_tbl := List.mem_of_getElem? (i := 85) (by decide +kernel)
theorem m_86 : Cond.selects RX10 yX10_mix yX10_mix ∈ lw_tbl := List.mem_of_getElem? (i := 86) (by decide +kernel)
theorem m_87 : Cond.selects RX10 yX10_mixName yX10_mixName ∈ lw_tbl := List.mem_of_getElem? (i := 87) (by decide +kernel)
theorem m_88 : Cond.selects RX10 yX10_mixTyped yX10_mixTyped ∈ lw_tbl := List.mem_of_getElem? (i := 88) (by decide +kernel)
theorem m_89 : Cond.selects RX10 yX10_mixMenu yX10_mixMenu ∈ lw_tbl := List.mem_of_getElem? (i := 89) (by decide +kernel)
theorem m_92 : Cond.initialized RX8 ∈ lw_tbl := List.mem_of_getElem? (i := 92) (by decide +kernel)
theorem m_94 : Cond.initialized RX2 ∈ lw_tbl := List.mem_of_getElem? (i := 94) (by decide +kernel)
theorem m_95 : Cond.initialized RX7 ∈ lw_tbl := List.mem_of_getElem? (i := 95) (by decide +kernel)
theorem m_96 : Cond.initialized RX3 ∈ lw_tbl := List.mem_of_getElem? (i := 96) (by decide +kernel)
theorem m_97 : Cond.initialized RX0 ∈ lw_tbl := List.mem_of_getElem? (i := 97) (by decide +kernel)
theorem m_98 : Cond.initialized RX6 ∈ lw_tbl := List.mem_of_getElem? (i := 98) (by decide +kernel)
theorem m_99 : Cond.initialized RX5 ∈ lw_tbl := List.mem_of_getElem? (i := 99) (by decide +kernel)
theorem m_100 : Cond.initialized RX4 ∈ lw_tbl := List.mem_of_getElem? (i := 100) (by decide +kernel)
theorem m_102 : Cond.initialized RX1 ∈ lw_tbl := List.mem_of_getElem? (i := 102) (by decide +kernel)
theorem m_110 : Cond.methodLink RX9 3 objectInit ∈ lw_tbl := List.mem_of_getElem? (i := 110) (by decide +kernel)
theorem m_113 : Cond.classLink RX9 9 RX8 ∈ lw_tbl := List.mem_of_getElem? (i := 113) (by decide +kernel)
theorem m_114 : Cond.instantiable RX8 2 ∈ lw_tbl := List.mem_of_getElem? (i := 114) (by decide +kernel)
theorem m_115 : Cond.methodLink RX9 11 yX8_init ∈ lw_tbl := List.mem_of_getElem? (i := 115) (by decide +kernel)
theorem m_116 : Cond.instanceMethod yX8_init ∈ lw_tbl := List.mem_of_getElem? (i := 116) (by decide +kernel)
theorem m_118 : Cond.methodLink RX8 3 objectInit ∈ lw_tbl := List.mem_of_getElem? (i := 118) (by decide +kernel)
theorem m_119 : Cond.methodLink RX8 9 yJ9_max_7cf53 ∈ lw_tbl := List.mem_of_getElem? (i := 119) (by decide +kernel)
theorem m_122 : Cond.fieldLink RX8 15 "DialMenus$Row" "items" "[I" ∈ lw_tbl := List.mem_of_getElem? (i := 122) (by decide +kernel)
theorem m_123 : Cond.fieldLink RX8 21 "DialMenus$Row" "size" "I" ∈ lw_tbl := List.mem_of_getElem? (i := 123) (by decide +kernel)
theorem m_130 : Cond.classLink RX9 21 RX2 ∈ lw_tbl := List.mem_of_getElem? (i := 130) (by decide +kernel)
theorem m_131 : Cond.instantiable RX2 2 ∈ lw_tbl := List.mem_of_getElem? (i := 131) (by decide +kernel)
theorem m_132 : Cond.methodLinkNest RX9 23 yX2_init "DialMenus" ∈ lw_tbl := List.mem_of_getElem? (i := 132) (by decide +kernel)
theorem m_133 : Cond.instanceMethod yX2_init ∈ lw_tbl := List.mem_of_getElem? (i := 133) (by decide +kernel)
theorem m_135 : Cond.methodLink RX2 3 objectInit ∈ lw_tbl := List.mem_of_getElem? (i := 135) (by decide +kernel)
theorem m_136 : Cond.fieldLinkNest RX2 9 "DialMenus" "FIRST_KEYPAD" "[I" "DialMenus" ∈ lw_tbl := List.mem_of_getElem? (i := 136) (by decide +kernel)
theorem m_138 : Cond.methodLink RX2 13 ⟨"[I", "clone", "()Ljava/lang/Object;"⟩ ∈ lw_tbl := List.mem_of_getElem? (i := 138) (by decide +kernel)
theorem m_140 : Cond.native ⟨"java/lang/Object", "clone", "()Ljava/lang/Object;"⟩ ∈ lw_tbl := List.mem_of_getElem? (i := 140) (by decide +kernel)
theorem m_141 : Cond.instanceMethod ⟨"java/lang/Object", "clone", "()Ljava/lang/Object;"⟩ ∈ lw_tbl := List.mem_of_getElem? (i := 141) (by decide +kernel)
theorem m_142 : Cond.selects "[I" ⟨"[I", "clone", "()Ljava/lang/Object;"⟩ ⟨"java/lang/Object", "clone", "()Ljava/lang/Object;"⟩ ∈ lw_tbl := List.mem_of_getElem? (i := 142) (by decide +kernel)
theorem m_144 : Cond.classLink RX2 14 "[I" ∈ lw_tbl := List.mem_of_getElem? (i := 144) (by decide +kernel)
theorem m_145 : Cond.fieldLink RX2 18 "DialMenus$Keypad" "digits" "[I" ∈ lw_tbl := List.mem_of_getElem? (i := 145) (by decide +kernel)
theorem m_146 : Cond.fieldLink RX2 23 "DialMenus$Keypad" "draft" "[I" ∈ lw_tbl := List.mem_of_getElem? (i := 146) (by decide +kernel)
theorem m_152 : Cond.classLink RX9 28 RX7 ∈ lw_tbl := List.mem_of_getElem? (i := 152) (by decide +kernel)
theorem m_153 : Cond.instantiable RX7 2 ∈ lw_tbl := List.mem_of_getElem? (i := 153) (by decide +kernel)
theorem m_154 : Cond.methodLinkNest RX9 30 yX7_init "DialMenus" ∈ lw_tbl := List.mem_of_getElem? (i := 154) (by decide +kernel)
theorem m_155 : Cond.instanceMethod yX7_init ∈ lw_tbl := List.mem_of_getElem? (i := 155) (by decide +kernel)
theorem m_157 : Cond.methodLink RX7 3 objectInit ∈ lw_tbl := List.mem_of_getElem? (i := 157) (by decide +kernel)
theorem m_158 : Cond.classLink RX7 9 RX1 ∈ lw_tbl := List.mem_of_getElem? (i := 158) (by decide +kernel)
theorem m_160 : Cond.fieldLink RX7 11 "DialMenus$Roster" "entries" "[LDialMenus$Entry;" ∈ lw_tbl := List.mem_of_getElem? (i := 160) (by decide +kernel)
theorem m_161 : Cond.fieldLink RX7 17 "DialMenus$Roster" "size" "I" ∈ lw_tbl := List.mem_of_getElem? (i := 161) (by decide +kernel)
theorem m_167 : Cond.classLink RX9 35 RX3 ∈ lw_tbl := List.mem_of_getElem? (i := 167) (by decide +kernel)
theorem m_168 : Cond.instantiable RX3 6 ∈ lw_tbl := List.mem_of_getElem? (i := 168) (by decide +kernel)
theorem m_169 : Cond.methodLinkNest RX9 37 yX3_init "DialMenus" ∈ lw_tbl := List.mem_of_getElem? (i := 169) (by decide +kernel)
theorem m_170 : Cond.instanceMethod yX3_init ∈ lw_tbl := List.mem_of_getElem? (i := 170) (by decide +kernel)
theorem m_172 : Cond.methodLink RX3 3 objectInit ∈ lw_tbl := List.mem_of_getElem? (i := 172) (by decide +kernel)
theorem m_173 : Cond.fieldLink RX3 9 "DialMenus$ListReader" "starts" "[I" ∈ lw_tbl := List.mem_of_getElem? (i := 173) (by decide +kernel)
theorem m_174 : Cond.fieldLink RX3 15 "DialMenus$ListReader" "lengths" "[I" ∈ lw_tbl := List.mem_of_getElem? (i := 174) (by decide +kernel)
theorem m_175 : Cond.fieldLink RX3 18 "DialMenus$ListReader" "frequencies" "[I" ∈ lw_tbl := List.mem_of_getElem? (i := 175) (by decide +kernel)
theorem m_176 : Cond.fieldLink RX3 21 "DialMenus$ListReader" "items" "I" ∈ lw_tbl := List.mem_of_getElem? (i := 176) (by decide +kernel)
theorem m_177 : Cond.fieldLink RX3 44 "DialMenus$ListReader" "start" "I" ∈ lw_tbl := List.mem_of_getElem? (i := 177) (by decide +kernel)
theorem m_178 : Cond.fieldLink RX3 40 "DialMenus$ListReader" "inFrequency" "Z" ∈ lw_tbl := List.mem_of_getElem? (i := 178) (by decide +kernel)
theorem m_192 : Cond.classLink RX9 42 RX0 ∈ lw_tbl := List.mem_of_getElem? (i := 192) (by decide +kernel)
theorem m_193 : Cond.instantiable RX0 1 ∈ lw_tbl := List.mem_of_getElem? (i := 193) (by decide +kernel)
theorem m_194 : Cond.methodLinkNest RX9 44 yX0_init "DialMenus" ∈ lw_tbl := List.mem_of_getElem? (i := 194) (by decide +kernel)
theorem m_195 : Cond.instanceMethod yX0_init ∈ lw_tbl := List.mem_of_getElem? (i := 195) (by decide +kernel)
theorem m_197 : Cond.methodLink RX0 3 objectInit ∈ lw_tbl := List.mem_of_getElem? (i := 197) (by decide +kernel)
theorem m_198 : Cond.classLink RX0 9 RX8 ∈ lw_tbl := List.mem_of_getElem? (i := 198) (by decide +kernel)
theorem m_199 : Cond.methodLink RX0 11 yX8_init ∈ lw_tbl := List.mem_of_getElem? (i := 199) (by decide +kernel)
theorem m_200 : Cond.fieldLink RX0 14 "DialMenus$Choices" "listed" "LDialMenus$Row;" ∈ lw_tbl := List.mem_of_getElem? (i := 200) (by decide +kernel)
theorem m_204 : Cond.classLink RX9 49 RX6 ∈ lw_tbl := List.mem_of_getElem? (i := 204) (by decide +kernel)
theorem m_205 : Cond.instantiable RX6 5 ∈ lw_tbl := List.mem_of_getElem? (i := 205) (by decide +kernel)
theorem m_206 : Cond.methodLinkNest RX9 51 yX6_init "DialMenus" ∈ lw_tbl := List.mem_of_getElem? (i := 206) (by decide +kernel)
theorem m_207 : Cond.instanceMethod yX6_init ∈ lw_tbl := List.mem_of_getElem? (i := 207) (by decide +kernel)
theorem m_209 : Cond.methodLink RX6 3 objectInit ∈ lw_tbl := List.mem_of_getElem? (i := 209) (by decide +kernel)
theorem m_210 : Cond.classLink RX6 24 RX8 ∈ lw_tbl := List.mem_of_getElem? (i := 210) (by decide +kernel)
theorem m_211 : Cond.methodLink RX6 26 yX8_init ∈ lw_tbl := List.mem_of_getElem? (i := 211) (by decide +kernel)
theorem m_212 : Cond.fieldLink RX6 9 "DialMenus$Readings" "all" "[I" ∈ lw_tbl := List.mem_of_getElem? (i := 212) (by decide +kernel)
theorem m_213 : Cond.fieldLink RX6 15 "DialMenus$Readings" "fewestDigits" "[I" ∈ lw_tbl := List.mem_of_getElem? (i := 213) (by decide +kernel)
theorem m_214 : Cond.fieldLink RX6 18 "DialMenus$Readings" "withFewestDigits" "[I" ∈ lw_tbl := List.mem_of_getElem? (i := 214) (by decide +kernel)
theorem m_215 : Cond.fieldLink RX6 21 "DialMenus$Readings" "fewestPieces" "[I" ∈ lw_tbl := List.mem_of_getElem? (i := 215) (by decide +kernel)
theorem m_216 : Cond.fieldLink RX6 29 "DialMenus$Readings" "best" "LDialMenus$Row;" ∈ lw_tbl := List.mem_of_getElem? (i := 216) (by decide +kernel)
theorem m_228 : Cond.classLink RX9 56 RX5 ∈ lw_tbl := List.mem_of_getElem? (i := 228) (by decide +kernel)
theorem m_229 : Cond.instantiable RX5 4 ∈ lw_tbl := List.mem_of_getElem? (i := 229) (by decide +kernel)
theorem m_230 : Cond.methodLinkNest RX9 58 yX5_init "DialMenus" ∈ lw_tbl := List.mem_of_getElem? (i := 230) (by decide +kernel)
theorem m_231 : Cond.instanceMethod yX5_init ∈ lw_tbl := List.mem_of_getElem? (i := 231) (by decide +kernel)
theorem m_233 : Cond.methodLink RX5 3 objectInit ∈ lw_tbl := List.mem_of_getElem? (i := 233) (by decide +kernel)
theorem m_234 : Cond.classLink RX5 15 "[[I" ∈ lw_tbl := List.mem_of_getElem? (i := 234) (by decide +kernel)
theorem m_236 : Cond.fieldLink RX5 9 "DialMenus$Planner" "sumBefore" "[I" ∈ lw_tbl := List.mem_of_getElem? (i := 236) (by decide +kernel)
theorem m_237 : Cond.fieldLink RX5 17 "DialMenus$Planner" "costs" "[[I" ∈ lw_tbl := List.mem_of_getElem? (i := 237) (by decide +kernel)
theorem m_238 : Cond.fieldLink RX5 20 "DialMenus$Planner" "firstSizes" "[[I" ∈ lw_tbl := List.mem_of_getElem? (i := 238) (by decide +kernel)
theorem m_239 : Cond.fieldLink RX5 23 "DialMenus$Planner" "bestParts" "[I" ∈ lw_tbl := List.mem_of_getElem? (i := 239) (by decide +kernel)
theorem m_249 : Cond.classLink RX9 63 RX4 ∈ lw_tbl := List.mem_of_getElem? (i := 249) (by decide +kernel)
theorem m_250 : Cond.instantiable RX4 6 ∈ lw_tbl := List.mem_of_getElem? (i := 250) (by decide +kernel)
theorem m_251 : Cond.methodLinkNest RX9 65 yX4_init "DialMenus" ∈ lw_tbl := List.mem_of_getElem? (i := 251) (by decide +kernel)
theorem m_252 : Cond.instanceMethod yX4_init ∈ lw_tbl := List.mem_of_getElem? (i := 252) (by decide +kernel)
theorem m_254 : Cond.methodLink RX4 3 objectInit ∈ lw_tbl := List.mem_of_getElem? (i := 254) (by decide +kernel)
theorem m_255 : Cond.classLink RX4 9 "[[I" ∈ lw_tbl := List.mem_of_getElem? (i := 255) (by decide +kernel)
theorem m_256 : Cond.classLink RX4 20 RX8 ∈ lw_tbl := List.mem_of_getElem? (i := 256) (by decide +kernel)
theorem m_257 : Cond.methodLink RX4 22 yX8_init ∈ lw_tbl := List.mem_of_getElem? (i := 257) (by decide +kernel)
theorem m_258 : Cond.fieldLink RX4 11 "DialMenus$Menu" "steps" "[[I" ∈ lw_tbl := List.mem_of_getElem? (i := 258) (by decide +kernel)
theorem m_259 : Cond.fieldLink RX4 16 "DialMenus$Menu" "lengths" "[I" ∈ lw_tbl := List.mem_of_getElem? (i := 259) (by decide +kernel)
theorem m_260 : Cond.fieldLink RX4 25 "DialMenus$Menu" "wanted" "LDialMenus$Row;" ∈ lw_tbl := List.mem_of_getElem? (i := 260) (by decide +kernel)
theorem m_261 : Cond.fieldLink RX4 29 "DialMenus$Menu" "width" "I" ∈ lw_tbl := List.mem_of_getElem? (i := 261) (by decide +kernel)
theorem m_262 : Cond.fieldLink RX4 42 "DialMenus$Menu" "size" "I" ∈ lw_tbl := List.mem_of_getElem? (i := 262) (by decide +kernel)
theorem m_263 : Cond.fieldLink RX4 45 "DialMenus$Menu" "branchings" "I" ∈ lw_tbl := List.mem_of_getElem? (i := 263) (by decide +kernel)
theorem m_277 : Cond.fieldLink RX9 14 "DialMenus" "text" "LDialMenus$Row;" ∈ lw_tbl := List.mem_of_getElem? (i := 277) (by decide +kernel)
theorem m_278 : Cond.fieldLink RX9 18 "DialMenus" "input" "LDialMenus$Row;" ∈ lw_tbl := List.mem_of_getElem? (i := 278) (by decide +kernel)
theorem m_279 : Cond.fieldLink RX9 24 "DialMenus" "keypad" "LDialMenus$Keypad;" ∈ lw_tbl := List.mem_of_getElem? (i := 279) (by decide +kernel)
theorem m_280 : Cond.fieldLink RX9 31 "DialMenus" "roster" "LDialMenus$Roster;" ∈ lw_tbl := List.mem_of_getElem? (i := 280) (by decide +kernel)
theorem m_281 : Cond.fieldLink RX9 38 "DialMenus" "listReader" "LDialMenus$ListReader;" ∈ lw_tbl := List.mem_of_getElem? (i := 281) (by decide +kernel)
theorem m_282 : Cond.fieldLink RX9 45 "DialMenus" "choices" "LDialMenus$Choices;" ∈ lw_tbl := List.mem_of_getElem? (i := 282) (by decide +kernel)
theorem m_283 : Cond.fieldLink RX9 52 "DialMenus" "readings" "LDialMenus$Readings;" ∈ lw_tbl := List.mem_of_getElem? (i := 283) (by decide +kernel)
theorem m_284 : Cond.fieldLink RX9 59 "DialMenus" "planner" "LDialMenus$Planner;" ∈ lw_tbl := List.mem_of_getElem? (i := 284) (by decide +kernel)
theorem m_285 : Cond.fieldLink RX9 66 "DialMenus" "present" "LDialMenus$Menu;" ∈ lw_tbl := List.mem_of_getElem? (i := 285) (by decide +kernel)
theorem m_286 : Cond.fieldLink RX9 70 "DialMenus" "spare" "LDialMenus$Menu;" ∈ lw_tbl := List.mem_of_getElem? (i := 286) (by decide +kernel)
theorem m_287 : Cond.fieldLink RX9 115 "DialMenus" "hasMenu" "Z" ∈ lw_tbl := List.mem_of_getElem? (i := 287) (by decide +kernel)
theorem m_288 : Cond.fieldLink RX9 255 "DialMenus" "menusMade" "I" ∈ lw_tbl := List.mem_of_getElem? (i := 288) (by decide +kernel)
theorem m_289 : Cond.fieldLink RX9 119 "DialMenus" "listsRead" "I" ∈ lw_tbl := List.mem_of_getElem? (i := 289) (by decide +kernel)
theorem m_290 : Cond.fieldLink RX9 138 "DialMenus" "keypadsRead" "I" ∈ lw_tbl := List.mem_of_getElem? (i := 290) (by decide +kernel)
theorem m_291 : Cond.fieldLink RX9 148 "DialMenus" "namesRemoved" "I" ∈ lw_tbl := List.mem_of_getElem? (i := 291) (by decide +kernel)
theorem m_327 : Cond.methodLink RX9 73 yX8_isFull ∈ lw_tbl := List.mem_of_getElem? (i := 327) (by decide +kernel)
theorem m_328 : Cond.instanceMethod yX8_isFull ∈ lw_tbl := List.mem_of_getElem? (i := 328) (by decide +kernel)
theorem m_329 : Cond.selects RX8 yX8_isFull yX8_isFull ∈ lw_tbl := List.mem_of_getElem? (i := 329) (by decide +kernel)
theorem m_331 : Cond.methodLink RX9 77 yX8_add ∈ lw_tbl := List.mem_of_getElem? (i := 331) (by decide +kernel)
theorem m_332 : Cond.instanceMethod yX8_add ∈ lw_tbl := List.mem_of_getElem? (i := 332) (by decide +kernel)
theorem m_333 : Cond.selects RX8 yX8_add yX8_add ∈ lw_tbl := List.mem_of_getElem? (i := 333) (by decide +kernel)
theorem m_335 : Cond.methodLink RX8 25 yX8_isFull ∈ lw_tbl := List.mem_of_getElem? (i := 335) (by decide +kernel)
theorem m_336 : Cond.methodLink RX9 80 yX8_size ∈ lw_tbl := List.mem_of_getElem? (i := 336) (by decide +kernel)
theorem m_337 : Cond.instanceMethod yX8_size ∈ lw_tbl := List.mem_of_getElem? (i := 337) (by decide +kernel)
theorem m_338 : Cond.selects RX8 yX8_size yX8_size ∈ lw_tbl := List.mem_of_getElem? (i := 338) (by decide +kernel)
theorem m_344 : Cond.methodLink RX9 84 yX8_clear ∈ lw_tbl := List.mem_of_getElem? (i := 344) (by decide +kernel)
theorem m_345 : Cond.instanceMethod yX8_clear ∈ lw_tbl := List.mem_of_getElem? (i := 345) (by decide +kernel)
theorem m_346 : Cond.selects RX8 yX8_clear yX8_clear ∈ lw_tbl := List.mem_of_getElem? (i := 346) (by decide +kernel)
theorem m_352 : Cond.methodLink RX9 87 yX3_scan ∈ lw_tbl := List.mem_of_getElem? (i := 352) (by decide +kernel)
theorem m_353 : Cond.instanceMethod yX3_scan ∈ lw_tbl := List.mem_of_getElem? (i := 353) (by decide +kernel)
theorem m_354 : Cond.selects RX3 yX3_scan yX3_scan ∈ lw_tbl := List.mem_of_getElem? (i := 354) (by decide +kernel)
theorem m_356 : Cond.methodLink RX3 47 yX8_size ∈ lw_tbl := List.mem_of_getElem? (i := 356) (by decide +kernel)
theorem m_357 : Cond.methodLink RX3 53 yX8_get ∈ lw_tbl := List.mem_of_getElem? (i := 357) (by decide +kernel)
theorem m_358 : Cond.instanceMethod yX8_get ∈ lw_tbl := List.mem_of_getElem? (i := 358) (by decide +kernel)
theorem m_359 : Cond.selects RX8 yX8_get yX8_get ∈ lw_tbl := List.mem_of_getElem? (i := 359) (by decide +kernel)
theorem m_361 : Cond.methodLink RX3 56 yX3_fitsFrequency ∈ lw_tbl := List.mem_of_getElem? (i := 361) (by decide +kernel)
theorem m_363 : Cond.instanceMethod yX3_fitsFrequency ∈ lw_tbl := List.mem_of_getElem? (i := 363) (by decide +kernel)
theorem m_365 : Cond.methodLink RX3 34 yX3_frequencyOf ∈ lw_tbl := List.mem_of_getElem? (i := 365) (by decide +kernel)
theorem m_367 : Cond.instanceMethod yX3_frequencyOf ∈ lw_tbl := List.mem_of_getElem? (i := 367) (by decide +kernel)
theorem m_369 : Cond.methodLink RX3 60 yX3_fitsName ∈ lw_tbl := List.mem_of_getElem? (i := 369) (by decide +kernel)
theorem m_371 : Cond.instanceMethod yX3_fitsName ∈ lw_tbl := List.mem_of_getElem? (i := 371) (by decide +kernel)
theorem m_373 : Cond.methodLink RX3 64 yX3_endsName ∈ lw_tbl := List.mem_of_getElem? (i := 373) (by decide +kernel)
theorem m_375 : Cond.instanceMethod yX3_endsName ∈ lw_tbl := List.mem_of_getElem? (i := 375) (by decide +kernel)
theorem m_377 : Cond.methodLink RX3 67 yX3_isListed ∈ lw_tbl := List.mem_of_getElem? (i := 377) (by decide +kernel)
theorem m_379 : Cond.instanceMethod yX3_isListed ∈ lw_tbl := List.mem_of_getElem? (i := 379) (by decide +kernel)
theorem m_381 : Cond.methodLink RX3 70 yX3_isSameText ∈ lw_tbl := List.mem_of_getElem? (i := 381) (by decide +kernel)
theorem m_383 : Cond.instanceMethod yX3_isSameText ∈ lw_tbl := List.mem_of_getElem? (i := 383) (by decide +kernel)
theorem m_389 : Cond.methodLink RX9 91 yX3_endsWithItem ∈ lw_tbl := List.mem_of_getElem? (i := 389) (by decide +kernel)
theorem m_390 : Cond.instanceMethod yX3_endsWithItem ∈ lw_tbl := List.mem_of_getElem? (i := 390) (by decide +kernel)
theorem m_391 : Cond.selects RX3 yX3_endsWithItem yX3_endsWithItem ∈ lw_tbl := List.mem_of_getElem? (i := 391) (by decide +kernel)
theorem m_393 : Cond.methodLink RX9 94 yX9_isAnyItemKnown ∈ lw_tbl := List.mem_of_getElem? (i := 393) (by decide +kernel)
theorem m_395 : Cond.instanceMethod yX9_isAnyItemKnown ∈ lw_tbl := List.mem_of_getElem? (i := 395) (by decide +kernel)
theorem m_397 : Cond.methodLink RX9 97 yX3_items ∈ lw_tbl := List.mem_of_getElem? (i := 397) (by decide +kernel)
theorem m_398 : Cond.instanceMethod yX3_items ∈ lw_tbl := List.mem_of_getElem? (i := 398) (by decide +kernel)
theorem m_399 : Cond.selects RX3 yX3_items yX3_items ∈ lw_tbl := List.mem_of_getElem? (i := 399) (by decide +kernel)
theorem m_401 : Cond.methodLink RX9 123 yX3_startOf ∈ lw_tbl := List.mem_of_getElem? (i := 401) (by decide +kernel)
theorem m_402 : Cond.instanceMethod yX3_startOf ∈ lw_tbl := List.mem_of_getElem? (i := 402) (by decide +kernel)
theorem m_403 : Cond.selects RX3 yX3_startOf yX3_startOf ∈ lw_tbl := List.mem_of_getElem? (i := 403) (by decide +kernel)
theorem m_405 : Cond.methodLink RX9 127 yX3_lengthOf ∈ lw_tbl := List.mem_of_getElem? (i := 405) (by decide +kernel)
theorem m_406 : Cond.instanceMethod yX3_lengthOf ∈ lw_tbl := List.mem_of_getElem? (i := 406) (by decide +kernel)
theorem m_407 : Cond.selects RX3 yX3_lengthOf yX3_lengthOf ∈ lw_tbl := List.mem_of_getElem? (i := 407) (by decide +kernel)
theorem m_409 : Cond.methodLink RX9 130 yX7_contains ∈ lw_tbl := List.mem_of_getElem? (i := 409) (by decide +kernel)
theorem m_410 : Cond.instanceMethod yX7_contains ∈ lw_tbl := List.mem_of_getElem? (i := 410) (by decide +kernel)
theorem m_411 : Cond.selects RX7 yX7_contains yX7_contains ∈ lw_tbl := List.mem_of_getElem? (i := 411) (by decide +kernel)
theorem m_413 : Cond.methodLink RX7 37 yX1_isWritten ∈ lw_tbl := List.mem_of_getElem? (i := 413) (by decide +kernel)
theorem m_414 : Cond.instanceMethod yX1_isWritten ∈ lw_tbl := List.mem_of_getElem? (i := 414) (by decide +kernel)
theorem m_415 : Cond.selects RX1 yX1_isWritten yX1_isWritten ∈ lw_tbl := List.mem_of_getElem? (i := 415) (by decide +kernel)
theorem m_417 : Cond.methodLink RX1 24 yX8_get ∈ lw_tbl := List.mem_of_getElem? (i := 417) (by decide +kernel)
theorem m_418 : Cond.methodLink RX9 100 yX7_size ∈ lw_tbl := List.mem_of_getElem? (i := 418) (by decide +kernel)
theorem m_419 : Cond.instanceMethod yX7_size ∈ lw_tbl := List.mem_of_getElem? (i := 419) (by decide +kernel)
theorem m_420 : Cond.selects RX7 yX7_size yX7_size ∈ lw_tbl := List.mem_of_getElem? (i := 420) (by decide +kernel)
theorem m_422 : Cond.methodLink RX9 101 yX3_entryOf ∈ lw_tbl := List.mem_of_getElem? (i := 422) (by decide +kernel)
theorem m_423 : Cond.instanceMethod yX3_entryOf ∈ lw_tbl := List.mem_of_getElem? (i := 423) (by decide +kernel)
theorem m_424 : Cond.selects RX3 yX3_entryOf yX3_entryOf ∈ lw_tbl := List.mem_of_getElem? (i := 424) (by decide +kernel)
theorem m_426 : Cond.classLink RX3 25 RX1 ∈ lw_tbl := List.mem_of_getElem? (i := 426) (by decide +kernel)
theorem m_427 : Cond.instantiable RX1 3 ∈ lw_tbl := List.mem_of_getElem? (i := 427) (by decide +kernel)
theorem m_428 : Cond.methodLink RX3 27 yX3_startOf ∈ lw_tbl := List.mem_of_getElem? (i := 428) (by decide +kernel)
theorem m_429 : Cond.methodLink RX3 31 yX3_lengthOf ∈ lw_tbl := List.mem_of_getElem? (i := 429) (by decide +kernel)
theorem m_430 : Cond.methodLink RX3 37 yX1_init ∈ lw_tbl := List.mem_of_getElem? (i := 430) (by decide +kernel)
theorem m_431 : Cond.instanceMethod yX1_init ∈ lw_tbl := List.mem_of_getElem? (i := 431) (by decide +kernel)
theorem m_433 : Cond.methodLink RX1 3 objectInit ∈ lw_tbl := List.mem_of_getElem? (i := 433) (by decide +kernel)
theorem m_434 : Cond.methodLink RX1 9 yJ9_max_7cf53 ∈ lw_tbl := List.mem_of_getElem? (i := 434) (by decide +kernel)
theorem m_435 : Cond.fieldLink RX1 15 "DialMenus$Entry" "letters" "[I" ∈ lw_tbl := List.mem_of_getElem? (i := 435) (by decide +kernel)
theorem m_436 : Cond.fieldLinkNest RX7 48 "DialMenus$Entry" "letters" "[I" "DialMenus" ∈ lw_tbl := List.mem_of_getElem? (i := 436) (by decide +kernel)
theorem m_437 : Cond.fieldLink RX1 21 "DialMenus$Entry" "code" "[I" ∈ lw_tbl := List.mem_of_getElem? (i := 437) (by decide +kernel)
theorem m_438 : Cond.fieldLinkNest RX7 62 "DialMenus$Entry" "code" "[I" "DialMenus" ∈ lw_tbl := List.mem_of_getElem? (i := 438) (by decide +kernel)
theorem m_439 : Cond.fieldLink RX1 30 "DialMenus$Entry" "frequency" "I" ∈ lw_tbl := List.mem_of_getElem? (i := 439) (by decide +kernel)
theorem m_440 : Cond.fieldLinkNest RX7 45 "DialMenus$Entry" "frequency" "I" "DialMenus" ∈ lw_tbl := List.mem_of_getElem? (i := 440) (by decide +kernel)
theorem m_448 : Cond.methodLink RX9 105 yX1_encode ∈ lw_tbl := List.mem_of_getElem? (i := 448) (by decide +kernel)
theorem m_449 : Cond.instanceMethod yX1_encode ∈ lw_tbl := List.mem_of_getElem? (i := 449) (by decide +kernel)
theorem m_450 : Cond.selects RX1 yX1_encode yX1_encode ∈ lw_tbl := List.mem_of_getElem? (i := 450) (by decide +kernel)
theorem m_452 : Cond.methodLink RX1 34 yX2_digitOf ∈ lw_tbl := List.mem_of_getElem? (i := 452) (by decide +kernel)
theorem m_453 : Cond.instanceMethod yX2_digitOf ∈ lw_tbl := List.mem_of_getElem? (i := 453) (by decide +kernel)
theorem m_454 : Cond.selects RX2 yX2_digitOf yX2_digitOf ∈ lw_tbl := List.mem_of_getElem? (i := 454) (by decide +kernel)
theorem m_456 : Cond.methodLink RX9 111 yX7_insert ∈ lw_tbl := List.mem_of_getElem? (i := 456) (by decide +kernel)
theorem m_457 : Cond.instanceMethod yX7_insert ∈ lw_tbl := List.mem_of_getElem? (i := 457) (by decide +kernel)
theorem m_458 : Cond.selects RX7 yX7_insert yX7_insert ∈ lw_tbl := List.mem_of_getElem? (i := 458) (by decide +kernel)
theorem m_460 : Cond.methodLink RX7 25 yX7_placeOf ∈ lw_tbl := List.mem_of_getElem? (i := 460) (by decide +kernel)
theorem m_462 : Cond.instanceMethod yX7_placeOf ∈ lw_tbl := List.mem_of_getElem? (i := 462) (by decide +kernel)
theorem m_464 : Cond.methodLink RX7 29 yX1_comesBefore ∈ lw_tbl := List.mem_of_getElem? (i := 464) (by decide +kernel)
theorem m_465 : Cond.instanceMethod yX1_comesBefore ∈ lw_tbl := List.mem_of_getElem? (i := 465) (by decide +kernel)
theorem m_466 : Cond.selects RX1 yX1_comesBefore yX1_comesBefore ∈ lw_tbl := List.mem_of_getElem? (i := 466) (by decide +kernel)
theorem m_472 : Cond.methodLink RX9 134 yX2_read ∈ lw_tbl := List.mem_of_getElem? (i := 472) (by decide +kernel)
theorem m_473 : Cond.instanceMethod yX2_read ∈ lw_tbl := List.mem_of_getElem? (i := 473) (by decide +kernel)
theorem m_474 : Cond.selects RX2 yX2_read yX2_read ∈ lw_tbl := List.mem_of_getElem? (i := 474) (by decide +kernel)
theorem m_476 : Cond.methodLink RX2 26 yX8_size ∈ lw_tbl := List.mem_of_getElem? (i := 476) (by decide +kernel)
theorem m_477 : Cond.methodLink RX2 32 yX8_get ∈ lw_tbl := List.mem_of_getElem? (i := 477) (by decide +kernel)
theorem m_478 : Cond.methodLink RX2 36 yJ9_max_7cf53 ∈ lw_tbl := List.mem_of_getElem? (i := 478) (by decide +kernel)
theorem m_479 : Cond.methodLink RX2 42 arraycopyName ∈ lw_tbl := List.mem_of_getElem? (i := 479) (by decide +kernel)
theorem m_482 : Cond.methodLink RX9 137 yX7_encode ∈ lw_tbl := List.mem_of_getElem? (i := 482) (by decide +kernel)
theorem m_483 : Cond.instanceMethod yX7_encode ∈ lw_tbl := List.mem_of_getElem? (i := 483) (by decide +kernel)
theorem m_484 : Cond.selects RX7 yX7_encode yX7_encode ∈ lw_tbl := List.mem_of_getElem? (i := 484) (by decide +kernel)
theorem m_486 : Cond.methodLink RX7 41 yX1_encode ∈ lw_tbl := List.mem_of_getElem? (i := 486) (by decide +kernel)
theorem m_491 : Cond.methodLink RX9 141 yX7_has ∈ lw_tbl := List.mem_of_getElem? (i := 491) (by decide +kernel)
theorem m_492 : Cond.instanceMethod yX7_has ∈ lw_tbl := List.mem_of_getElem? (i := 492) (by decide +kernel)
theorem m_493 : Cond.selects RX7 yX7_has yX7_has ∈ lw_tbl := List.mem_of_getElem? (i := 493) (by decide +kernel)
theorem m_495 : Cond.methodLink RX7 21 yX7_get ∈ lw_tbl := List.mem_of_getElem? (i := 495) (by decide +kernel)
theorem m_497 : Cond.instanceMethod yX7_get ∈ lw_tbl := List.mem_of_getElem? (i := 497) (by decide +kernel)
theorem m_499 : Cond.methodLink RX9 145 yX7_remove ∈ lw_tbl := List.mem_of_getElem? (i := 499) (by decide +kernel)
theorem m_500 : Cond.instanceMethod yX7_remove ∈ lw_tbl := List.mem_of_getElem? (i := 500) (by decide +kernel)
theorem m_501 : Cond.selects RX7 yX7_remove yX7_remove ∈ lw_tbl := List.mem_of_getElem? (i := 501) (by decide +kernel)
theorem m_503 : Cond.methodLink RX7 33 yX7_has ∈ lw_tbl := List.mem_of_getElem? (i := 503) (by decide +kernel)
theorem m_508 : Cond.methodLink RX9 151 yX7_setFrequency ∈ lw_tbl := List.mem_of_getElem? (i := 508) (by decide +kernel)
theorem m_509 : Cond.instanceMethod yX7_setFrequency ∈ lw_tbl := List.mem_of_getElem? (i := 509) (by decide +kernel)
theorem m_510 : Cond.selects RX7 yX7_setFrequency yX7_setFrequency ∈ lw_tbl := List.mem_of_getElem? (i := 510) (by decide +kernel)
theorem m_513 : Cond.instanceMethod yX9_name ∈ lw_tbl := List.mem_of_getElem? (i := 513) (by decide +kernel)
theorem m_514 : Cond.selects RX9 yX9_name yX9_name ∈ lw_tbl := List.mem_of_getElem? (i := 514) (by decide +kernel)
theorem m_516 : Cond.methodLink RX9 155 yX7_lengthOf ∈ lw_tbl := List.mem_of_getElem? (i := 516) (by decide +kernel)
theorem m_517 : Cond.instanceMethod yX7_lengthOf ∈ lw_tbl := List.mem_of_getElem? (i := 517) (by decide +kernel)
theorem m_518 : Cond.selects RX7 yX7_lengthOf yX7_lengthOf ∈ lw_tbl := List.mem_of_getElem? (i := 518) (by decide +kernel)
theorem m_520 : Cond.methodLink RX9 156 yX7_frequencyOf ∈ lw_tbl := List.mem_of_getElem? (i := 520) (by decide +kernel)
theorem m_521 : Cond.instanceMethod yX7_frequencyOf ∈ lw_tbl := List.mem_of_getElem? (i := 521) (by decide +kernel)
theorem m_522 : Cond.selects RX7 yX7_frequencyOf yX7_frequencyOf ∈ lw_tbl := List.mem_of_getElem? (i := 522) (by decide +kernel)
theorem m_524 : Cond.methodLink RX9 159 yX0_twins ∈ lw_tbl := List.mem_of_getElem? (i := 524) (by decide +kernel)
theorem m_525 : Cond.instanceMethod yX0_twins ∈ lw_tbl := List.mem_of_getElem? (i := 525) (by decide +kernel)
theorem m_526 : Cond.selects RX0 yX0_twins yX0_twins ∈ lw_tbl := List.mem_of_getElem? (i := 526) (by decide +kernel)
theorem m_528 : Cond.methodLink RX0 24 yX7_size ∈ lw_tbl := List.mem_of_getElem? (i := 528) (by decide +kernel)
theorem m_529 : Cond.methodLink RX0 69 yX0_twinsBelow ∈ lw_tbl := List.mem_of_getElem? (i := 529) (by decide +kernel)
theorem m_531 : Cond.instanceMethod yX0_twinsBelow ∈ lw_tbl := List.mem_of_getElem? (i := 531) (by decide +kernel)
theorem m_533 : Cond.methodLink RX0 72 yX7_areTwins ∈ lw_tbl := List.mem_of_getElem? (i := 533) (by decide +kernel)
theorem m_534 : Cond.instanceMethod yX7_areTwins ∈ lw_tbl := List.mem_of_getElem? (i := 534) (by decide +kernel)
theorem m_535 : Cond.selects RX7 yX7_areTwins yX7_areTwins ∈ lw_tbl := List.mem_of_getElem? (i := 535) (by decide +kernel)
theorem m_537 : Cond.methodLink RX7 59 yX1_sharedDigits ∈ lw_tbl := List.mem_of_getElem? (i := 537) (by decide +kernel)
theorem m_538 : Cond.instanceMethod yX1_sharedDigits ∈ lw_tbl := List.mem_of_getElem? (i := 538) (by decide +kernel)
theorem m_539 : Cond.selects RX1 yX1_sharedDigits yX1_sharedDigits ∈ lw_tbl := List.mem_of_getElem? (i := 539) (by decide +kernel)
theorem m_541 : Cond.methodLink RX9 163 yX0_distinguishingLength ∈ lw_tbl := List.mem_of_getElem? (i := 541) (by decide +kernel)
theorem m_542 : Cond.instanceMethod yX0_distinguishingLength ∈ lw_tbl := List.mem_of_getElem? (i := 542) (by decide +kernel)
theorem m_543 : Cond.selects RX0 yX0_distinguishingLength yX0_distinguishingLength ∈ lw_tbl := List.mem_of_getElem? (i := 543) (by decide +kernel)
theorem m_545 : Cond.methodLink RX0 50 yX7_sharedDigits ∈ lw_tbl := List.mem_of_getElem? (i := 545) (by decide +kernel)
theorem m_546 : Cond.instanceMethod yX7_sharedDigits ∈ lw_tbl := List.mem_of_getElem? (i := 546) (by decide +kernel)
theorem m_547 : Cond.selects RX7 yX7_sharedDigits yX7_sharedDigits ∈ lw_tbl := List.mem_of_getElem? (i := 547) (by decide +kernel)
theorem m_549 : Cond.methodLink RX0 66 yJ9_max_7cf53 ∈ lw_tbl := List.mem_of_getElem? (i := 549) (by decide +kernel)
theorem m_550 : Cond.methodLink RX0 58 yX7_lengthOf ∈ lw_tbl := List.mem_of_getElem? (i := 550) (by decide +kernel)
theorem m_551 : Cond.methodLink RX9 166 yX0_presses ∈ lw_tbl := List.mem_of_getElem? (i := 551) (by decide +kernel)
theorem m_552 : Cond.instanceMethod yX0_presses ∈ lw_tbl := List.mem_of_getElem? (i := 552) (by decide +kernel)
theorem m_553 : Cond.selects RX0 yX0_presses yX0_presses ∈ lw_tbl := List.mem_of_getElem? (i := 553) (by decide +kernel)
theorem m_555 : Cond.methodLink RX0 54 yX0_placeIn ∈ lw_tbl := List.mem_of_getElem? (i := 555) (by decide +kernel)
theorem m_556 : Cond.instanceMethod yX0_placeIn ∈ lw_tbl := List.mem_of_getElem? (i := 556) (by decide +kernel)
theorem m_557 : Cond.selects RX0 yX0_placeIn yX0_placeIn ∈ lw_tbl := List.mem_of_getElem? (i := 557) (by decide +kernel)
theorem m_559 : Cond.methodLink RX0 46 yX7_isAhead ∈ lw_tbl := List.mem_of_getElem? (i := 559) (by decide +kernel)
theorem m_560 : Cond.instanceMethod yX7_isAhead ∈ lw_tbl := List.mem_of_getElem? (i := 560) (by decide +kernel)
theorem m_561 : Cond.selects RX7 yX7_isAhead yX7_isAhead ∈ lw_tbl := List.mem_of_getElem? (i := 561) (by decide +kernel)
theorem m_563 : Cond.methodLink RX0 61 yJ9_min_7cf53 ∈ lw_tbl := List.mem_of_getElem? (i := 563) (by decide +kernel)
theorem m_566 : Cond.methodLink RX9 169 yX0_placeIn ∈ lw_tbl := List.mem_of_getElem? (i := 566) (by decide +kernel)
theorem m_567 : Cond.methodLink RX9 173 yX4_lengthOf ∈ lw_tbl := List.mem_of_getElem? (i := 567) (by decide +kernel)
theorem m_568 : Cond.instanceMethod yX4_lengthOf ∈ lw_tbl := List.mem_of_getElem? (i := 568) (by decide +kernel)
theorem m_569 : Cond.selects RX4 yX4_lengthOf yX4_lengthOf ∈ lw_tbl := List.mem_of_getElem? (i := 569) (by decide +kernel)
theorem m_571 : Cond.methodLink RX4 54 yX4_has ∈ lw_tbl := List.mem_of_getElem? (i := 571) (by decide +kernel)
theorem m_573 : Cond.instanceMethod yX4_has ∈ lw_tbl := List.mem_of_getElem? (i := 573) (by decide +kernel)
theorem m_575 : Cond.methodLink RX9 174 yX5_planInto ∈ lw_tbl := List.mem_of_getElem? (i := 575) (by decide +kernel)
theorem m_576 : Cond.instanceMethod yX5_planInto ∈ lw_tbl := List.mem_of_getElem? (i := 576) (by decide +kernel)
theorem m_577 : Cond.selects RX5 yX5_planInto yX5_planInto ∈ lw_tbl := List.mem_of_getElem? (i := 577) (by decide +kernel)
theorem m_579 : Cond.methodLink RX5 26 yX7_size ∈ lw_tbl := List.mem_of_getElem? (i := 579) (by decide +kernel)
theorem m_580 : Cond.methodLink RX5 32 yJ9_min_7cf53 ∈ lw_tbl := List.mem_of_getElem? (i := 580) (by decide +kernel)
theorem m_581 : Cond.methodLink RX5 38 yX7_frequencyOf ∈ lw_tbl := List.mem_of_getElem? (i := 581) (by decide +kernel)
theorem m_582 : Cond.methodLink RX5 42 yX5_planRun ∈ lw_tbl := List.mem_of_getElem? (i := 582) (by decide +kernel)
theorem m_584 : Cond.instanceMethod yX5_planRun ∈ lw_tbl := List.mem_of_getElem? (i := 584) (by decide +kernel)
theorem m_586 : Cond.methodLink RX5 56 yX5_run ∈ lw_tbl := List.mem_of_getElem? (i := 586) (by decide +kernel)
theorem m_587 : Cond.static yX5_run ∈ lw_tbl := List.mem_of_getElem? (i := 587) (by decide +kernel)
theorem m_589 : Cond.methodLink RX5 59 yX5_planParts ∈ lw_tbl := List.mem_of_getElem? (i := 589) (by decide +kernel)
theorem m_591 : Cond.instanceMethod yX5_planParts ∈ lw_tbl := List.mem_of_getElem? (i := 591) (by decide +kernel)
theorem m_593 : Cond.methodLink RX5 62 yX5_sumOf ∈ lw_tbl := List.mem_of_getElem? (i := 593) (by decide +kernel)
theorem m_595 : Cond.instanceMethod yX5_sumOf ∈ lw_tbl := List.mem_of_getElem? (i := 595) (by decide +kernel)
theorem m_597 : Cond.methodLink RX5 46 yX4_start ∈ lw_tbl := List.mem_of_getElem? (i := 597) (by decide +kernel)
theorem m_598 : Cond.instanceMethod yX4_start ∈ lw_tbl := List.mem_of_getElem? (i := 598) (by decide +kernel)
theorem m_599 : Cond.selects RX4 yX4_start yX4_start ∈ lw_tbl := List.mem_of_getElem? (i := 599) (by decide +kernel)
theorem m_601 : Cond.methodLink RX4 33 yJ9_min_7cf53 ∈ lw_tbl := List.mem_of_getElem? (i := 601) (by decide +kernel)
theorem m_602 : Cond.methodLink RX4 39 yJ9_max_7cf53 ∈ lw_tbl := List.mem_of_getElem? (i := 602) (by decide +kernel)
theorem m_603 : Cond.methodLink RX4 48 yJ7_fill_53178 ∈ lw_tbl := List.mem_of_getElem? (i := 603) (by decide +kernel)
theorem m_604 : Cond.static yJ7_fill_53178 ∈ lw_tbl := List.mem_of_getElem? (i := 604) (by decide +kernel)
theorem m_606 : Cond.methodLink RX5 52 yX5_layPath ∈ lw_tbl := List.mem_of_getElem? (i := 606) (by decide +kernel)
theorem m_608 : Cond.instanceMethod yX5_layPath ∈ lw_tbl := List.mem_of_getElem? (i := 608) (by decide +kernel)
theorem m_610 : Cond.methodLink RX5 65 yX4_addBranching ∈ lw_tbl := List.mem_of_getElem? (i := 610) (by decide +kernel)
theorem m_611 : Cond.instanceMethod yX4_addBranching ∈ lw_tbl := List.mem_of_getElem? (i := 611) (by decide +kernel)
theorem m_612 : Cond.selects RX4 yX4_addBranching yX4_addBranching ∈ lw_tbl := List.mem_of_getElem? (i := 612) (by decide +kernel)
theorem m_614 : Cond.methodLink RX5 68 yX5_firstSizeOf ∈ lw_tbl := List.mem_of_getElem? (i := 614) (by decide +kernel)
theorem m_616 : Cond.instanceMethod yX5_firstSizeOf ∈ lw_tbl := List.mem_of_getElem? (i := 616) (by decide +kernel)
theorem m_618 : Cond.methodLink RX5 72 yX4_addStep ∈ lw_tbl := List.mem_of_getElem? (i := 618) (by decide +kernel)
theorem m_619 : Cond.instanceMethod yX4_addStep ∈ lw_tbl := List.mem_of_getElem? (i := 619) (by decide +kernel)
theorem m_620 : Cond.selects RX4 yX4_addStep yX4_addStep ∈ lw_tbl := List.mem_of_getElem? (i := 620) (by decide +kernel)
theorem m_626 : Cond.methodLink RX9 178 yX7_letterAt ∈ lw_tbl := List.mem_of_getElem? (i := 626) (by decide +kernel)
theorem m_627 : Cond.instanceMethod yX7_letterAt ∈ lw_tbl := List.mem_of_getElem? (i := 627) (by decide +kernel)
theorem m_628 : Cond.selects RX7 yX7_letterAt yX7_letterAt ∈ lw_tbl := List.mem_of_getElem? (i := 628) (by decide +kernel)
theorem m_630 : Cond.methodLink RX7 52 yX1_letterAt ∈ lw_tbl := List.mem_of_getElem? (i := 630) (by decide +kernel)
theorem m_631 : Cond.instanceMethod yX1_letterAt ∈ lw_tbl := List.mem_of_getElem? (i := 631) (by decide +kernel)
theorem m_632 : Cond.selects RX1 yX1_letterAt yX1_letterAt ∈ lw_tbl := List.mem_of_getElem? (i := 632) (by decide +kernel)
theorem m_638 : Cond.methodLink RX9 181 yX7_digitAt ∈ lw_tbl := List.mem_of_getElem? (i := 638) (by decide +kernel)
theorem m_639 : Cond.instanceMethod yX7_digitAt ∈ lw_tbl := List.mem_of_getElem? (i := 639) (by decide +kernel)
theorem m_640 : Cond.selects RX7 yX7_digitAt yX7_digitAt ∈ lw_tbl := List.mem_of_getElem? (i := 640) (by decide +kernel)
theorem m_642 : Cond.methodLink RX7 56 yX1_digitAt ∈ lw_tbl := List.mem_of_getElem? (i := 642) (by decide +kernel)
theorem m_643 : Cond.instanceMethod yX1_digitAt ∈ lw_tbl := List.mem_of_getElem? (i := 643) (by decide +kernel)
theorem m_644 : Cond.selects RX1 yX1_digitAt yX1_digitAt ∈ lw_tbl := List.mem_of_getElem? (i := 644) (by decide +kernel)
theorem m_650 : Cond.methodLink RX9 184 yX2_digitOf ∈ lw_tbl := List.mem_of_getElem? (i := 650) (by decide +kernel)
theorem m_652 : Cond.instanceMethod yX9_about ∈ lw_tbl := List.mem_of_getElem? (i := 652) (by decide +kernel)
theorem m_653 : Cond.selects RX9 yX9_about yX9_about ∈ lw_tbl := List.mem_of_getElem? (i := 653) (by decide +kernel)
theorem m_655 : Cond.methodLink RX9 187 yX7_sumOfFrequencies ∈ lw_tbl := List.mem_of_getElem? (i := 655) (by decide +kernel)
theorem m_656 : Cond.instanceMethod yX7_sumOfFrequencies ∈ lw_tbl := List.mem_of_getElem? (i := 656) (by decide +kernel)
theorem m_657 : Cond.selects RX7 yX7_sumOfFrequencies yX7_sumOfFrequencies ∈ lw_tbl := List.mem_of_getElem? (i := 657) (by decide +kernel)
theorem m_659 : Cond.methodLink RX9 190 yX0_namesWithTwins ∈ lw_tbl := List.mem_of_getElem? (i := 659) (by decide +kernel)
theorem m_660 : Cond.instanceMethod yX0_namesWithTwins ∈ lw_tbl := List.mem_of_getElem? (i := 660) (by decide +kernel)
theorem m_661 : Cond.selects RX0 yX0_namesWithTwins yX0_namesWithTwins ∈ lw_tbl := List.mem_of_getElem? (i := 661) (by decide +kernel)
theorem m_663 : Cond.methodLink RX0 75 yX0_twins ∈ lw_tbl := List.mem_of_getElem? (i := 663) (by decide +kernel)
theorem m_664 : Cond.methodLink RX9 194 yX0_differentCodes ∈ lw_tbl := List.mem_of_getElem? (i := 664) (by decide +kernel)
theorem m_665 : Cond.instanceMethod yX0_differentCodes ∈ lw_tbl := List.mem_of_getElem? (i := 665) (by decide +kernel)
theorem m_666 : Cond.selects RX0 yX0_differentCodes yX0_differentCodes ∈ lw_tbl := List.mem_of_getElem? (i := 666) (by decide +kernel)
theorem m_668 : Cond.methodLink RX9 197 yX0_greatestDistinguishingLength ∈ lw_tbl := List.mem_of_getElem? (i := 668) (by decide +kernel)
theorem m_669 : Cond.instanceMethod yX0_greatestDistinguishingLength ∈ lw_tbl := List.mem_of_getElem? (i := 669) (by decide +kernel)
theorem m_670 : Cond.selects RX0 yX0_greatestDistinguishingLength yX0_greatestDistinguishingLength ∈ lw_tbl := List.mem_of_getElem? (i := 670) (by decide +kernel)
theorem m_672 : Cond.methodLink RX0 78 yX0_distinguishingLength ∈ lw_tbl := List.mem_of_getElem? (i := 672) (by decide +kernel)
theorem m_673 : Cond.methodLink RX9 200 yX0_sumOfPresses ∈ lw_tbl := List.mem_of_getElem? (i := 673) (by decide +kernel)
theorem m_674 : Cond.instanceMethod yX0_sumOfPresses ∈ lw_tbl := List.mem_of_getElem? (i := 674) (by decide +kernel)
theorem m_675 : Cond.selects RX0 yX0_sumOfPresses yX0_sumOfPresses ∈ lw_tbl := List.mem_of_getElem? (i := 675) (by decide +kernel)
theorem m_677 : Cond.methodLink RX0 81 yX7_frequencyOf ∈ lw_tbl := List.mem_of_getElem? (i := 677) (by decide +kernel)
theorem m_678 : Cond.methodLink RX0 84 yX0_presses ∈ lw_tbl := List.mem_of_getElem? (i := 678) (by decide +kernel)
theorem m_679 : Cond.methodLink RX9 203 yX7_sumOfLengths ∈ lw_tbl := List.mem_of_getElem? (i := 679) (by decide +kernel)
theorem m_680 : Cond.instanceMethod yX7_sumOfLengths ∈ lw_tbl := List.mem_of_getElem? (i := 680) (by decide +kernel)
theorem m_681 : Cond.selects RX7 yX7_sumOfLengths yX7_sumOfLengths ∈ lw_tbl := List.mem_of_getElem? (i := 681) (by decide +kernel)
theorem m_691 : Cond.methodLink RX9 206 yX8_removeLast ∈ lw_tbl := List.mem_of_getElem? (i := 691) (by decide +kernel)
theorem m_692 : Cond.instanceMethod yX8_removeLast ∈ lw_tbl := List.mem_of_getElem? (i := 692) (by decide +kernel)
theorem m_693 : Cond.selects RX8 yX8_removeLast yX8_removeLast ∈ lw_tbl := List.mem_of_getElem? (i := 693) (by decide +kernel)
theorem m_703 : Cond.methodLink RX9 209 yX8_get ∈ lw_tbl := List.mem_of_getElem? (i := 703) (by decide +kernel)
theorem m_708 : Cond.methodLink RX9 212 yX0_listFor ∈ lw_tbl := List.mem_of_getElem? (i := 708) (by decide +kernel)
theorem m_709 : Cond.instanceMethod yX0_listFor ∈ lw_tbl := List.mem_of_getElem? (i := 709) (by decide +kernel)
theorem m_710 : Cond.selects RX0 yX0_listFor yX0_listFor ∈ lw_tbl := List.mem_of_getElem? (i := 710) (by decide +kernel)
theorem m_712 : Cond.methodLink RX0 20 yX8_clear ∈ lw_tbl := List.mem_of_getElem? (i := 712) (by decide +kernel)
theorem m_713 : Cond.methodLink RX0 29 yX7_beginsWith ∈ lw_tbl := List.mem_of_getElem? (i := 713) (by decide +kernel)
theorem m_714 : Cond.instanceMethod yX7_beginsWith ∈ lw_tbl := List.mem_of_getElem? (i := 714) (by decide +kernel)
theorem m_715 : Cond.selects RX7 yX7_beginsWith yX7_beginsWith ∈ lw_tbl := List.mem_of_getElem? (i := 715) (by decide +kernel)
theorem m_717 : Cond.methodLink RX7 65 yX1_beginsWith ∈ lw_tbl := List.mem_of_getElem? (i := 717) (by decide +kernel)
theorem m_718 : Cond.instanceMethod yX1_beginsWith ∈ lw_tbl := List.mem_of_getElem? (i := 718) (by decide +kernel)
theorem m_719 : Cond.selects RX1 yX1_beginsWith yX1_beginsWith ∈ lw_tbl := List.mem_of_getElem? (i := 719) (by decide +kernel)
theorem m_721 : Cond.methodLink RX1 39 yX8_size ∈ lw_tbl := List.mem_of_getElem? (i := 721) (by decide +kernel)
theorem m_722 : Cond.methodLink RX1 43 yX1_digitAt ∈ lw_tbl := List.mem_of_getElem? (i := 722) (by decide +kernel)
theorem m_723 : Cond.methodLink RX0 33 yX0_placeInList ∈ lw_tbl := List.mem_of_getElem? (i := 723) (by decide +kernel)
theorem m_725 : Cond.instanceMethod yX0_placeInList ∈ lw_tbl := List.mem_of_getElem? (i := 725) (by decide +kernel)
theorem m_727 : Cond.methodLink RX0 41 yX8_size ∈ lw_tbl := List.mem_of_getElem? (i := 727) (by decide +kernel)
theorem m_728 : Cond.methodLink RX0 42 yX8_get ∈ lw_tbl := List.mem_of_getElem? (i := 728) (by decide +kernel)
theorem m_729 : Cond.methodLink RX0 37 yX8_insert ∈ lw_tbl := List.mem_of_getElem? (i := 729) (by decide +kernel)
theorem m_730 : Cond.instanceMethod yX8_insert ∈ lw_tbl := List.mem_of_getElem? (i := 730) (by decide +kernel)
theorem m_731 : Cond.selects RX8 yX8_insert yX8_insert ∈ lw_tbl := List.mem_of_getElem? (i := 731) (by decide +kernel)
theorem m_737 : Cond.methodLink RX9 216 yX6_study ∈ lw_tbl := List.mem_of_getElem? (i := 737) (by decide +kernel)
theorem m_738 : Cond.instanceMethod yX6_study ∈ lw_tbl := List.mem_of_getElem? (i := 738) (by decide +kernel)
theorem m_739 : Cond.selects RX6 yX6_study yX6_study ∈ lw_tbl := List.mem_of_getElem? (i := 739) (by decide +kernel)
theorem m_741 : Cond.methodLink RX6 33 yX8_size ∈ lw_tbl := List.mem_of_getElem? (i := 741) (by decide +kernel)
theorem m_742 : Cond.methodLink RX6 37 yJ9_min_7cf53 ∈ lw_tbl := List.mem_of_getElem? (i := 742) (by decide +kernel)
theorem m_743 : Cond.methodLink RX6 43 yX6_studyDigit ∈ lw_tbl := List.mem_of_getElem? (i := 743) (by decide +kernel)
theorem m_745 : Cond.instanceMethod yX6_studyDigit ∈ lw_tbl := List.mem_of_getElem? (i := 745) (by decide +kernel)
theorem m_747 : Cond.methodLink RX6 46 yX7_size ∈ lw_tbl := List.mem_of_getElem? (i := 747) (by decide +kernel)
theorem m_748 : Cond.methodLink RX6 49 yX7_isTypedAt ∈ lw_tbl := List.mem_of_getElem? (i := 748) (by decide +kernel)
theorem m_749 : Cond.instanceMethod yX7_isTypedAt ∈ lw_tbl := List.mem_of_getElem? (i := 749) (by decide +kernel)
theorem m_750 : Cond.selects RX7 yX7_isTypedAt yX7_isTypedAt ∈ lw_tbl := List.mem_of_getElem? (i := 750) (by decide +kernel)
theorem m_752 : Cond.methodLink RX7 69 yX1_isTypedAt ∈ lw_tbl := List.mem_of_getElem? (i := 752) (by decide +kernel)
theorem m_753 : Cond.instanceMethod yX1_isTypedAt ∈ lw_tbl := List.mem_of_getElem? (i := 753) (by decide +kernel)
theorem m_754 : Cond.selects RX1 yX1_isTypedAt yX1_isTypedAt ∈ lw_tbl := List.mem_of_getElem? (i := 754) (by decide +kernel)
theorem m_756 : Cond.methodLink RX6 53 yX7_lengthOf ∈ lw_tbl := List.mem_of_getElem? (i := 756) (by decide +kernel)
theorem m_757 : Cond.methodLink RX6 57 yX6_studyName ∈ lw_tbl := List.mem_of_getElem? (i := 757) (by decide +kernel)
theorem m_759 : Cond.instanceMethod yX6_studyName ∈ lw_tbl := List.mem_of_getElem? (i := 759) (by decide +kernel)
theorem m_761 : Cond.methodLink RX6 65 yX6_isWithin ∈ lw_tbl := List.mem_of_getElem? (i := 761) (by decide +kernel)
theorem m_762 : Cond.static yX6_isWithin ∈ lw_tbl := List.mem_of_getElem? (i := 762) (by decide +kernel)
theorem m_764 : Cond.constant RX6 69 1000000 ∈ lw_tbl := List.mem_of_getElem? (i := 764) (by decide +kernel)
theorem m_765 : Cond.methodLink RX6 61 yX6_layBest ∈ lw_tbl := List.mem_of_getElem? (i := 765) (by decide +kernel)
theorem m_767 : Cond.instanceMethod yX6_layBest ∈ lw_tbl := List.mem_of_getElem? (i := 767) (by decide +kernel)
theorem m_769 : Cond.methodLink RX6 70 yX8_clear ∈ lw_tbl := List.mem_of_getElem? (i := 769) (by decide +kernel)
theorem m_770 : Cond.methodLink RX6 73 yX6_bestNameAt ∈ lw_tbl := List.mem_of_getElem? (i := 770) (by decide +kernel)
theorem m_772 : Cond.instanceMethod yX6_bestNameAt ∈ lw_tbl := List.mem_of_getElem? (i := 772) (by decide +kernel)
theorem m_774 : Cond.methodLink RX6 83 yX6_keepsBest ∈ lw_tbl := List.mem_of_getElem? (i := 774) (by decide +kernel)
theorem m_776 : Cond.instanceMethod yX6_keepsBest ∈ lw_tbl := List.mem_of_getElem? (i := 776) (by decide +kernel)
theorem m_778 : Cond.methodLink RX6 77 yX8_get ∈ lw_tbl := List.mem_of_getElem? (i := 778) (by decide +kernel)
theorem m_779 : Cond.methodLink RX6 80 yX8_add ∈ lw_tbl := List.mem_of_getElem? (i := 779) (by decide +kernel)
theorem m_780 : Cond.methodLink RX9 220 yX6_number ∈ lw_tbl := List.mem_of_getElem? (i := 780) (by decide +kernel)
theorem m_781 : Cond.instanceMethod yX6_number ∈ lw_tbl := List.mem_of_getElem? (i := 781) (by decide +kernel)
theorem m_782 : Cond.selects RX6 yX6_number yX6_number ∈ lw_tbl := List.mem_of_getElem? (i := 782) (by decide +kernel)
theorem m_788 : Cond.methodLink RX9 223 yX6_best ∈ lw_tbl := List.mem_of_getElem? (i := 788) (by decide +kernel)
theorem m_789 : Cond.instanceMethod yX6_best ∈ lw_tbl := List.mem_of_getElem? (i := 789) (by decide +kernel)
theorem m_790 : Cond.selects RX6 yX6_best yX6_best ∈ lw_tbl := List.mem_of_getElem? (i := 790) (by decide +kernel)
theorem m_796 : Cond.methodLink RX9 227 yX4_cost ∈ lw_tbl := List.mem_of_getElem? (i := 796) (by decide +kernel)
theorem m_797 : Cond.instanceMethod yX4_cost ∈ lw_tbl := List.mem_of_getElem? (i := 797) (by decide +kernel)
theorem m_798 : Cond.selects RX4 yX4_cost yX4_cost ∈ lw_tbl := List.mem_of_getElem? (i := 798) (by decide +kernel)
theorem m_800 : Cond.methodLink RX4 58 yX7_frequencyOf ∈ lw_tbl := List.mem_of_getElem? (i := 800) (by decide +kernel)
theorem m_801 : Cond.methodLink RX9 230 yX9_adoptSpare ∈ lw_tbl := List.mem_of_getElem? (i := 801) (by decide +kernel)
theorem m_803 : Cond.instanceMethod yX9_adoptSpare ∈ lw_tbl := List.mem_of_getElem? (i := 803) (by decide +kernel)
theorem m_809 : Cond.methodLink RX9 233 yX4_width ∈ lw_tbl := List.mem_of_getElem? (i := 809) (by decide +kernel)
theorem m_810 : Cond.instanceMethod yX4_width ∈ lw_tbl := List.mem_of_getElem? (i := 810) (by decide +kernel)
theorem m_811 : Cond.selects RX4 yX4_width yX4_width ∈ lw_tbl := List.mem_of_getElem? (i := 811) (by decide +kernel)
theorem m_813 : Cond.methodLink RX9 236 yX4_differentPaths ∈ lw_tbl := List.mem_of_getElem? (i := 813) (by decide +kernel)
theorem m_814 : Cond.instanceMethod yX4_differentPaths ∈ lw_tbl := List.mem_of_getElem? (i := 814) (by decide +kernel)
theorem m_815 : Cond.selects RX4 yX4_differentPaths yX4_differentPaths ∈ lw_tbl := List.mem_of_getElem? (i := 815) (by decide +kernel)
theorem m_817 : Cond.methodLink RX4 67 yX4_hasSamePath ∈ lw_tbl := List.mem_of_getElem? (i := 817) (by decide +kernel)
theorem m_819 : Cond.instanceMethod yX4_hasSamePath ∈ lw_tbl := List.mem_of_getElem? (i := 819) (by decide +kernel)
theorem m_821 : Cond.methodLink RX4 64 yX4_stepOf ∈ lw_tbl := List.mem_of_getElem? (i := 821) (by decide +kernel)
theorem m_822 : Cond.instanceMethod yX4_stepOf ∈ lw_tbl := List.mem_of_getElem? (i := 822) (by decide +kernel)
theorem m_823 : Cond.selects RX4 yX4_stepOf yX4_stepOf ∈ lw_tbl := List.mem_of_getElem? (i := 823) (by decide +kernel)
theorem m_829 : Cond.methodLink RX9 240 yX4_stepOf ∈ lw_tbl := List.mem_of_getElem? (i := 829) (by decide +kernel)
theorem m_834 : Cond.methodLink RX9 243 yX4_follow ∈ lw_tbl := List.mem_of_getElem? (i := 834) (by decide +kernel)
theorem m_835 : Cond.instanceMethod yX4_follow ∈ lw_tbl := List.mem_of_getElem? (i := 835) (by decide +kernel)
theorem m_836 : Cond.selects RX4 yX4_follow yX4_follow ∈ lw_tbl := List.mem_of_getElem? (i := 836) (by decide +kernel)
theorem m_838 : Cond.methodLink RX4 71 yX4_splitDecimals ∈ lw_tbl := List.mem_of_getElem? (i := 838) (by decide +kernel)
theorem m_840 : Cond.instanceMethod yX4_splitDecimals ∈ lw_tbl := List.mem_of_getElem? (i := 840) (by decide +kernel)
theorem m_842 : Cond.methodLink RX4 80 yX8_clear ∈ lw_tbl := List.mem_of_getElem? (i := 842) (by decide +kernel)
theorem m_843 : Cond.methodLink RX4 83 yX8_add ∈ lw_tbl := List.mem_of_getElem? (i := 843) (by decide +kernel)
theorem m_844 : Cond.methodLink RX4 74 yX4_beginsAsWanted ∈ lw_tbl := List.mem_of_getElem? (i := 844) (by decide +kernel)
theorem m_846 : Cond.instanceMethod yX4_beginsAsWanted ∈ lw_tbl := List.mem_of_getElem? (i := 846) (by decide +kernel)
theorem m_848 : Cond.methodLink RX4 77 yX8_size ∈ lw_tbl := List.mem_of_getElem? (i := 848) (by decide +kernel)
theorem m_849 : Cond.methodLink RX4 86 yX8_get ∈ lw_tbl := List.mem_of_getElem? (i := 849) (by decide +kernel)
theorem m_851 : Cond.instanceMethod yX9_menu ∈ lw_tbl := List.mem_of_getElem? (i := 851) (by decide +kernel)
theorem m_852 : Cond.selects RX9 yX9_menu yX9_menu ∈ lw_tbl := List.mem_of_getElem? (i := 852) (by decide +kernel)
theorem m_854 : Cond.methodLink RX9 246 yX4_longestPath ∈ lw_tbl := List.mem_of_getElem? (i := 854) (by decide +kernel)
theorem m_855 : Cond.instanceMethod yX4_longestPath ∈ lw_tbl := List.mem_of_getElem? (i := 855) (by decide +kernel)
theorem m_856 : Cond.selects RX4 yX4_longestPath yX4_longestPath ∈ lw_tbl := List.mem_of_getElem? (i := 856) (by decide +kernel)
theorem m_858 : Cond.methodLink RX9 249 yX4_branchings ∈ lw_tbl := List.mem_of_getElem? (i := 858) (by decide +kernel)
theorem m_859 : Cond.instanceMethod yX4_branchings ∈ lw_tbl := List.mem_of_getElem? (i := 859) (by decide +kernel)
theorem m_860 : Cond.selects RX4 yX4_branchings yX4_branchings ∈ lw_tbl := List.mem_of_getElem? (i := 860) (by decide +kernel)
theorem m_862 : Cond.methodLink RX9 252 yX4_partsOfWhole ∈ lw_tbl := List.mem_of_getElem? (i := 862) (by decide +kernel)
theorem m_863 : Cond.instanceMethod yX4_partsOfWhole ∈ lw_tbl := List.mem_of_getElem? (i := 863) (by decide +kernel)
theorem m_864 : Cond.selects RX4 yX4_partsOfWhole yX4_partsOfWhole ∈ lw_tbl := List.mem_of_getElem? (i := 864) (by decide +kernel)
theorem m_867 : Cond.instanceMethod yX9_count ∈ lw_tbl := List.mem_of_getElem? (i := 867) (by decide +kernel)
theorem m_868 : Cond.selects RX9 yX9_count yX9_count ∈ lw_tbl := List.mem_of_getElem? (i := 868) (by decide +kernel)
theorem m_874 : Cond.constantLong RX9 258 1571 ∈ lw_tbl := List.mem_of_getElem? (i := 874) (by decide +kernel)
theorem m_875 : Cond.methodLink RX9 260 yX9_mix ∈ lw_tbl := List.mem_of_getElem? (i := 875) (by decide +kernel)
theorem m_876 : Cond.static yX9_mix ∈ lw_tbl := List.mem_of_getElem? (i := 876) (by decide +kernel)
theorem m_878 : Cond.constantLong RX9 287 31 ∈ lw_tbl := List.mem_of_getElem? (i := 878) (by decide +kernel)
theorem m_879 : Cond.methodLink RX9 264 yX9_mixNames ∈ lw_tbl := List.mem_of_getElem? (i := 879) (by decide +kernel)
theorem m_881 : Cond.instanceMethod yX9_mixNames ∈ lw_tbl := List.mem_of_getElem? (i := 881) (by decide +kernel)
theorem m_883 : Cond.methodLink RX9 284 yX9_name ∈ lw_tbl := List.mem_of_getElem? (i := 883) (by decide +kernel)
theorem m_884 : Cond.methodLink RX9 268 yX9_about ∈ lw_tbl := List.mem_of_getElem? (i := 884) (by decide +kernel)
theorem m_885 : Cond.methodLink RX9 271 yX9_mixRow ∈ lw_tbl := List.mem_of_getElem? (i := 885) (by decide +kernel)
theorem m_886 : Cond.static yX9_mixRow ∈ lw_tbl := List.mem_of_getElem? (i := 886) (by decide +kernel)
theorem m_888 : Cond.methodLink RX9 275 yX9_menu ∈ lw_tbl := List.mem_of_getElem? (i := 888) (by decide +kernel)
theorem m_889 : Cond.methodLink RX9 278 yX9_mixPaths ∈ lw_tbl := List.mem_of_getElem? (i := 889) (by decide +kernel)
theorem m_891 : Cond.instanceMethod yX9_mixPaths ∈ lw_tbl := List.mem_of_getElem? (i := 891) (by decide +kernel)
theorem m_893 : Cond.methodLink RX9 281 yX9_count ∈ lw_tbl := List.mem_of_getElem? (i := 893) (by decide +kernel)
theorem m_899 : Cond.methodLink RX10 1 objectInit ∈ lw_tbl := List.mem_of_getElem? (i := 899) (by decide +kernel)
theorem m_900 : Cond.fieldLink RX10 77 "DialMenusModel" "pageLength" "I" ∈ lw_tbl := List.mem_of_getElem? (i := 900) (by decide +kernel)
theorem m_901 : Cond.fieldLink RX10 7 "DialMenusModel" "page" "[I" ∈ lw_tbl := List.mem_of_getElem? (i := 901) (by decide +kernel)
theorem m_902 : Cond.fieldLink RX10 109 "DialMenusModel" "names" "I" ∈ lw_tbl := List.mem_of_getElem? (i := 902) (by decide +kernel)
theorem m_903 : Cond.fieldLink RX10 13 "DialMenusModel" "length" "[I" ∈ lw_tbl := List.mem_of_getElem? (i := 903) (by decide +kernel)
theorem m_904 : Cond.fieldLink RX10 16 "DialMenusModel" "letters" "[I" ∈ lw_tbl := List.mem_of_getElem? (i := 904) (by decide +kernel)
theorem m_905 : Cond.fieldLink RX10 19 "DialMenusModel" "uses" "[I" ∈ lw_tbl := List.mem_of_getElem? (i := 905) (by decide +kernel)
theorem m_906 : Cond.fieldLink RX10 127 "DialMenusModel" "listsRead" "I" ∈ lw_tbl := List.mem_of_getElem? (i := 906) (by decide +kernel)
theorem m_907 : Cond.fieldLink RX10 136 "DialMenusModel" "dialsRead" "I" ∈ lw_tbl := List.mem_of_getElem? (i := 907) (by decide +kernel)
theorem m_908 : Cond.fieldLink RX10 142 "DialMenusModel" "gone" "I" ∈ lw_tbl := List.mem_of_getElem? (i := 908) (by decide +kernel)
theorem m_909 : Cond.fieldLink RX10 22 "DialMenusModel" "digitOf" "[I" ∈ lw_tbl := List.mem_of_getElem? (i := 909) (by decide +kernel)
theorem m_910 : Cond.fieldLink RX10 199 "DialMenusModel" "typedMany" "I" ∈ lw_tbl := List.mem_of_getElem? (i := 910) (by decide +kernel)
theorem m_911 : Cond.fieldLink RX10 25 "DialMenusModel" "typedAt" "[I" ∈ lw_tbl := List.mem_of_getElem? (i := 911) (by decide +kernel)
theorem m_912 : Cond.fieldLink RX10 130 "DialMenusModel" "width" "I" ∈ lw_tbl := List.mem_of_getElem? (i := 912) (by decide +kernel)
theorem m_913 : Cond.fieldLink RX10 28 "DialMenusModel" "pathLength" "[I" ∈ lw_tbl := List.mem_of_getElem? (i := 913) (by decide +kernel)
theorem m_914 : Cond.fieldLink RX10 31 "DialMenusModel" "steps" "[I" ∈ lw_tbl := List.mem_of_getElem? (i := 914) (by decide +kernel)
theorem m_915 : Cond.fieldLink RX10 259 "DialMenusModel" "built" "I" ∈ lw_tbl := List.mem_of_getElem? (i := 915) (by decide +kernel)
theorem m_916 : Cond.fieldLink RX10 81 "DialMenusModel" "stage" "I" ∈ lw_tbl := List.mem_of_getElem? (i := 916) (by decide +kernel)
theorem m_917 : Cond.fieldLink RX10 84 "DialMenusModel" "newNames" "I" ∈ lw_tbl := List.mem_of_getElem? (i := 917) (by decide +kernel)
theorem m_918 : Cond.fieldLink RX10 34 "DialMenusModel" "newLength" "[I" ∈ lw_tbl := List.mem_of_getElem? (i := 918) (by decide +kernel)
theorem m_919 : Cond.fieldLink RX10 37 "DialMenusModel" "newLetters" "[I" ∈ lw_tbl := List.mem_of_getElem? (i := 919) (by decide +kernel)
theorem m_920 : Cond.fieldLink RX10 40 "DialMenusModel" "newUses" "[I" ∈ lw_tbl := List.mem_of_getElem? (i := 920) (by decide +kernel)
theorem m_921 : Cond.fieldLink RX10 43 "DialMenusModel" "newDigit" "[I" ∈ lw_tbl := List.mem_of_getElem? (i := 921) (by decide +kernel)
theorem m_922 : Cond.fieldLink RX10 46 "DialMenusModel" "ways" "[I" ∈ lw_tbl := List.mem_of_getElem? (i := 922) (by decide +kernel)
theorem m_923 : Cond.fieldLink RX10 49 "DialMenusModel" "loose" "[I" ∈ lw_tbl := List.mem_of_getElem? (i := 923) (by decide +kernel)
theorem m_924 : Cond.fieldLink RX10 52 "DialMenusModel" "sizes" "[I" ∈ lw_tbl := List.mem_of_getElem? (i := 924) (by decide +kernel)
theorem m_925 : Cond.fieldLink RX10 55 "DialMenusModel" "looseWays" "[I" ∈ lw_tbl := List.mem_of_getElem? (i := 925) (by decide +kernel)
theorem m_926 : Cond.fieldLink RX10 58 "DialMenusModel" "costs" "[I" ∈ lw_tbl := List.mem_of_getElem? (i := 926) (by decide +kernel)
theorem m_927 : Cond.fieldLink RX10 61 "DialMenusModel" "parts" "[I" ∈ lw_tbl := List.mem_of_getElem? (i := 927) (by decide +kernel)
theorem m_928 : Cond.fieldLink RX10 64 "DialMenusModel" "newPathLength" "[I" ∈ lw_tbl := List.mem_of_getElem? (i := 928) (by decide +kernel)
theorem m_929 : Cond.fieldLink RX10 67 "DialMenusModel" "newSteps" "[I" ∈ lw_tbl := List.mem_of_getElem? (i := 929) (by decide +kernel)
theorem m_930 : Cond.fieldLink RX10 271 "DialMenusModel" "asked" "I" ∈ lw_tbl := List.mem_of_getElem? (i := 930) (by decide +kernel)
theorem m_931 : Cond.fieldLink RX10 70 "DialMenusModel" "askedAt" "[I" ∈ lw_tbl := List.mem_of_getElem? (i := 931) (by decide +kernel)
theorem m_932 : Cond.fieldLink RX10 300 "DialMenusModel" "h" "J" ∈ lw_tbl := List.mem_of_getElem? (i := 932) (by decide +kernel)
theorem m_1004 : Cond.methodLink RX10 73 yX10_within ∈ lw_tbl := List.mem_of_getElem? (i := 1004) (by decide +kernel)
theorem m_1005 : Cond.static yX10_within ∈ lw_tbl := List.mem_of_getElem? (i := 1005) (by decide +kernel)
theorem m_1015 : Cond.methodLink RX10 105 yX10_read ∈ lw_tbl := List.mem_of_getElem? (i := 1015) (by decide +kernel)
theorem m_1017 : Cond.instanceMethod yX10_read ∈ lw_tbl := List.mem_of_getElem? (i := 1017) (by decide +kernel)
theorem m_1019 : Cond.methodLink RX10 102 yX10_takes ∈ lw_tbl := List.mem_of_getElem? (i := 1019) (by decide +kernel)
theorem m_1021 : Cond.instanceMethod yX10_takes ∈ lw_tbl := List.mem_of_getElem? (i := 1021) (by decide +kernel)
theorem m_1023 : Cond.methodLink RX10 95 yX10_takesName ∈ lw_tbl := List.mem_of_getElem? (i := 1023) (by decide +kernel)
theorem m_1025 : Cond.instanceMethod yX10_takesName ∈ lw_tbl := List.mem_of_getElem? (i := 1025) (by decide +kernel)
theorem m_1027 : Cond.methodLink RX10 87 yX10_isNewTwice ∈ lw_tbl := List.mem_of_getElem? (i := 1027) (by decide +kernel)
theorem m_1029 : Cond.instanceMethod yX10_isNewTwice ∈ lw_tbl := List.mem_of_getElem? (i := 1029) (by decide +kernel)
theorem m_1031 : Cond.methodLink RX10 91 yX10_goes ∈ lw_tbl := List.mem_of_getElem? (i := 1031) (by decide +kernel)
theorem m_1033 : Cond.instanceMethod yX10_goes ∈ lw_tbl := List.mem_of_getElem? (i := 1033) (by decide +kernel)
theorem m_1035 : Cond.methodLink RX10 99 yX10_takesUse ∈ lw_tbl := List.mem_of_getElem? (i := 1035) (by decide +kernel)
theorem m_1037 : Cond.instanceMethod yX10_takesUse ∈ lw_tbl := List.mem_of_getElem? (i := 1037) (by decide +kernel)
theorem m_1043 : Cond.methodLink RX10 120 yX10_isThere ∈ lw_tbl := List.mem_of_getElem? (i := 1043) (by decide +kernel)
theorem m_1045 : Cond.instanceMethod yX10_isThere ∈ lw_tbl := List.mem_of_getElem? (i := 1045) (by decide +kernel)
theorem m_1047 : Cond.methodLink RX10 112 yX10_compareNew ∈ lw_tbl := List.mem_of_getElem? (i := 1047) (by decide +kernel)
theorem m_1049 : Cond.instanceMethod yX10_compareNew ∈ lw_tbl := List.mem_of_getElem? (i := 1049) (by decide +kernel)
theorem m_1051 : Cond.methodLink RX10 123 yX10_comes ∈ lw_tbl := List.mem_of_getElem? (i := 1051) (by decide +kernel)
theorem m_1053 : Cond.instanceMethod yX10_comes ∈ lw_tbl := List.mem_of_getElem? (i := 1053) (by decide +kernel)
theorem m_1055 : Cond.methodLink RX10 116 yX10_moveName ∈ lw_tbl := List.mem_of_getElem? (i := 1055) (by decide +kernel)
theorem m_1057 : Cond.instanceMethod yX10_moveName ∈ lw_tbl := List.mem_of_getElem? (i := 1057) (by decide +kernel)
theorem m_1063 : Cond.methodLink RX10 133 yX10_isDial ∈ lw_tbl := List.mem_of_getElem? (i := 1063) (by decide +kernel)
theorem m_1065 : Cond.instanceMethod yX10_isDial ∈ lw_tbl := List.mem_of_getElem? (i := 1065) (by decide +kernel)
theorem m_1071 : Cond.methodLink RX10 139 yX10_isName ∈ lw_tbl := List.mem_of_getElem? (i := 1071) (by decide +kernel)
theorem m_1073 : Cond.instanceMethod yX10_isName ∈ lw_tbl := List.mem_of_getElem? (i := 1073) (by decide +kernel)
theorem m_1083 : Cond.methodLink RX10 175 yX10_nameNow ∈ lw_tbl := List.mem_of_getElem? (i := 1083) (by decide +kernel)
theorem m_1085 : Cond.instanceMethod yX10_nameNow ∈ lw_tbl := List.mem_of_getElem? (i := 1085) (by decide +kernel)
theorem m_1087 : Cond.methodLink RX10 162 yX10_twins ∈ lw_tbl := List.mem_of_getElem? (i := 1087) (by decide +kernel)
theorem m_1089 : Cond.instanceMethod yX10_twins ∈ lw_tbl := List.mem_of_getElem? (i := 1089) (by decide +kernel)
theorem m_1091 : Cond.methodLink RX10 151 yX10_isTwin ∈ lw_tbl := List.mem_of_getElem? (i := 1091) (by decide +kernel)
theorem m_1093 : Cond.instanceMethod yX10_isTwin ∈ lw_tbl := List.mem_of_getElem? (i := 1093) (by decide +kernel)
theorem m_1095 : Cond.methodLink RX10 148 yX10_begins ∈ lw_tbl := List.mem_of_getElem? (i := 1095) (by decide +kernel)
theorem m_1097 : Cond.instanceMethod yX10_begins ∈ lw_tbl := List.mem_of_getElem? (i := 1097) (by decide +kernel)
theorem m_1099 : Cond.methodLink RX10 145 yX10_codeAt ∈ lw_tbl := List.mem_of_getElem? (i := 1099) (by decide +kernel)
theorem m_1101 : Cond.instanceMethod yX10_codeAt ∈ lw_tbl := List.mem_of_getElem? (i := 1101) (by decide +kernel)
theorem m_1103 : Cond.methodLink RX10 166 yX10_telling ∈ lw_tbl := List.mem_of_getElem? (i := 1103) (by decide +kernel)
theorem m_1105 : Cond.instanceMethod yX10_telling ∈ lw_tbl := List.mem_of_getElem? (i := 1105) (by decide +kernel)
theorem m_1107 : Cond.methodLink RX10 169 yX10_presses ∈ lw_tbl := List.mem_of_getElem? (i := 1107) (by decide +kernel)
theorem m_1109 : Cond.instanceMethod yX10_presses ∈ lw_tbl := List.mem_of_getElem? (i := 1109) (by decide +kernel)
theorem m_1111 : Cond.constant RX10 158 268435456 ∈ lw_tbl := List.mem_of_getElem? (i := 1111) (by decide +kernel)
theorem m_1112 : Cond.methodLink RX10 159 yX10_placeIn ∈ lw_tbl := List.mem_of_getElem? (i := 1112) (by decide +kernel)
theorem m_1114 : Cond.instanceMethod yX10_placeIn ∈ lw_tbl := List.mem_of_getElem? (i := 1114) (by decide +kernel)
theorem m_1116 : Cond.methodLink RX10 155 yX10_isAhead ∈ lw_tbl := List.mem_of_getElem? (i := 1116) (by decide +kernel)
theorem m_1118 : Cond.instanceMethod yX10_isAhead ∈ lw_tbl := List.mem_of_getElem? (i := 1118) (by decide +kernel)
theorem m_1120 : Cond.methodLink RX10 172 yX10_layMenu ∈ lw_tbl := List.mem_of_getElem? (i := 1120) (by decide +kernel)
theorem m_1122 : Cond.instanceMethod yX10_layMenu ∈ lw_tbl := List.mem_of_getElem? (i := 1122) (by decide +kernel)
theorem m_1124 : Cond.methodLink RX10 250 yX10_layCosts ∈ lw_tbl := List.mem_of_getElem? (i := 1124) (by decide +kernel)
theorem m_1126 : Cond.instanceMethod yX10_layCosts ∈ lw_tbl := List.mem_of_getElem? (i := 1126) (by decide +kernel)
theorem m_1128 : Cond.methodLink RX10 235 yX10_layStretch ∈ lw_tbl := List.mem_of_getElem? (i := 1128) (by decide +kernel)
theorem m_1130 : Cond.instanceMethod yX10_layStretch ∈ lw_tbl := List.mem_of_getElem? (i := 1130) (by decide +kernel)
theorem m_1132 : Cond.methodLink RX10 238 yX10_bestParts ∈ lw_tbl := List.mem_of_getElem? (i := 1132) (by decide +kernel)
theorem m_1134 : Cond.instanceMethod yX10_bestParts ∈ lw_tbl := List.mem_of_getElem? (i := 1134) (by decide +kernel)
theorem m_1136 : Cond.methodLink RX10 228 yX10_partsAt ∈ lw_tbl := List.mem_of_getElem? (i := 1136) (by decide +kernel)
theorem m_1138 : Cond.instanceMethod yX10_partsAt ∈ lw_tbl := List.mem_of_getElem? (i := 1138) (by decide +kernel)
theorem m_1140 : Cond.methodLink RX10 232 yX10_costAt ∈ lw_tbl := List.mem_of_getElem? (i := 1140) (by decide +kernel)
theorem m_1142 : Cond.instanceMethod yX10_costAt ∈ lw_tbl := List.mem_of_getElem? (i := 1142) (by decide +kernel)
theorem m_1144 : Cond.methodLink RX10 241 yX10_usesOf ∈ lw_tbl := List.mem_of_getElem? (i := 1144) (by decide +kernel)
theorem m_1146 : Cond.instanceMethod yX10_usesOf ∈ lw_tbl := List.mem_of_getElem? (i := 1146) (by decide +kernel)
theorem m_1148 : Cond.methodLink RX10 253 yX10_layPath ∈ lw_tbl := List.mem_of_getElem? (i := 1148) (by decide +kernel)
theorem m_1150 : Cond.instanceMethod yX10_layPath ∈ lw_tbl := List.mem_of_getElem? (i := 1150) (by decide +kernel)
theorem m_1152 : Cond.methodLink RX10 244 yX10_partsOf ∈ lw_tbl := List.mem_of_getElem? (i := 1152) (by decide +kernel)
theorem m_1154 : Cond.instanceMethod yX10_partsOf ∈ lw_tbl := List.mem_of_getElem? (i := 1154) (by decide +kernel)
theorem m_1156 : Cond.methodLink RX10 247 yX10_firstCut ∈ lw_tbl := List.mem_of_getElem? (i := 1156) (by decide +kernel)
theorem m_1158 : Cond.instanceMethod yX10_firstCut ∈ lw_tbl := List.mem_of_getElem? (i := 1158) (by decide +kernel)
theorem m_1176 : Cond.methodLink RX10 196 yX10_aboutNow ∈ lw_tbl := List.mem_of_getElem? (i := 1176) (by decide +kernel)
theorem m_1178 : Cond.instanceMethod yX10_aboutNow ∈ lw_tbl := List.mem_of_getElem? (i := 1178) (by decide +kernel)
theorem m_1180 : Cond.methodLink RX10 178 yX10_usesAll ∈ lw_tbl := List.mem_of_getElem? (i := 1180) (by decide +kernel)
theorem m_1182 : Cond.instanceMethod yX10_usesAll ∈ lw_tbl := List.mem_of_getElem? (i := 1182) (by decide +kernel)
theorem m_1184 : Cond.methodLink RX10 181 yX10_withTwins ∈ lw_tbl := List.mem_of_getElem? (i := 1184) (by decide +kernel)
theorem m_1186 : Cond.instanceMethod yX10_withTwins ∈ lw_tbl := List.mem_of_getElem? (i := 1186) (by decide +kernel)
theorem m_1188 : Cond.methodLink RX10 184 yX10_codesMany ∈ lw_tbl := List.mem_of_getElem? (i := 1188) (by decide +kernel)
theorem m_1190 : Cond.instanceMethod yX10_codesMany ∈ lw_tbl := List.mem_of_getElem? (i := 1190) (by decide +kernel)
theorem m_1192 : Cond.methodLink RX10 187 yX10_mostTelling ∈ lw_tbl := List.mem_of_getElem? (i := 1192) (by decide +kernel)
theorem m_1194 : Cond.instanceMethod yX10_mostTelling ∈ lw_tbl := List.mem_of_getElem? (i := 1194) (by decide +kernel)
theorem m_1196 : Cond.methodLink RX10 190 yX10_pressesAll ∈ lw_tbl := List.mem_of_getElem? (i := 1196) (by decide +kernel)
theorem m_1198 : Cond.instanceMethod yX10_pressesAll ∈ lw_tbl := List.mem_of_getElem? (i := 1198) (by decide +kernel)
theorem m_1200 : Cond.methodLink RX10 193 yX10_digitsAll ∈ lw_tbl := List.mem_of_getElem? (i := 1200) (by decide +kernel)
theorem m_1202 : Cond.instanceMethod yX10_digitsAll ∈ lw_tbl := List.mem_of_getElem? (i := 1202) (by decide +kernel)
theorem m_1221 : Cond.instanceMethod yX10_choice ∈ lw_tbl := List.mem_of_getElem? (i := 1221) (by decide +kernel)
theorem m_1222 : Cond.selects RX10 yX10_choice yX10_choice ∈ lw_tbl := List.mem_of_getElem? (i := 1222) (by decide +kernel)
theorem m_1224 : Cond.methodLink RX10 202 yX10_isChosen ∈ lw_tbl := List.mem_of_getElem? (i := 1224) (by decide +kernel)
theorem m_1226 : Cond.instanceMethod yX10_isChosen ∈ lw_tbl := List.mem_of_getElem? (i := 1226) (by decide +kernel)
theorem m_1228 : Cond.methodLink RX10 205 yX10_chosenAhead ∈ lw_tbl := List.mem_of_getElem? (i := 1228) (by decide +kernel)
theorem m_1230 : Cond.instanceMethod yX10_chosenAhead ∈ lw_tbl := List.mem_of_getElem? (i := 1230) (by decide +kernel)
theorem m_1236 : Cond.methodLink RX10 219 yX10_spellingNow ∈ lw_tbl := List.mem_of_getElem? (i := 1236) (by decide +kernel)
theorem m_1238 : Cond.instanceMethod yX10_spellingNow ∈ lw_tbl := List.mem_of_getElem? (i := 1238) (by decide +kernel)
theorem m_1240 : Cond.methodLink RX10 216 yX10_laySpellings ∈ lw_tbl := List.mem_of_getElem? (i := 1240) (by decide +kernel)
theorem m_1242 : Cond.instanceMethod yX10_laySpellings ∈ lw_tbl := List.mem_of_getElem? (i := 1242) (by decide +kernel)
theorem m_1244 : Cond.methodLink RX10 209 yX10_takesPiece ∈ lw_tbl := List.mem_of_getElem? (i := 1244) (by decide +kernel)
theorem m_1246 : Cond.instanceMethod yX10_takesPiece ∈ lw_tbl := List.mem_of_getElem? (i := 1246) (by decide +kernel)
theorem m_1248 : Cond.constant RX10 208 1000000 ∈ lw_tbl := List.mem_of_getElem? (i := 1248) (by decide +kernel)
theorem m_1249 : Cond.methodLink RX10 213 yX10_fitsAt ∈ lw_tbl := List.mem_of_getElem? (i := 1249) (by decide +kernel)
theorem m_1251 : Cond.instanceMethod yX10_fitsAt ∈ lw_tbl := List.mem_of_getElem? (i := 1251) (by decide +kernel)
theorem m_1257 : Cond.methodLink RX10 225 yX10_pieceNow ∈ lw_tbl := List.mem_of_getElem? (i := 1257) (by decide +kernel)
theorem m_1259 : Cond.instanceMethod yX10_pieceNow ∈ lw_tbl := List.mem_of_getElem? (i := 1259) (by decide +kernel)
theorem m_1261 : Cond.methodLink RX10 222 yX10_bestName ∈ lw_tbl := List.mem_of_getElem? (i := 1261) (by decide +kernel)
theorem m_1263 : Cond.instanceMethod yX10_bestName ∈ lw_tbl := List.mem_of_getElem? (i := 1263) (by decide +kernel)
theorem m_1269 : Cond.methodLink RX10 262 yX10_takeMenu ∈ lw_tbl := List.mem_of_getElem? (i := 1269) (by decide +kernel)
theorem m_1271 : Cond.instanceMethod yX10_takeMenu ∈ lw_tbl := List.mem_of_getElem? (i := 1271) (by decide +kernel)
theorem m_1273 : Cond.methodLink RX10 256 yX10_isPathChanged ∈ lw_tbl := List.mem_of_getElem? (i := 1273) (by decide +kernel)
theorem m_1275 : Cond.instanceMethod yX10_isPathChanged ∈ lw_tbl := List.mem_of_getElem? (i := 1275) (by decide +kernel)
theorem m_1277 : Cond.methodLink RX10 265 yX10_costNow ∈ lw_tbl := List.mem_of_getElem? (i := 1277) (by decide +kernel)
theorem m_1279 : Cond.instanceMethod yX10_costNow ∈ lw_tbl := List.mem_of_getElem? (i := 1279) (by decide +kernel)
theorem m_1285 : Cond.methodLink RX10 268 yX10_leastCost ∈ lw_tbl := List.mem_of_getElem? (i := 1285) (by decide +kernel)
theorem m_1287 : Cond.instanceMethod yX10_leastCost ∈ lw_tbl := List.mem_of_getElem? (i := 1287) (by decide +kernel)
theorem m_1297 : Cond.methodLink RX10 274 yX10_layAsked ∈ lw_tbl := List.mem_of_getElem? (i := 1297) (by decide +kernel)
theorem m_1299 : Cond.instanceMethod yX10_layAsked ∈ lw_tbl := List.mem_of_getElem? (i := 1299) (by decide +kernel)
theorem m_1301 : Cond.methodLink RX10 277 yX10_isLed ∈ lw_tbl := List.mem_of_getElem? (i := 1301) (by decide +kernel)
theorem m_1303 : Cond.instanceMethod yX10_isLed ∈ lw_tbl := List.mem_of_getElem? (i := 1303) (by decide +kernel)
theorem m_1309 : Cond.methodLink RX10 292 yX10_menuNow ∈ lw_tbl := List.mem_of_getElem? (i := 1309) (by decide +kernel)
theorem m_1311 : Cond.instanceMethod yX10_menuNow ∈ lw_tbl := List.mem_of_getElem? (i := 1311) (by decide +kernel)
theorem m_1313 : Cond.methodLink RX10 283 yX10_longest ∈ lw_tbl := List.mem_of_getElem? (i := 1313) (by decide +kernel)
theorem m_1315 : Cond.instanceMethod yX10_longest ∈ lw_tbl := List.mem_of_getElem? (i := 1315) (by decide +kernel)
theorem m_1317 : Cond.methodLink RX10 286 yX10_menusMany ∈ lw_tbl := List.mem_of_getElem? (i := 1317) (by decide +kernel)
theorem m_1319 : Cond.instanceMethod yX10_menusMany ∈ lw_tbl := List.mem_of_getElem? (i := 1319) (by decide +kernel)
theorem m_1321 : Cond.methodLink RX10 280 yX10_isSamePath ∈ lw_tbl := List.mem_of_getElem? (i := 1321) (by decide +kernel)
theorem m_1323 : Cond.instanceMethod yX10_isSamePath ∈ lw_tbl := List.mem_of_getElem? (i := 1323) (by decide +kernel)
theorem m_1325 : Cond.methodLink RX10 289 yX10_wholeParts ∈ lw_tbl := List.mem_of_getElem? (i := 1325) (by decide +kernel)
theorem m_1327 : Cond.instanceMethod yX10_wholeParts ∈ lw_tbl := List.mem_of_getElem? (i := 1327) (by decide +kernel)
theorem m_1333 : Cond.methodLink RX10 295 yX10_howMany ∈ lw_tbl := List.mem_of_getElem? (i := 1333) (by decide +kernel)
theorem m_1335 : Cond.instanceMethod yX10_howMany ∈ lw_tbl := List.mem_of_getElem? (i := 1335) (by decide +kernel)
theorem m_1341 : Cond.constantLong RX10 311 1571 ∈ lw_tbl := List.mem_of_getElem? (i := 1341) (by decide +kernel)
theorem m_1342 : Cond.methodLink RX10 304 yX10_mix ∈ lw_tbl := List.mem_of_getElem? (i := 1342) (by decide +kernel)
theorem m_1344 : Cond.instanceMethod yX10_mix ∈ lw_tbl := List.mem_of_getElem? (i := 1344) (by decide +kernel)
theorem m_1346 : Cond.constantLong RX10 298 31 ∈ lw_tbl := List.mem_of_getElem? (i := 1346) (by decide +kernel)
theorem m_1347 : Cond.methodLink RX10 313 yX10_mixName ∈ lw_tbl := List.mem_of_getElem? (i := 1347) (by decide +kernel)
theorem m_1349 : Cond.instanceMethod yX10_mixName ∈ lw_tbl := List.mem_of_getElem? (i := 1349) (by decide +kernel)
theorem m_1351 : Cond.methodLink RX10 316 yX10_mixTyped ∈ lw_tbl := List.mem_of_getElem? (i := 1351) (by decide +kernel)
theorem m_1353 : Cond.instanceMethod yX10_mixTyped ∈ lw_tbl := List.mem_of_getElem? (i := 1353) (by decide +kernel)
theorem m_1355 : Cond.methodLink RX10 308 yX10_choice ∈ lw_tbl := List.mem_of_getElem? (i := 1355) (by decide +kernel)
theorem m_1356 : Cond.methodLink RX10 319 yX10_mixMenu ∈ lw_tbl := List.mem_of_getElem? (i := 1356) (by decide +kernel)
theorem m_1358 : Cond.instanceMethod yX10_mixMenu ∈ lw_tbl := List.mem_of_getElem? (i := 1358) (by decide +kernel)
