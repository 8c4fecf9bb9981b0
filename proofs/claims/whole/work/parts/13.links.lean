theorem fX0_11 : FA RX0 11 0 1 := ⟨gwt_mem (tbT_2 _ (List.mem_of_getElem? (i := 42) rfl)) rfl, by decide, by decide⟩
theorem fX0_15 : FA RX0 15 0 2 := ⟨gwt_mem (tbT_2 _ (List.mem_of_getElem? (i := 43) rfl)) rfl, by decide, by decide⟩
theorem fX0_18 : FA RX0 18 0 3 := ⟨gwt_mem (tbT_2 _ (List.mem_of_getElem? (i := 44) rfl)) rfl, by decide, by decide⟩
theorem fX0_22 : FA RX0 22 0 4 := ⟨gwt_mem (tbT_2 _ (List.mem_of_getElem? (i := 45) rfl)) rfl, by decide, by decide⟩
theorem fX0_25 : FA RX0 25 0 5 := ⟨gwt_mem (tbT_2 _ (List.mem_of_getElem? (i := 46) rfl)) rfl, by decide, by decide⟩
theorem fX0_28 : FA RX0 28 0 6 := ⟨gwt_mem (tbT_2 _ (List.mem_of_getElem? (i := 47) rfl)) rfl, by decide, by decide⟩
theorem fX0_31 : FA RX0 31 0 7 := ⟨gwt_mem (tbT_2 _ (List.mem_of_getElem? (i := 48) rfl)) rfl, by decide, by decide⟩
theorem fX0_35 : FA RX0 35 0 0 := ⟨gwt_mem (tbT_2 _ (List.mem_of_getElem? (i := 41) rfl)) rfl, by decide, by decide⟩
theorem fX0_39 : FA RX0 39 1 1 := ⟨gwt_mem (tbT_1 _ (List.mem_of_getElem? (i := 130) rfl)) rfl, by decide, by decide⟩
theorem fX0_49 : FA RX0 49 1 2 := ⟨gwt_mem (tbT_1 _ (List.mem_of_getElem? (i := 133) rfl)) rfl, by decide, by decide⟩
theorem fX0_79 : FA RX0 79 1 6 := ⟨gwt_mem (tbT_1 _ (List.mem_of_getElem? (i := 144) rfl)) rfl, by decide, by decide⟩
theorem fX0_82 : FA RX0 82 1 4 := ⟨gwt_mem (tbT_1 _ (List.mem_of_getElem? (i := 138) rfl)) rfl, by decide, by decide⟩
theorem fX0_106 : FA RX0 106 1 5 := ⟨gwt_mem (tbT_1 _ (List.mem_of_getElem? (i := 142) rfl)) rfl, by decide, by decide⟩
theorem fX0_118 : FA RX0 118 1 8 := ⟨gwt_mem (tbT_1 _ (List.mem_of_getElem? (i := 150) rfl)) rfl, by decide, by decide⟩
theorem fX0_121 : FA RX0 121 1 16 := ⟨gwt_mem (tbT_1 _ (List.mem_of_getElem? (i := 165) rfl)) rfl, by decide, by decide⟩
theorem kX0_45 : CV RX0 45 2 0 MX0_mostPairs := ⟨bX0_mostPairs.1, gwt_mem (tbT_4 _ (List.mem_of_getElem? (i := 108) rfl)) rfl, bX0_mostPairs.2.1, bX0_mostPairs.2.2, by decide⟩
theorem kX0_52 : CV RX0 52 3 0 MX0_firstServed := ⟨bX0_firstServed.1, gwt_mem (tbT_4 _ (List.mem_of_getElem? (i := 119) rfl)) rfl, bX0_firstServed.2.1, bX0_firstServed.2.2, by decide⟩
theorem kX0_56 : CV RX0 56 2 1 MX1_canHave := ⟨bX1_canHave.1, gwt_mem (tbT_4 _ (List.mem_of_getElem? (i := 103) rfl)) rfl, bX1_canHave.2.1, bX1_canHave.2.2, by decide⟩
theorem kX0_60 : CS RX0 60 1 MJ6_bitCount_0f7a4 := ⟨bJ6_bitCount_0f7a4.1, gwt_mem (tbT_4 _ (List.mem_of_getElem? (i := 112) rfl)) rfl, bJ6_bitCount_0f7a4.2⟩
theorem kX0_66 : CS RX0 66 2 MJ9_min_7cf53 := ⟨bJ9_min_7cf53.1, gwt_mem (tbT_4 _ (List.mem_of_getElem? (i := 118) rfl)) rfl, bJ9_min_7cf53.2⟩
theorem kX0_71 : CV RX0 71 1 0 MX0_fillCost := ⟨bX0_fillCost.1, gwt_mem (tbT_4 _ (List.mem_of_getElem? (i := 140) rfl)) rfl, bX0_fillCost.2.1, bX0_fillCost.2.2, by decide⟩
theorem kX0_76 : CV RX0 76 1 0 MX0_nextOnWay := ⟨bX0_nextOnWay.1, gwt_mem (tbT_4 _ (List.mem_of_getElem? (i := 150) rfl)) rfl, bX0_nextOnWay.2.1, bX0_nextOnWay.2.2, by decide⟩
theorem kX0_85 : CV RX0 85 2 1 MX1_fits := ⟨bX1_fits.1, gwt_mem (tbT_4 _ (List.mem_of_getElem? (i := 145) rfl)) rfl, bX1_fits.2.1, bX1_fits.2.2, by decide⟩
theorem kX0_88 : CV RX0 88 1 0 MX0_costOf := ⟨bX0_costOf.1, gwt_mem (tbT_4 _ (List.mem_of_getElem? (i := 146) rfl)) rfl, bX0_costOf.2.1, bX0_costOf.2.2, by decide⟩
theorem kX0_91 : CV RX0 91 1 0 MX0_lastIn := ⟨bX0_lastIn.1, gwt_mem (tbT_4 _ (List.mem_of_getElem? (i := 162) rfl)) rfl, bX0_lastIn.2.1, bX0_lastIn.2.2, by decide⟩
theorem kX0_94 : CV RX0 94 1 0 MX0_setsWith := ⟨bX0_setsWith.1, gwt_mem (tbT_4 _ (List.mem_of_getElem? (i := 178) rfl)) rfl, bX0_setsWith.2.1, bX0_setsWith.2.2, by decide⟩
theorem kX0_97 : CS RX0 97 2 MJ9_max_7cf53 := ⟨bJ9_max_7cf53.1, gwt_mem (tbT_4 _ (List.mem_of_getElem? (i := 182) rfl)) rfl, bJ9_max_7cf53.2⟩
theorem kX0_100 : CV RX0 100 0 0 MX0_fillLongest := ⟨bX0_fillLongest.1, gwt_mem (tbT_4 _ (List.mem_of_getElem? (i := 199) rfl)) rfl, bX0_fillLongest.2.1, bX0_fillLongest.2.2, by decide⟩
theorem kX0_103 : CV RX0 103 2 0 MX0_nextInNest := ⟨bX0_nextInNest.1, gwt_mem (tbT_4 _ (List.mem_of_getElem? (i := 211) rfl)) rfl, bX0_nextInNest.2.1, bX0_nextInNest.2.2, by decide⟩
theorem kX0_109 : CV RX0 109 1 0 MX0_longestBehind := ⟨bX0_longestBehind.1, gwt_mem (tbT_4 _ (List.mem_of_getElem? (i := 203) rfl)) rfl, bX0_longestBehind.2.1, bX0_longestBehind.2.2, by decide⟩
theorem kX0_112 : CV RX0 112 2 0 MX0_wantsMore := ⟨bX0_wantsMore.1, gwt_mem (tbT_4 _ (List.mem_of_getElem? (i := 207) rfl)) rfl, bX0_wantsMore.2.1, bX0_wantsMore.2.2, by decide⟩
theorem kX0_115 : CV RX0 115 1 0 MX0_fittedBy := ⟨bX0_fittedBy.1, gwt_mem (tbT_4 _ (List.mem_of_getElem? (i := 223) rfl)) rfl, bX0_fittedBy.2.1, bX0_fittedBy.2.2, by decide⟩
theorem wX0_c75 : Cond.constant RX0 75 (1000000) ∈ gwt := gwt_mem (tbT_4 _ (List.mem_of_getElem? (i := 144) rfl)) rfl
theorem wX0_c124 : Cond.constantLong RX0 124 (1000000000000) ∈ gwt := gwt_mem (tbT_5 _ (List.mem_of_getElem? (i := 2) rfl)) rfl
theorem wX0_c126 : Cond.constantLong RX0 126 (10) ∈ gwt := gwt_mem (tbT_5 _ (List.mem_of_getElem? (i := 3) rfl)) rfl
theorem fX1_9 : FA RX1 9 1 4 := ⟨gwt_mem (tbT_1 _ (List.mem_of_getElem? (i := 137) rfl)) rfl, by decide, by decide⟩
theorem fX1_15 : FA RX1 15 1 5 := ⟨gwt_mem (tbT_1 _ (List.mem_of_getElem? (i := 140) rfl)) rfl, by decide, by decide⟩
theorem fX1_18 : FA RX1 18 1 6 := ⟨gwt_mem (tbT_1 _ (List.mem_of_getElem? (i := 143) rfl)) rfl, by decide, by decide⟩
theorem fX1_21 : FA RX1 21 1 7 := ⟨gwt_mem (tbT_1 _ (List.mem_of_getElem? (i := 146) rfl)) rfl, by decide, by decide⟩
theorem fX1_24 : FA RX1 24 1 8 := ⟨gwt_mem (tbT_1 _ (List.mem_of_getElem? (i := 148) rfl)) rfl, by decide, by decide⟩
theorem fX1_27 : FA RX1 27 1 9 := ⟨gwt_mem (tbT_1 _ (List.mem_of_getElem? (i := 151) rfl)) rfl, by decide, by decide⟩
theorem fX1_30 : FA RX1 30 1 10 := ⟨gwt_mem (tbT_1 _ (List.mem_of_getElem? (i := 153) rfl)) rfl, by decide, by decide⟩
theorem fX1_33 : FA RX1 33 1 11 := ⟨gwt_mem (tbT_1 _ (List.mem_of_getElem? (i := 155) rfl)) rfl, by decide, by decide⟩
theorem fX1_36 : FA RX1 36 1 12 := ⟨gwt_mem (tbT_1 _ (List.mem_of_getElem? (i := 157) rfl)) rfl, by decide, by decide⟩
theorem fX1_39 : FA RX1 39 1 13 := ⟨gwt_mem (tbT_1 _ (List.mem_of_getElem? (i := 159) rfl)) rfl, by decide, by decide⟩
theorem fX1_42 : FA RX1 42 1 14 := ⟨gwt_mem (tbT_1 _ (List.mem_of_getElem? (i := 161) rfl)) rfl, by decide, by decide⟩
theorem fX1_45 : FA RX1 45 1 15 := ⟨gwt_mem (tbT_1 _ (List.mem_of_getElem? (i := 162) rfl)) rfl, by decide, by decide⟩
theorem fX1_48 : FA RX1 48 1 16 := ⟨gwt_mem (tbT_1 _ (List.mem_of_getElem? (i := 163) rfl)) rfl, by decide, by decide⟩
theorem fX1_51 : FA RX1 51 1 0 := ⟨gwt_mem (tbT_1 _ (List.mem_of_getElem? (i := 127) rfl)) rfl, by decide, by decide⟩
theorem fX1_55 : FA RX1 55 1 1 := ⟨gwt_mem (tbT_1 _ (List.mem_of_getElem? (i := 129) rfl)) rfl, by decide, by decide⟩
theorem fX1_59 : FA RX1 59 1 2 := ⟨gwt_mem (tbT_1 _ (List.mem_of_getElem? (i := 132) rfl)) rfl, by decide, by decide⟩
theorem fX1_62 : FA RX1 62 1 3 := ⟨gwt_mem (tbT_1 _ (List.mem_of_getElem? (i := 135) rfl)) rfl, by decide, by decide⟩
theorem fX1_71 : FA RX1 71 3 3 := ⟨gwt_mem (tbT_1 _ (List.mem_of_getElem? (i := 102) rfl)) rfl, by decide, by decide⟩
theorem fX1_88 : FA RX1 88 7 6 := ⟨gwt_mem (tbT_1 _ (List.mem_of_getElem? (i := 62) rfl)) rfl, by decide, by decide⟩
theorem fX1_93 : FA RX1 93 7 0 := ⟨gwt_mem (tbT_1 _ (List.mem_of_getElem? (i := 43) rfl)) rfl, by decide, by decide⟩
theorem fX1_96 : FA RX1 96 7 3 := ⟨gwt_mem (tbT_1 _ (List.mem_of_getElem? (i := 53) rfl)) rfl, by decide, by decide⟩
theorem fX1_99 : FA RX1 99 3 2 := ⟨gwt_mem (tbT_1 _ (List.mem_of_getElem? (i := 99) rfl)) rfl, by decide, by decide⟩
theorem fX1_109 : FA RX1 109 7 1 := ⟨gwt_mem (tbT_1 _ (List.mem_of_getElem? (i := 47) rfl)) rfl, by decide, by decide⟩
theorem fX1_134 : FA RX1 134 3 5 := ⟨gwt_mem (tbT_1 _ (List.mem_of_getElem? (i := 107) rfl)) rfl, by decide, by decide⟩
theorem kX1_76 : CV RX1 76 2 1 MX1_keptWeeks := ⟨bX1_keptWeeks.1, gwt_mem (tbT_2 _ (List.mem_of_getElem? (i := 182) rfl)) rfl, bX1_keptWeeks.2.1, bX1_keptWeeks.2.2, by decide⟩
theorem kX1_80 : CV RX1 80 3 1 MX1_tellLawWords := ⟨bX1_tellLawWords.1, gwt_mem (tbT_2 _ (List.mem_of_getElem? (i := 178) rfl)) rfl, bX1_tellLawWords.2.1, bX1_tellLawWords.2.2, by decide⟩
theorem kX1_84 : CV RX1 84 1 3 MX3_textOf := ⟨bX3_textOf.1, gwt_mem (tbT_2 _ (List.mem_of_getElem? (i := 186) rfl)) rfl, bX3_textOf.2.1, bX3_textOf.2.2, by decide⟩
theorem kX1_103 : CV RX1 103 3 5 MX5_value := ⟨bX5_value.1, gwt_mem (tbT_2 _ (List.mem_of_getElem? (i := 194) rfl)) rfl, bX5_value.2.1, bX5_value.2.2, by decide⟩
theorem kX1_119 : CS RX1 119 2 MJ9_min_7cf53 := ⟨bJ9_min_7cf53.1, gwt_mem (tbT_2 _ (List.mem_of_getElem? (i := 211) rfl)) rfl, bJ9_min_7cf53.2⟩
theorem kX1_124 : CS RX1 124 2 MJ9_max_7cf53 := ⟨bJ9_max_7cf53.1, gwt_mem (tbT_2 _ (List.mem_of_getElem? (i := 214) rfl)) rfl, bJ9_max_7cf53.2⟩
theorem kX1_127 : CV RX1 127 2 1 MX1_toldWithout := ⟨bX1_toldWithout.1, gwt_mem (tbT_2 _ (List.mem_of_getElem? (i := 215) rfl)) rfl, bX1_toldWithout.2.1, bX1_toldWithout.2.2, by decide⟩
theorem kX1_130 : CV RX1 130 1 1 MX1_hasBook := ⟨bX1_hasBook.1, gwt_mem (tbT_2 _ (List.mem_of_getElem? (i := 232) rfl)) rfl, bX1_hasBook.2.1, bX1_hasBook.2.2, by decide⟩
theorem kX1_137 : CV RX1 137 5 1 MX1_asked := ⟨bX1_asked.1, gwt_mem (tbT_2 _ (List.mem_of_getElem? (i := 238) rfl)) rfl, bX1_asked.2.1, bX1_asked.2.2, by decide⟩
theorem kX1_141 : CV RX1 141 2 1 MX1_readsThrough := ⟨bX1_readsThrough.1, gwt_mem (tbT_2 _ (List.mem_of_getElem? (i := 239) rfl)) rfl, bX1_readsThrough.2.1, bX1_readsThrough.2.2, by decide⟩
theorem kX1_145 : CV RX1 145 1 1 MX1_hasReader := ⟨bX1_hasReader.1, gwt_mem (tbT_2 _ (List.mem_of_getElem? (i := 231) rfl)) rfl, bX1_hasReader.2.1, bX1_hasReader.2.2, by decide⟩
theorem kX1_148 : CV RX1 148 1 1 MX1_readerWith := ⟨bX1_readerWith.1, gwt_mem (tbT_2 _ (List.mem_of_getElem? (i := 233) rfl)) rfl, bX1_readerWith.2.1, bX1_readerWith.2.2, by decide⟩
theorem kX1_152 : CV RX1 152 1 1 MX1_traitsBehind := ⟨bX1_traitsBehind.1, gwt_mem (tbT_2 _ (List.mem_of_getElem? (i := 234) rfl)) rfl, bX1_traitsBehind.2.1, bX1_traitsBehind.2.2, by decide⟩
theorem kX1_155 : CV RX1 155 2 1 MX1_fits := ⟨bX1_fits.1, gwt_mem (tbT_3 _ (List.mem_of_getElem? (i := 3) rfl)) rfl, bX1_fits.2.1, bX1_fits.2.2, by decide⟩
theorem kX1_158 : CV RX1 158 2 1 MX1_lendRefusal := ⟨bX1_lendRefusal.1, gwt_mem (tbT_2 _ (List.mem_of_getElem? (i := 227) rfl)) rfl, bX1_lendRefusal.2.1, bX1_lendRefusal.2.2, by decide⟩
theorem kX1_161 : CV RX1 161 2 1 MX1_placeWaiting := ⟨bX1_placeWaiting.1, gwt_mem (tbT_4 _ (List.mem_of_getElem? (i := 10) rfl)) rfl, bX1_placeWaiting.2.1, bX1_placeWaiting.2.2, by decide⟩
theorem kX1_164 : CV RX1 164 2 1 MX1_dues := ⟨bX1_dues.1, gwt_mem (tbT_4 _ (List.mem_of_getElem? (i := 32) rfl)) rfl, bX1_dues.2.1, bX1_dues.2.2, by decide⟩
theorem kX1_167 : CV RX1 167 1 1 MX1_leave := ⟨bX1_leave.1, gwt_mem (tbT_4 _ (List.mem_of_getElem? (i := 28) rfl)) rfl, bX1_leave.2.1, bX1_leave.2.2, by decide⟩
theorem kX1_170 : CV RX1 170 1 1 MX1_dropWaiting := ⟨bX1_dropWaiting.1, gwt_mem (tbT_4 _ (List.mem_of_getElem? (i := 36) rfl)) rfl, bX1_dropWaiting.2.1, bX1_dropWaiting.2.2, by decide⟩
theorem kX1_174 : CV RX1 174 2 1 MX1_canHave := ⟨bX1_canHave.1, gwt_mem (tbT_4 _ (List.mem_of_getElem? (i := 131) rfl)) rfl, bX1_canHave.2.1, bX1_canHave.2.2, by decide⟩
theorem wX1_c112 : Cond.constant RX1 112 (-2000000000) ∈ gwt := gwt_mem (tbT_2 _ (List.mem_of_getElem? (i := 206) rfl)) rfl
theorem fX2_10 : FA RX2 10 2 0 := ⟨gwt_mem (tbT_5 _ (List.mem_of_getElem? (i := 34) rfl)) rfl, by decide, by decide⟩
theorem fX2_21 : FA RX2 21 2 1 := ⟨gwt_mem (tbT_5 _ (List.mem_of_getElem? (i := 36) rfl)) rfl, by decide, by decide⟩
theorem kX2_18 : Cond.methodLink RX2 18 MX1_init.1 ∈ gwt := gwt_mem (tbT_5 _ (List.mem_of_getElem? (i := 33) rfl)) rfl
theorem fX3_14 : FA RX3 14 3 0 := ⟨gwt_mem (tbT_1 _ (List.mem_of_getElem? (i := 96) rfl)) rfl, by decide, by decide⟩
theorem fX3_20 : FA RX3 20 3 1 := ⟨gwt_mem (tbT_1 _ (List.mem_of_getElem? (i := 97) rfl)) rfl, by decide, by decide⟩
theorem fX3_27 : FA RX3 27 3 2 := ⟨gwt_mem (tbT_1 _ (List.mem_of_getElem? (i := 98) rfl)) rfl, by decide, by decide⟩
theorem fX3_31 : FA RX3 31 3 3 := ⟨gwt_mem (tbT_1 _ (List.mem_of_getElem? (i := 101) rfl)) rfl, by decide, by decide⟩
theorem fX3_35 : FA RX3 35 3 4 := ⟨gwt_mem (tbT_1 _ (List.mem_of_getElem? (i := 103) rfl)) rfl, by decide, by decide⟩
theorem fX3_39 : FA RX3 39 3 5 := ⟨gwt_mem (tbT_1 _ (List.mem_of_getElem? (i := 105) rfl)) rfl, by decide, by decide⟩
theorem kX3_11 : Cond.methodLink RX3 11 MX7_init.1 ∈ gwt := gwt_mem (tbT_1 _ (List.mem_of_getElem? (i := 35) rfl)) rfl
theorem kX3_42 : CV RX3 42 1 3 MX3_has := ⟨bX3_has.1, gwt_mem (tbT_2 _ (List.mem_of_getElem? (i := 190) rfl)) rfl, bX3_has.2.1, bX3_has.2.2, by decide⟩
theorem fX4_16 : FA RX4 16 4 1 := ⟨gwt_mem (tbT_2 _ (List.mem_of_getElem? (i := 9) rfl)) rfl, by decide, by decide⟩
theorem fX4_20 : FA RX4 20 4 2 := ⟨gwt_mem (tbT_2 _ (List.mem_of_getElem? (i := 11) rfl)) rfl, by decide, by decide⟩
theorem fX4_24 : FA RX4 24 4 3 := ⟨gwt_mem (tbT_2 _ (List.mem_of_getElem? (i := 13) rfl)) rfl, by decide, by decide⟩
theorem fX4_28 : FA RX4 28 4 4 := ⟨gwt_mem (tbT_2 _ (List.mem_of_getElem? (i := 14) rfl)) rfl, by decide, by decide⟩
theorem fX4_31 : FA RX4 31 4 5 := ⟨gwt_mem (tbT_2 _ (List.mem_of_getElem? (i := 15) rfl)) rfl, by decide, by decide⟩
theorem fX4_35 : FA RX4 35 4 6 := ⟨gwt_mem (tbT_2 _ (List.mem_of_getElem? (i := 16) rfl)) rfl, by decide, by decide⟩
theorem fX4_38 : FA RX4 38 4 7 := ⟨gwt_mem (tbT_2 _ (List.mem_of_getElem? (i := 17) rfl)) rfl, by decide, by decide⟩
theorem fX4_41 : FA RX4 41 4 0 := ⟨gwt_mem (tbT_2 _ (List.mem_of_getElem? (i := 8) rfl)) rfl, by decide, by decide⟩
theorem fX4_65 : FA RX4 65 6 1 := ⟨gwt_mem (tbT_1 _ (List.mem_of_getElem? (i := 233) rfl)) rfl, by decide, by decide⟩
theorem fX4_70 : FA RX4 70 6 0 := ⟨gwt_mem (tbT_1 _ (List.mem_of_getElem? (i := 230) rfl)) rfl, by decide, by decide⟩
theorem fX4_107 : FA RX4 107 7 1 := ⟨gwt_mem (tbT_1 _ (List.mem_of_getElem? (i := 46) rfl)) rfl, by decide, by decide⟩
theorem fX4_114 : FA RX4 114 7 7 := ⟨gwt_mem (tbT_1 _ (List.mem_of_getElem? (i := 66) rfl)) rfl, by decide, by decide⟩
theorem fX4_121 : FA RX4 121 7 2 := ⟨gwt_mem (tbT_1 _ (List.mem_of_getElem? (i := 50) rfl)) rfl, by decide, by decide⟩
theorem fX4_130 : FA RX4 130 7 4 := ⟨gwt_mem (tbT_1 _ (List.mem_of_getElem? (i := 57) rfl)) rfl, by decide, by decide⟩
theorem fX4_133 : FA RX4 133 7 3 := ⟨gwt_mem (tbT_1 _ (List.mem_of_getElem? (i := 54) rfl)) rfl, by decide, by decide⟩
theorem kX4_13 : Cond.methodLink RX4 13 MX7_init.1 ∈ gwt := gwt_mem (tbT_2 _ (List.mem_of_getElem? (i := 7) rfl)) rfl
theorem kX4_45 : CV RX4 45 0 4 MX4_split := ⟨bX4_split.1, gwt_mem (tbT_3 _ (List.mem_of_getElem? (i := 44) rfl)) rfl, bX4_split.2.1, bX4_split.2.2, by decide⟩
theorem kX4_48 : CV RX4 48 0 7 MX7_clear := ⟨bX7_clear.1, gwt_mem (tbT_3 _ (List.mem_of_getElem? (i := 112) rfl)) rfl, bX7_clear.2.1, bX7_clear.2.2, by decide⟩
theorem kX4_51 : CV RX4 51 1 4 MX4_lawClause := ⟨bX4_lawClause.1, gwt_mem (tbT_3 _ (List.mem_of_getElem? (i := 116) rfl)) rfl, bX4_lawClause.2.1, bX4_lawClause.2.2, by decide⟩
theorem kX4_55 : CV RX4 55 1 4 MX4_orderClause := ⟨bX4_orderClause.1, gwt_mem (tbT_3 _ (List.mem_of_getElem? (i := 168) rfl)) rfl, bX4_orderClause.2.1, bX4_orderClause.2.2, by decide⟩
theorem kX4_58 : CV RX4 58 1 4 MX4_condition := ⟨bX4_condition.1, gwt_mem (tbT_3 _ (List.mem_of_getElem? (i := 176) rfl)) rfl, bX4_condition.2.1, bX4_condition.2.2, by decide⟩
theorem kX4_61 : CV RX4 61 0 4 MX4_fails := ⟨bX4_fails.1, gwt_mem (tbT_3 _ (List.mem_of_getElem? (i := 120) rfl)) rfl, bX4_fails.2.1, bX4_fails.2.2, by decide⟩
theorem kX4_73 : CS RX4 73 1 MX4_isLetter := ⟨bX4_isLetter.1, gwt_mem (tbT_3 _ (List.mem_of_getElem? (i := 48) rfl)) rfl, bX4_isLetter.2⟩
theorem kX4_76 : CV RX4 76 2 4 MX4_wordToken := ⟨bX4_wordToken.1, gwt_mem (tbT_3 _ (List.mem_of_getElem? (i := 51) rfl)) rfl, bX4_wordToken.2.1, bX4_wordToken.2.2, by decide⟩
theorem kX4_80 : CS RX4 80 1 MX4_isDigit := ⟨bX4_isDigit.1, gwt_mem (tbT_3 _ (List.mem_of_getElem? (i := 104) rfl)) rfl, bX4_isDigit.2⟩
theorem kX4_83 : CV RX4 83 2 4 MX4_numberToken := ⟨bX4_numberToken.1, gwt_mem (tbT_3 _ (List.mem_of_getElem? (i := 107) rfl)) rfl, bX4_numberToken.2.1, bX4_numberToken.2.2, by decide⟩
theorem kX4_88 : Cond.methodLink RX4 88 MJ0_length_8abf5.1 ∈ gwt := gwt_mem (tbT_3 _ (List.mem_of_getElem? (i := 56) rfl)) rfl
theorem kX4_94 : Cond.methodLink RX4 94 MJ0_charAt_5068e.1 ∈ gwt := gwt_mem (tbT_3 _ (List.mem_of_getElem? (i := 66) rfl)) rfl
theorem kX4_98 : CS RX4 98 2 MJ9_min_7cf53 := ⟨bJ9_min_7cf53.1, gwt_mem (tbT_3 _ (List.mem_of_getElem? (i := 111) rfl)) rfl, bJ9_min_7cf53.2⟩
theorem kX4_103 : CV RX4 103 1 7 MX7_open := ⟨bX7_open.1, gwt_mem (tbT_3 _ (List.mem_of_getElem? (i := 124) rfl)) rfl, bX7_open.2.1, bX7_open.2.2, by decide⟩
theorem kX4_110 : CV RX4 110 2 4 MX4_wholeSum := ⟨bX4_wholeSum.1, gwt_mem (tbT_3 _ (List.mem_of_getElem? (i := 128) rfl)) rfl, bX4_wholeSum.2.1, bX4_wholeSum.2.2, by decide⟩
theorem kX4_115 {dp : Nat} : CV RX4 115 1 4 (MX4_sum dp) := ⟨bX4_sum.1, gwt_mem (tbT_3 _ (List.mem_of_getElem? (i := 132) rfl)) rfl, bX4_sum.2.1, bX4_sum.2.2, by decide⟩
theorem kX4_118 : CV RX4 118 1 7 MX7_add := ⟨bX7_add.1, gwt_mem (tbT_3 _ (List.mem_of_getElem? (i := 164) rfl)) rfl, bX7_add.2.1, bX7_add.2.2, by decide⟩
theorem kX4_124 : CV RX4 124 1 4 MX4_repeats := ⟨bX4_repeats.1, gwt_mem (tbT_3 _ (List.mem_of_getElem? (i := 172) rfl)) rfl, bX4_repeats.2.1, bX4_repeats.2.2, by decide⟩
theorem kX4_127 : CV RX4 127 2 4 MX4_numberHere := ⟨bX4_numberHere.1, gwt_mem (tbT_3 _ (List.mem_of_getElem? (i := 148) rfl)) rfl, bX4_numberHere.2.1, bX4_numberHere.2.2, by decide⟩
theorem kX4_136 {dp : Nat} : CV RX4 136 1 4 (MX4_test dp) := ⟨bX4_test.1, gwt_mem (tbT_3 _ (List.mem_of_getElem? (i := 180) rfl)) rfl, bX4_test.2.1, bX4_test.2.2, by decide⟩
theorem kX4_138 {dp : Nat} : CV RX4 138 1 4 (MX4_both dp) := ⟨bX4_both.1, gwt_mem (tbT_3 _ (List.mem_of_getElem? (i := 184) rfl)) rfl, bX4_both.2.1, bX4_both.2.2, by decide⟩
theorem kX4_141 {dp : Nat} : CV RX4 141 1 4 (MX4_plain dp) := ⟨bX4_plain.1, gwt_mem (tbT_3 _ (List.mem_of_getElem? (i := 188) rfl)) rfl, bX4_plain.2.1, bX4_plain.2.2, by decide⟩
theorem kX4_144 {dp : Nat} : CV RX4 144 1 4 (MX4_bracketed dp) := ⟨bX4_bracketed.1, gwt_mem (tbT_3 _ (List.mem_of_getElem? (i := 192) rfl)) rfl, bX4_bracketed.2.1, bX4_bracketed.2.2, by decide⟩
theorem kX4_147 : CV RX4 147 1 4 MX4_comparison := ⟨bX4_comparison.1, gwt_mem (tbT_3 _ (List.mem_of_getElem? (i := 196) rfl)) rfl, bX4_comparison.2.1, bX4_comparison.2.2, by decide⟩
theorem kX4_150 {dp : Nat} : CV RX4 150 1 4 (MX4_term dp) := ⟨bX4_term.1, gwt_mem (tbT_3 _ (List.mem_of_getElem? (i := 136) rfl)) rfl, bX4_term.2.1, bX4_term.2.2, by decide⟩
theorem kX4_153 {dp : Nat} : CV RX4 153 1 4 (MX4_part dp) := ⟨bX4_part.1, gwt_mem (tbT_3 _ (List.mem_of_getElem? (i := 140) rfl)) rfl, bX4_part.2.1, bX4_part.2.2, by decide⟩
theorem kX4_156 {dp : Nat} : CV RX4 156 1 4 (MX4_inner dp) := ⟨bX4_inner.1, gwt_mem (tbT_3 _ (List.mem_of_getElem? (i := 144) rfl)) rfl, bX4_inner.2.1, bX4_inner.2.2, by decide⟩
theorem kX4_159 : CV RX4 159 0 4 MX4_lawWord := ⟨bX4_lawWord.1, gwt_mem (tbT_3 _ (List.mem_of_getElem? (i := 152) rfl)) rfl, bX4_lawWord.2.1, bX4_lawWord.2.2, by decide⟩
theorem kX4_162 : CV RX4 162 0 4 MX4_orderWord := ⟨bX4_orderWord.1, gwt_mem (tbT_3 _ (List.mem_of_getElem? (i := 156) rfl)) rfl, bX4_orderWord.2.1, bX4_orderWord.2.2, by decide⟩
theorem kX4_165 : CV RX4 165 2 4 MX4_wordOfOne := ⟨bX4_wordOfOne.1, gwt_mem (tbT_3 _ (List.mem_of_getElem? (i := 160) rfl)) rfl, bX4_wordOfOne.2.1, bX4_wordOfOne.2.2, by decide⟩
theorem fX5_9 : FA RX5 9 5 0 := ⟨gwt_mem (tbT_1 _ (List.mem_of_getElem? (i := 92) rfl)) rfl, by decide, by decide⟩
theorem fX5_21 : FA RX5 21 7 7 := ⟨gwt_mem (tbT_1 _ (List.mem_of_getElem? (i := 65) rfl)) rfl, by decide, by decide⟩
theorem fX5_27 : FA RX5 27 7 5 := ⟨gwt_mem (tbT_1 _ (List.mem_of_getElem? (i := 60) rfl)) rfl, by decide, by decide⟩
theorem kX5_15 : CS RX5 15 2 MJ9_max_7cf53 := ⟨bJ9_max_7cf53.1, gwt_mem (tbT_2 _ (List.mem_of_getElem? (i := 198) rfl)) rfl, bJ9_max_7cf53.2⟩
theorem kX5_31 : CS RX5 31 3 MX5_joined := ⟨bX5_joined.1, gwt_mem (tbT_2 _ (List.mem_of_getElem? (i := 200) rfl)) rfl, bX5_joined.2⟩
theorem wX5_c30 : Cond.constant RX5 30 (-2000000000) ∈ gwt := gwt_mem (tbT_2 _ (List.mem_of_getElem? (i := 199) rfl)) rfl
theorem wX5_c35 : Cond.constantLong RX5 35 (-2000000000) ∈ gwt := gwt_mem (tbT_2 _ (List.mem_of_getElem? (i := 203) rfl)) rfl
theorem wX5_c37 : Cond.constantLong RX5 37 (1000000000) ∈ gwt := gwt_mem (tbT_2 _ (List.mem_of_getElem? (i := 204) rfl)) rfl
theorem wX5_c39 : Cond.constantLong RX5 39 (-1000000000) ∈ gwt := gwt_mem (tbT_2 _ (List.mem_of_getElem? (i := 205) rfl)) rfl
theorem fX6_9 : FA RX6 9 6 0 := ⟨gwt_mem (tbT_1 _ (List.mem_of_getElem? (i := 229) rfl)) rfl, by decide, by decide⟩
theorem fX6_15 : FA RX6 15 6 1 := ⟨gwt_mem (tbT_1 _ (List.mem_of_getElem? (i := 232) rfl)) rfl, by decide, by decide⟩
theorem fX7_9 : FA RX7 9 7 6 := ⟨gwt_mem (tbT_1 _ (List.mem_of_getElem? (i := 61) rfl)) rfl, by decide, by decide⟩
theorem fX7_15 : FA RX7 15 7 7 := ⟨gwt_mem (tbT_1 _ (List.mem_of_getElem? (i := 64) rfl)) rfl, by decide, by decide⟩
theorem fX7_24 : FA RX7 24 7 0 := ⟨gwt_mem (tbT_1 _ (List.mem_of_getElem? (i := 42) rfl)) rfl, by decide, by decide⟩
theorem fX7_28 : FA RX7 28 7 1 := ⟨gwt_mem (tbT_1 _ (List.mem_of_getElem? (i := 45) rfl)) rfl, by decide, by decide⟩
theorem fX7_31 : FA RX7 31 7 2 := ⟨gwt_mem (tbT_1 _ (List.mem_of_getElem? (i := 49) rfl)) rfl, by decide, by decide⟩
theorem fX7_34 : FA RX7 34 7 3 := ⟨gwt_mem (tbT_1 _ (List.mem_of_getElem? (i := 52) rfl)) rfl, by decide, by decide⟩
theorem fX7_37 : FA RX7 37 7 4 := ⟨gwt_mem (tbT_1 _ (List.mem_of_getElem? (i := 56) rfl)) rfl, by decide, by decide⟩
theorem fX7_40 : FA RX7 40 7 5 := ⟨gwt_mem (tbT_1 _ (List.mem_of_getElem? (i := 59) rfl)) rfl, by decide, by decide⟩
theorem kX7_18 : CS RX7 18 2 MJ9_max_7cf53 := ⟨bJ9_max_7cf53.1, gwt_mem (tbT_1 _ (List.mem_of_getElem? (i := 39) rfl)) rfl, bJ9_max_7cf53.2⟩
theorem kX7_43 : Cond.methodLink RX7 43 MX7_init.1 ∈ gwt := gwt_mem (tbT_3 _ (List.mem_of_getElem? (i := 205) rfl)) rfl
theorem fX8_11 : FA RX8 11 8 0 := ⟨gwt_mem (tbT_1 _ (List.mem_of_getElem? (i := 209) rfl)) rfl, by decide, by decide⟩
theorem fX8_17 : FA RX8 17 8 1 := ⟨gwt_mem (tbT_1 _ (List.mem_of_getElem? (i := 210) rfl)) rfl, by decide, by decide⟩
theorem fX8_21 : FA RX8 21 8 2 := ⟨gwt_mem (tbT_1 _ (List.mem_of_getElem? (i := 211) rfl)) rfl, by decide, by decide⟩
theorem fX8_25 : FA RX8 25 8 3 := ⟨gwt_mem (tbT_1 _ (List.mem_of_getElem? (i := 212) rfl)) rfl, by decide, by decide⟩
theorem fX8_28 : FA RX8 28 1 0 := ⟨gwt_mem (tbT_1 _ (List.mem_of_getElem? (i := 128) rfl)) rfl, by decide, by decide⟩
theorem kX8_32 : Cond.methodLink RX8 32 MX1_init.1 ∈ gwt := gwt_mem (tbT_4 _ (List.mem_of_getElem? (i := 22) rfl)) rfl
theorem kX8_35 : CV RX8 35 1 1 MX1_copyFrom := ⟨bX1_copyFrom.1, gwt_mem (tbT_4 _ (List.mem_of_getElem? (i := 23) rfl)) rfl, bX1_copyFrom.2.1, bX1_copyFrom.2.2, by decide⟩
theorem kX8_39 : CV RX8 39 2 8 MX8_keep := ⟨bX8_keep.1, gwt_mem (tbT_4 _ (List.mem_of_getElem? (i := 53) rfl)) rfl, bX8_keep.2.1, bX8_keep.2.2, by decide⟩
theorem fX9_12 : FA RX9 12 9 0 := ⟨gwt_mem (tbT_2 _ (List.mem_of_getElem? (i := 70) rfl)) rfl, by decide, by decide⟩
theorem fX9_21 : FA RX9 21 9 1 := ⟨gwt_mem (tbT_2 _ (List.mem_of_getElem? (i := 71) rfl)) rfl, by decide, by decide⟩
theorem fX9_28 : FA RX9 28 9 2 := ⟨gwt_mem (tbT_2 _ (List.mem_of_getElem? (i := 72) rfl)) rfl, by decide, by decide⟩
theorem fX9_32 : FA RX9 32 9 3 := ⟨gwt_mem (tbT_2 _ (List.mem_of_getElem? (i := 73) rfl)) rfl, by decide, by decide⟩
theorem fX9_35 : FA RX9 35 9 4 := ⟨gwt_mem (tbT_2 _ (List.mem_of_getElem? (i := 74) rfl)) rfl, by decide, by decide⟩
theorem fX9_38 : FA RX9 38 9 5 := ⟨gwt_mem (tbT_2 _ (List.mem_of_getElem? (i := 75) rfl)) rfl, by decide, by decide⟩
theorem fX9_44 : FA RX9 44 9 6 := ⟨gwt_mem (tbT_2 _ (List.mem_of_getElem? (i := 76) rfl)) rfl, by decide, by decide⟩
theorem fX9_53 : FA RX9 53 9 7 := ⟨gwt_mem (tbT_2 _ (List.mem_of_getElem? (i := 77) rfl)) rfl, by decide, by decide⟩
theorem fX9_62 : FA RX9 62 9 8 := ⟨gwt_mem (tbT_2 _ (List.mem_of_getElem? (i := 78) rfl)) rfl, by decide, by decide⟩
theorem fX9_68 : FA RX9 68 9 9 := ⟨gwt_mem (tbT_2 _ (List.mem_of_getElem? (i := 79) rfl)) rfl, by decide, by decide⟩
theorem fX9_72 : FA RX9 72 9 10 := ⟨gwt_mem (tbT_2 _ (List.mem_of_getElem? (i := 80) rfl)) rfl, by decide, by decide⟩
theorem fX9_76 : FA RX9 76 9 11 := ⟨gwt_mem (tbT_2 _ (List.mem_of_getElem? (i := 81) rfl)) rfl, by decide, by decide⟩
theorem fX9_79 : FA RX9 79 9 12 := ⟨gwt_mem (tbT_2 _ (List.mem_of_getElem? (i := 82) rfl)) rfl, by decide, by decide⟩
theorem fX9_83 : FA RX9 83 9 13 := ⟨gwt_mem (tbT_2 _ (List.mem_of_getElem? (i := 83) rfl)) rfl, by decide, by decide⟩
theorem fX9_86 : FA RX9 86 9 14 := ⟨gwt_mem (tbT_2 _ (List.mem_of_getElem? (i := 84) rfl)) rfl, by decide, by decide⟩
theorem fX9_104 : FA RX9 104 1 1 := ⟨gwt_mem (tbT_1 _ (List.mem_of_getElem? (i := 131) rfl)) rfl, by decide, by decide⟩
theorem fX9_118 : FA RX9 118 1 4 := ⟨gwt_mem (tbT_1 _ (List.mem_of_getElem? (i := 139) rfl)) rfl, by decide, by decide⟩
theorem fX9_121 : FA RX9 121 1 5 := ⟨gwt_mem (tbT_1 _ (List.mem_of_getElem? (i := 141) rfl)) rfl, by decide, by decide⟩
theorem fX9_124 : FA RX9 124 1 6 := ⟨gwt_mem (tbT_1 _ (List.mem_of_getElem? (i := 145) rfl)) rfl, by decide, by decide⟩
theorem fX9_127 : FA RX9 127 1 7 := ⟨gwt_mem (tbT_1 _ (List.mem_of_getElem? (i := 147) rfl)) rfl, by decide, by decide⟩
theorem fX9_133 : FA RX9 133 1 2 := ⟨gwt_mem (tbT_1 _ (List.mem_of_getElem? (i := 134) rfl)) rfl, by decide, by decide⟩
theorem fX9_143 : FA RX9 143 1 8 := ⟨gwt_mem (tbT_1 _ (List.mem_of_getElem? (i := 149) rfl)) rfl, by decide, by decide⟩
theorem fX9_146 : FA RX9 146 1 9 := ⟨gwt_mem (tbT_1 _ (List.mem_of_getElem? (i := 152) rfl)) rfl, by decide, by decide⟩
theorem fX9_149 : FA RX9 149 1 10 := ⟨gwt_mem (tbT_1 _ (List.mem_of_getElem? (i := 154) rfl)) rfl, by decide, by decide⟩
theorem fX9_152 : FA RX9 152 1 11 := ⟨gwt_mem (tbT_1 _ (List.mem_of_getElem? (i := 156) rfl)) rfl, by decide, by decide⟩
theorem fX9_155 : FA RX9 155 1 12 := ⟨gwt_mem (tbT_1 _ (List.mem_of_getElem? (i := 158) rfl)) rfl, by decide, by decide⟩
theorem fX9_158 : FA RX9 158 1 13 := ⟨gwt_mem (tbT_1 _ (List.mem_of_getElem? (i := 160) rfl)) rfl, by decide, by decide⟩
theorem fX9_161 : FA RX9 161 3 5 := ⟨gwt_mem (tbT_1 _ (List.mem_of_getElem? (i := 106) rfl)) rfl, by decide, by decide⟩
theorem sX9_175 : Cond.fieldLink RX9 175 RX9 "TERM_LEAST" "[I" ∈ gwt := gwt_mem (tbT_3 _ (List.mem_of_getElem? (i := 8) rfl)) rfl
theorem sX9_178 : Cond.fieldLink RX9 178 RX9 "TERM_MOST" "[I" ∈ gwt := gwt_mem (tbT_3 _ (List.mem_of_getElem? (i := 10) rfl)) rfl
theorem fX9_181 : FA RX9 181 1 16 := ⟨gwt_mem (tbT_1 _ (List.mem_of_getElem? (i := 164) rfl)) rfl, by decide, by decide⟩
theorem fX9_184 : FA RX9 184 6 1 := ⟨gwt_mem (tbT_1 _ (List.mem_of_getElem? (i := 234) rfl)) rfl, by decide, by decide⟩
theorem fX9_194 : FA RX9 194 6 0 := ⟨gwt_mem (tbT_1 _ (List.mem_of_getElem? (i := 231) rfl)) rfl, by decide, by decide⟩
theorem fX9_197 : FA RX9 197 3 4 := ⟨gwt_mem (tbT_1 _ (List.mem_of_getElem? (i := 104) rfl)) rfl, by decide, by decide⟩
theorem fX9_202 : FA RX9 202 4 1 := ⟨gwt_mem (tbT_2 _ (List.mem_of_getElem? (i := 10) rfl)) rfl, by decide, by decide⟩
theorem fX9_218 : FA RX9 218 7 6 := ⟨gwt_mem (tbT_1 _ (List.mem_of_getElem? (i := 63) rfl)) rfl, by decide, by decide⟩
theorem fX9_221 : FA RX9 221 7 4 := ⟨gwt_mem (tbT_1 _ (List.mem_of_getElem? (i := 58) rfl)) rfl, by decide, by decide⟩
theorem fX9_235 : FA RX9 235 7 3 := ⟨gwt_mem (tbT_1 _ (List.mem_of_getElem? (i := 55) rfl)) rfl, by decide, by decide⟩
theorem fX9_242 : FA RX9 242 7 1 := ⟨gwt_mem (tbT_1 _ (List.mem_of_getElem? (i := 48) rfl)) rfl, by decide, by decide⟩
theorem fX9_245 : FA RX9 245 7 2 := ⟨gwt_mem (tbT_1 _ (List.mem_of_getElem? (i := 51) rfl)) rfl, by decide, by decide⟩
theorem fX9_249 : FA RX9 249 7 0 := ⟨gwt_mem (tbT_1 _ (List.mem_of_getElem? (i := 44) rfl)) rfl, by decide, by decide⟩
theorem fX9_256 : FA RX9 256 3 2 := ⟨gwt_mem (tbT_1 _ (List.mem_of_getElem? (i := 100) rfl)) rfl, by decide, by decide⟩
theorem fX9_266 : FA RX9 266 1 3 := ⟨gwt_mem (tbT_1 _ (List.mem_of_getElem? (i := 136) rfl)) rfl, by decide, by decide⟩
theorem fX9_298 : FA RX9 298 4 2 := ⟨gwt_mem (tbT_2 _ (List.mem_of_getElem? (i := 12) rfl)) rfl, by decide, by decide⟩
theorem fX9_307 : FA RX9 307 8 3 := ⟨gwt_mem (tbT_1 _ (List.mem_of_getElem? (i := 213) rfl)) rfl, by decide, by decide⟩
theorem fX9_366 : FA RX9 366 2 1 := ⟨gwt_mem (tbT_5 _ (List.mem_of_getElem? (i := 37) rfl)) rfl, by decide, by decide⟩
theorem fX9_367 : FA RX9 367 2 0 := ⟨gwt_mem (tbT_5 _ (List.mem_of_getElem? (i := 35) rfl)) rfl, by decide, by decide⟩
theorem kX9_18 : Cond.methodLink RX9 18 MX1_init.1 ∈ gwt := gwt_mem (tbT_1 _ (List.mem_of_getElem? (i := 123) rfl)) rfl
theorem kX9_50 : Cond.methodLink RX9 50 MX4_init.1 ∈ gwt := gwt_mem (tbT_2 _ (List.mem_of_getElem? (i := 2) rfl)) rfl
theorem kX9_59 : Cond.methodLink RX9 59 MX0_init.1 ∈ gwt := gwt_mem (tbT_2 _ (List.mem_of_getElem? (i := 37) rfl)) rfl
theorem kX9_89 : CV RX9 89 1 9 MX9_refuse := ⟨bX9_refuse.1, gwt_mem (tbT_2 _ (List.mem_of_getElem? (i := 126) rfl)) rfl, bX9_refuse.2.1, bX9_refuse.2.2, by decide⟩
theorem kX9_93 : CV RX9 93 1 9 MX9_grant := ⟨bX9_grant.1, gwt_mem (tbT_2 _ (List.mem_of_getElem? (i := 138) rfl)) rfl, bX9_grant.2.1, bX9_grant.2.2, by decide⟩
theorem kX9_96 : CS RX9 96 3 MX9_within := ⟨bX9_within.1, gwt_mem (tbT_2 _ (List.mem_of_getElem? (i := 123) rfl)) rfl, bX9_within.2⟩
theorem kX9_100 : CS RX9 100 4 MX9_bookCanBe := ⟨bX9_bookCanBe.1, gwt_mem (tbT_2 _ (List.mem_of_getElem? (i := 120) rfl)) rfl, bX9_bookCanBe.2⟩
theorem kX9_107 : CV RX9 107 0 8 MX8_forget := ⟨bX8_forget.1, gwt_mem (tbT_2 _ (List.mem_of_getElem? (i := 130) rfl)) rfl, bX8_forget.2.1, bX8_forget.2.2, by decide⟩
theorem kX9_110 : CV RX9 110 4 1 MX1_addBook := ⟨bX1_addBook.1, gwt_mem (tbT_2 _ (List.mem_of_getElem? (i := 134) rfl)) rfl, bX1_addBook.2.1, bX1_addBook.2.2, by decide⟩
theorem kX9_114 : CV RX9 114 1 1 MX1_hasBook := ⟨bX1_hasBook.1, gwt_mem (tbT_2 _ (List.mem_of_getElem? (i := 146) rfl)) rfl, bX1_hasBook.2.1, bX1_hasBook.2.2, by decide⟩
theorem kX9_130 : CV RX9 130 1 1 MX1_readerWith := ⟨bX1_readerWith.1, gwt_mem (tbT_2 _ (List.mem_of_getElem? (i := 150) rfl)) rfl, bX1_readerWith.2.1, bX1_readerWith.2.2, by decide⟩
theorem kX9_136 : CV RX9 136 2 1 MX1_addReader := ⟨bX1_addReader.1, gwt_mem (tbT_2 _ (List.mem_of_getElem? (i := 158) rfl)) rfl, bX1_addReader.2.1, bX1_addReader.2.2, by decide⟩
theorem kX9_140 : CV RX9 140 1 1 MX1_hasReader := ⟨bX1_hasReader.1, gwt_mem (tbT_2 _ (List.mem_of_getElem? (i := 166) rfl)) rfl, bX1_hasReader.2.1, bX1_hasReader.2.2, by decide⟩
theorem kX9_164 : CV RX9 164 5 1 MX1_asked := ⟨bX1_asked.1, gwt_mem (tbT_2 _ (List.mem_of_getElem? (i := 174) rfl)) rfl, bX1_asked.2.1, bX1_asked.2.2, by decide⟩
theorem kX9_168 : CV RX9 168 2 1 MX1_fits := ⟨bX1_fits.1, gwt_mem (tbT_2 _ (List.mem_of_getElem? (i := 219) rfl)) rfl, bX1_fits.2.1, bX1_fits.2.2, by decide⟩
theorem kX9_172 : CV RX9 172 2 1 MX1_canHave := ⟨bX1_canHave.1, gwt_mem (tbT_2 _ (List.mem_of_getElem? (i := 223) rfl)) rfl, bX1_canHave.2.1, bX1_canHave.2.2, by decide⟩
theorem kX9_187 : CV RX9 187 1 6 MX6_add := ⟨bX6_add.1, gwt_mem (tbT_3 _ (List.mem_of_getElem? (i := 16) rfl)) rfl, bX6_add.2.1, bX6_add.2.2, by decide⟩
theorem kX9_191 : CV RX9 191 1 9 MX9_bookFromTape := ⟨bX9_bookFromTape.1, gwt_mem (tbT_3 _ (List.mem_of_getElem? (i := 28) rfl)) rfl, bX9_bookFromTape.2.1, bX9_bookFromTape.2.2, by decide⟩
theorem kX9_198 : CV RX9 198 1 4 MX4_reads := ⟨bX4_reads.1, gwt_mem (tbT_3 _ (List.mem_of_getElem? (i := 40) rfl)) rfl, bX4_reads.2.1, bX4_reads.2.2, by decide⟩
theorem kX9_206 : CV RX9 206 0 7 MX7_copied := ⟨bX7_copied.1, gwt_mem (tbT_3 _ (List.mem_of_getElem? (i := 200) rfl)) rfl, bX7_copied.2.1, bX7_copied.2.2, by decide⟩
theorem kX9_212 : CV RX9 212 1 3 MX3_add := ⟨bX3_add.1, gwt_mem (tbT_3 _ (List.mem_of_getElem? (i := 209) rfl)) rfl, bX3_add.2.1, bX3_add.2.2, by decide⟩
theorem kX9_215 : CV RX9 215 1 1 MX1_copyFrom := ⟨bX1_copyFrom.1, gwt_mem (tbT_3 _ (List.mem_of_getElem? (i := 218) rfl)) rfl, bX1_copyFrom.2.1, bX1_copyFrom.2.2, by decide⟩
theorem kX9_224 : CV RX9 224 2 9 MX9_runs := ⟨bX9_runs.1, gwt_mem (tbT_3 _ (List.mem_of_getElem? (i := 223) rfl)) rfl, bX9_runs.2.1, bX9_runs.2.2, by decide⟩
theorem kX9_228 : CV RX9 228 1 8 MX8_addAll := ⟨bX8_addAll.1, gwt_mem (tbT_4 _ (List.mem_of_getElem? (i := 49) rfl)) rfl, bX8_addAll.2.1, bX8_addAll.2.2, by decide⟩
theorem kX9_232 : CV RX9 232 0 9 MX9_tellOrderWords := ⟨bX9_tellOrderWords.1, gwt_mem (tbT_3 _ (List.mem_of_getElem? (i := 227) rfl)) rfl, bX9_tellOrderWords.2.1, bX9_tellOrderWords.2.2, by decide⟩
theorem kX9_238 : CV RX9 238 2 9 MX9_valueOf := ⟨bX9_valueOf.1, gwt_mem (tbT_3 _ (List.mem_of_getElem? (i := 231) rfl)) rfl, bX9_valueOf.2.1, bX9_valueOf.2.2, by decide⟩
theorem kX9_252 : CV RX9 252 4 9 MX9_act := ⟨bX9_act.1, gwt_mem (tbT_3 _ (List.mem_of_getElem? (i := 237) rfl)) rfl, bX9_act.2.1, bX9_act.2.2, by decide⟩
theorem kX9_260 : CV RX9 260 3 5 MX5_value := ⟨bX5_value.1, gwt_mem (tbT_3 _ (List.mem_of_getElem? (i := 235) rfl)) rfl, bX5_value.2.1, bX5_value.2.2, by decide⟩
theorem kX9_269 : CV RX9 269 2 1 MX1_lendRefusal := ⟨bX1_lendRefusal.1, gwt_mem (tbT_4 _ (List.mem_of_getElem? (i := 1) rfl)) rfl, bX1_lendRefusal.2.1, bX1_lendRefusal.2.2, by decide⟩
theorem kX9_272 : CV RX9 272 1 1 MX1_bringRefusal := ⟨bX1_bringRefusal.1, gwt_mem (tbT_4 _ (List.mem_of_getElem? (i := 2) rfl)) rfl, bX1_bringRefusal.2.1, bX1_bringRefusal.2.2, by decide⟩
theorem kX9_275 : CV RX9 275 2 1 MX1_waitRefusal := ⟨bX1_waitRefusal.1, gwt_mem (tbT_4 _ (List.mem_of_getElem? (i := 6) rfl)) rfl, bX1_waitRefusal.2.1, bX1_waitRefusal.2.2, by decide⟩
theorem kX9_278 : CV RX9 278 0 1 MX1_passRefusal := ⟨bX1_passRefusal.1, gwt_mem (tbT_4 _ (List.mem_of_getElem? (i := 14) rfl)) rfl, bX1_passRefusal.2.1, bX1_passRefusal.2.2, by decide⟩
theorem kX9_282 : CV RX9 282 2 8 MX8_keep := ⟨bX8_keep.1, gwt_mem (tbT_4 _ (List.mem_of_getElem? (i := 18) rfl)) rfl, bX8_keep.2.1, bX8_keep.2.2, by decide⟩
theorem kX9_286 : CV RX9 286 2 1 MX1_lendOut := ⟨bX1_lendOut.1, gwt_mem (tbT_4 _ (List.mem_of_getElem? (i := 24) rfl)) rfl, bX1_lendOut.2.1, bX1_lendOut.2.2, by decide⟩
theorem kX9_289 : CV RX9 289 1 1 MX1_leave := ⟨bX1_leave.1, gwt_mem (tbT_4 _ (List.mem_of_getElem? (i := 40) rfl)) rfl, bX1_leave.2.1, bX1_leave.2.2, by decide⟩
theorem kX9_292 : CV RX9 292 2 1 MX1_addWaiting := ⟨bX1_addWaiting.1, gwt_mem (tbT_4 _ (List.mem_of_getElem? (i := 41) rfl)) rfl, bX1_addWaiting.2.1, bX1_addWaiting.2.2, by decide⟩
theorem kX9_295 : CV RX9 295 0 1 MX1_passWeek := ⟨bX1_passWeek.1, gwt_mem (tbT_4 _ (List.mem_of_getElem? (i := 45) rfl)) rfl, bX1_passWeek.2.1, bX1_passWeek.2.2, by decide⟩
theorem kX9_301 : CV RX9 301 1 3 MX3_has := ⟨bX3_has.1, gwt_mem (tbT_4 _ (List.mem_of_getElem? (i := 66) rfl)) rfl, bX3_has.2.1, bX3_has.2.2, by decide⟩
theorem kX9_304 : CV RX9 304 1 9 MX9_answered := ⟨bX9_answered.1, gwt_mem (tbT_4 _ (List.mem_of_getElem? (i := 71) rfl)) rfl, bX9_answered.2.1, bX9_answered.2.2, by decide⟩
theorem kX9_308 : CV RX9 308 1 8 MX8_takeBack := ⟨bX8_takeBack.1, gwt_mem (tbT_4 _ (List.mem_of_getElem? (i := 91) rfl)) rfl, bX8_takeBack.2.1, bX8_takeBack.2.2, by decide⟩
theorem kX9_312 : CV RX9 312 0 0 MX0_fillNear := ⟨bX0_fillNear.1, gwt_mem (tbT_4 _ (List.mem_of_getElem? (i := 99) rfl)) rfl, bX0_fillNear.2.1, bX0_fillNear.2.2, by decide⟩
theorem kX9_315 : CV RX9 315 1 0 MX0_mostServed := ⟨bX0_mostServed.1, gwt_mem (tbT_4 _ (List.mem_of_getElem? (i := 104) rfl)) rfl, bX0_mostServed.2.1, bX0_mostServed.2.2, by decide⟩
theorem kX9_318 : CV RX9 318 1 1 MX1_firstWaiting := ⟨bX1_firstWaiting.1, gwt_mem (tbT_4 _ (List.mem_of_getElem? (i := 127) rfl)) rfl, bX1_firstWaiting.2.1, bX1_firstWaiting.2.2, by decide⟩
theorem kX9_321 : CV RX9 321 3 0 MX0_quickest := ⟨bX0_quickest.1, gwt_mem (tbT_4 _ (List.mem_of_getElem? (i := 136) rfl)) rfl, bX0_quickest.2.1, bX0_quickest.2.2, by decide⟩
theorem kX9_325 : CV RX9 325 2 0 MX0_findSets := ⟨bX0_findSets.1, gwt_mem (tbT_4 _ (List.mem_of_getElem? (i := 158) rfl)) rfl, bX0_findSets.2.1, bX0_findSets.2.2, by decide⟩
theorem kX9_328 : CV RX9 328 1 0 MX0_setNumbered := ⟨bX0_setNumbered.1, gwt_mem (tbT_4 _ (List.mem_of_getElem? (i := 166) rfl)) rfl, bX0_setNumbered.2.1, bX0_setNumbered.2.2, by decide⟩
theorem kX9_331 : CV RX9 331 2 0 MX0_bestToAsk := ⟨bX0_bestToAsk.1, gwt_mem (tbT_4 _ (List.mem_of_getElem? (i := 174) rfl)) rfl, bX0_bestToAsk.2.1, bX0_bestToAsk.2.2, by decide⟩
theorem kX9_334 : CV RX9 334 0 0 MX0_lastOnes := ⟨bX0_lastOnes.1, gwt_mem (tbT_4 _ (List.mem_of_getElem? (i := 187) rfl)) rfl, bX0_lastOnes.2.1, bX0_lastOnes.2.2, by decide⟩
theorem kX9_337 : CV RX9 337 1 0 MX0_longestNest := ⟨bX0_longestNest.1, gwt_mem (tbT_4 _ (List.mem_of_getElem? (i := 195) rfl)) rfl, bX0_longestNest.2.1, bX0_longestNest.2.2, by decide⟩
theorem kX9_340 : CV RX9 340 0 0 MX0_fewestReaders := ⟨bX0_fewestReaders.1, gwt_mem (tbT_4 _ (List.mem_of_getElem? (i := 219) rfl)) rfl, bX0_fewestReaders.2.1, bX0_fewestReaders.2.2, by decide⟩
theorem kX9_343 : CS RX9 343 1 MJ6_bitCount_0f7a4 := ⟨bJ6_bitCount_0f7a4.1, gwt_mem (tbT_4 _ (List.mem_of_getElem? (i := 227) rfl)) rfl, bJ6_bitCount_0f7a4.2⟩
theorem kX9_348 : CV RX9 348 2 1 MX1_dues := ⟨bX1_dues.1, gwt_mem (tbT_4 _ (List.mem_of_getElem? (i := 232) rfl)) rfl, bX1_dues.2.1, bX1_dues.2.2, by decide⟩
theorem kX9_353 : CV RX9 353 2 0 MX0_chanceWhole := ⟨bX0_chanceWhole.1, gwt_mem (tbT_4 _ (List.mem_of_getElem? (i := 238) rfl)) rfl, bX0_chanceWhole.2.1, bX0_chanceWhole.2.2, by decide⟩
theorem kX9_358 : CS RX9 358 1 MX9_nextDrawn := ⟨bX9_nextDrawn.1, gwt_mem (tbT_5 _ (List.mem_of_getElem? (i := 9) rfl)) rfl, bX9_nextDrawn.2⟩
theorem kX9_361 : CV RX9 361 3 9 MX9_paperMove := ⟨bX9_paperMove.1, gwt_mem (tbT_5 _ (List.mem_of_getElem? (i := 13) rfl)) rfl, bX9_paperMove.2.1, bX9_paperMove.2.2, by decide⟩
theorem kX9_368 : CV RX9 368 1 3 MX3_copyFrom := ⟨bX3_copyFrom.1, gwt_mem (tbT_5 _ (List.mem_of_getElem? (i := 43) rfl)) rfl, bX3_copyFrom.2.1, bX3_copyFrom.2.2, by decide⟩
theorem kX9_370 : CV RX9 370 0 1 MX1_lentOut := ⟨bX1_lentOut.1, gwt_mem (tbT_5 _ (List.mem_of_getElem? (i := 55) rfl)) rfl, bX1_lentOut.2.1, bX1_lentOut.2.2, by decide⟩
theorem wX9_c248 : Cond.constant RX9 248 (-2000000000) ∈ gwt := gwt_mem (tbT_3 _ (List.mem_of_getElem? (i := 236) rfl)) rfl
theorem wX9_c357 : Cond.constant RX9 357 (1000000) ∈ gwt := gwt_mem (tbT_5 _ (List.mem_of_getElem? (i := 8) rfl)) rfl
theorem wX9_c364 : Cond.constant RX9 364 (1000003) ∈ gwt := gwt_mem (tbT_5 _ (List.mem_of_getElem? (i := 12) rfl)) rfl
theorem wX9_c351 : Cond.constantLong RX9 351 (-1) ∈ gwt := gwt_mem (tbT_4 _ (List.mem_of_getElem? (i := 237) rfl)) rfl
theorem fX10_7 : FA RX10 7 10 2 := ⟨gwt_mem (tbT_5 _ (List.mem_of_getElem? (i := 92) rfl)) rfl, by decide, by decide⟩
theorem fX10_13 : FA RX10 13 10 3 := ⟨gwt_mem (tbT_5 _ (List.mem_of_getElem? (i := 93) rfl)) rfl, by decide, by decide⟩
theorem fX10_16 : FA RX10 16 10 4 := ⟨gwt_mem (tbT_5 _ (List.mem_of_getElem? (i := 94) rfl)) rfl, by decide, by decide⟩
theorem fX10_19 : FA RX10 19 10 5 := ⟨gwt_mem (tbT_5 _ (List.mem_of_getElem? (i := 95) rfl)) rfl, by decide, by decide⟩
theorem fX10_23 : FA RX10 23 10 6 := ⟨gwt_mem (tbT_5 _ (List.mem_of_getElem? (i := 96) rfl)) rfl, by decide, by decide⟩
theorem fX10_26 : FA RX10 26 10 7 := ⟨gwt_mem (tbT_5 _ (List.mem_of_getElem? (i := 97) rfl)) rfl, by decide, by decide⟩
theorem fX10_29 : FA RX10 29 10 9 := ⟨gwt_mem (tbT_5 _ (List.mem_of_getElem? (i := 99) rfl)) rfl, by decide, by decide⟩
theorem fX10_32 : FA RX10 32 10 10 := ⟨gwt_mem (tbT_5 _ (List.mem_of_getElem? (i := 100) rfl)) rfl, by decide, by decide⟩
theorem fX10_35 : FA RX10 35 10 12 := ⟨gwt_mem (tbT_5 _ (List.mem_of_getElem? (i := 102) rfl)) rfl, by decide, by decide⟩
theorem fX10_38 : FA RX10 38 10 18 := ⟨gwt_mem (tbT_5 _ (List.mem_of_getElem? (i := 108) rfl)) rfl, by decide, by decide⟩
theorem fX10_42 : FA RX10 42 10 22 := ⟨gwt_mem (tbT_5 _ (List.mem_of_getElem? (i := 112) rfl)) rfl, by decide, by decide⟩
theorem fX10_45 : FA RX10 45 10 24 := ⟨gwt_mem (tbT_5 _ (List.mem_of_getElem? (i := 114) rfl)) rfl, by decide, by decide⟩
theorem fX10_48 : FA RX10 48 10 25 := ⟨gwt_mem (tbT_5 _ (List.mem_of_getElem? (i := 115) rfl)) rfl, by decide, by decide⟩
theorem fX10_51 : FA RX10 51 10 27 := ⟨gwt_mem (tbT_5 _ (List.mem_of_getElem? (i := 117) rfl)) rfl, by decide, by decide⟩
theorem fX10_54 : FA RX10 54 10 28 := ⟨gwt_mem (tbT_5 _ (List.mem_of_getElem? (i := 118) rfl)) rfl, by decide, by decide⟩
theorem fX10_75 : FA RX10 75 10 31 := ⟨gwt_mem (tbT_5 _ (List.mem_of_getElem? (i := 121) rfl)) rfl, by decide, by decide⟩
theorem fX10_87 : FA RX10 87 10 32 := ⟨gwt_mem (tbT_5 _ (List.mem_of_getElem? (i := 122) rfl)) rfl, by decide, by decide⟩
theorem fX10_98 : FA RX10 98 10 33 := ⟨gwt_mem (tbT_5 _ (List.mem_of_getElem? (i := 123) rfl)) rfl, by decide, by decide⟩
theorem fX10_101 : FA RX10 101 10 35 := ⟨gwt_mem (tbT_5 _ (List.mem_of_getElem? (i := 125) rfl)) rfl, by decide, by decide⟩
theorem fX10_104 : FA RX10 104 10 36 := ⟨gwt_mem (tbT_5 _ (List.mem_of_getElem? (i := 126) rfl)) rfl, by decide, by decide⟩
theorem fX10_107 : FA RX10 107 10 37 := ⟨gwt_mem (tbT_5 _ (List.mem_of_getElem? (i := 127) rfl)) rfl, by decide, by decide⟩
theorem fX10_110 : FA RX10 110 10 41 := ⟨gwt_mem (tbT_5 _ (List.mem_of_getElem? (i := 131) rfl)) rfl, by decide, by decide⟩
theorem fX10_113 : FA RX10 113 10 42 := ⟨gwt_mem (tbT_5 _ (List.mem_of_getElem? (i := 132) rfl)) rfl, by decide, by decide⟩
theorem fX10_116 : FA RX10 116 10 43 := ⟨gwt_mem (tbT_5 _ (List.mem_of_getElem? (i := 133) rfl)) rfl, by decide, by decide⟩
theorem fX10_119 : FA RX10 119 10 44 := ⟨gwt_mem (tbT_5 _ (List.mem_of_getElem? (i := 134) rfl)) rfl, by decide, by decide⟩
theorem fX10_122 : FA RX10 122 10 45 := ⟨gwt_mem (tbT_5 _ (List.mem_of_getElem? (i := 135) rfl)) rfl, by decide, by decide⟩
theorem fX10_125 : FA RX10 125 10 46 := ⟨gwt_mem (tbT_5 _ (List.mem_of_getElem? (i := 136) rfl)) rfl, by decide, by decide⟩
theorem fX10_128 : FA RX10 128 10 47 := ⟨gwt_mem (tbT_5 _ (List.mem_of_getElem? (i := 137) rfl)) rfl, by decide, by decide⟩
theorem fX10_139 : FA RX10 139 10 48 := ⟨gwt_mem (tbT_5 _ (List.mem_of_getElem? (i := 138) rfl)) rfl, by decide, by decide⟩
theorem fX10_142 : FA RX10 142 10 49 := ⟨gwt_mem (tbT_5 _ (List.mem_of_getElem? (i := 139) rfl)) rfl, by decide, by decide⟩
theorem fX10_145 : FA RX10 145 10 52 := ⟨gwt_mem (tbT_5 _ (List.mem_of_getElem? (i := 142) rfl)) rfl, by decide, by decide⟩
theorem fX10_148 : FA RX10 148 10 55 := ⟨gwt_mem (tbT_5 _ (List.mem_of_getElem? (i := 145) rfl)) rfl, by decide, by decide⟩
theorem fX10_151 : FA RX10 151 10 56 := ⟨gwt_mem (tbT_5 _ (List.mem_of_getElem? (i := 146) rfl)) rfl, by decide, by decide⟩
theorem fX10_154 : FA RX10 154 10 57 := ⟨gwt_mem (tbT_5 _ (List.mem_of_getElem? (i := 147) rfl)) rfl, by decide, by decide⟩
theorem fX10_157 : FA RX10 157 10 0 := ⟨gwt_mem (tbT_5 _ (List.mem_of_getElem? (i := 90) rfl)) rfl, by decide, by decide⟩
theorem fX10_160 : FA RX10 160 10 1 := ⟨gwt_mem (tbT_5 _ (List.mem_of_getElem? (i := 91) rfl)) rfl, by decide, by decide⟩
theorem fX10_163 : FA RX10 163 10 8 := ⟨gwt_mem (tbT_5 _ (List.mem_of_getElem? (i := 98) rfl)) rfl, by decide, by decide⟩
theorem fX10_212 : FA RX10 212 10 13 := ⟨gwt_mem (tbT_5 _ (List.mem_of_getElem? (i := 103) rfl)) rfl, by decide, by decide⟩
theorem fX10_215 : FA RX10 215 10 11 := ⟨gwt_mem (tbT_5 _ (List.mem_of_getElem? (i := 101) rfl)) rfl, by decide, by decide⟩
theorem fX10_221 : FA RX10 221 10 15 := ⟨gwt_mem (tbT_5 _ (List.mem_of_getElem? (i := 105) rfl)) rfl, by decide, by decide⟩
theorem fX10_224 : FA RX10 224 10 19 := ⟨gwt_mem (tbT_5 _ (List.mem_of_getElem? (i := 109) rfl)) rfl, by decide, by decide⟩
theorem fX10_231 : FA RX10 231 10 14 := ⟨gwt_mem (tbT_5 _ (List.mem_of_getElem? (i := 104) rfl)) rfl, by decide, by decide⟩
theorem fX10_234 : FA RX10 234 10 17 := ⟨gwt_mem (tbT_5 _ (List.mem_of_getElem? (i := 107) rfl)) rfl, by decide, by decide⟩
theorem fX10_244 : FA RX10 244 10 16 := ⟨gwt_mem (tbT_5 _ (List.mem_of_getElem? (i := 106) rfl)) rfl, by decide, by decide⟩
theorem fX10_261 : FA RX10 261 10 23 := ⟨gwt_mem (tbT_5 _ (List.mem_of_getElem? (i := 113) rfl)) rfl, by decide, by decide⟩
theorem fX10_264 : FA RX10 264 10 29 := ⟨gwt_mem (tbT_5 _ (List.mem_of_getElem? (i := 119) rfl)) rfl, by decide, by decide⟩
theorem fX10_284 : FA RX10 284 10 30 := ⟨gwt_mem (tbT_5 _ (List.mem_of_getElem? (i := 120) rfl)) rfl, by decide, by decide⟩
theorem fX10_290 : FA RX10 290 10 26 := ⟨gwt_mem (tbT_5 _ (List.mem_of_getElem? (i := 116) rfl)) rfl, by decide, by decide⟩
theorem fX10_299 : FA RX10 299 10 20 := ⟨gwt_mem (tbT_5 _ (List.mem_of_getElem? (i := 110) rfl)) rfl, by decide, by decide⟩
theorem fX10_355 : FA RX10 355 10 21 := ⟨gwt_mem (tbT_5 _ (List.mem_of_getElem? (i := 111) rfl)) rfl, by decide, by decide⟩
theorem fX10_375 : FA RX10 375 10 38 := ⟨gwt_mem (tbT_5 _ (List.mem_of_getElem? (i := 128) rfl)) rfl, by decide, by decide⟩
theorem fX10_378 : FA RX10 378 10 34 := ⟨gwt_mem (tbT_5 _ (List.mem_of_getElem? (i := 124) rfl)) rfl, by decide, by decide⟩
theorem fX10_389 : FA RX10 389 10 39 := ⟨gwt_mem (tbT_5 _ (List.mem_of_getElem? (i := 129) rfl)) rfl, by decide, by decide⟩
theorem fX10_395 : FA RX10 395 10 40 := ⟨gwt_mem (tbT_5 _ (List.mem_of_getElem? (i := 130) rfl)) rfl, by decide, by decide⟩
theorem fX10_522 : FA RX10 522 10 53 := ⟨gwt_mem (tbT_5 _ (List.mem_of_getElem? (i := 143) rfl)) rfl, by decide, by decide⟩
theorem fX10_525 : FA RX10 525 10 50 := ⟨gwt_mem (tbT_5 _ (List.mem_of_getElem? (i := 140) rfl)) rfl, by decide, by decide⟩
theorem fX10_528 : FA RX10 528 10 51 := ⟨gwt_mem (tbT_5 _ (List.mem_of_getElem? (i := 141) rfl)) rfl, by decide, by decide⟩
theorem fX10_547 : FA RX10 547 10 54 := ⟨gwt_mem (tbT_5 _ (List.mem_of_getElem? (i := 144) rfl)) rfl, by decide, by decide⟩
theorem kX10_166 : CV RX10 166 1 10 MX10_tell := ⟨bX10_tell.1, gwt_mem (tbT_6 _ (List.mem_of_getElem? (i := 29) rfl)) rfl, bX10_tell.2.1, bX10_tell.2.2, by decide⟩
theorem kX10_170 : CV RX10 170 1 10 MX10_keepAll := ⟨bX10_keepAll.1, gwt_mem (tbT_7 _ (List.mem_of_getElem? (i := 82) rfl)) rfl, bX10_keepAll.2.1, bX10_keepAll.2.2, by decide⟩
theorem kX10_174 : CV RX10 174 1 10 MX10_putBack := ⟨bX10_putBack.1, gwt_mem (tbT_6 _ (List.mem_of_getElem? (i := 33) rfl)) rfl, bX10_putBack.2.1, bX10_putBack.2.2, by decide⟩
theorem kX10_177 : CS RX10 177 3 MX10_in := ⟨bX10_in.1, gwt_mem (tbT_6 _ (List.mem_of_getElem? (i := 41) rfl)) rfl, bX10_in.2⟩
theorem kX10_181 : CV RX10 181 1 10 MX10_settled := ⟨bX10_settled.1, gwt_mem (tbT_6 _ (List.mem_of_getElem? (i := 48) rfl)) rfl, bX10_settled.2.1, bX10_settled.2.2, by decide⟩
theorem kX10_190 : CV RX10 190 4 10 MX10_come := ⟨bX10_come.1, gwt_mem (tbT_6 _ (List.mem_of_getElem? (i := 56) rfl)) rfl, bX10_come.2.1, bX10_come.2.2, by decide⟩
theorem kX10_194 : CV RX10 194 1 10 MX10_isBook := ⟨bX10_isBook.1, gwt_mem (tbT_6 _ (List.mem_of_getElem? (i := 67) rfl)) rfl, bX10_isBook.2.1, bX10_isBook.2.2, by decide⟩
theorem kX10_198 : CV RX10 198 1 10 MX10_readerWith := ⟨bX10_readerWith.1, gwt_mem (tbT_6 _ (List.mem_of_getElem? (i := 71) rfl)) rfl, bX10_readerWith.2.1, bX10_readerWith.2.2, by decide⟩
theorem kX10_201 : CV RX10 201 1 10 MX10_isReader := ⟨bX10_isReader.1, gwt_mem (tbT_6 _ (List.mem_of_getElem? (i := 83) rfl)) rfl, bX10_isReader.2.1, bX10_isReader.2.2, by decide⟩
theorem kX10_208 : CV RX10 208 2 10 MX10_change := ⟨bX10_change.1, gwt_mem (tbT_6 _ (List.mem_of_getElem? (i := 93) rfl)) rfl, bX10_change.2.1, bX10_change.2.2, by decide⟩
theorem kX10_218 : CV RX10 218 1 10 MX10_four := ⟨bX10_four.1, gwt_mem (tbT_6 _ (List.mem_of_getElem? (i := 109) rfl)) rfl, bX10_four.2.1, bX10_four.2.2, by decide⟩
theorem kX10_228 : CV RX10 228 0 10 MX10_next := ⟨bX10_next.1, gwt_mem (tbT_6 _ (List.mem_of_getElem? (i := 133) rfl)) rfl, bX10_next.2.1, bX10_next.2.2, by decide⟩
theorem kX10_238 : CS RX10 238 1 MX10_isSmall := ⟨bX10_isSmall.1, gwt_mem (tbT_6 _ (List.mem_of_getElem? (i := 137) rfl)) rfl, bX10_isSmall.2⟩
theorem kX10_241 : CS RX10 241 1 MX10_isDigit := ⟨bX10_isDigit.1, gwt_mem (tbT_6 _ (List.mem_of_getElem? (i := 140) rfl)) rfl, bX10_isDigit.2⟩
theorem kX10_257 : CV RX10 257 1 10 MX10_must := ⟨bX10_must.1, gwt_mem (tbT_6 _ (List.mem_of_getElem? (i := 156) rfl)) rfl, bX10_must.2.1, bX10_must.2.2, by decide⟩
theorem kX10_267 : CS RX10 267 1 MX10_binds := ⟨bX10_binds.1, gwt_mem (tbT_6 _ (List.mem_of_getElem? (i := 212) rfl)) rfl, bX10_binds.2⟩
theorem kX10_270 : CV RX10 270 2 10 MX10_emit := ⟨bX10_emit.1, gwt_mem (tbT_6 _ (List.mem_of_getElem? (i := 198) rfl)) rfl, bX10_emit.2.1, bX10_emit.2.2, by decide⟩
theorem kX10_280 : CV RX10 280 1 10 MX10_isWord := ⟨bX10_isWord.1, gwt_mem (tbT_6 _ (List.mem_of_getElem? (i := 152) rfl)) rfl, bX10_isWord.2.1, bX10_isWord.2.2, by decide⟩
theorem kX10_287 : CV RX10 287 2 10 MX10_push := ⟨bX10_push.1, gwt_mem (tbT_6 _ (List.mem_of_getElem? (i := 169) rfl)) rfl, bX10_push.2.1, bX10_push.2.2, by decide⟩
theorem kX10_293 : CV RX10 293 1 10 MX10_isSign := ⟨bX10_isSign.1, gwt_mem (tbT_6 _ (List.mem_of_getElem? (i := 173) rfl)) rfl, bX10_isSign.2.1, bX10_isSign.2.2, by decide⟩
theorem kX10_296 : CV RX10 296 1 10 MX10_openBracket := ⟨bX10_openBracket.1, gwt_mem (tbT_6 _ (List.mem_of_getElem? (i := 177) rfl)) rfl, bX10_openBracket.2.1, bX10_openBracket.2.2, by decide⟩
theorem kX10_302 : CV RX10 302 0 10 MX10_orderPartAt := ⟨bX10_orderPartAt.1, gwt_mem (tbT_6 _ (List.mem_of_getElem? (i := 185) rfl)) rfl, bX10_orderPartAt.2.1, bX10_orderPartAt.2.2, by decide⟩
theorem kX10_306 : CV RX10 306 0 10 MX10_partAt := ⟨bX10_partAt.1, gwt_mem (tbT_6 _ (List.mem_of_getElem? (i := 189) rfl)) rfl, bX10_partAt.2.1, bX10_partAt.2.2, by decide⟩
theorem kX10_311 : CV RX10 311 3 10 MX10_leaf := ⟨bX10_leaf.1, gwt_mem (tbT_6 _ (List.mem_of_getElem? (i := 194) rfl)) rfl, bX10_leaf.2.1, bX10_leaf.2.2, by decide⟩
theorem kX10_319 : CV RX10 319 2 10 MX10_number := ⟨bX10_number.1, gwt_mem (tbT_6 _ (List.mem_of_getElem? (i := 204) rfl)) rfl, bX10_number.2.1, bX10_number.2.2, by decide⟩
theorem kX10_325 : CV RX10 325 0 10 MX10_readPart := ⟨bX10_readPart.1, gwt_mem (tbT_6 _ (List.mem_of_getElem? (i := 181) rfl)) rfl, bX10_readPart.2.1, bX10_readPart.2.2, by decide⟩
theorem kX10_328 : CV RX10 328 1 10 MX10_settle := ⟨bX10_settle.1, gwt_mem (tbT_6 _ (List.mem_of_getElem? (i := 215) rfl)) rfl, bX10_settle.2.1, bX10_settle.2.2, by decide⟩
theorem kX10_331 : CV RX10 331 0 10 MX10_inner := ⟨bX10_inner.1, gwt_mem (tbT_6 _ (List.mem_of_getElem? (i := 219) rfl)) rfl, bX10_inner.2.1, bX10_inner.2.2, by decide⟩
theorem kX10_334 : CV RX10 334 0 10 MX10_isCompared := ⟨bX10_isCompared.1, gwt_mem (tbT_6 _ (List.mem_of_getElem? (i := 223) rfl)) rfl, bX10_isCompared.2.1, bX10_isCompared.2.2, by decide⟩
theorem kX10_342 : CV RX10 342 0 10 MX10_readPlain := ⟨bX10_readPlain.1, gwt_mem (tbT_6 _ (List.mem_of_getElem? (i := 164) rfl)) rfl, bX10_readPlain.2.1, bX10_readPlain.2.2, by decide⟩
theorem kX10_345 : CV RX10 345 1 10 MX10_behindSum := ⟨bX10_behindSum.1, gwt_mem (tbT_6 _ (List.mem_of_getElem? (i := 208) rfl)) rfl, bX10_behindSum.2.1, bX10_behindSum.2.2, by decide⟩
theorem kX10_349 : CV RX10 349 0 10 MX10_behindTest := ⟨bX10_behindTest.1, gwt_mem (tbT_6 _ (List.mem_of_getElem? (i := 230) rfl)) rfl, bX10_behindTest.2.1, bX10_behindTest.2.2, by decide⟩
theorem kX10_352 : CV RX10 352 0 10 MX10_begin := ⟨bX10_begin.1, gwt_mem (tbT_6 _ (List.mem_of_getElem? (i := 129) rfl)) rfl, bX10_begin.2.1, bX10_begin.2.2, by decide⟩
theorem kX10_358 : CV RX10 358 1 10 MX10_readExpression := ⟨bX10_readExpression.1, gwt_mem (tbT_6 _ (List.mem_of_getElem? (i := 160) rfl)) rfl, bX10_readExpression.2.1, bX10_readExpression.2.2, by decide⟩
theorem kX10_363 : CV RX10 363 1 10 MX10_beginText := ⟨bX10_beginText.1, gwt_mem (tbT_6 _ (List.mem_of_getElem? (i := 125) rfl)) rfl, bX10_beginText.2.1, bX10_beginText.2.2, by decide⟩
theorem kX10_366 : CV RX10 366 0 10 MX10_readLaw := ⟨bX10_readLaw.1, gwt_mem (tbT_6 _ (List.mem_of_getElem? (i := 148) rfl)) rfl, bX10_readLaw.2.1, bX10_readLaw.2.2, by decide⟩
theorem kX10_369 : CV RX10 369 0 10 MX10_endText := ⟨bX10_endText.1, gwt_mem (tbT_6 _ (List.mem_of_getElem? (i := 237) rfl)) rfl, bX10_endText.2.1, bX10_endText.2.2, by decide⟩
theorem kX10_372 : CV RX10 372 1 10 MX10_isLaw := ⟨bX10_isLaw.1, gwt_mem (tbT_7 _ (List.mem_of_getElem? (i := 5) rfl)) rfl, bX10_isLaw.2.1, bX10_isLaw.2.2, by decide⟩
theorem kX10_381 : CV RX10 381 3 10 MX10_reckon := ⟨bX10_reckon.1, gwt_mem (tbT_7 _ (List.mem_of_getElem? (i := 38) rfl)) rfl, bX10_reckon.2.1, bX10_reckon.2.2, by decide⟩
theorem kX10_392 : CV RX10 392 2 10 MX10_reckonAll := ⟨bX10_reckonAll.1, gwt_mem (tbT_7 _ (List.mem_of_getElem? (i := 34) rfl)) rfl, bX10_reckonAll.2.1, bX10_reckonAll.2.2, by decide⟩
theorem kX10_398 : CV RX10 398 1 10 MX10_term := ⟨bX10_term.1, gwt_mem (tbT_7 _ (List.mem_of_getElem? (i := 26) rfl)) rfl, bX10_term.2.1, bX10_term.2.2, by decide⟩
theorem kX10_401 : CV RX10 401 1 10 MX10_keptFor := ⟨bX10_keptFor.1, gwt_mem (tbT_7 _ (List.mem_of_getElem? (i := 22) rfl)) rfl, bX10_keptFor.2.1, bX10_keptFor.2.2, by decide⟩
theorem kX10_404 : CV RX10 404 1 10 MX10_isSo := ⟨bX10_isSo.1, gwt_mem (tbT_7 _ (List.mem_of_getElem? (i := 30) rfl)) rfl, bX10_isSo.2.1, bX10_isSo.2.2, by decide⟩
theorem kX10_409 : CV RX10 409 4 10 MX10_tells := ⟨bX10_tells.1, gwt_mem (tbT_7 _ (List.mem_of_getElem? (i := 18) rfl)) rfl, bX10_tells.2.1, bX10_tells.2.2, by decide⟩
theorem kX10_413 : CS RX10 413 3 MX10_within := ⟨bX10_within.1, gwt_mem (tbT_7 _ (List.mem_of_getElem? (i := 44) rfl)) rfl, bX10_within.2⟩
theorem kX10_417 : CS RX10 417 2 MX10_isIn := ⟨bX10_isIn.1, gwt_mem (tbT_7 _ (List.mem_of_getElem? (i := 63) rfl)) rfl, bX10_isIn.2⟩
theorem kX10_421 : CV RX10 421 2 10 MX10_isFitting := ⟨bX10_isFitting.1, gwt_mem (tbT_7 _ (List.mem_of_getElem? (i := 59) rfl)) rfl, bX10_isFitting.2.1, bX10_isFitting.2.2, by decide⟩
theorem kX10_424 : CV RX10 424 2 10 MX10_isBarred := ⟨bX10_isBarred.1, gwt_mem (tbT_7 _ (List.mem_of_getElem? (i := 55) rfl)) rfl, bX10_isBarred.2.1, bX10_isBarred.2.2, by decide⟩
theorem kX10_427 : CV RX10 427 2 10 MX10_finesOf := ⟨bX10_finesOf.1, gwt_mem (tbT_7 _ (List.mem_of_getElem? (i := 13) rfl)) rfl, bX10_finesOf.2.1, bX10_finesOf.2.2, by decide⟩
theorem kX10_430 : CV RX10 430 2 10 MX10_wearsOf := ⟨bX10_wearsOf.1, gwt_mem (tbT_7 _ (List.mem_of_getElem? (i := 47) rfl)) rfl, bX10_wearsOf.2.1, bX10_wearsOf.2.2, by decide⟩
theorem kX10_433 : CV RX10 433 2 10 MX10_takesOf := ⟨bX10_takesOf.1, gwt_mem (tbT_7 _ (List.mem_of_getElem? (i := 51) rfl)) rfl, bX10_takesOf.2.1, bX10_takesOf.2.2, by decide⟩
theorem kX10_436 : CV RX10 436 2 10 MX10_canHave := ⟨bX10_canHave.1, gwt_mem (tbT_7 _ (List.mem_of_getElem? (i := 66) rfl)) rfl, bX10_canHave.2.1, bX10_canHave.2.2, by decide⟩
theorem kX10_439 : CV RX10 439 1 10 MX10_dueOf := ⟨bX10_dueOf.1, gwt_mem (tbT_7 _ (List.mem_of_getElem? (i := 90) rfl)) rfl, bX10_dueOf.2.1, bX10_dueOf.2.2, by decide⟩
theorem kX10_442 : CV RX10 442 1 10 MX10_leaveIt := ⟨bX10_leaveIt.1, gwt_mem (tbT_7 _ (List.mem_of_getElem? (i := 86) rfl)) rfl, bX10_leaveIt.2.1, bX10_leaveIt.2.2, by decide⟩
theorem kX10_445 : CV RX10 445 2 10 MX10_waitAt := ⟨bX10_waitAt.1, gwt_mem (tbT_7 _ (List.mem_of_getElem? (i := 102) rfl)) rfl, bX10_waitAt.2.1, bX10_waitAt.2.2, by decide⟩
theorem kX10_448 : CV RX10 448 2 10 MX10_canLend := ⟨bX10_canLend.1, gwt_mem (tbT_7 _ (List.mem_of_getElem? (i := 78) rfl)) rfl, bX10_canLend.2.1, bX10_canLend.2.2, by decide⟩
theorem kX10_451 : CV RX10 451 1 10 MX10_remember := ⟨bX10_remember.1, gwt_mem (tbT_7 _ (List.mem_of_getElem? (i := 94) rfl)) rfl, bX10_remember.2.1, bX10_remember.2.2, by decide⟩
theorem kX10_454 : CV RX10 454 2 10 MX10_lendIt := ⟨bX10_lendIt.1, gwt_mem (tbT_7 _ (List.mem_of_getElem? (i := 98) rfl)) rfl, bX10_lendIt.2.1, bX10_lendIt.2.2, by decide⟩
theorem kX10_457 : CV RX10 457 2 10 MX10_lendNow := ⟨bX10_lendNow.1, gwt_mem (tbT_7 _ (List.mem_of_getElem? (i := 74) rfl)) rfl, bX10_lendNow.2.1, bX10_lendNow.2.2, by decide⟩
theorem kX10_460 : CV RX10 460 1 10 MX10_bringNow := ⟨bX10_bringNow.1, gwt_mem (tbT_7 _ (List.mem_of_getElem? (i := 110) rfl)) rfl, bX10_bringNow.2.1, bX10_bringNow.2.2, by decide⟩
theorem kX10_463 : CV RX10 463 2 10 MX10_waitsNow := ⟨bX10_waitsNow.1, gwt_mem (tbT_7 _ (List.mem_of_getElem? (i := 118) rfl)) rfl, bX10_waitsNow.2.1, bX10_waitsNow.2.2, by decide⟩
theorem kX10_466 : CV RX10 466 0 10 MX10_passIt := ⟨bX10_passIt.1, gwt_mem (tbT_7 _ (List.mem_of_getElem? (i := 130) rfl)) rfl, bX10_passIt.2.1, bX10_passIt.2.2, by decide⟩
theorem kX10_469 : CV RX10 469 0 10 MX10_passNow := ⟨bX10_passNow.1, gwt_mem (tbT_7 _ (List.mem_of_getElem? (i := 126) rfl)) rfl, bX10_passNow.2.1, bX10_passNow.2.2, by decide⟩
theorem kX10_472 : CV RX10 472 1 10 MX10_isFree := ⟨bX10_isFree.1, gwt_mem (tbT_7 _ (List.mem_of_getElem? (i := 142) rfl)) rfl, bX10_isFree.2.1, bX10_isFree.2.2, by decide⟩
theorem kX10_475 : CV RX10 475 0 10 MX10_findServed := ⟨bX10_findServed.1, gwt_mem (tbT_7 _ (List.mem_of_getElem? (i := 138) rfl)) rfl, bX10_findServed.2.1, bX10_findServed.2.2, by decide⟩
theorem kX10_479 : CV RX10 479 2 10 MX10_weeksBy := ⟨bX10_weeksBy.1, gwt_mem (tbT_7 _ (List.mem_of_getElem? (i := 159) rfl)) rfl, bX10_weeksBy.2.1, bX10_weeksBy.2.2, by decide⟩
theorem kX10_482 : CV RX10 482 1 10 MX10_layWeeks := ⟨bX10_layWeeks.1, gwt_mem (tbT_7 _ (List.mem_of_getElem? (i := 154) rfl)) rfl, bX10_layWeeks.2.1, bX10_layWeeks.2.2, by decide⟩
theorem kX10_485 : CS RX10 485 2 MX10_is := ⟨bX10_is.1, gwt_mem (tbT_7 _ (List.mem_of_getElem? (i := 171) rfl)) rfl, bX10_is.2⟩
theorem kX10_488 : CV RX10 488 2 10 MX10_canBeLast := ⟨bX10_canBeLast.1, gwt_mem (tbT_7 _ (List.mem_of_getElem? (i := 174) rfl)) rfl, bX10_canBeLast.2.1, bX10_canBeLast.2.2, by decide⟩
theorem kX10_491 : CV RX10 491 1 10 MX10_laySets := ⟨bX10_laySets.1, gwt_mem (tbT_7 _ (List.mem_of_getElem? (i := 167) rfl)) rfl, bX10_laySets.2.1, bX10_laySets.2.2, by decide⟩
theorem kX10_494 : CV RX10 494 2 10 MX10_isOne := ⟨bX10_isOne.1, gwt_mem (tbT_7 _ (List.mem_of_getElem? (i := 178) rfl)) rfl, bX10_isOne.2.1, bX10_isOne.2.2, by decide⟩
theorem kX10_497 : CV RX10 497 2 10 MX10_isInside := ⟨bX10_isInside.1, gwt_mem (tbT_7 _ (List.mem_of_getElem? (i := 198) rfl)) rfl, bX10_isInside.2.1, bX10_isInside.2.2, by decide⟩
theorem kX10_500 : CV RX10 500 0 10 MX10_layNests := ⟨bX10_layNests.1, gwt_mem (tbT_7 _ (List.mem_of_getElem? (i := 194) rfl)) rfl, bX10_layNests.2.1, bX10_layNests.2.2, by decide⟩
theorem kX10_503 : CS RX10 503 1 MX10_ones := ⟨bX10_ones.1, gwt_mem (tbT_7 _ (List.mem_of_getElem? (i := 206) rfl)) rfl, bX10_ones.2⟩
theorem kX10_506 : CV RX10 506 1 10 MX10_fittedBy := ⟨bX10_fittedBy.1, gwt_mem (tbT_7 _ (List.mem_of_getElem? (i := 209) rfl)) rfl, bX10_fittedBy.2.1, bX10_fittedBy.2.2, by decide⟩
theorem kX10_513 : CV RX10 513 1 10 MX10_readSum := ⟨bX10_readSum.1, gwt_mem (tbT_7 _ (List.mem_of_getElem? (i := 231) rfl)) rfl, bX10_readSum.2.1, bX10_readSum.2.2, by decide⟩
theorem kX10_531 : CV RX10 531 1 10 MX10_sumOf := ⟨bX10_sumOf.1, gwt_mem (tbT_8 _ (List.mem_of_getElem? (i := 2) rfl)) rfl, bX10_sumOf.2.1, bX10_sumOf.2.2, by decide⟩
theorem kX10_534 : CV RX10 534 3 10 MX10_act := ⟨bX10_act.1, gwt_mem (tbT_8 _ (List.mem_of_getElem? (i := 6) rfl)) rfl, bX10_act.2.1, bX10_act.2.2, by decide⟩
theorem kX10_538 : CV RX10 538 0 10 MX10_readOrder := ⟨bX10_readOrder.1, gwt_mem (tbT_7 _ (List.mem_of_getElem? (i := 227) rfl)) rfl, bX10_readOrder.2.1, bX10_readOrder.2.2, by decide⟩
theorem kX10_541 : CV RX10 541 1 10 MX10_run := ⟨bX10_run.1, gwt_mem (tbT_7 _ (List.mem_of_getElem? (i := 238) rfl)) rfl, bX10_run.2.1, bX10_run.2.2, by decide⟩
theorem kX10_544 : CV RX10 544 1 10 MX10_giveBack := ⟨bX10_giveBack.1, gwt_mem (tbT_8 _ (List.mem_of_getElem? (i := 10) rfl)) rfl, bX10_giveBack.2.1, bX10_giveBack.2.2, by decide⟩
theorem kX10_558 : CV RX10 558 1 10 MX10_draw := ⟨bX10_draw.1, gwt_mem (tbT_8 _ (List.mem_of_getElem? (i := 23) rfl)) rfl, bX10_draw.2.1, bX10_draw.2.2, by decide⟩
theorem kX10_563 : CV RX10 563 0 10 MX10_lentOnes := ⟨bX10_lentOnes.1, gwt_mem (tbT_8 _ (List.mem_of_getElem? (i := 39) rfl)) rfl, bX10_lentOnes.2.1, bX10_lentOnes.2.2, by decide⟩
theorem wX10_c478 : Cond.constant RX10 478 (100000000) ∈ gwt := gwt_mem (tbT_7 _ (List.mem_of_getElem? (i := 158) rfl)) rfl
theorem wX10_c57 : Cond.constantLong RX10 57 (81387) ∈ gwt := gwt_mem (tbT_5 _ (List.mem_of_getElem? (i := 69) rfl)) rfl
theorem wX10_c59 : Cond.constantLong RX10 59 (408362632) ∈ gwt := gwt_mem (tbT_5 _ (List.mem_of_getElem? (i := 70) rfl)) rfl
theorem wX10_c61 : Cond.constantLong RX10 61 (17484389) ∈ gwt := gwt_mem (tbT_5 _ (List.mem_of_getElem? (i := 71) rfl)) rfl
theorem wX10_c63 : Cond.constantLong RX10 63 (609259698) ∈ gwt := gwt_mem (tbT_5 _ (List.mem_of_getElem? (i := 72) rfl)) rfl
theorem wX10_c65 : Cond.constantLong RX10 65 (690005651) ∈ gwt := gwt_mem (tbT_5 _ (List.mem_of_getElem? (i := 73) rfl)) rfl
theorem wX10_c67 : Cond.constantLong RX10 67 (769614) ∈ gwt := gwt_mem (tbT_5 _ (List.mem_of_getElem? (i := 74) rfl)) rfl
theorem wX10_c69 : Cond.constantLong RX10 69 (366100) ∈ gwt := gwt_mem (tbT_5 _ (List.mem_of_getElem? (i := 75) rfl)) rfl
theorem wX10_c71 : Cond.constantLong RX10 71 (758955) ∈ gwt := gwt_mem (tbT_5 _ (List.mem_of_getElem? (i := 76) rfl)) rfl
theorem wX10_c73 : Cond.constantLong RX10 73 (441828) ∈ gwt := gwt_mem (tbT_5 _ (List.mem_of_getElem? (i := 77) rfl)) rfl
theorem wX10_c79 : Cond.constantLong RX10 79 (146885) ∈ gwt := gwt_mem (tbT_5 _ (List.mem_of_getElem? (i := 78) rfl)) rfl
theorem wX10_c81 : Cond.constantLong RX10 81 (404362868) ∈ gwt := gwt_mem (tbT_5 _ (List.mem_of_getElem? (i := 79) rfl)) rfl
theorem wX10_c83 : Cond.constantLong RX10 83 (24739718599) ∈ gwt := gwt_mem (tbT_5 _ (List.mem_of_getElem? (i := 80) rfl)) rfl
theorem wX10_c85 : Cond.constantLong RX10 85 (763528) ∈ gwt := gwt_mem (tbT_5 _ (List.mem_of_getElem? (i := 81) rfl)) rfl
theorem wX10_c90 : Cond.constantLong RX10 90 (6600883) ∈ gwt := gwt_mem (tbT_5 _ (List.mem_of_getElem? (i := 82) rfl)) rfl
theorem wX10_c92 : Cond.constantLong RX10 92 (24282707) ∈ gwt := gwt_mem (tbT_5 _ (List.mem_of_getElem? (i := 83) rfl)) rfl
theorem wX10_c94 : Cond.constantLong RX10 94 (21015731) ∈ gwt := gwt_mem (tbT_5 _ (List.mem_of_getElem? (i := 84) rfl)) rfl
theorem wX10_c96 : Cond.constantLong RX10 96 (67155) ∈ gwt := gwt_mem (tbT_5 _ (List.mem_of_getElem? (i := 85) rfl)) rfl
theorem wX10_c131 : Cond.constantLong RX10 131 (398788) ∈ gwt := gwt_mem (tbT_5 _ (List.mem_of_getElem? (i := 86) rfl)) rfl
theorem wX10_c133 : Cond.constantLong RX10 133 (2696647) ∈ gwt := gwt_mem (tbT_5 _ (List.mem_of_getElem? (i := 87) rfl)) rfl
theorem wX10_c135 : Cond.constantLong RX10 135 (754996) ∈ gwt := gwt_mem (tbT_5 _ (List.mem_of_getElem? (i := 88) rfl)) rfl
theorem wX10_c137 : Cond.constantLong RX10 137 (525939) ∈ gwt := gwt_mem (tbT_5 _ (List.mem_of_getElem? (i := 89) rfl)) rfl
theorem wX10_c184 : Cond.constantLong RX10 184 (9) ∈ gwt := gwt_mem (tbT_6 _ (List.mem_of_getElem? (i := 60) rfl)) rfl
theorem wX10_c186 : Cond.constantLong RX10 186 (63) ∈ gwt := gwt_mem (tbT_6 _ (List.mem_of_getElem? (i := 61) rfl)) rfl
theorem wX10_c188 : Cond.constantLong RX10 188 (999) ∈ gwt := gwt_mem (tbT_6 _ (List.mem_of_getElem? (i := 62) rfl)) rfl
theorem wX10_c204 : Cond.constantLong RX10 204 (20) ∈ gwt := gwt_mem (tbT_6 _ (List.mem_of_getElem? (i := 91) rfl)) rfl
theorem wX10_c206 : Cond.constantLong RX10 206 (10) ∈ gwt := gwt_mem (tbT_6 _ (List.mem_of_getElem? (i := 92) rfl)) rfl
theorem wX10_c247 : Cond.constantLong RX10 247 (32) ∈ gwt := gwt_mem (tbT_6 _ (List.mem_of_getElem? (i := 143) rfl)) rfl
theorem wX10_c249 : Cond.constantLong RX10 249 (96) ∈ gwt := gwt_mem (tbT_6 _ (List.mem_of_getElem? (i := 144) rfl)) rfl
theorem wX10_c251 : Cond.constantLong RX10 251 (-1) ∈ gwt := gwt_mem (tbT_6 _ (List.mem_of_getElem? (i := 145) rfl)) rfl
theorem wX10_c253 : Cond.constantLong RX10 253 (1000000) ∈ gwt := gwt_mem (tbT_6 _ (List.mem_of_getElem? (i := 146) rfl)) rfl
theorem wX10_c255 : Cond.constantLong RX10 255 (48) ∈ gwt := gwt_mem (tbT_6 _ (List.mem_of_getElem? (i := 147) rfl)) rfl
theorem wX10_c274 : Cond.constantLong RX10 274 (24) ∈ gwt := gwt_mem (tbT_6 _ (List.mem_of_getElem? (i := 227) rfl)) rfl
theorem wX10_c276 : Cond.constantLong RX10 276 (25) ∈ gwt := gwt_mem (tbT_6 _ (List.mem_of_getElem? (i := 228) rfl)) rfl
theorem wX10_c278 : Cond.constantLong RX10 278 (27) ∈ gwt := gwt_mem (tbT_6 _ (List.mem_of_getElem? (i := 229) rfl)) rfl
theorem wX10_c309 : Cond.constantLong RX10 309 (1000) ∈ gwt := gwt_mem (tbT_6 _ (List.mem_of_getElem? (i := 193) rfl)) rfl
theorem wX10_c315 : Cond.constantLong RX10 315 (7) ∈ gwt := gwt_mem (tbT_6 _ (List.mem_of_getElem? (i := 202) rfl)) rfl
theorem wX10_c317 : Cond.constantLong RX10 317 (5) ∈ gwt := gwt_mem (tbT_6 _ (List.mem_of_getElem? (i := 203) rfl)) rfl
theorem wX10_c323 : Cond.constantLong RX10 323 (14836) ∈ gwt := gwt_mem (tbT_6 _ (List.mem_of_getElem? (i := 168) rfl)) rfl
theorem wX10_c338 : Cond.constantLong RX10 338 (1476) ∈ gwt := gwt_mem (tbT_6 _ (List.mem_of_getElem? (i := 234) rfl)) rfl
theorem wX10_c340 : Cond.constantLong RX10 340 (498) ∈ gwt := gwt_mem (tbT_6 _ (List.mem_of_getElem? (i := 235) rfl)) rfl
theorem wX10_c361 : Cond.constantLong RX10 361 (294) ∈ gwt := gwt_mem (tbT_6 _ (List.mem_of_getElem? (i := 236) rfl)) rfl
theorem wX10_c385 : Cond.constantLong RX10 385 (-1000000000) ∈ gwt := gwt_mem (tbT_7 _ (List.mem_of_getElem? (i := 42) rfl)) rfl
theorem wX10_c387 : Cond.constantLong RX10 387 (1000000000) ∈ gwt := gwt_mem (tbT_7 _ (List.mem_of_getElem? (i := 43) rfl)) rfl
theorem wX10_c407 : Cond.constantLong RX10 407 (2) ∈ gwt := gwt_mem (tbT_7 _ (List.mem_of_getElem? (i := 17) rfl)) rfl
theorem wX10_c509 : Cond.constantLong RX10 509 (99) ∈ gwt := gwt_mem (tbT_7 _ (List.mem_of_getElem? (i := 221) rfl)) rfl
theorem wX10_c511 : Cond.constantLong RX10 511 (1000000000000) ∈ gwt := gwt_mem (tbT_7 _ (List.mem_of_getElem? (i := 222) rfl)) rfl
theorem wX10_c516 : Cond.constantLong RX10 516 (655) ∈ gwt := gwt_mem (tbT_7 _ (List.mem_of_getElem? (i := 235) rfl)) rfl
theorem wX10_c518 : Cond.constantLong RX10 518 (6642) ∈ gwt := gwt_mem (tbT_7 _ (List.mem_of_getElem? (i := 236) rfl)) rfl
theorem wX10_c520 : Cond.constantLong RX10 520 (21279923) ∈ gwt := gwt_mem (tbT_7 _ (List.mem_of_getElem? (i := 237) rfl)) rfl
theorem wX10_c550 : Cond.constantLong RX10 550 (1103) ∈ gwt := gwt_mem (tbT_8 _ (List.mem_of_getElem? (i := 27) rfl)) rfl
theorem wX10_c552 : Cond.constantLong RX10 552 (12345) ∈ gwt := gwt_mem (tbT_8 _ (List.mem_of_getElem? (i := 28) rfl)) rfl
theorem wX10_c554 : Cond.constantLong RX10 554 (1000003) ∈ gwt := gwt_mem (tbT_8 _ (List.mem_of_getElem? (i := 29) rfl)) rfl
theorem wX10_c556 : Cond.constantLong RX10 556 (60) ∈ gwt := gwt_mem (tbT_8 _ (List.mem_of_getElem? (i := 22) rfl)) rfl
theorem wX10_c561 : Cond.constantLong RX10 561 (3) ∈ gwt := gwt_mem (tbT_8 _ (List.mem_of_getElem? (i := 34) rfl)) rfl
theorem wX10_c566 : Cond.constantLong RX10 566 (13) ∈ gwt := gwt_mem (tbT_8 _ (List.mem_of_getElem? (i := 43) rfl)) rfl
theorem wX10_c568 : Cond.constantLong RX10 568 (16) ∈ gwt := gwt_mem (tbT_8 _ (List.mem_of_getElem? (i := 44) rfl)) rfl
theorem wJ6_c265 : Cond.constant RJ6 265 (1431655765) ∈ gwt := gwt_mem (tbT_4 _ (List.mem_of_getElem? (i := 115) rfl)) rfl
theorem wJ6_c266 : Cond.constant RJ6 266 (858993459) ∈ gwt := gwt_mem (tbT_4 _ (List.mem_of_getElem? (i := 116) rfl)) rfl
theorem wJ6_c267 : Cond.constant RJ6 267 (252645135) ∈ gwt := gwt_mem (tbT_4 _ (List.mem_of_getElem? (i := 117) rfl)) rfl
theorem kJ0_335 : Cond.methodLink RJ0 335 MJ0_coder_7d493.1 ∈ gwt := gwt_mem (tbT_3 _ (List.mem_of_getElem? (i := 60) rfl)) rfl
theorem kJ0_492 : Cond.methodLink RJ0 492 MJ0_isLatin1_aae02.1 ∈ gwt := gwt_mem (tbT_3 _ (List.mem_of_getElem? (i := 70) rfl)) rfl
theorem kJ0_495 : CS RJ0 495 2 MJ1_charAt_3b067 := ⟨bJ1_charAt_3b067.1, gwt_mem (tbT_3 _ (List.mem_of_getElem? (i := 74) rfl)) rfl, bJ1_charAt_3b067.2⟩
theorem kJ0_498 : CS RJ0 498 2 MJ2_charAt_3b067 := ⟨bJ2_charAt_3b067.1, gwt_mem (tbT_3 _ (List.mem_of_getElem? (i := 85) rfl)) rfl, bJ2_charAt_3b067.2⟩
theorem kJ0_1059 : CS RJ0 1059 3 MJ3_checkIndex_8e157 := ⟨bJ3_checkIndex_8e157.1, gwt_mem (tbT_3 _ (List.mem_of_getElem? (i := 82) rfl)) rfl, bJ3_checkIndex_8e157.2⟩
theorem kJ1_9 : CS RJ1 9 2 MJ0_checkIndex_df160 := ⟨bJ0_checkIndex_df160.1, gwt_mem (tbT_3 _ (List.mem_of_getElem? (i := 77) rfl)) rfl, bJ0_checkIndex_df160.2⟩
theorem kJ2_48 : CS RJ2 48 1 MJ2_length_9d52b := ⟨bJ2_length_9d52b.1, gwt_mem (tbT_3 _ (List.mem_of_getElem? (i := 91) rfl)) rfl, bJ2_length_9d52b.2⟩
theorem kJ2_67 : CS RJ2 67 2 MJ2_checkIndex_2214a := ⟨bJ2_checkIndex_2214a.1, gwt_mem (tbT_3 _ (List.mem_of_getElem? (i := 88) rfl)) rfl, bJ2_checkIndex_2214a.2⟩
theorem kJ2_71 : CS RJ2 71 2 MJ2_getChar_3b067 := ⟨bJ2_getChar_3b067.1, gwt_mem (tbT_3 _ (List.mem_of_getElem? (i := 95) rfl)) rfl, bJ2_getChar_3b067.2⟩
theorem kJ2_414 : CS RJ2 414 2 MJ0_checkIndex_df160 := ⟨bJ0_checkIndex_df160.1, gwt_mem (tbT_3 _ (List.mem_of_getElem? (i := 94) rfl)) rfl, bJ0_checkIndex_df160.2⟩
