theorem q_0 : Cond.selects RX3 yX3_skipBlanks yX3_skipBlanks ∈ lw_gd := mem_gd (List.mem_of_getElem? (i := 0) (by decide +kernel)) rfl
theorem q_1 : Cond.selects RX3 yX3_readClause yX3_readClause ∈ lw_gd := mem_gd (List.mem_of_getElem? (i := 1) (by decide +kernel)) rfl
theorem q_2 : Cond.selects RX3 yX3_skipLetters yX3_skipLetters ∈ lw_gd := mem_gd (List.mem_of_getElem? (i := 2) (by decide +kernel)) rfl
theorem q_3 : Cond.selects RX3 yX3_kindOfWord yX3_kindOfWord ∈ lw_gd := mem_gd (List.mem_of_getElem? (i := 3) (by decide +kernel)) rfl
theorem q_4 : Cond.selects RX3 yX3_isWord yX3_isWord ∈ lw_gd := mem_gd (List.mem_of_getElem? (i := 4) (by decide +kernel)) rfl
theorem q_5 : Cond.selects RX3 yX3_faultOfKind yX3_faultOfKind ∈ lw_gd := mem_gd (List.mem_of_getElem? (i := 5) (by decide +kernel)) rfl
theorem q_6 : Cond.selects RX3 yX3_noteFault yX3_noteFault ∈ lw_gd := mem_gd (List.mem_of_getElem? (i := 6) (by decide +kernel)) rfl
theorem q_7 : Cond.selects RX3 yX3_readNumber yX3_readNumber ∈ lw_gd := mem_gd (List.mem_of_getElem? (i := 7) (by decide +kernel)) rfl
theorem q_8 : Cond.selects RX3 yX3_readEndOfClause yX3_readEndOfClause ∈ lw_gd := mem_gd (List.mem_of_getElem? (i := 8) (by decide +kernel)) rfl
theorem q_9 : Cond.selects RX7 yX7_tallOf yX7_tallOf ∈ lw_gd := mem_gd (List.mem_of_getElem? (i := 9) (by decide +kernel)) rfl
theorem q_10 : Cond.selects RX7 yX7_showAt yX7_showAt ∈ lw_gd := mem_gd (List.mem_of_getElem? (i := 10) (by decide +kernel)) rfl
theorem q_11 : Cond.selects RX5 yX5_castShades yX5_castShades ∈ lw_gd := mem_gd (List.mem_of_getElem? (i := 11) (by decide +kernel)) rfl
theorem q_12 : Cond.selects RX5 yX5_isHere yX5_isHere ∈ lw_gd := mem_gd (List.mem_of_getElem? (i := 12) (by decide +kernel)) rfl
theorem q_13 : Cond.selects RX5 yX5_giveAllToLongest yX5_giveAllToLongest ∈ lw_gd := mem_gd (List.mem_of_getElem? (i := 13) (by decide +kernel)) rfl
theorem q_14 : Cond.selects RX7 yX7_giveAt yX7_giveAt ∈ lw_gd := mem_gd (List.mem_of_getElem? (i := 14) (by decide +kernel)) rfl
theorem q_15 : Cond.selects RX7 yX7_passDayByDraws yX7_passDayByDraws ∈ lw_gd := mem_gd (List.mem_of_getElem? (i := 15) (by decide +kernel)) rfl
theorem q_16 : Cond.selects RX1 yX1_fill yX1_fill ∈ lw_gd := mem_gd (List.mem_of_getElem? (i := 16) (by decide +kernel)) rfl
theorem q_17 : Cond.selects RX1 yX1_weigh yX1_weigh ∈ lw_gd := mem_gd (List.mem_of_getElem? (i := 17) (by decide +kernel)) rfl
theorem q_18 : Cond.selects RX0 yX0_handOut yX0_handOut ∈ lw_gd := mem_gd (List.mem_of_getElem? (i := 18) (by decide +kernel)) rfl
theorem q_19 : Cond.selects RX0 yX0_weigh yX0_weigh ∈ lw_gd := mem_gd (List.mem_of_getElem? (i := 19) (by decide +kernel)) rfl
theorem q_20 : Cond.selects RX7 yX7_almsOnDay yX7_almsOnDay ∈ lw_gd := mem_gd (List.mem_of_getElem? (i := 20) (by decide +kernel)) rfl
theorem q_21 : Cond.selects RX7 yX7_fitsAllTales yX7_fitsAllTales ∈ lw_gd := mem_gd (List.mem_of_getElem? (i := 21) (by decide +kernel)) rfl
theorem q_22 : Cond.selects RX8 yX8_here yX8_here ∈ lw_gd := mem_gd (List.mem_of_getElem? (i := 22) (by decide +kernel)) rfl
theorem q_23 : Cond.selects RX8 yX8_takeClause yX8_takeClause ∈ lw_gd := mem_gd (List.mem_of_getElem? (i := 23) (by decide +kernel)) rfl
theorem q_24 : Cond.selects RX8 yX8_readWord yX8_readWord ∈ lw_gd := mem_gd (List.mem_of_getElem? (i := 24) (by decide +kernel)) rfl
theorem q_25 : Cond.selects RX8 yX8_fails yX8_fails ∈ lw_gd := mem_gd (List.mem_of_getElem? (i := 25) (by decide +kernel)) rfl
theorem q_26 : Cond.selects RX8 yX8_takeYear yX8_takeYear ∈ lw_gd := mem_gd (List.mem_of_getElem? (i := 26) (by decide +kernel)) rfl
theorem q_27 : Cond.selects RX8 yX8_takeNumber yX8_takeNumber ∈ lw_gd := mem_gd (List.mem_of_getElem? (i := 27) (by decide +kernel)) rfl
theorem q_28 : Cond.selects RX8 yX8_takeBell yX8_takeBell ∈ lw_gd := mem_gd (List.mem_of_getElem? (i := 28) (by decide +kernel)) rfl
theorem q_29 : Cond.selects RX8 yX8_into yX8_into ∈ lw_gd := mem_gd (List.mem_of_getElem? (i := 29) (by decide +kernel)) rfl
theorem q_30 : Cond.selects RX8 yX8_takeSpot yX8_takeSpot ∈ lw_gd := mem_gd (List.mem_of_getElem? (i := 30) (by decide +kernel)) rfl
theorem q_31 : Cond.selects RX8 yX8_takeBeggar yX8_takeBeggar ∈ lw_gd := mem_gd (List.mem_of_getElem? (i := 31) (by decide +kernel)) rfl
theorem q_32 : Cond.selects RX8 yX8_takeHat yX8_takeHat ∈ lw_gd := mem_gd (List.mem_of_getElem? (i := 32) (by decide +kernel)) rfl
theorem q_33 : Cond.selects RX8 yX8_isBell yX8_isBell ∈ lw_gd := mem_gd (List.mem_of_getElem? (i := 33) (by decide +kernel)) rfl
theorem q_34 : Cond.selects RX8 yX8_longOn yX8_longOn ∈ lw_gd := mem_gd (List.mem_of_getElem? (i := 34) (by decide +kernel)) rfl
theorem q_35 : Cond.selects RX8 yX8_isSpot yX8_isSpot ∈ lw_gd := mem_gd (List.mem_of_getElem? (i := 35) (by decide +kernel)) rfl
theorem q_36 : Cond.selects RX8 yX8_whoIsOn yX8_whoIsOn ∈ lw_gd := mem_gd (List.mem_of_getElem? (i := 36) (by decide +kernel)) rfl
theorem q_37 : Cond.selects RX8 yX8_isBeggar yX8_isBeggar ∈ lw_gd := mem_gd (List.mem_of_getElem? (i := 37) (by decide +kernel)) rfl
theorem q_38 : Cond.selects RX8 yX8_tallOf yX8_tallOf ∈ lw_gd := mem_gd (List.mem_of_getElem? (i := 38) (by decide +kernel)) rfl
theorem q_39 : Cond.selects RX8 yX8_isHat yX8_isHat ∈ lw_gd := mem_gd (List.mem_of_getElem? (i := 39) (by decide +kernel)) rfl
theorem q_40 : Cond.selects RX8 yX8_onWhom yX8_onWhom ∈ lw_gd := mem_gd (List.mem_of_getElem? (i := 40) (by decide +kernel)) rfl
theorem q_41 : Cond.selects RX8 yX8_longNow yX8_longNow ∈ lw_gd := mem_gd (List.mem_of_getElem? (i := 41) (by decide +kernel)) rfl
theorem q_42 : Cond.selects RX8 yX8_findAlms yX8_findAlms ∈ lw_gd := mem_gd (List.mem_of_getElem? (i := 42) (by decide +kernel)) rfl
theorem q_43 : Cond.selects RX8 yX8_shadowOf yX8_shadowOf ∈ lw_gd := mem_gd (List.mem_of_getElem? (i := 43) (by decide +kernel)) rfl
theorem q_44 : Cond.selects RX8 yX8_lengthBy yX8_lengthBy ∈ lw_gd := mem_gd (List.mem_of_getElem? (i := 44) (by decide +kernel)) rfl
theorem q_45 : Cond.selects RX8 yX8_almsOf yX8_almsOf ∈ lw_gd := mem_gd (List.mem_of_getElem? (i := 45) (by decide +kernel)) rfl
theorem q_46 : Cond.selects RX8 yX8_costOf yX8_costOf ∈ lw_gd := mem_gd (List.mem_of_getElem? (i := 46) (by decide +kernel)) rfl
theorem q_47 : Cond.selects RX8 yX8_ringNow yX8_ringNow ∈ lw_gd := mem_gd (List.mem_of_getElem? (i := 47) (by decide +kernel)) rfl
theorem q_48 : Cond.selects RX8 yX8_dayNow yX8_dayNow ∈ lw_gd := mem_gd (List.mem_of_getElem? (i := 48) (by decide +kernel)) rfl
theorem q_49 : Cond.selects RX8 yX8_draw yX8_draw ∈ lw_gd := mem_gd (List.mem_of_getElem? (i := 49) (by decide +kernel)) rfl
theorem q_50 : Cond.selects RX8 yX8_saveAll yX8_saveAll ∈ lw_gd := mem_gd (List.mem_of_getElem? (i := 50) (by decide +kernel)) rfl
theorem q_51 : Cond.selects RX8 yX8_findStanding yX8_findStanding ∈ lw_gd := mem_gd (List.mem_of_getElem? (i := 51) (by decide +kernel)) rfl
theorem q_52 : Cond.selects RX8 yX8_standBy yX8_standBy ∈ lw_gd := mem_gd (List.mem_of_getElem? (i := 52) (by decide +kernel)) rfl
theorem q_53 : Cond.selects RX8 yX8_almsOfAll yX8_almsOfAll ∈ lw_gd := mem_gd (List.mem_of_getElem? (i := 53) (by decide +kernel)) rfl
theorem q_54 : Cond.selects RX8 yX8_putBack yX8_putBack ∈ lw_gd := mem_gd (List.mem_of_getElem? (i := 54) (by decide +kernel)) rfl
theorem q_55 : Cond.selects RX8 yX8_lendBy yX8_lendBy ∈ lw_gd := mem_gd (List.mem_of_getElem? (i := 55) (by decide +kernel)) rfl
theorem q_56 : Cond.selects RX8 yX8_lacksFor yX8_lacksFor ∈ lw_gd := mem_gd (List.mem_of_getElem? (i := 56) (by decide +kernel)) rfl
theorem q_57 : Cond.selects RX8 yX8_isAsTold yX8_isAsTold ∈ lw_gd := mem_gd (List.mem_of_getElem? (i := 57) (by decide +kernel)) rfl
theorem q_59 : Cond.initialized "ShadowAlms" ∈ lw_gd := mem_gd (List.mem_of_getElem? (i := 59) (by decide +kernel)) rfl
theorem q_60 : Cond.initialized "ShadowAlms$Plan" ∈ lw_gd := mem_gd (List.mem_of_getElem? (i := 60) (by decide +kernel)) rfl
theorem q_61 : Cond.initialized "ShadowAlms$Reader" ∈ lw_gd := mem_gd (List.mem_of_getElem? (i := 61) (by decide +kernel)) rfl
theorem q_62 : Cond.initialized "ShadowAlms$State" ∈ lw_gd := mem_gd (List.mem_of_getElem? (i := 62) (by decide +kernel)) rfl
theorem q_63 : Cond.initialized "java/util/Arrays" ∈ lw_gd := mem_gd (List.mem_of_getElem? (i := 63) (by decide +kernel)) rfl
theorem q_64 : Cond.initialized "ShadowAlms$Rows" ∈ lw_gd := mem_gd (List.mem_of_getElem? (i := 64) (by decide +kernel)) rfl
theorem q_65 : Cond.initialized "ShadowAlms$Scene" ∈ lw_gd := mem_gd (List.mem_of_getElem? (i := 65) (by decide +kernel)) rfl
theorem q_66 : Cond.initialized "ShadowAlms$PlaceSearch" ∈ lw_gd := mem_gd (List.mem_of_getElem? (i := 66) (by decide +kernel)) rfl
theorem q_67 : Cond.initialized "ShadowAlms$HatSearch" ∈ lw_gd := mem_gd (List.mem_of_getElem? (i := 67) (by decide +kernel)) rfl
theorem q_68 : Cond.initialized "ShadowAlmsModel" ∈ lw_gd := mem_gd (List.mem_of_getElem? (i := 68) (by decide +kernel)) rfl
theorem q_69 : Cond.initialized "java/lang/String" ∈ lw_gd := mem_gd (List.mem_of_getElem? (i := 69) (by decide +kernel)) rfl
theorem q_70 : Cond.initialized "java/lang/StringLatin1" ∈ lw_gd := mem_gd (List.mem_of_getElem? (i := 70) (by decide +kernel)) rfl
theorem q_71 : Cond.initialized "jdk/internal/util/Preconditions" ∈ lw_gd := mem_gd (List.mem_of_getElem? (i := 71) (by decide +kernel)) rfl
theorem q_73 : Cond.initialized "java/lang/System" ∈ lw_gd := mem_gd (List.mem_of_getElem? (i := 73) (by decide +kernel)) rfl
theorem q_74 : Cond.initialized "java/lang/Math" ∈ lw_gd := mem_gd (List.mem_of_getElem? (i := 74) (by decide +kernel)) rfl
theorem q_89 : Cond.fieldLink RX2 9 "ShadowAlms$Plan" "counts" "[I" ∈ lw_gd := mem_gd (List.mem_of_getElem? (i := 89) (by decide +kernel)) rfl
theorem q_90 : Cond.fieldLink RX2 15 "ShadowAlms$Plan" "cells" "[I" ∈ lw_gd := mem_gd (List.mem_of_getElem? (i := 90) (by decide +kernel)) rfl
theorem q_105 : Cond.fieldLink RX3 9 "ShadowAlms$Reader" "text" "[C" ∈ lw_gd := mem_gd (List.mem_of_getElem? (i := 105) (by decide +kernel)) rfl
theorem q_106 : Cond.fieldLink RX3 15 "ShadowAlms$Reader" "numbers" "[I" ∈ lw_gd := mem_gd (List.mem_of_getElem? (i := 106) (by decide +kernel)) rfl
theorem q_107 : Cond.fieldLink RX3 41 "ShadowAlms$Reader" "at" "I" ∈ lw_gd := mem_gd (List.mem_of_getElem? (i := 107) (by decide +kernel)) rfl
theorem q_108 : Cond.fieldLink RX3 22 "ShadowAlms$Reader" "draft" "LShadowAlms$Plan;" ∈ lw_gd := mem_gd (List.mem_of_getElem? (i := 108) (by decide +kernel)) rfl
theorem q_109 : Cond.fieldLink RX7 91 "ShadowAlms$Reader" "draft" "LShadowAlms$Plan;" ∈ lw_gd := mem_gd (List.mem_of_getElem? (i := 109) (by decide +kernel)) rfl
theorem q_110 : Cond.fieldLink RX3 30 "ShadowAlms$Reader" "length" "I" ∈ lw_gd := mem_gd (List.mem_of_getElem? (i := 110) (by decide +kernel)) rfl
theorem q_111 : Cond.fieldLink RX7 76 "ShadowAlms$Reader" "length" "I" ∈ lw_gd := mem_gd (List.mem_of_getElem? (i := 111) (by decide +kernel)) rfl
theorem q_112 : Cond.fieldLink RX3 38 "ShadowAlms$Reader" "faultKind" "I" ∈ lw_gd := mem_gd (List.mem_of_getElem? (i := 112) (by decide +kernel)) rfl
theorem q_113 : Cond.fieldLink RX7 88 "ShadowAlms$Reader" "faultKind" "I" ∈ lw_gd := mem_gd (List.mem_of_getElem? (i := 113) (by decide +kernel)) rfl
theorem q_114 : Cond.fieldLink RX3 26 "ShadowAlms$Reader" "faultPlace" "I" ∈ lw_gd := mem_gd (List.mem_of_getElem? (i := 114) (by decide +kernel)) rfl
theorem q_115 : Cond.fieldLink RX7 106 "ShadowAlms$Reader" "faultPlace" "I" ∈ lw_gd := mem_gd (List.mem_of_getElem? (i := 115) (by decide +kernel)) rfl
theorem q_139 : Cond.instanceMethod yX6_startAnew ∈ lw_gd := mem_gd (List.mem_of_getElem? (i := 139) (by decide +kernel)) rfl
theorem q_140 : Cond.selects RX6 yX6_startAnew yX6_startAnew ∈ lw_gd := mem_gd (List.mem_of_getElem? (i := 140) (by decide +kernel)) rfl
theorem q_141 : Cond.code yX6_startAnew cX6_startAnew 1 none ∈ lw_gd := mem_gd (List.mem_of_getElem? (i := 141) (by decide +kernel)) rfl
theorem q_142 : Cond.methodLink RX6 24 yJ7_fill_53178 ∈ lw_gd := mem_gd (List.mem_of_getElem? (i := 142) (by decide +kernel)) rfl
theorem q_143 : Cond.static yJ7_fill_53178 ∈ lw_gd := mem_gd (List.mem_of_getElem? (i := 143) (by decide +kernel)) rfl
theorem q_144 : Cond.code yJ7_fill_53178 cJ7_fill_53178 4 none ∈ lw_gd := mem_gd (List.mem_of_getElem? (i := 144) (by decide +kernel)) rfl
theorem q_145 : Cond.fieldLink RX6 9 "ShadowAlms$State" "where" "[I" ∈ lw_gd := mem_gd (List.mem_of_getElem? (i := 145) (by decide +kernel)) rfl
theorem q_146 : Cond.fieldLink RX5 51 "ShadowAlms$State" "where" "[I" ∈ lw_gd := mem_gd (List.mem_of_getElem? (i := 146) (by decide +kernel)) rfl
theorem q_147 : Cond.fieldLink RX7 139 "ShadowAlms$State" "where" "[I" ∈ lw_gd := mem_gd (List.mem_of_getElem? (i := 147) (by decide +kernel)) rfl
theorem q_148 : Cond.fieldLink RX6 15 "ShadowAlms$State" "wearer" "[I" ∈ lw_gd := mem_gd (List.mem_of_getElem? (i := 148) (by decide +kernel)) rfl
theorem q_149 : Cond.fieldLink RX5 60 "ShadowAlms$State" "wearer" "[I" ∈ lw_gd := mem_gd (List.mem_of_getElem? (i := 149) (by decide +kernel)) rfl
theorem q_150 : Cond.fieldLink RX7 152 "ShadowAlms$State" "wearer" "[I" ∈ lw_gd := mem_gd (List.mem_of_getElem? (i := 150) (by decide +kernel)) rfl
theorem q_151 : Cond.fieldLink RX6 18 "ShadowAlms$State" "purse" "[I" ∈ lw_gd := mem_gd (List.mem_of_getElem? (i := 151) (by decide +kernel)) rfl
theorem q_152 : Cond.fieldLink RX7 149 "ShadowAlms$State" "purse" "[I" ∈ lw_gd := mem_gd (List.mem_of_getElem? (i := 152) (by decide +kernel)) rfl
theorem q_153 : Cond.fieldLink RX6 30 "ShadowAlms$State" "day" "I" ∈ lw_gd := mem_gd (List.mem_of_getElem? (i := 153) (by decide +kernel)) rfl
theorem q_154 : Cond.fieldLink RX7 113 "ShadowAlms$State" "day" "I" ∈ lw_gd := mem_gd (List.mem_of_getElem? (i := 154) (by decide +kernel)) rfl
theorem q_155 : Cond.fieldLink RX6 34 "ShadowAlms$State" "given" "I" ∈ lw_gd := mem_gd (List.mem_of_getElem? (i := 155) (by decide +kernel)) rfl
theorem q_156 : Cond.fieldLink RX7 119 "ShadowAlms$State" "given" "I" ∈ lw_gd := mem_gd (List.mem_of_getElem? (i := 156) (by decide +kernel)) rfl
theorem q_157 : Cond.fieldLink RX6 43 "ShadowAlms$State" "law" "I" ∈ lw_gd := mem_gd (List.mem_of_getElem? (i := 157) (by decide +kernel)) rfl
theorem q_158 : Cond.fieldLink RX7 116 "ShadowAlms$State" "law" "I" ∈ lw_gd := mem_gd (List.mem_of_getElem? (i := 158) (by decide +kernel)) rfl
theorem q_159 : Cond.fieldLink RX6 46 "ShadowAlms$State" "seed" "I" ∈ lw_gd := mem_gd (List.mem_of_getElem? (i := 159) (by decide +kernel)) rfl
theorem q_160 : Cond.fieldLink RX7 225 "ShadowAlms$State" "seed" "I" ∈ lw_gd := mem_gd (List.mem_of_getElem? (i := 160) (by decide +kernel)) rfl
theorem q_183 : Cond.fieldLink RX4 9 "ShadowAlms$Rows" "most" "I" ∈ lw_gd := mem_gd (List.mem_of_getElem? (i := 183) (by decide +kernel)) rfl
theorem q_184 : Cond.fieldLink RX4 15 "ShadowAlms$Rows" "cells" "[I" ∈ lw_gd := mem_gd (List.mem_of_getElem? (i := 184) (by decide +kernel)) rfl
theorem q_185 : Cond.fieldLink RX4 19 "ShadowAlms$Rows" "count" "I" ∈ lw_gd := mem_gd (List.mem_of_getElem? (i := 185) (by decide +kernel)) rfl
theorem q_186 : Cond.fieldLink RX7 100 "ShadowAlms$Rows" "count" "I" ∈ lw_gd := mem_gd (List.mem_of_getElem? (i := 186) (by decide +kernel)) rfl
theorem q_201 : Cond.fieldLink RX5 27 "ShadowAlms$Scene" "plan" "LShadowAlms$Plan;" ∈ lw_gd := mem_gd (List.mem_of_getElem? (i := 201) (by decide +kernel)) rfl
theorem q_202 : Cond.fieldLink RX5 37 "ShadowAlms$Scene" "people" "I" ∈ lw_gd := mem_gd (List.mem_of_getElem? (i := 202) (by decide +kernel)) rfl
theorem q_203 : Cond.fieldLink RX5 67 "ShadowAlms$Scene" "length" "I" ∈ lw_gd := mem_gd (List.mem_of_getElem? (i := 203) (by decide +kernel)) rfl
theorem q_204 : Cond.fieldLink RX5 70 "ShadowAlms$Scene" "law" "I" ∈ lw_gd := mem_gd (List.mem_of_getElem? (i := 204) (by decide +kernel)) rfl
theorem q_205 : Cond.fieldLink RX5 9 "ShadowAlms$Scene" "high" "[I" ∈ lw_gd := mem_gd (List.mem_of_getElem? (i := 205) (by decide +kernel)) rfl
theorem q_206 : Cond.fieldLink RX5 15 "ShadowAlms$Scene" "cost" "[I" ∈ lw_gd := mem_gd (List.mem_of_getElem? (i := 206) (by decide +kernel)) rfl
theorem q_207 : Cond.fieldLink RX5 18 "ShadowAlms$Scene" "shade" "[I" ∈ lw_gd := mem_gd (List.mem_of_getElem? (i := 207) (by decide +kernel)) rfl
theorem q_208 : Cond.fieldLink RX7 159 "ShadowAlms$Scene" "shade" "[I" ∈ lw_gd := mem_gd (List.mem_of_getElem? (i := 208) (by decide +kernel)) rfl
theorem q_209 : Cond.fieldLink RX5 21 "ShadowAlms$Scene" "gift" "[I" ∈ lw_gd := mem_gd (List.mem_of_getElem? (i := 209) (by decide +kernel)) rfl
theorem q_210 : Cond.fieldLink RX7 237 "ShadowAlms$Scene" "gift" "[I" ∈ lw_gd := mem_gd (List.mem_of_getElem? (i := 210) (by decide +kernel)) rfl
theorem q_211 : Cond.fieldLink RX5 24 "ShadowAlms$Scene" "onSpot" "[I" ∈ lw_gd := mem_gd (List.mem_of_getElem? (i := 211) (by decide +kernel)) rfl
theorem q_212 : Cond.fieldLink RX0 36 "ShadowAlms$Scene" "onSpot" "[I" ∈ lw_gd := mem_gd (List.mem_of_getElem? (i := 212) (by decide +kernel)) rfl
theorem q_213 : Cond.fieldLink RX1 50 "ShadowAlms$Scene" "onSpot" "[I" ∈ lw_gd := mem_gd (List.mem_of_getElem? (i := 213) (by decide +kernel)) rfl
theorem q_214 : Cond.fieldLink RX7 198 "ShadowAlms$Scene" "onSpot" "[I" ∈ lw_gd := mem_gd (List.mem_of_getElem? (i := 214) (by decide +kernel)) rfl
theorem q_240 : Cond.fieldLink RX1 15 "ShadowAlms$PlaceSearch" "plan" "LShadowAlms$Plan;" ∈ lw_gd := mem_gd (List.mem_of_getElem? (i := 240) (by decide +kernel)) rfl
theorem q_241 : Cond.fieldLink RX1 19 "ShadowAlms$PlaceSearch" "scene" "LShadowAlms$Scene;" ∈ lw_gd := mem_gd (List.mem_of_getElem? (i := 241) (by decide +kernel)) rfl
theorem q_242 : Cond.fieldLink RX1 23 "ShadowAlms$PlaceSearch" "forWhom" "I" ∈ lw_gd := mem_gd (List.mem_of_getElem? (i := 242) (by decide +kernel)) rfl
theorem q_243 : Cond.fieldLink RX1 27 "ShadowAlms$PlaceSearch" "any" "Z" ∈ lw_gd := mem_gd (List.mem_of_getElem? (i := 243) (by decide +kernel)) rfl
theorem q_244 : Cond.fieldLink RX1 65 "ShadowAlms$PlaceSearch" "most" "I" ∈ lw_gd := mem_gd (List.mem_of_getElem? (i := 244) (by decide +kernel)) rfl
theorem q_245 : Cond.fieldLink RX7 182 "ShadowAlms$PlaceSearch" "most" "I" ∈ lw_gd := mem_gd (List.mem_of_getElem? (i := 245) (by decide +kernel)) rfl
theorem q_246 : Cond.fieldLink RX1 9 "ShadowAlms$PlaceSearch" "found" "[I" ∈ lw_gd := mem_gd (List.mem_of_getElem? (i := 246) (by decide +kernel)) rfl
theorem q_247 : Cond.fieldLink RX7 185 "ShadowAlms$PlaceSearch" "found" "[I" ∈ lw_gd := mem_gd (List.mem_of_getElem? (i := 247) (by decide +kernel)) rfl
theorem q_267 : Cond.fieldLink RX0 18 "ShadowAlms$HatSearch" "plan" "LShadowAlms$Plan;" ∈ lw_gd := mem_gd (List.mem_of_getElem? (i := 267) (by decide +kernel)) rfl
theorem q_268 : Cond.fieldLink RX0 22 "ShadowAlms$HatSearch" "scene" "LShadowAlms$Scene;" ∈ lw_gd := mem_gd (List.mem_of_getElem? (i := 268) (by decide +kernel)) rfl
theorem q_269 : Cond.fieldLink RX0 9 "ShadowAlms$HatSearch" "trial" "[I" ∈ lw_gd := mem_gd (List.mem_of_getElem? (i := 269) (by decide +kernel)) rfl
theorem q_270 : Cond.fieldLink RX0 26 "ShadowAlms$HatSearch" "any" "Z" ∈ lw_gd := mem_gd (List.mem_of_getElem? (i := 270) (by decide +kernel)) rfl
theorem q_271 : Cond.fieldLink RX0 61 "ShadowAlms$HatSearch" "most" "I" ∈ lw_gd := mem_gd (List.mem_of_getElem? (i := 271) (by decide +kernel)) rfl
theorem q_272 : Cond.fieldLink RX7 190 "ShadowAlms$HatSearch" "most" "I" ∈ lw_gd := mem_gd (List.mem_of_getElem? (i := 272) (by decide +kernel)) rfl
theorem q_273 : Cond.fieldLink RX0 15 "ShadowAlms$HatSearch" "found" "[I" ∈ lw_gd := mem_gd (List.mem_of_getElem? (i := 273) (by decide +kernel)) rfl
theorem q_274 : Cond.fieldLink RX7 191 "ShadowAlms$HatSearch" "found" "[I" ∈ lw_gd := mem_gd (List.mem_of_getElem? (i := 274) (by decide +kernel)) rfl
theorem q_288 : Cond.fieldLink RX7 10 "ShadowAlms" "plan" "LShadowAlms$Plan;" ∈ lw_gd := mem_gd (List.mem_of_getElem? (i := 288) (by decide +kernel)) rfl
theorem q_289 : Cond.fieldLink RX7 19 "ShadowAlms" "reader" "LShadowAlms$Reader;" ∈ lw_gd := mem_gd (List.mem_of_getElem? (i := 289) (by decide +kernel)) rfl
theorem q_290 : Cond.fieldLink RX7 26 "ShadowAlms" "now" "LShadowAlms$State;" ∈ lw_gd := mem_gd (List.mem_of_getElem? (i := 290) (by decide +kernel)) rfl
theorem q_291 : Cond.fieldLink RX7 30 "ShadowAlms" "images" "[LShadowAlms$State;" ∈ lw_gd := mem_gd (List.mem_of_getElem? (i := 291) (by decide +kernel)) rfl
theorem q_292 : Cond.fieldLink RX7 34 "ShadowAlms" "kept" "[Z" ∈ lw_gd := mem_gd (List.mem_of_getElem? (i := 292) (by decide +kernel)) rfl
theorem q_293 : Cond.fieldLink RX7 43 "ShadowAlms" "tales" "LShadowAlms$Rows;" ∈ lw_gd := mem_gd (List.mem_of_getElem? (i := 293) (by decide +kernel)) rfl
theorem q_294 : Cond.fieldLink RX7 47 "ShadowAlms" "book" "LShadowAlms$Rows;" ∈ lw_gd := mem_gd (List.mem_of_getElem? (i := 294) (by decide +kernel)) rfl
theorem q_295 : Cond.fieldLink RX7 55 "ShadowAlms" "scene" "LShadowAlms$Scene;" ∈ lw_gd := mem_gd (List.mem_of_getElem? (i := 295) (by decide +kernel)) rfl
theorem q_296 : Cond.fieldLink RX7 64 "ShadowAlms" "places" "LShadowAlms$PlaceSearch;" ∈ lw_gd := mem_gd (List.mem_of_getElem? (i := 296) (by decide +kernel)) rfl
theorem q_297 : Cond.fieldLink RX7 71 "ShadowAlms" "lending" "LShadowAlms$HatSearch;" ∈ lw_gd := mem_gd (List.mem_of_getElem? (i := 297) (by decide +kernel)) rfl
theorem q_320 : Cond.instanceMethod yX7_feed ∈ lw_gd := mem_gd (List.mem_of_getElem? (i := 320) (by decide +kernel)) rfl
theorem q_321 : Cond.selects RX7 yX7_feed yX7_feed ∈ lw_gd := mem_gd (List.mem_of_getElem? (i := 321) (by decide +kernel)) rfl
theorem q_322 : Cond.code yX7_feed cX7_feed 4 (some .int) ∈ lw_gd := mem_gd (List.mem_of_getElem? (i := 322) (by decide +kernel)) rfl
theorem q_323 : Cond.constant RX7 75 (-1000000002) ∈ lw_gd := mem_gd (List.mem_of_getElem? (i := 323) (by decide +kernel)) rfl
theorem q_324 : Cond.constant RX7 80 (-1000000004) ∈ lw_gd := mem_gd (List.mem_of_getElem? (i := 324) (by decide +kernel)) rfl
theorem q_325 : Cond.methodLink RX7 81 yX3_take ∈ lw_gd := mem_gd (List.mem_of_getElem? (i := 325) (by decide +kernel)) rfl
theorem q_326 : Cond.instanceMethod yX3_take ∈ lw_gd := mem_gd (List.mem_of_getElem? (i := 326) (by decide +kernel)) rfl
theorem q_327 : Cond.selects RX3 yX3_take yX3_take ∈ lw_gd := mem_gd (List.mem_of_getElem? (i := 327) (by decide +kernel)) rfl
theorem q_328 : Cond.code yX3_take cX3_take 5 none ∈ lw_gd := mem_gd (List.mem_of_getElem? (i := 328) (by decide +kernel)) rfl
theorem q_329 : Cond.constantLong RX3 33 (255) ∈ lw_gd := mem_gd (List.mem_of_getElem? (i := 329) (by decide +kernel)) rfl
theorem q_331 : Cond.instanceMethod yX7_square ∈ lw_gd := mem_gd (List.mem_of_getElem? (i := 331) (by decide +kernel)) rfl
theorem q_332 : Cond.selects RX7 yX7_square yX7_square ∈ lw_gd := mem_gd (List.mem_of_getElem? (i := 332) (by decide +kernel)) rfl
theorem q_333 : Cond.code yX7_square cX7_square 1 (some .int) ∈ lw_gd := mem_gd (List.mem_of_getElem? (i := 333) (by decide +kernel)) rfl
theorem q_334 : Cond.methodLink RX7 85 yX3_read ∈ lw_gd := mem_gd (List.mem_of_getElem? (i := 334) (by decide +kernel)) rfl
theorem q_335 : Cond.instanceMethod yX3_read ∈ lw_gd := mem_gd (List.mem_of_getElem? (i := 335) (by decide +kernel)) rfl
theorem q_336 : Cond.selects RX3 yX3_read yX3_read ∈ lw_gd := mem_gd (List.mem_of_getElem? (i := 336) (by decide +kernel)) rfl
theorem q_337 : Cond.code yX3_read cX3_read 2 none ∈ lw_gd := mem_gd (List.mem_of_getElem? (i := 337) (by decide +kernel)) rfl
theorem q_338 : Cond.methodLink RX3 35 yX2_clear ∈ lw_gd := mem_gd (List.mem_of_getElem? (i := 338) (by decide +kernel)) rfl
theorem q_339 : Cond.instanceMethod yX2_clear ∈ lw_gd := mem_gd (List.mem_of_getElem? (i := 339) (by decide +kernel)) rfl
theorem q_340 : Cond.selects RX2 yX2_clear yX2_clear ∈ lw_gd := mem_gd (List.mem_of_getElem? (i := 340) (by decide +kernel)) rfl
theorem q_341 : Cond.code yX2_clear cX2_clear 1 none ∈ lw_gd := mem_gd (List.mem_of_getElem? (i := 341) (by decide +kernel)) rfl
theorem q_342 : Cond.methodLink RX2 18 yJ7_fill_53178 ∈ lw_gd := mem_gd (List.mem_of_getElem? (i := 342) (by decide +kernel)) rfl
theorem q_343 : Cond.methodLink RX3 44 yX3_skipBlanks ∈ lw_gd := mem_gd (List.mem_of_getElem? (i := 343) (by decide +kernel)) rfl
theorem q_345 : Cond.instanceMethod yX3_skipBlanks ∈ lw_gd := mem_gd (List.mem_of_getElem? (i := 345) (by decide +kernel)) rfl
theorem q_346 : Cond.code yX3_skipBlanks cX3_skipBlanks 1 none ∈ lw_gd := mem_gd (List.mem_of_getElem? (i := 346) (by decide +kernel)) rfl
theorem q_347 : Cond.methodLink RX3 47 yX3_readClause ∈ lw_gd := mem_gd (List.mem_of_getElem? (i := 347) (by decide +kernel)) rfl
theorem q_349 : Cond.instanceMethod yX3_readClause ∈ lw_gd := mem_gd (List.mem_of_getElem? (i := 349) (by decide +kernel)) rfl
theorem q_350 : Cond.code yX3_readClause cX3_readClause 6 none ∈ lw_gd := mem_gd (List.mem_of_getElem? (i := 350) (by decide +kernel)) rfl
theorem q_351 : Cond.methodLink RX3 50 yX3_skipLetters ∈ lw_gd := mem_gd (List.mem_of_getElem? (i := 351) (by decide +kernel)) rfl
theorem q_353 : Cond.instanceMethod yX3_skipLetters ∈ lw_gd := mem_gd (List.mem_of_getElem? (i := 353) (by decide +kernel)) rfl
theorem q_354 : Cond.code yX3_skipLetters cX3_skipLetters 1 none ∈ lw_gd := mem_gd (List.mem_of_getElem? (i := 354) (by decide +kernel)) rfl
theorem q_355 : Cond.methodLink RX3 53 yX3_kindOfWord ∈ lw_gd := mem_gd (List.mem_of_getElem? (i := 355) (by decide +kernel)) rfl
theorem q_357 : Cond.instanceMethod yX3_kindOfWord ∈ lw_gd := mem_gd (List.mem_of_getElem? (i := 357) (by decide +kernel)) rfl
theorem q_358 : Cond.code yX3_kindOfWord cX3_kindOfWord 4 (some .int) ∈ lw_gd := mem_gd (List.mem_of_getElem? (i := 358) (by decide +kernel)) rfl
theorem q_359 : Cond.methodLink RX3 94 yX3_wordOf ∈ lw_gd := mem_gd (List.mem_of_getElem? (i := 359) (by decide +kernel)) rfl
theorem q_360 : Cond.static yX3_wordOf ∈ lw_gd := mem_gd (List.mem_of_getElem? (i := 360) (by decide +kernel)) rfl
theorem q_361 : Cond.code yX3_wordOf cX3_wordOf 1 (some (.object "java/lang/String")) ∈ lw_gd := mem_gd (List.mem_of_getElem? (i := 361) (by decide +kernel)) rfl
theorem q_367 : Cond.methodLink RX3 98 yX3_isWord ∈ lw_gd := mem_gd (List.mem_of_getElem? (i := 367) (by decide +kernel)) rfl
theorem q_369 : Cond.instanceMethod yX3_isWord ∈ lw_gd := mem_gd (List.mem_of_getElem? (i := 369) (by decide +kernel)) rfl
theorem q_370 : Cond.code yX3_isWord cX3_isWord 5 (some .boolean) ∈ lw_gd := mem_gd (List.mem_of_getElem? (i := 370) (by decide +kernel)) rfl
theorem q_371 : Cond.methodLink RX3 102 yJ0_length_8abf5 ∈ lw_gd := mem_gd (List.mem_of_getElem? (i := 371) (by decide +kernel)) rfl
theorem q_372 : Cond.instanceMethod yJ0_length_8abf5 ∈ lw_gd := mem_gd (List.mem_of_getElem? (i := 372) (by decide +kernel)) rfl
theorem q_373 : Cond.selects RJ0 yJ0_length_8abf5 yJ0_length_8abf5 ∈ lw_gd := mem_gd (List.mem_of_getElem? (i := 373) (by decide +kernel)) rfl
theorem q_374 : Cond.code yJ0_length_8abf5 cJ0_length_8abf5 1 (some .int) ∈ lw_gd := mem_gd (List.mem_of_getElem? (i := 374) (by decide +kernel)) rfl
theorem q_375 : Cond.methodLink RJ0 335 yJ0_coder_7d493 ∈ lw_gd := mem_gd (List.mem_of_getElem? (i := 375) (by decide +kernel)) rfl
theorem q_376 : Cond.instanceMethod yJ0_coder_7d493 ∈ lw_gd := mem_gd (List.mem_of_getElem? (i := 376) (by decide +kernel)) rfl
theorem q_377 : Cond.selects RJ0 yJ0_coder_7d493 yJ0_coder_7d493 ∈ lw_gd := mem_gd (List.mem_of_getElem? (i := 377) (by decide +kernel)) rfl
theorem q_378 : Cond.code yJ0_coder_7d493 cJ0_coder_7d493 1 (some .byte) ∈ lw_gd := mem_gd (List.mem_of_getElem? (i := 378) (by decide +kernel)) rfl
theorem q_379 : Cond.fieldLink RJ0 38 "java/lang/String" "COMPACT_STRINGS" "Z" ∈ lw_gd := mem_gd (List.mem_of_getElem? (i := 379) (by decide +kernel)) rfl
theorem q_381 : Cond.methodLink RX3 107 yJ0_charAt_5068e ∈ lw_gd := mem_gd (List.mem_of_getElem? (i := 381) (by decide +kernel)) rfl
theorem q_382 : Cond.instanceMethod yJ0_charAt_5068e ∈ lw_gd := mem_gd (List.mem_of_getElem? (i := 382) (by decide +kernel)) rfl
theorem q_383 : Cond.selects RJ0 yJ0_charAt_5068e yJ0_charAt_5068e ∈ lw_gd := mem_gd (List.mem_of_getElem? (i := 383) (by decide +kernel)) rfl
theorem q_384 : Cond.code yJ0_charAt_5068e cJ0_charAt_5068e 2 (some .char) ∈ lw_gd := mem_gd (List.mem_of_getElem? (i := 384) (by decide +kernel)) rfl
theorem q_385 : Cond.methodLink RJ0 492 yJ0_isLatin1_aae02 ∈ lw_gd := mem_gd (List.mem_of_getElem? (i := 385) (by decide +kernel)) rfl
theorem q_386 : Cond.instanceMethod yJ0_isLatin1_aae02 ∈ lw_gd := mem_gd (List.mem_of_getElem? (i := 386) (by decide +kernel)) rfl
theorem q_387 : Cond.selects RJ0 yJ0_isLatin1_aae02 yJ0_isLatin1_aae02 ∈ lw_gd := mem_gd (List.mem_of_getElem? (i := 387) (by decide +kernel)) rfl
theorem q_388 : Cond.code yJ0_isLatin1_aae02 cJ0_isLatin1_aae02 1 (some .boolean) ∈ lw_gd := mem_gd (List.mem_of_getElem? (i := 388) (by decide +kernel)) rfl
theorem q_389 : Cond.methodLink RJ0 495 yJ1_charAt_3b067 ∈ lw_gd := mem_gd (List.mem_of_getElem? (i := 389) (by decide +kernel)) rfl
theorem q_390 : Cond.static yJ1_charAt_3b067 ∈ lw_gd := mem_gd (List.mem_of_getElem? (i := 390) (by decide +kernel)) rfl
theorem q_391 : Cond.code yJ1_charAt_3b067 cJ1_charAt_3b067 2 (some .char) ∈ lw_gd := mem_gd (List.mem_of_getElem? (i := 391) (by decide +kernel)) rfl
theorem q_392 : Cond.methodLink RJ1 9 yJ0_checkIndex_df160 ∈ lw_gd := mem_gd (List.mem_of_getElem? (i := 392) (by decide +kernel)) rfl
theorem q_393 : Cond.static yJ0_checkIndex_df160 ∈ lw_gd := mem_gd (List.mem_of_getElem? (i := 393) (by decide +kernel)) rfl
theorem q_394 : Cond.code yJ0_checkIndex_df160 cJ0_checkIndex_df160 2 none ∈ lw_gd := mem_gd (List.mem_of_getElem? (i := 394) (by decide +kernel)) rfl
theorem q_395 : Cond.fieldLink RJ0 1053 "jdk/internal/util/Preconditions" "SIOOBE_FORMATTER" "Ljava/util/function/BiFunction;" ∈ lw_gd := mem_gd (List.mem_of_getElem? (i := 395) (by decide +kernel)) rfl
theorem q_397 : Cond.methodLink RJ0 1059 yJ3_checkIndex_8e157 ∈ lw_gd := mem_gd (List.mem_of_getElem? (i := 397) (by decide +kernel)) rfl
theorem q_398 : Cond.static yJ3_checkIndex_8e157 ∈ lw_gd := mem_gd (List.mem_of_getElem? (i := 398) (by decide +kernel)) rfl
theorem q_399 : Cond.code yJ3_checkIndex_8e157 cJ3_checkIndex_8e157 3 (some .int) ∈ lw_gd := mem_gd (List.mem_of_getElem? (i := 399) (by decide +kernel)) rfl
theorem q_419 : Cond.methodLink RX3 57 yX3_faultOfKind ∈ lw_gd := mem_gd (List.mem_of_getElem? (i := 419) (by decide +kernel)) rfl
theorem q_421 : Cond.instanceMethod yX3_faultOfKind ∈ lw_gd := mem_gd (List.mem_of_getElem? (i := 421) (by decide +kernel)) rfl
theorem q_422 : Cond.code yX3_faultOfKind cX3_faultOfKind 2 (some .int) ∈ lw_gd := mem_gd (List.mem_of_getElem? (i := 422) (by decide +kernel)) rfl
theorem q_423 : Cond.methodLink RX3 84 yX2_hasMoreThanYear ∈ lw_gd := mem_gd (List.mem_of_getElem? (i := 423) (by decide +kernel)) rfl
theorem q_424 : Cond.instanceMethod yX2_hasMoreThanYear ∈ lw_gd := mem_gd (List.mem_of_getElem? (i := 424) (by decide +kernel)) rfl
theorem q_425 : Cond.selects RX2 yX2_hasMoreThanYear yX2_hasMoreThanYear ∈ lw_gd := mem_gd (List.mem_of_getElem? (i := 425) (by decide +kernel)) rfl
theorem q_426 : Cond.code yX2_hasMoreThanYear cX2_hasMoreThanYear 1 (some .boolean) ∈ lw_gd := mem_gd (List.mem_of_getElem? (i := 426) (by decide +kernel)) rfl
theorem q_427 : Cond.methodLink RX3 88 yX2_count ∈ lw_gd := mem_gd (List.mem_of_getElem? (i := 427) (by decide +kernel)) rfl
theorem q_428 : Cond.instanceMethod yX2_count ∈ lw_gd := mem_gd (List.mem_of_getElem? (i := 428) (by decide +kernel)) rfl
theorem q_429 : Cond.selects RX2 yX2_count yX2_count ∈ lw_gd := mem_gd (List.mem_of_getElem? (i := 429) (by decide +kernel)) rfl
theorem q_430 : Cond.code yX2_count cX2_count 2 (some .int) ∈ lw_gd := mem_gd (List.mem_of_getElem? (i := 430) (by decide +kernel)) rfl
theorem q_433 : Cond.methodLink RX3 61 yX3_noteFault ∈ lw_gd := mem_gd (List.mem_of_getElem? (i := 433) (by decide +kernel)) rfl
theorem q_435 : Cond.instanceMethod yX3_noteFault ∈ lw_gd := mem_gd (List.mem_of_getElem? (i := 435) (by decide +kernel)) rfl
theorem q_436 : Cond.code yX3_noteFault cX3_noteFault 3 none ∈ lw_gd := mem_gd (List.mem_of_getElem? (i := 436) (by decide +kernel)) rfl
theorem q_443 : Cond.methodLink RX3 74 yX3_readNumber ∈ lw_gd := mem_gd (List.mem_of_getElem? (i := 443) (by decide +kernel)) rfl
theorem q_445 : Cond.instanceMethod yX3_readNumber ∈ lw_gd := mem_gd (List.mem_of_getElem? (i := 445) (by decide +kernel)) rfl
theorem q_446 : Cond.code yX3_readNumber cX3_readNumber 5 (some .int) ∈ lw_gd := mem_gd (List.mem_of_getElem? (i := 446) (by decide +kernel)) rfl
theorem q_447 : Cond.methodLink RX3 77 yX3_readEndOfClause ∈ lw_gd := mem_gd (List.mem_of_getElem? (i := 447) (by decide +kernel)) rfl
theorem q_449 : Cond.instanceMethod yX3_readEndOfClause ∈ lw_gd := mem_gd (List.mem_of_getElem? (i := 449) (by decide +kernel)) rfl
theorem q_450 : Cond.code yX3_readEndOfClause cX3_readEndOfClause 1 none ∈ lw_gd := mem_gd (List.mem_of_getElem? (i := 450) (by decide +kernel)) rfl
theorem q_451 : Cond.methodLink RX3 80 yX2_add ∈ lw_gd := mem_gd (List.mem_of_getElem? (i := 451) (by decide +kernel)) rfl
theorem q_452 : Cond.instanceMethod yX2_add ∈ lw_gd := mem_gd (List.mem_of_getElem? (i := 452) (by decide +kernel)) rfl
theorem q_453 : Cond.selects RX2 yX2_add yX2_add ∈ lw_gd := mem_gd (List.mem_of_getElem? (i := 453) (by decide +kernel)) rfl
theorem q_454 : Cond.code yX2_add cX2_add 4 none ∈ lw_gd := mem_gd (List.mem_of_getElem? (i := 454) (by decide +kernel)) rfl
theorem q_456 : Cond.methodLink RX2 24 arraycopyName ∈ lw_gd := mem_gd (List.mem_of_getElem? (i := 456) (by decide +kernel)) rfl
theorem q_457 : Cond.static arraycopyName ∈ lw_gd := mem_gd (List.mem_of_getElem? (i := 457) (by decide +kernel)) rfl
theorem q_458 : Cond.native arraycopyName ∈ lw_gd := mem_gd (List.mem_of_getElem? (i := 458) (by decide +kernel)) rfl
theorem q_459 : Cond.methodLink RX7 94 yX2_become ∈ lw_gd := mem_gd (List.mem_of_getElem? (i := 459) (by decide +kernel)) rfl
theorem q_460 : Cond.instanceMethod yX2_become ∈ lw_gd := mem_gd (List.mem_of_getElem? (i := 460) (by decide +kernel)) rfl
theorem q_461 : Cond.selects RX2 yX2_become yX2_become ∈ lw_gd := mem_gd (List.mem_of_getElem? (i := 461) (by decide +kernel)) rfl
theorem q_462 : Cond.code yX2_become cX2_become 2 none ∈ lw_gd := mem_gd (List.mem_of_getElem? (i := 462) (by decide +kernel)) rfl
theorem q_463 : Cond.methodLink RX7 97 yX6_startAnew ∈ lw_gd := mem_gd (List.mem_of_getElem? (i := 463) (by decide +kernel)) rfl
theorem q_464 : Cond.methodLink RX7 103 yX2_count ∈ lw_gd := mem_gd (List.mem_of_getElem? (i := 464) (by decide +kernel)) rfl
theorem q_467 : Cond.instanceMethod yX7_fault ∈ lw_gd := mem_gd (List.mem_of_getElem? (i := 467) (by decide +kernel)) rfl
theorem q_468 : Cond.selects RX7 yX7_fault yX7_fault ∈ lw_gd := mem_gd (List.mem_of_getElem? (i := 468) (by decide +kernel)) rfl
theorem q_469 : Cond.code yX7_fault cX7_fault 1 (some .int) ∈ lw_gd := mem_gd (List.mem_of_getElem? (i := 469) (by decide +kernel)) rfl
theorem q_471 : Cond.instanceMethod yX7_told ∈ lw_gd := mem_gd (List.mem_of_getElem? (i := 471) (by decide +kernel)) rfl
theorem q_472 : Cond.selects RX7 yX7_told yX7_told ∈ lw_gd := mem_gd (List.mem_of_getElem? (i := 472) (by decide +kernel)) rfl
theorem q_473 : Cond.code yX7_told cX7_told 2 (some .int) ∈ lw_gd := mem_gd (List.mem_of_getElem? (i := 473) (by decide +kernel)) rfl
theorem q_474 : Cond.methodLink RX7 109 yX2_days ∈ lw_gd := mem_gd (List.mem_of_getElem? (i := 474) (by decide +kernel)) rfl
theorem q_475 : Cond.instanceMethod yX2_days ∈ lw_gd := mem_gd (List.mem_of_getElem? (i := 475) (by decide +kernel)) rfl
theorem q_476 : Cond.selects RX2 yX2_days yX2_days ∈ lw_gd := mem_gd (List.mem_of_getElem? (i := 476) (by decide +kernel)) rfl
theorem q_477 : Cond.code yX2_days cX2_days 1 (some .int) ∈ lw_gd := mem_gd (List.mem_of_getElem? (i := 477) (by decide +kernel)) rfl
theorem q_478 : Cond.methodLink RX2 33 yX2_number ∈ lw_gd := mem_gd (List.mem_of_getElem? (i := 478) (by decide +kernel)) rfl
theorem q_479 : Cond.instanceMethod yX2_number ∈ lw_gd := mem_gd (List.mem_of_getElem? (i := 479) (by decide +kernel)) rfl
theorem q_480 : Cond.selects RX2 yX2_number yX2_number ∈ lw_gd := mem_gd (List.mem_of_getElem? (i := 480) (by decide +kernel)) rfl
theorem q_481 : Cond.code yX2_number cX2_number 4 (some .int) ∈ lw_gd := mem_gd (List.mem_of_getElem? (i := 481) (by decide +kernel)) rfl
theorem q_482 : Cond.methodLink RX2 37 Lib.Math.max.name ∈ lw_gd := mem_gd (List.mem_of_getElem? (i := 482) (by decide +kernel)) rfl
theorem q_483 : Cond.static Lib.Math.max.name ∈ lw_gd := mem_gd (List.mem_of_getElem? (i := 483) (by decide +kernel)) rfl
theorem q_484 : Cond.code Lib.Math.max.name Lib.Math.max.code 2 (some .int) ∈ lw_gd := mem_gd (List.mem_of_getElem? (i := 484) (by decide +kernel)) rfl
theorem q_486 : Cond.instanceMethod yX7_bell ∈ lw_gd := mem_gd (List.mem_of_getElem? (i := 486) (by decide +kernel)) rfl
theorem q_487 : Cond.selects RX7 yX7_bell yX7_bell ∈ lw_gd := mem_gd (List.mem_of_getElem? (i := 487) (by decide +kernel)) rfl
theorem q_488 : Cond.code yX7_bell cX7_bell 3 (some .int) ∈ lw_gd := mem_gd (List.mem_of_getElem? (i := 488) (by decide +kernel)) rfl
theorem q_489 : Cond.methodLink RX7 122 yX2_has ∈ lw_gd := mem_gd (List.mem_of_getElem? (i := 489) (by decide +kernel)) rfl
theorem q_490 : Cond.instanceMethod yX2_has ∈ lw_gd := mem_gd (List.mem_of_getElem? (i := 490) (by decide +kernel)) rfl
theorem q_491 : Cond.selects RX2 yX2_has yX2_has ∈ lw_gd := mem_gd (List.mem_of_getElem? (i := 491) (by decide +kernel)) rfl
theorem q_492 : Cond.code yX2_has cX2_has 3 (some .boolean) ∈ lw_gd := mem_gd (List.mem_of_getElem? (i := 492) (by decide +kernel)) rfl
theorem q_493 : Cond.constant RX7 126 (-1000000001) ∈ lw_gd := mem_gd (List.mem_of_getElem? (i := 493) (by decide +kernel)) rfl
theorem q_494 : Cond.constant RX7 127 (99999) ∈ lw_gd := mem_gd (List.mem_of_getElem? (i := 494) (by decide +kernel)) rfl
theorem q_495 : Cond.methodLink RX7 128 yX2_longOf ∈ lw_gd := mem_gd (List.mem_of_getElem? (i := 495) (by decide +kernel)) rfl
theorem q_496 : Cond.instanceMethod yX2_longOf ∈ lw_gd := mem_gd (List.mem_of_getElem? (i := 496) (by decide +kernel)) rfl
theorem q_497 : Cond.selects RX2 yX2_longOf yX2_longOf ∈ lw_gd := mem_gd (List.mem_of_getElem? (i := 497) (by decide +kernel)) rfl
theorem q_498 : Cond.code yX2_longOf cX2_longOf 6 (some .int) ∈ lw_gd := mem_gd (List.mem_of_getElem? (i := 498) (by decide +kernel)) rfl
theorem q_499 : Cond.methodLink RX2 43 yX2_days ∈ lw_gd := mem_gd (List.mem_of_getElem? (i := 499) (by decide +kernel)) rfl
theorem q_500 : Cond.methodLink RX2 47 Lib.Math.min.name ∈ lw_gd := mem_gd (List.mem_of_getElem? (i := 500) (by decide +kernel)) rfl
theorem q_501 : Cond.static Lib.Math.min.name ∈ lw_gd := mem_gd (List.mem_of_getElem? (i := 501) (by decide +kernel)) rfl
theorem q_502 : Cond.code Lib.Math.min.name Lib.Math.min.code 2 (some .int) ∈ lw_gd := mem_gd (List.mem_of_getElem? (i := 502) (by decide +kernel)) rfl
theorem q_504 : Cond.instanceMethod yX7_spot ∈ lw_gd := mem_gd (List.mem_of_getElem? (i := 504) (by decide +kernel)) rfl
theorem q_505 : Cond.selects RX7 yX7_spot yX7_spot ∈ lw_gd := mem_gd (List.mem_of_getElem? (i := 505) (by decide +kernel)) rfl
theorem q_506 : Cond.code yX7_spot cX7_spot 3 (some .int) ∈ lw_gd := mem_gd (List.mem_of_getElem? (i := 506) (by decide +kernel)) rfl
theorem q_507 : Cond.methodLink RX7 132 yX6_whoIsOn ∈ lw_gd := mem_gd (List.mem_of_getElem? (i := 507) (by decide +kernel)) rfl
theorem q_508 : Cond.instanceMethod yX6_whoIsOn ∈ lw_gd := mem_gd (List.mem_of_getElem? (i := 508) (by decide +kernel)) rfl
theorem q_509 : Cond.selects RX6 yX6_whoIsOn yX6_whoIsOn ∈ lw_gd := mem_gd (List.mem_of_getElem? (i := 509) (by decide +kernel)) rfl
theorem q_510 : Cond.code yX6_whoIsOn cX6_whoIsOn 3 (some .int) ∈ lw_gd := mem_gd (List.mem_of_getElem? (i := 510) (by decide +kernel)) rfl
theorem q_511 : Cond.methodLink RX7 135 yX2_number ∈ lw_gd := mem_gd (List.mem_of_getElem? (i := 511) (by decide +kernel)) rfl
theorem q_513 : Cond.instanceMethod yX7_beggar ∈ lw_gd := mem_gd (List.mem_of_getElem? (i := 513) (by decide +kernel)) rfl
theorem q_514 : Cond.selects RX7 yX7_beggar yX7_beggar ∈ lw_gd := mem_gd (List.mem_of_getElem? (i := 514) (by decide +kernel)) rfl
theorem q_515 : Cond.code yX7_beggar cX7_beggar 3 (some .int) ∈ lw_gd := mem_gd (List.mem_of_getElem? (i := 515) (by decide +kernel)) rfl
theorem q_516 : Cond.methodLink RX7 143 yX6_hatOf ∈ lw_gd := mem_gd (List.mem_of_getElem? (i := 516) (by decide +kernel)) rfl
theorem q_517 : Cond.instanceMethod yX6_hatOf ∈ lw_gd := mem_gd (List.mem_of_getElem? (i := 517) (by decide +kernel)) rfl
theorem q_518 : Cond.selects RX6 yX6_hatOf yX6_hatOf ∈ lw_gd := mem_gd (List.mem_of_getElem? (i := 518) (by decide +kernel)) rfl
theorem q_519 : Cond.code yX6_hatOf cX6_hatOf 3 (some .int) ∈ lw_gd := mem_gd (List.mem_of_getElem? (i := 519) (by decide +kernel)) rfl
theorem q_520 : Cond.methodLink RX7 146 yX7_tallOf ∈ lw_gd := mem_gd (List.mem_of_getElem? (i := 520) (by decide +kernel)) rfl
theorem q_522 : Cond.instanceMethod yX7_tallOf ∈ lw_gd := mem_gd (List.mem_of_getElem? (i := 522) (by decide +kernel)) rfl
theorem q_523 : Cond.code yX7_tallOf cX7_tallOf 5 (some .int) ∈ lw_gd := mem_gd (List.mem_of_getElem? (i := 523) (by decide +kernel)) rfl
theorem q_525 : Cond.instanceMethod yX7_hat ∈ lw_gd := mem_gd (List.mem_of_getElem? (i := 525) (by decide +kernel)) rfl
theorem q_526 : Cond.selects RX7 yX7_hat yX7_hat ∈ lw_gd := mem_gd (List.mem_of_getElem? (i := 526) (by decide +kernel)) rfl
theorem q_527 : Cond.code yX7_hat cX7_hat 3 (some .int) ∈ lw_gd := mem_gd (List.mem_of_getElem? (i := 527) (by decide +kernel)) rfl
theorem q_529 : Cond.instanceMethod yX7_shadow ∈ lw_gd := mem_gd (List.mem_of_getElem? (i := 529) (by decide +kernel)) rfl
theorem q_530 : Cond.selects RX7 yX7_shadow yX7_shadow ∈ lw_gd := mem_gd (List.mem_of_getElem? (i := 530) (by decide +kernel)) rfl
theorem q_531 : Cond.code yX7_shadow cX7_shadow 4 (some .int) ∈ lw_gd := mem_gd (List.mem_of_getElem? (i := 531) (by decide +kernel)) rfl
theorem q_532 : Cond.methodLink RX7 155 yX7_showAt ∈ lw_gd := mem_gd (List.mem_of_getElem? (i := 532) (by decide +kernel)) rfl
theorem q_534 : Cond.instanceMethod yX7_showAt ∈ lw_gd := mem_gd (List.mem_of_getElem? (i := 534) (by decide +kernel)) rfl
theorem q_535 : Cond.code yX7_showAt cX7_showAt 3 none ∈ lw_gd := mem_gd (List.mem_of_getElem? (i := 535) (by decide +kernel)) rfl
theorem q_536 : Cond.methodLink RX7 172 yX5_dress ∈ lw_gd := mem_gd (List.mem_of_getElem? (i := 536) (by decide +kernel)) rfl
theorem q_537 : Cond.instanceMethod yX5_dress ∈ lw_gd := mem_gd (List.mem_of_getElem? (i := 537) (by decide +kernel)) rfl
theorem q_538 : Cond.selects RX5 yX5_dress yX5_dress ∈ lw_gd := mem_gd (List.mem_of_getElem? (i := 538) (by decide +kernel)) rfl
theorem q_539 : Cond.code yX5_dress cX5_dress 4 none ∈ lw_gd := mem_gd (List.mem_of_getElem? (i := 539) (by decide +kernel)) rfl
theorem q_540 : Cond.methodLink RX5 31 yX2_count ∈ lw_gd := mem_gd (List.mem_of_getElem? (i := 540) (by decide +kernel)) rfl
theorem q_541 : Cond.methodLink RX5 41 yJ7_fill_53178 ∈ lw_gd := mem_gd (List.mem_of_getElem? (i := 541) (by decide +kernel)) rfl
theorem q_542 : Cond.methodLink RX5 47 yX2_number ∈ lw_gd := mem_gd (List.mem_of_getElem? (i := 542) (by decide +kernel)) rfl
theorem q_543 : Cond.methodLink RX5 56 yX2_has ∈ lw_gd := mem_gd (List.mem_of_getElem? (i := 543) (by decide +kernel)) rfl
theorem q_544 : Cond.methodLink RX5 63 yX5_putHat ∈ lw_gd := mem_gd (List.mem_of_getElem? (i := 544) (by decide +kernel)) rfl
theorem q_545 : Cond.instanceMethod yX5_putHat ∈ lw_gd := mem_gd (List.mem_of_getElem? (i := 545) (by decide +kernel)) rfl
theorem q_546 : Cond.selects RX5 yX5_putHat yX5_putHat ∈ lw_gd := mem_gd (List.mem_of_getElem? (i := 546) (by decide +kernel)) rfl
theorem q_547 : Cond.code yX5_putHat cX5_putHat 3 none ∈ lw_gd := mem_gd (List.mem_of_getElem? (i := 547) (by decide +kernel)) rfl
theorem q_548 : Cond.methodLink RX7 176 yX5_light ∈ lw_gd := mem_gd (List.mem_of_getElem? (i := 548) (by decide +kernel)) rfl
theorem q_549 : Cond.instanceMethod yX5_light ∈ lw_gd := mem_gd (List.mem_of_getElem? (i := 549) (by decide +kernel)) rfl
theorem q_550 : Cond.selects RX5 yX5_light yX5_light ∈ lw_gd := mem_gd (List.mem_of_getElem? (i := 550) (by decide +kernel)) rfl
theorem q_551 : Cond.code yX5_light cX5_light 3 none ∈ lw_gd := mem_gd (List.mem_of_getElem? (i := 551) (by decide +kernel)) rfl
theorem q_552 : Cond.methodLink RX7 201 yX5_cast ∈ lw_gd := mem_gd (List.mem_of_getElem? (i := 552) (by decide +kernel)) rfl
theorem q_553 : Cond.instanceMethod yX5_cast ∈ lw_gd := mem_gd (List.mem_of_getElem? (i := 553) (by decide +kernel)) rfl
theorem q_554 : Cond.selects RX5 yX5_cast yX5_cast ∈ lw_gd := mem_gd (List.mem_of_getElem? (i := 554) (by decide +kernel)) rfl
theorem q_555 : Cond.code yX5_cast cX5_cast 2 none ∈ lw_gd := mem_gd (List.mem_of_getElem? (i := 555) (by decide +kernel)) rfl
theorem q_556 : Cond.methodLink RX5 73 yX5_castShades ∈ lw_gd := mem_gd (List.mem_of_getElem? (i := 556) (by decide +kernel)) rfl
theorem q_558 : Cond.instanceMethod yX5_castShades ∈ lw_gd := mem_gd (List.mem_of_getElem? (i := 558) (by decide +kernel)) rfl
theorem q_559 : Cond.code yX5_castShades cX5_castShades 5 none ∈ lw_gd := mem_gd (List.mem_of_getElem? (i := 559) (by decide +kernel)) rfl
theorem q_560 : Cond.methodLink RX5 85 yX5_isHere ∈ lw_gd := mem_gd (List.mem_of_getElem? (i := 560) (by decide +kernel)) rfl
theorem q_562 : Cond.instanceMethod yX5_isHere ∈ lw_gd := mem_gd (List.mem_of_getElem? (i := 562) (by decide +kernel)) rfl
theorem q_563 : Cond.code yX5_isHere cX5_isHere 2 (some .boolean) ∈ lw_gd := mem_gd (List.mem_of_getElem? (i := 563) (by decide +kernel)) rfl
theorem q_564 : Cond.methodLink RX5 89 yX2_shadeOn ∈ lw_gd := mem_gd (List.mem_of_getElem? (i := 564) (by decide +kernel)) rfl
theorem q_565 : Cond.instanceMethod yX2_shadeOn ∈ lw_gd := mem_gd (List.mem_of_getElem? (i := 565) (by decide +kernel)) rfl
theorem q_566 : Cond.selects RX2 yX2_shadeOn yX2_shadeOn ∈ lw_gd := mem_gd (List.mem_of_getElem? (i := 566) (by decide +kernel)) rfl
theorem q_567 : Cond.code yX2_shadeOn cX2_shadeOn 6 (some .int) ∈ lw_gd := mem_gd (List.mem_of_getElem? (i := 567) (by decide +kernel)) rfl
theorem q_568 : Cond.methodLink RX5 76 yX5_giveAllToLongest ∈ lw_gd := mem_gd (List.mem_of_getElem? (i := 568) (by decide +kernel)) rfl
theorem q_570 : Cond.instanceMethod yX5_giveAllToLongest ∈ lw_gd := mem_gd (List.mem_of_getElem? (i := 570) (by decide +kernel)) rfl
theorem q_571 : Cond.code yX5_giveAllToLongest cX5_giveAllToLongest 4 none ∈ lw_gd := mem_gd (List.mem_of_getElem? (i := 571) (by decide +kernel)) rfl
theorem q_572 : Cond.methodLink RX5 79 Lib.Math.min.name ∈ lw_gd := mem_gd (List.mem_of_getElem? (i := 572) (by decide +kernel)) rfl
theorem q_573 : Cond.methodLink RX7 162 yX5_almsOf ∈ lw_gd := mem_gd (List.mem_of_getElem? (i := 573) (by decide +kernel)) rfl
theorem q_574 : Cond.instanceMethod yX5_almsOf ∈ lw_gd := mem_gd (List.mem_of_getElem? (i := 574) (by decide +kernel)) rfl
theorem q_575 : Cond.selects RX5 yX5_almsOf yX5_almsOf ∈ lw_gd := mem_gd (List.mem_of_getElem? (i := 575) (by decide +kernel)) rfl
theorem q_576 : Cond.code yX5_almsOf cX5_almsOf 2 (some .int) ∈ lw_gd := mem_gd (List.mem_of_getElem? (i := 576) (by decide +kernel)) rfl
theorem q_578 : Cond.instanceMethod yX7_go ∈ lw_gd := mem_gd (List.mem_of_getElem? (i := 578) (by decide +kernel)) rfl
theorem q_579 : Cond.selects RX7 yX7_go yX7_go ∈ lw_gd := mem_gd (List.mem_of_getElem? (i := 579) (by decide +kernel)) rfl
theorem q_580 : Cond.code yX7_go cX7_go 5 (some .int) ∈ lw_gd := mem_gd (List.mem_of_getElem? (i := 580) (by decide +kernel)) rfl
theorem q_581 : Cond.constant RX7 165 (-1000000003) ∈ lw_gd := mem_gd (List.mem_of_getElem? (i := 581) (by decide +kernel)) rfl
theorem q_583 : Cond.instanceMethod yX7_lend ∈ lw_gd := mem_gd (List.mem_of_getElem? (i := 583) (by decide +kernel)) rfl
theorem q_584 : Cond.selects RX7 yX7_lend yX7_lend ∈ lw_gd := mem_gd (List.mem_of_getElem? (i := 584) (by decide +kernel)) rfl
theorem q_585 : Cond.code yX7_lend cX7_lend 5 (some .int) ∈ lw_gd := mem_gd (List.mem_of_getElem? (i := 585) (by decide +kernel)) rfl
theorem q_587 : Cond.instanceMethod yX7_law ∈ lw_gd := mem_gd (List.mem_of_getElem? (i := 587) (by decide +kernel)) rfl
theorem q_588 : Cond.selects RX7 yX7_law yX7_law ∈ lw_gd := mem_gd (List.mem_of_getElem? (i := 588) (by decide +kernel)) rfl
theorem q_589 : Cond.code yX7_law cX7_law 3 (some .int) ∈ lw_gd := mem_gd (List.mem_of_getElem? (i := 589) (by decide +kernel)) rfl
theorem q_591 : Cond.instanceMethod yX7_ring ∈ lw_gd := mem_gd (List.mem_of_getElem? (i := 591) (by decide +kernel)) rfl
theorem q_592 : Cond.selects RX7 yX7_ring yX7_ring ∈ lw_gd := mem_gd (List.mem_of_getElem? (i := 592) (by decide +kernel)) rfl
theorem q_593 : Cond.code yX7_ring cX7_ring 2 (some .int) ∈ lw_gd := mem_gd (List.mem_of_getElem? (i := 593) (by decide +kernel)) rfl
theorem q_594 : Cond.methodLink RX7 166 yX7_giveAt ∈ lw_gd := mem_gd (List.mem_of_getElem? (i := 594) (by decide +kernel)) rfl
theorem q_596 : Cond.instanceMethod yX7_giveAt ∈ lw_gd := mem_gd (List.mem_of_getElem? (i := 596) (by decide +kernel)) rfl
theorem q_597 : Cond.code yX7_giveAt cX7_giveAt 4 (some .int) ∈ lw_gd := mem_gd (List.mem_of_getElem? (i := 597) (by decide +kernel)) rfl
theorem q_598 : Cond.constant RX7 231 (999999999) ∈ lw_gd := mem_gd (List.mem_of_getElem? (i := 598) (by decide +kernel)) rfl
theorem q_599 : Cond.methodLink RX7 232 Lib.Math.min.name ∈ lw_gd := mem_gd (List.mem_of_getElem? (i := 599) (by decide +kernel)) rfl
theorem q_601 : Cond.instanceMethod yX7_day ∈ lw_gd := mem_gd (List.mem_of_getElem? (i := 601) (by decide +kernel)) rfl
theorem q_602 : Cond.selects RX7 yX7_day yX7_day ∈ lw_gd := mem_gd (List.mem_of_getElem? (i := 602) (by decide +kernel)) rfl
theorem q_603 : Cond.code yX7_day cX7_day 2 (some .int) ∈ lw_gd := mem_gd (List.mem_of_getElem? (i := 603) (by decide +kernel)) rfl
theorem q_605 : Cond.instanceMethod yX7_drift ∈ lw_gd := mem_gd (List.mem_of_getElem? (i := 605) (by decide +kernel)) rfl
theorem q_606 : Cond.selects RX7 yX7_drift yX7_drift ∈ lw_gd := mem_gd (List.mem_of_getElem? (i := 606) (by decide +kernel)) rfl
theorem q_607 : Cond.code yX7_drift cX7_drift 4 (some .int) ∈ lw_gd := mem_gd (List.mem_of_getElem? (i := 607) (by decide +kernel)) rfl
theorem q_608 : Cond.methodLink RX7 169 yX7_passDayByDraws ∈ lw_gd := mem_gd (List.mem_of_getElem? (i := 608) (by decide +kernel)) rfl
theorem q_610 : Cond.instanceMethod yX7_passDayByDraws ∈ lw_gd := mem_gd (List.mem_of_getElem? (i := 610) (by decide +kernel)) rfl
theorem q_611 : Cond.code yX7_passDayByDraws cX7_passDayByDraws 4 (some .int) ∈ lw_gd := mem_gd (List.mem_of_getElem? (i := 611) (by decide +kernel)) rfl
theorem q_612 : Cond.methodLink RX7 240 yX6_draw ∈ lw_gd := mem_gd (List.mem_of_getElem? (i := 612) (by decide +kernel)) rfl
theorem q_613 : Cond.instanceMethod yX6_draw ∈ lw_gd := mem_gd (List.mem_of_getElem? (i := 613) (by decide +kernel)) rfl
theorem q_614 : Cond.selects RX6 yX6_draw yX6_draw ∈ lw_gd := mem_gd (List.mem_of_getElem? (i := 614) (by decide +kernel)) rfl
theorem q_615 : Cond.code yX6_draw cX6_draw 2 (some .int) ∈ lw_gd := mem_gd (List.mem_of_getElem? (i := 615) (by decide +kernel)) rfl
theorem q_616 : Cond.constantLong RX6 49 (1103515245) ∈ lw_gd := mem_gd (List.mem_of_getElem? (i := 616) (by decide +kernel)) rfl
theorem q_617 : Cond.constantLong RX6 51 (12345) ∈ lw_gd := mem_gd (List.mem_of_getElem? (i := 617) (by decide +kernel)) rfl
theorem q_618 : Cond.constantLong RX6 53 (2147483647) ∈ lw_gd := mem_gd (List.mem_of_getElem? (i := 618) (by decide +kernel)) rfl
theorem q_619 : Cond.constant RX6 55 (65536) ∈ lw_gd := mem_gd (List.mem_of_getElem? (i := 619) (by decide +kernel)) rfl
theorem q_621 : Cond.instanceMethod yX7_standing ∈ lw_gd := mem_gd (List.mem_of_getElem? (i := 621) (by decide +kernel)) rfl
theorem q_622 : Cond.selects RX7 yX7_standing yX7_standing ∈ lw_gd := mem_gd (List.mem_of_getElem? (i := 622) (by decide +kernel)) rfl
theorem q_623 : Cond.code yX7_standing cX7_standing 4 (some .int) ∈ lw_gd := mem_gd (List.mem_of_getElem? (i := 623) (by decide +kernel)) rfl
theorem q_624 : Cond.methodLink RX7 179 yX1_seek ∈ lw_gd := mem_gd (List.mem_of_getElem? (i := 624) (by decide +kernel)) rfl
theorem q_625 : Cond.instanceMethod yX1_seek ∈ lw_gd := mem_gd (List.mem_of_getElem? (i := 625) (by decide +kernel)) rfl
theorem q_626 : Cond.selects RX1 yX1_seek yX1_seek ∈ lw_gd := mem_gd (List.mem_of_getElem? (i := 626) (by decide +kernel)) rfl
theorem q_627 : Cond.code yX1_seek cX1_seek 2 none ∈ lw_gd := mem_gd (List.mem_of_getElem? (i := 627) (by decide +kernel)) rfl
theorem q_628 : Cond.methodLink RX1 31 yX2_count ∈ lw_gd := mem_gd (List.mem_of_getElem? (i := 628) (by decide +kernel)) rfl
theorem q_629 : Cond.methodLink RX1 37 Lib.Math.min.name ∈ lw_gd := mem_gd (List.mem_of_getElem? (i := 629) (by decide +kernel)) rfl
theorem q_630 : Cond.methodLink RX1 43 yX1_fill ∈ lw_gd := mem_gd (List.mem_of_getElem? (i := 630) (by decide +kernel)) rfl
theorem q_632 : Cond.instanceMethod yX1_fill ∈ lw_gd := mem_gd (List.mem_of_getElem? (i := 632) (by decide +kernel)) rfl
theorem q_633 : Cond.code yX1_fill cX1_fill 6 none ∈ lw_gd := mem_gd (List.mem_of_getElem? (i := 633) (by decide +kernel)) rfl
theorem q_634 : Cond.methodLink RX1 47 yX1_weigh ∈ lw_gd := mem_gd (List.mem_of_getElem? (i := 634) (by decide +kernel)) rfl
theorem q_636 : Cond.instanceMethod yX1_weigh ∈ lw_gd := mem_gd (List.mem_of_getElem? (i := 636) (by decide +kernel)) rfl
theorem q_637 : Cond.code yX1_weigh cX1_weigh 2 none ∈ lw_gd := mem_gd (List.mem_of_getElem? (i := 637) (by decide +kernel)) rfl
theorem q_638 : Cond.methodLink RX1 55 yX5_cast ∈ lw_gd := mem_gd (List.mem_of_getElem? (i := 638) (by decide +kernel)) rfl
theorem q_639 : Cond.methodLink RX1 58 yX5_sumOfAlms ∈ lw_gd := mem_gd (List.mem_of_getElem? (i := 639) (by decide +kernel)) rfl
theorem q_640 : Cond.instanceMethod yX5_sumOfAlms ∈ lw_gd := mem_gd (List.mem_of_getElem? (i := 640) (by decide +kernel)) rfl
theorem q_641 : Cond.selects RX5 yX5_sumOfAlms yX5_sumOfAlms ∈ lw_gd := mem_gd (List.mem_of_getElem? (i := 641) (by decide +kernel)) rfl
theorem q_642 : Cond.code yX5_sumOfAlms cX5_sumOfAlms 3 (some .int) ∈ lw_gd := mem_gd (List.mem_of_getElem? (i := 642) (by decide +kernel)) rfl
theorem q_643 : Cond.methodLink RX1 62 yX5_almsOf ∈ lw_gd := mem_gd (List.mem_of_getElem? (i := 643) (by decide +kernel)) rfl
theorem q_644 : Cond.methodLink RX1 68 arraycopyName ∈ lw_gd := mem_gd (List.mem_of_getElem? (i := 644) (by decide +kernel)) rfl
theorem q_646 : Cond.instanceMethod yX7_hats ∈ lw_gd := mem_gd (List.mem_of_getElem? (i := 646) (by decide +kernel)) rfl
theorem q_647 : Cond.selects RX7 yX7_hats yX7_hats ∈ lw_gd := mem_gd (List.mem_of_getElem? (i := 647) (by decide +kernel)) rfl
theorem q_648 : Cond.code yX7_hats cX7_hats 3 (some .int) ∈ lw_gd := mem_gd (List.mem_of_getElem? (i := 648) (by decide +kernel)) rfl
theorem q_649 : Cond.methodLink RX7 188 yX0_seek ∈ lw_gd := mem_gd (List.mem_of_getElem? (i := 649) (by decide +kernel)) rfl
theorem q_650 : Cond.instanceMethod yX0_seek ∈ lw_gd := mem_gd (List.mem_of_getElem? (i := 650) (by decide +kernel)) rfl
theorem q_651 : Cond.selects RX0 yX0_seek yX0_seek ∈ lw_gd := mem_gd (List.mem_of_getElem? (i := 651) (by decide +kernel)) rfl
theorem q_652 : Cond.code yX0_seek cX0_seek 3 none ∈ lw_gd := mem_gd (List.mem_of_getElem? (i := 652) (by decide +kernel)) rfl
theorem q_653 : Cond.methodLink RX0 30 yX2_count ∈ lw_gd := mem_gd (List.mem_of_getElem? (i := 653) (by decide +kernel)) rfl
theorem q_654 : Cond.methodLink RX0 41 yX0_handOut ∈ lw_gd := mem_gd (List.mem_of_getElem? (i := 654) (by decide +kernel)) rfl
theorem q_656 : Cond.instanceMethod yX0_handOut ∈ lw_gd := mem_gd (List.mem_of_getElem? (i := 656) (by decide +kernel)) rfl
theorem q_657 : Cond.code yX0_handOut cX0_handOut 4 none ∈ lw_gd := mem_gd (List.mem_of_getElem? (i := 657) (by decide +kernel)) rfl
theorem q_658 : Cond.methodLink RX0 45 yX0_weigh ∈ lw_gd := mem_gd (List.mem_of_getElem? (i := 658) (by decide +kernel)) rfl
theorem q_660 : Cond.instanceMethod yX0_weigh ∈ lw_gd := mem_gd (List.mem_of_getElem? (i := 660) (by decide +kernel)) rfl
theorem q_661 : Cond.code yX0_weigh cX0_weigh 2 none ∈ lw_gd := mem_gd (List.mem_of_getElem? (i := 661) (by decide +kernel)) rfl
theorem q_662 : Cond.methodLink RX0 54 yX5_cast ∈ lw_gd := mem_gd (List.mem_of_getElem? (i := 662) (by decide +kernel)) rfl
theorem q_663 : Cond.methodLink RX0 57 yX5_sumOfAlms ∈ lw_gd := mem_gd (List.mem_of_getElem? (i := 663) (by decide +kernel)) rfl
theorem q_664 : Cond.methodLink RX0 65 arraycopyName ∈ lw_gd := mem_gd (List.mem_of_getElem? (i := 664) (by decide +kernel)) rfl
theorem q_665 : Cond.methodLink RX0 48 yX5_putHat ∈ lw_gd := mem_gd (List.mem_of_getElem? (i := 665) (by decide +kernel)) rfl
theorem q_666 : Cond.methodLink RX0 51 yX5_takeHat ∈ lw_gd := mem_gd (List.mem_of_getElem? (i := 666) (by decide +kernel)) rfl
theorem q_667 : Cond.instanceMethod yX5_takeHat ∈ lw_gd := mem_gd (List.mem_of_getElem? (i := 667) (by decide +kernel)) rfl
theorem q_668 : Cond.selects RX5 yX5_takeHat yX5_takeHat ∈ lw_gd := mem_gd (List.mem_of_getElem? (i := 668) (by decide +kernel)) rfl
theorem q_669 : Cond.code yX5_takeHat cX5_takeHat 3 none ∈ lw_gd := mem_gd (List.mem_of_getElem? (i := 669) (by decide +kernel)) rfl
theorem q_671 : Cond.instanceMethod yX7_giant ∈ lw_gd := mem_gd (List.mem_of_getElem? (i := 671) (by decide +kernel)) rfl
theorem q_672 : Cond.selects RX7 yX7_giant yX7_giant ∈ lw_gd := mem_gd (List.mem_of_getElem? (i := 672) (by decide +kernel)) rfl
theorem q_673 : Cond.code yX7_giant cX7_giant 11 (some .int) ∈ lw_gd := mem_gd (List.mem_of_getElem? (i := 673) (by decide +kernel)) rfl
theorem q_674 : Cond.methodLink RX7 192 yX5_sumOfAlms ∈ lw_gd := mem_gd (List.mem_of_getElem? (i := 674) (by decide +kernel)) rfl
theorem q_675 : Cond.methodLink RX7 195 yX5_addGiant ∈ lw_gd := mem_gd (List.mem_of_getElem? (i := 675) (by decide +kernel)) rfl
theorem q_676 : Cond.instanceMethod yX5_addGiant ∈ lw_gd := mem_gd (List.mem_of_getElem? (i := 676) (by decide +kernel)) rfl
theorem q_677 : Cond.selects RX5 yX5_addGiant yX5_addGiant ∈ lw_gd := mem_gd (List.mem_of_getElem? (i := 677) (by decide +kernel)) rfl
theorem q_678 : Cond.code yX5_addGiant cX5_addGiant 3 (some .int) ∈ lw_gd := mem_gd (List.mem_of_getElem? (i := 678) (by decide +kernel)) rfl
theorem q_680 : Cond.instanceMethod yX7_peace ∈ lw_gd := mem_gd (List.mem_of_getElem? (i := 680) (by decide +kernel)) rfl
theorem q_681 : Cond.selects RX7 yX7_peace yX7_peace ∈ lw_gd := mem_gd (List.mem_of_getElem? (i := 681) (by decide +kernel)) rfl
theorem q_682 : Cond.code yX7_peace cX7_peace 3 (some .int) ∈ lw_gd := mem_gd (List.mem_of_getElem? (i := 682) (by decide +kernel)) rfl
theorem q_683 : Cond.methodLink RX7 204 yX5_lackOf ∈ lw_gd := mem_gd (List.mem_of_getElem? (i := 683) (by decide +kernel)) rfl
theorem q_684 : Cond.instanceMethod yX5_lackOf ∈ lw_gd := mem_gd (List.mem_of_getElem? (i := 684) (by decide +kernel)) rfl
theorem q_685 : Cond.selects RX5 yX5_lackOf yX5_lackOf ∈ lw_gd := mem_gd (List.mem_of_getElem? (i := 685) (by decide +kernel)) rfl
theorem q_686 : Cond.code yX5_lackOf cX5_lackOf 4 (some .int) ∈ lw_gd := mem_gd (List.mem_of_getElem? (i := 686) (by decide +kernel)) rfl
theorem q_687 : Cond.methodLink RX5 92 Lib.Math.max.name ∈ lw_gd := mem_gd (List.mem_of_getElem? (i := 687) (by decide +kernel)) rfl
theorem q_689 : Cond.instanceMethod yX7_bread ∈ lw_gd := mem_gd (List.mem_of_getElem? (i := 689) (by decide +kernel)) rfl
theorem q_690 : Cond.selects RX7 yX7_bread yX7_bread ∈ lw_gd := mem_gd (List.mem_of_getElem? (i := 690) (by decide +kernel)) rfl
theorem q_691 : Cond.code yX7_bread cX7_bread 5 (some .int) ∈ lw_gd := mem_gd (List.mem_of_getElem? (i := 691) (by decide +kernel)) rfl
theorem q_693 : Cond.instanceMethod yX7_best ∈ lw_gd := mem_gd (List.mem_of_getElem? (i := 693) (by decide +kernel)) rfl
theorem q_694 : Cond.selects RX7 yX7_best yX7_best ∈ lw_gd := mem_gd (List.mem_of_getElem? (i := 694) (by decide +kernel)) rfl
theorem q_695 : Cond.code yX7_best cX7_best 7 (some .int) ∈ lw_gd := mem_gd (List.mem_of_getElem? (i := 695) (by decide +kernel)) rfl
theorem q_696 : Cond.methodLink RX7 207 yX7_almsOnDay ∈ lw_gd := mem_gd (List.mem_of_getElem? (i := 696) (by decide +kernel)) rfl
theorem q_698 : Cond.instanceMethod yX7_almsOnDay ∈ lw_gd := mem_gd (List.mem_of_getElem? (i := 698) (by decide +kernel)) rfl
theorem q_699 : Cond.code yX7_almsOnDay cX7_almsOnDay 5 (some .int) ∈ lw_gd := mem_gd (List.mem_of_getElem? (i := 699) (by decide +kernel)) rfl
theorem q_701 : Cond.instanceMethod yX7_tell ∈ lw_gd := mem_gd (List.mem_of_getElem? (i := 701) (by decide +kernel)) rfl
theorem q_702 : Cond.selects RX7 yX7_tell yX7_tell ∈ lw_gd := mem_gd (List.mem_of_getElem? (i := 702) (by decide +kernel)) rfl
theorem q_703 : Cond.code yX7_tell cX7_tell 5 (some .int) ∈ lw_gd := mem_gd (List.mem_of_getElem? (i := 703) (by decide +kernel)) rfl
theorem q_704 : Cond.methodLink RX7 210 yX4_isFull ∈ lw_gd := mem_gd (List.mem_of_getElem? (i := 704) (by decide +kernel)) rfl
theorem q_705 : Cond.instanceMethod yX4_isFull ∈ lw_gd := mem_gd (List.mem_of_getElem? (i := 705) (by decide +kernel)) rfl
theorem q_706 : Cond.selects RX4 yX4_isFull yX4_isFull ∈ lw_gd := mem_gd (List.mem_of_getElem? (i := 706) (by decide +kernel)) rfl
theorem q_707 : Cond.code yX4_isFull cX4_isFull 1 (some .boolean) ∈ lw_gd := mem_gd (List.mem_of_getElem? (i := 707) (by decide +kernel)) rfl
theorem q_708 : Cond.methodLink RX7 214 yX4_add ∈ lw_gd := mem_gd (List.mem_of_getElem? (i := 708) (by decide +kernel)) rfl
theorem q_709 : Cond.instanceMethod yX4_add ∈ lw_gd := mem_gd (List.mem_of_getElem? (i := 709) (by decide +kernel)) rfl
theorem q_710 : Cond.selects RX4 yX4_add yX4_add ∈ lw_gd := mem_gd (List.mem_of_getElem? (i := 710) (by decide +kernel)) rfl
theorem q_711 : Cond.code yX4_add cX4_add 5 none ∈ lw_gd := mem_gd (List.mem_of_getElem? (i := 711) (by decide +kernel)) rfl
theorem q_713 : Cond.instanceMethod yX7_fits ∈ lw_gd := mem_gd (List.mem_of_getElem? (i := 713) (by decide +kernel)) rfl
theorem q_714 : Cond.selects RX7 yX7_fits yX7_fits ∈ lw_gd := mem_gd (List.mem_of_getElem? (i := 714) (by decide +kernel)) rfl
theorem q_715 : Cond.code yX7_fits cX7_fits 6 (some .int) ∈ lw_gd := mem_gd (List.mem_of_getElem? (i := 715) (by decide +kernel)) rfl
theorem q_716 : Cond.methodLink RX7 218 yX7_fitsAllTales ∈ lw_gd := mem_gd (List.mem_of_getElem? (i := 716) (by decide +kernel)) rfl
theorem q_718 : Cond.instanceMethod yX7_fitsAllTales ∈ lw_gd := mem_gd (List.mem_of_getElem? (i := 718) (by decide +kernel)) rfl
theorem q_719 : Cond.code yX7_fitsAllTales cX7_fitsAllTales 6 (some .boolean) ∈ lw_gd := mem_gd (List.mem_of_getElem? (i := 719) (by decide +kernel)) rfl
theorem q_720 : Cond.methodLink RX7 222 yX4_cell ∈ lw_gd := mem_gd (List.mem_of_getElem? (i := 720) (by decide +kernel)) rfl
theorem q_721 : Cond.instanceMethod yX4_cell ∈ lw_gd := mem_gd (List.mem_of_getElem? (i := 721) (by decide +kernel)) rfl
theorem q_722 : Cond.selects RX4 yX4_cell yX4_cell ∈ lw_gd := mem_gd (List.mem_of_getElem? (i := 722) (by decide +kernel)) rfl
theorem q_723 : Cond.code yX4_cell cX4_cell 3 (some .int) ∈ lw_gd := mem_gd (List.mem_of_getElem? (i := 723) (by decide +kernel)) rfl
theorem q_724 : Cond.methodLink RX7 243 yX2_shadeOn ∈ lw_gd := mem_gd (List.mem_of_getElem? (i := 724) (by decide +kernel)) rfl
theorem q_726 : Cond.instanceMethod yX7_write ∈ lw_gd := mem_gd (List.mem_of_getElem? (i := 726) (by decide +kernel)) rfl
theorem q_727 : Cond.selects RX7 yX7_write yX7_write ∈ lw_gd := mem_gd (List.mem_of_getElem? (i := 727) (by decide +kernel)) rfl
theorem q_728 : Cond.code yX7_write cX7_write 4 (some .int) ∈ lw_gd := mem_gd (List.mem_of_getElem? (i := 728) (by decide +kernel)) rfl
theorem q_730 : Cond.instanceMethod yX7_tear ∈ lw_gd := mem_gd (List.mem_of_getElem? (i := 730) (by decide +kernel)) rfl
theorem q_731 : Cond.selects RX7 yX7_tear yX7_tear ∈ lw_gd := mem_gd (List.mem_of_getElem? (i := 731) (by decide +kernel)) rfl
theorem q_732 : Cond.code yX7_tear cX7_tear 2 (some .int) ∈ lw_gd := mem_gd (List.mem_of_getElem? (i := 732) (by decide +kernel)) rfl
theorem q_734 : Cond.instanceMethod yX7_judge ∈ lw_gd := mem_gd (List.mem_of_getElem? (i := 734) (by decide +kernel)) rfl
theorem q_735 : Cond.selects RX7 yX7_judge yX7_judge ∈ lw_gd := mem_gd (List.mem_of_getElem? (i := 735) (by decide +kernel)) rfl
theorem q_736 : Cond.code yX7_judge cX7_judge 2 (some .int) ∈ lw_gd := mem_gd (List.mem_of_getElem? (i := 736) (by decide +kernel)) rfl
theorem q_738 : Cond.instanceMethod yX7_seed ∈ lw_gd := mem_gd (List.mem_of_getElem? (i := 738) (by decide +kernel)) rfl
theorem q_739 : Cond.selects RX7 yX7_seed yX7_seed ∈ lw_gd := mem_gd (List.mem_of_getElem? (i := 739) (by decide +kernel)) rfl
theorem q_740 : Cond.code yX7_seed cX7_seed 3 (some .int) ∈ lw_gd := mem_gd (List.mem_of_getElem? (i := 740) (by decide +kernel)) rfl
theorem q_742 : Cond.instanceMethod yX7_keep ∈ lw_gd := mem_gd (List.mem_of_getElem? (i := 742) (by decide +kernel)) rfl
theorem q_743 : Cond.selects RX7 yX7_keep yX7_keep ∈ lw_gd := mem_gd (List.mem_of_getElem? (i := 743) (by decide +kernel)) rfl
theorem q_744 : Cond.code yX7_keep cX7_keep 2 (some .int) ∈ lw_gd := mem_gd (List.mem_of_getElem? (i := 744) (by decide +kernel)) rfl
theorem q_745 : Cond.methodLink RX7 228 yX6_become ∈ lw_gd := mem_gd (List.mem_of_getElem? (i := 745) (by decide +kernel)) rfl
theorem q_746 : Cond.instanceMethod yX6_become ∈ lw_gd := mem_gd (List.mem_of_getElem? (i := 746) (by decide +kernel)) rfl
theorem q_747 : Cond.selects RX6 yX6_become yX6_become ∈ lw_gd := mem_gd (List.mem_of_getElem? (i := 747) (by decide +kernel)) rfl
theorem q_748 : Cond.code yX6_become cX6_become 2 none ∈ lw_gd := mem_gd (List.mem_of_getElem? (i := 748) (by decide +kernel)) rfl
theorem q_749 : Cond.methodLink RX6 37 arraycopyName ∈ lw_gd := mem_gd (List.mem_of_getElem? (i := 749) (by decide +kernel)) rfl
theorem q_751 : Cond.instanceMethod yX7_goBack ∈ lw_gd := mem_gd (List.mem_of_getElem? (i := 751) (by decide +kernel)) rfl
theorem q_752 : Cond.selects RX7 yX7_goBack yX7_goBack ∈ lw_gd := mem_gd (List.mem_of_getElem? (i := 752) (by decide +kernel)) rfl
theorem q_753 : Cond.code yX7_goBack cX7_goBack 2 (some .int) ∈ lw_gd := mem_gd (List.mem_of_getElem? (i := 753) (by decide +kernel)) rfl
theorem q_760 : Cond.fieldLink RX8 7 "ShadowAlmsModel" "year" "I" ∈ lw_gd := mem_gd (List.mem_of_getElem? (i := 760) (by decide +kernel)) rfl
theorem q_761 : Cond.fieldLink RX8 120 "ShadowAlmsModel" "bells" "I" ∈ lw_gd := mem_gd (List.mem_of_getElem? (i := 761) (by decide +kernel)) rfl
theorem q_762 : Cond.fieldLink RX8 13 "ShadowAlmsModel" "longAt" "[I" ∈ lw_gd := mem_gd (List.mem_of_getElem? (i := 762) (by decide +kernel)) rfl
theorem q_763 : Cond.fieldLink RX8 17 "ShadowAlmsModel" "longer" "[I" ∈ lw_gd := mem_gd (List.mem_of_getElem? (i := 763) (by decide +kernel)) rfl
theorem q_764 : Cond.fieldLink RX8 117 "ShadowAlmsModel" "spots" "I" ∈ lw_gd := mem_gd (List.mem_of_getElem? (i := 764) (by decide +kernel)) rfl
theorem q_765 : Cond.fieldLink RX8 20 "ShadowAlmsModel" "steps" "[I" ∈ lw_gd := mem_gd (List.mem_of_getElem? (i := 765) (by decide +kernel)) rfl
theorem q_766 : Cond.fieldLink RX8 23 "ShadowAlmsModel" "mud" "[I" ∈ lw_gd := mem_gd (List.mem_of_getElem? (i := 766) (by decide +kernel)) rfl
theorem q_767 : Cond.fieldLink RX8 26 "ShadowAlmsModel" "wall" "[I" ∈ lw_gd := mem_gd (List.mem_of_getElem? (i := 767) (by decide +kernel)) rfl
theorem q_768 : Cond.fieldLink RX8 127 "ShadowAlmsModel" "beggars" "I" ∈ lw_gd := mem_gd (List.mem_of_getElem? (i := 768) (by decide +kernel)) rfl
theorem q_769 : Cond.fieldLink RX8 29 "ShadowAlmsModel" "tall" "[I" ∈ lw_gd := mem_gd (List.mem_of_getElem? (i := 769) (by decide +kernel)) rfl
theorem q_770 : Cond.fieldLink RX8 130 "ShadowAlmsModel" "hats" "I" ∈ lw_gd := mem_gd (List.mem_of_getElem? (i := 770) (by decide +kernel)) rfl
theorem q_771 : Cond.fieldLink RX8 32 "ShadowAlmsModel" "high" "[I" ∈ lw_gd := mem_gd (List.mem_of_getElem? (i := 771) (by decide +kernel)) rfl
theorem q_772 : Cond.fieldLink RX8 35 "ShadowAlmsModel" "cost" "[I" ∈ lw_gd := mem_gd (List.mem_of_getElem? (i := 772) (by decide +kernel)) rfl
theorem q_773 : Cond.fieldLink RX8 236 "ShadowAlmsModel" "today" "I" ∈ lw_gd := mem_gd (List.mem_of_getElem? (i := 773) (by decide +kernel)) rfl
theorem q_774 : Cond.fieldLink RX8 38 "ShadowAlmsModel" "spotOf" "[I" ∈ lw_gd := mem_gd (List.mem_of_getElem? (i := 774) (by decide +kernel)) rfl
theorem q_775 : Cond.fieldLink RX8 41 "ShadowAlmsModel" "hatOf" "[I" ∈ lw_gd := mem_gd (List.mem_of_getElem? (i := 775) (by decide +kernel)) rfl
theorem q_776 : Cond.fieldLink RX8 44 "ShadowAlmsModel" "purse" "[I" ∈ lw_gd := mem_gd (List.mem_of_getElem? (i := 776) (by decide +kernel)) rfl
theorem q_777 : Cond.fieldLink RX8 239 "ShadowAlmsModel" "given" "I" ∈ lw_gd := mem_gd (List.mem_of_getElem? (i := 777) (by decide +kernel)) rfl
theorem q_778 : Cond.fieldLink RX8 248 "ShadowAlmsModel" "law" "I" ∈ lw_gd := mem_gd (List.mem_of_getElem? (i := 778) (by decide +kernel)) rfl
theorem q_779 : Cond.fieldLink RX8 312 "ShadowAlmsModel" "seed" "I" ∈ lw_gd := mem_gd (List.mem_of_getElem? (i := 779) (by decide +kernel)) rfl
theorem q_780 : Cond.fieldLink RX8 47 "ShadowAlmsModel" "text" "[I" ∈ lw_gd := mem_gd (List.mem_of_getElem? (i := 780) (by decide +kernel)) rfl
theorem q_781 : Cond.fieldLink RX8 136 "ShadowAlmsModel" "texted" "I" ∈ lw_gd := mem_gd (List.mem_of_getElem? (i := 781) (by decide +kernel)) rfl
theorem q_782 : Cond.fieldLink RX8 50 "ShadowAlmsModel" "faultPlace" "I" ∈ lw_gd := mem_gd (List.mem_of_getElem? (i := 782) (by decide +kernel)) rfl
theorem q_783 : Cond.fieldLink RX8 142 "ShadowAlmsModel" "at0" "I" ∈ lw_gd := mem_gd (List.mem_of_getElem? (i := 783) (by decide +kernel)) rfl
theorem q_784 : Cond.fieldLink RX8 149 "ShadowAlmsModel" "said" "J" ∈ lw_gd := mem_gd (List.mem_of_getElem? (i := 784) (by decide +kernel)) rfl
theorem q_785 : Cond.fieldLink RX8 153 "ShadowAlmsModel" "wordEnd" "I" ∈ lw_gd := mem_gd (List.mem_of_getElem? (i := 785) (by decide +kernel)) rfl
theorem q_786 : Cond.fieldLink RX8 179 "ShadowAlmsModel" "number" "I" ∈ lw_gd := mem_gd (List.mem_of_getElem? (i := 786) (by decide +kernel)) rfl
theorem q_787 : Cond.fieldLink RX8 176 "ShadowAlmsModel" "numberAt" "I" ∈ lw_gd := mem_gd (List.mem_of_getElem? (i := 787) (by decide +kernel)) rfl
theorem q_788 : Cond.fieldLink RX8 201 "ShadowAlmsModel" "readYear" "I" ∈ lw_gd := mem_gd (List.mem_of_getElem? (i := 788) (by decide +kernel)) rfl
theorem q_789 : Cond.fieldLink RX8 215 "ShadowAlmsModel" "readClauses" "I" ∈ lw_gd := mem_gd (List.mem_of_getElem? (i := 789) (by decide +kernel)) rfl
theorem q_790 : Cond.fieldLink RX8 185 "ShadowAlmsModel" "readBells" "I" ∈ lw_gd := mem_gd (List.mem_of_getElem? (i := 790) (by decide +kernel)) rfl
theorem q_791 : Cond.fieldLink RX8 53 "ShadowAlmsModel" "readLong" "[I" ∈ lw_gd := mem_gd (List.mem_of_getElem? (i := 791) (by decide +kernel)) rfl
theorem q_792 : Cond.fieldLink RX8 56 "ShadowAlmsModel" "readLonger" "[I" ∈ lw_gd := mem_gd (List.mem_of_getElem? (i := 792) (by decide +kernel)) rfl
theorem q_793 : Cond.fieldLink RX8 192 "ShadowAlmsModel" "readSpots" "I" ∈ lw_gd := mem_gd (List.mem_of_getElem? (i := 793) (by decide +kernel)) rfl
theorem q_794 : Cond.fieldLink RX8 59 "ShadowAlmsModel" "readSteps" "[I" ∈ lw_gd := mem_gd (List.mem_of_getElem? (i := 794) (by decide +kernel)) rfl
theorem q_795 : Cond.fieldLink RX8 62 "ShadowAlmsModel" "readMud" "[I" ∈ lw_gd := mem_gd (List.mem_of_getElem? (i := 795) (by decide +kernel)) rfl
theorem q_796 : Cond.fieldLink RX8 65 "ShadowAlmsModel" "readWall" "[I" ∈ lw_gd := mem_gd (List.mem_of_getElem? (i := 796) (by decide +kernel)) rfl
theorem q_797 : Cond.fieldLink RX8 195 "ShadowAlmsModel" "readBeggars" "I" ∈ lw_gd := mem_gd (List.mem_of_getElem? (i := 797) (by decide +kernel)) rfl
theorem q_798 : Cond.fieldLink RX8 68 "ShadowAlmsModel" "readTall" "[I" ∈ lw_gd := mem_gd (List.mem_of_getElem? (i := 798) (by decide +kernel)) rfl
theorem q_799 : Cond.fieldLink RX8 198 "ShadowAlmsModel" "readHats" "I" ∈ lw_gd := mem_gd (List.mem_of_getElem? (i := 799) (by decide +kernel)) rfl
theorem q_800 : Cond.fieldLink RX8 71 "ShadowAlmsModel" "readHigh" "[I" ∈ lw_gd := mem_gd (List.mem_of_getElem? (i := 800) (by decide +kernel)) rfl
theorem q_801 : Cond.fieldLink RX8 74 "ShadowAlmsModel" "readCost" "[I" ∈ lw_gd := mem_gd (List.mem_of_getElem? (i := 801) (by decide +kernel)) rfl
theorem q_802 : Cond.fieldLink RX8 77 "ShadowAlmsModel" "shade" "[I" ∈ lw_gd := mem_gd (List.mem_of_getElem? (i := 802) (by decide +kernel)) rfl
theorem q_803 : Cond.fieldLink RX8 80 "ShadowAlmsModel" "alms" "[I" ∈ lw_gd := mem_gd (List.mem_of_getElem? (i := 803) (by decide +kernel)) rfl
theorem q_804 : Cond.fieldLink RX8 83 "ShadowAlmsModel" "wasSpot" "[I" ∈ lw_gd := mem_gd (List.mem_of_getElem? (i := 804) (by decide +kernel)) rfl
theorem q_805 : Cond.fieldLink RX8 86 "ShadowAlmsModel" "wasHat" "[I" ∈ lw_gd := mem_gd (List.mem_of_getElem? (i := 805) (by decide +kernel)) rfl
theorem q_806 : Cond.fieldLink RX8 89 "ShadowAlmsModel" "bestRow" "[I" ∈ lw_gd := mem_gd (List.mem_of_getElem? (i := 806) (by decide +kernel)) rfl
theorem q_807 : Cond.fieldLink RX8 329 "ShadowAlmsModel" "bestSum" "I" ∈ lw_gd := mem_gd (List.mem_of_getElem? (i := 807) (by decide +kernel)) rfl
theorem q_808 : Cond.fieldLink RX8 242 "ShadowAlmsModel" "tolds" "I" ∈ lw_gd := mem_gd (List.mem_of_getElem? (i := 808) (by decide +kernel)) rfl
theorem q_809 : Cond.fieldLink RX8 92 "ShadowAlmsModel" "toldLong" "[I" ∈ lw_gd := mem_gd (List.mem_of_getElem? (i := 809) (by decide +kernel)) rfl
theorem q_810 : Cond.fieldLink RX8 95 "ShadowAlmsModel" "toldSpot" "[I" ∈ lw_gd := mem_gd (List.mem_of_getElem? (i := 810) (by decide +kernel)) rfl
theorem q_811 : Cond.fieldLink RX8 98 "ShadowAlmsModel" "toldInches" "[I" ∈ lw_gd := mem_gd (List.mem_of_getElem? (i := 811) (by decide +kernel)) rfl
theorem q_812 : Cond.fieldLink RX8 245 "ShadowAlmsModel" "booked" "I" ∈ lw_gd := mem_gd (List.mem_of_getElem? (i := 812) (by decide +kernel)) rfl
theorem q_813 : Cond.fieldLink RX8 101 "ShadowAlmsModel" "bookBell" "[I" ∈ lw_gd := mem_gd (List.mem_of_getElem? (i := 813) (by decide +kernel)) rfl
theorem q_814 : Cond.fieldLink RX8 104 "ShadowAlmsModel" "bookWho" "[I" ∈ lw_gd := mem_gd (List.mem_of_getElem? (i := 814) (by decide +kernel)) rfl
theorem q_815 : Cond.fieldLink RX8 107 "ShadowAlmsModel" "bookAlms" "[I" ∈ lw_gd := mem_gd (List.mem_of_getElem? (i := 815) (by decide +kernel)) rfl
theorem q_816 : Cond.fieldLink RX8 110 "ShadowAlmsModel" "images" "[I" ∈ lw_gd := mem_gd (List.mem_of_getElem? (i := 816) (by decide +kernel)) rfl
theorem q_817 : Cond.fieldLink RX8 113 "ShadowAlmsModel" "isKept" "[Z" ∈ lw_gd := mem_gd (List.mem_of_getElem? (i := 817) (by decide +kernel)) rfl
theorem q_936 : Cond.instanceMethod yX8_feed ∈ lw_gd := mem_gd (List.mem_of_getElem? (i := 936) (by decide +kernel)) rfl
theorem q_937 : Cond.selects RX8 yX8_feed yX8_feed ∈ lw_gd := mem_gd (List.mem_of_getElem? (i := 937) (by decide +kernel)) rfl
theorem q_938 : Cond.code yX8_feed cX8_feed 5 (some .int) ∈ lw_gd := mem_gd (List.mem_of_getElem? (i := 938) (by decide +kernel)) rfl
theorem q_939 : Cond.constantLong RX8 133 (8) ∈ lw_gd := mem_gd (List.mem_of_getElem? (i := 939) (by decide +kernel)) rfl
theorem q_940 : Cond.methodLink RX8 123 yX8_in ∈ lw_gd := mem_gd (List.mem_of_getElem? (i := 940) (by decide +kernel)) rfl
theorem q_941 : Cond.static yX8_in ∈ lw_gd := mem_gd (List.mem_of_getElem? (i := 941) (by decide +kernel)) rfl
theorem q_942 : Cond.code yX8_in cX8_in 6 (some .boolean) ∈ lw_gd := mem_gd (List.mem_of_getElem? (i := 942) (by decide +kernel)) rfl
theorem q_943 : Cond.constant RX8 135 (-1000000002) ∈ lw_gd := mem_gd (List.mem_of_getElem? (i := 943) (by decide +kernel)) rfl
theorem q_944 : Cond.constant RX8 139 (-1000000004) ∈ lw_gd := mem_gd (List.mem_of_getElem? (i := 944) (by decide +kernel)) rfl
theorem q_945 : Cond.constantLong RX8 140 (255) ∈ lw_gd := mem_gd (List.mem_of_getElem? (i := 945) (by decide +kernel)) rfl
theorem q_947 : Cond.instanceMethod yX8_square ∈ lw_gd := mem_gd (List.mem_of_getElem? (i := 947) (by decide +kernel)) rfl
theorem q_948 : Cond.selects RX8 yX8_square yX8_square ∈ lw_gd := mem_gd (List.mem_of_getElem? (i := 948) (by decide +kernel)) rfl
theorem q_949 : Cond.code yX8_square cX8_square 3 (some .int) ∈ lw_gd := mem_gd (List.mem_of_getElem? (i := 949) (by decide +kernel)) rfl
theorem q_950 : Cond.methodLink RX8 145 yX8_here ∈ lw_gd := mem_gd (List.mem_of_getElem? (i := 950) (by decide +kernel)) rfl
theorem q_952 : Cond.instanceMethod yX8_here ∈ lw_gd := mem_gd (List.mem_of_getElem? (i := 952) (by decide +kernel)) rfl
theorem q_953 : Cond.code yX8_here cX8_here 1 (some .int) ∈ lw_gd := mem_gd (List.mem_of_getElem? (i := 953) (by decide +kernel)) rfl
theorem q_954 : Cond.methodLink RX8 233 yX8_takeClause ∈ lw_gd := mem_gd (List.mem_of_getElem? (i := 954) (by decide +kernel)) rfl
theorem q_956 : Cond.instanceMethod yX8_takeClause ∈ lw_gd := mem_gd (List.mem_of_getElem? (i := 956) (by decide +kernel)) rfl
theorem q_957 : Cond.code yX8_takeClause cX8_takeClause 5 (some .int) ∈ lw_gd := mem_gd (List.mem_of_getElem? (i := 957) (by decide +kernel)) rfl
theorem q_958 : Cond.methodLink RX8 204 yX8_readWord ∈ lw_gd := mem_gd (List.mem_of_getElem? (i := 958) (by decide +kernel)) rfl
theorem q_960 : Cond.instanceMethod yX8_readWord ∈ lw_gd := mem_gd (List.mem_of_getElem? (i := 960) (by decide +kernel)) rfl
theorem q_961 : Cond.code yX8_readWord cX8_readWord 2 none ∈ lw_gd := mem_gd (List.mem_of_getElem? (i := 961) (by decide +kernel)) rfl
theorem q_962 : Cond.constantLong RX8 156 (97) ∈ lw_gd := mem_gd (List.mem_of_getElem? (i := 962) (by decide +kernel)) rfl
theorem q_963 : Cond.constantLong RX8 158 (122) ∈ lw_gd := mem_gd (List.mem_of_getElem? (i := 963) (by decide +kernel)) rfl
theorem q_964 : Cond.constantLong RX8 160 (100000000000000) ∈ lw_gd := mem_gd (List.mem_of_getElem? (i := 964) (by decide +kernel)) rfl
theorem q_965 : Cond.constantLong RX8 162 (200000000000000) ∈ lw_gd := mem_gd (List.mem_of_getElem? (i := 965) (by decide +kernel)) rfl
theorem q_966 : Cond.constantLong RX8 164 (27) ∈ lw_gd := mem_gd (List.mem_of_getElem? (i := 966) (by decide +kernel)) rfl
theorem q_967 : Cond.constantLong RX8 166 (96) ∈ lw_gd := mem_gd (List.mem_of_getElem? (i := 967) (by decide +kernel)) rfl
theorem q_968 : Cond.methodLink RX8 207 yX8_code ∈ lw_gd := mem_gd (List.mem_of_getElem? (i := 968) (by decide +kernel)) rfl
theorem q_969 : Cond.static yX8_code ∈ lw_gd := mem_gd (List.mem_of_getElem? (i := 969) (by decide +kernel)) rfl
theorem q_970 : Cond.code yX8_code cX8_code 3 (some .long) ∈ lw_gd := mem_gd (List.mem_of_getElem? (i := 970) (by decide +kernel)) rfl
theorem q_971 : Cond.methodLink RX8 211 yX8_more ∈ lw_gd := mem_gd (List.mem_of_getElem? (i := 971) (by decide +kernel)) rfl
theorem q_972 : Cond.static yX8_more ∈ lw_gd := mem_gd (List.mem_of_getElem? (i := 972) (by decide +kernel)) rfl
theorem q_973 : Cond.code yX8_more cX8_more 3 (some .long) ∈ lw_gd := mem_gd (List.mem_of_getElem? (i := 973) (by decide +kernel)) rfl
theorem q_974 : Cond.methodLink RX8 172 yX8_fails ∈ lw_gd := mem_gd (List.mem_of_getElem? (i := 974) (by decide +kernel)) rfl
theorem q_976 : Cond.instanceMethod yX8_fails ∈ lw_gd := mem_gd (List.mem_of_getElem? (i := 976) (by decide +kernel)) rfl
theorem q_977 : Cond.code yX8_fails cX8_fails 3 (some .int) ∈ lw_gd := mem_gd (List.mem_of_getElem? (i := 977) (by decide +kernel)) rfl
theorem q_978 : Cond.methodLink RX8 218 yX8_takeYear ∈ lw_gd := mem_gd (List.mem_of_getElem? (i := 978) (by decide +kernel)) rfl
theorem q_980 : Cond.instanceMethod yX8_takeYear ∈ lw_gd := mem_gd (List.mem_of_getElem? (i := 980) (by decide +kernel)) rfl
theorem q_981 : Cond.code yX8_takeYear cX8_takeYear 2 (some .int) ∈ lw_gd := mem_gd (List.mem_of_getElem? (i := 981) (by decide +kernel)) rfl
theorem q_982 : Cond.methodLink RX8 182 yX8_takeNumber ∈ lw_gd := mem_gd (List.mem_of_getElem? (i := 982) (by decide +kernel)) rfl
theorem q_984 : Cond.instanceMethod yX8_takeNumber ∈ lw_gd := mem_gd (List.mem_of_getElem? (i := 984) (by decide +kernel)) rfl
theorem q_985 : Cond.code yX8_takeNumber cX8_takeNumber 4 (some .int) ∈ lw_gd := mem_gd (List.mem_of_getElem? (i := 985) (by decide +kernel)) rfl
theorem q_986 : Cond.constantLong RX8 168 (48) ∈ lw_gd := mem_gd (List.mem_of_getElem? (i := 986) (by decide +kernel)) rfl
theorem q_987 : Cond.constantLong RX8 170 (57) ∈ lw_gd := mem_gd (List.mem_of_getElem? (i := 987) (by decide +kernel)) rfl
theorem q_988 : Cond.methodLink RX8 221 yX8_takeBell ∈ lw_gd := mem_gd (List.mem_of_getElem? (i := 988) (by decide +kernel)) rfl
theorem q_990 : Cond.instanceMethod yX8_takeBell ∈ lw_gd := mem_gd (List.mem_of_getElem? (i := 990) (by decide +kernel)) rfl
theorem q_991 : Cond.code yX8_takeBell cX8_takeBell 3 (some .int) ∈ lw_gd := mem_gd (List.mem_of_getElem? (i := 991) (by decide +kernel)) rfl
theorem q_992 : Cond.methodLink RX8 188 yX8_into ∈ lw_gd := mem_gd (List.mem_of_getElem? (i := 992) (by decide +kernel)) rfl
theorem q_994 : Cond.instanceMethod yX8_into ∈ lw_gd := mem_gd (List.mem_of_getElem? (i := 994) (by decide +kernel)) rfl
theorem q_995 : Cond.code yX8_into cX8_into 6 (some .int) ∈ lw_gd := mem_gd (List.mem_of_getElem? (i := 995) (by decide +kernel)) rfl
theorem q_996 : Cond.methodLink RX8 224 yX8_takeSpot ∈ lw_gd := mem_gd (List.mem_of_getElem? (i := 996) (by decide +kernel)) rfl
theorem q_998 : Cond.instanceMethod yX8_takeSpot ∈ lw_gd := mem_gd (List.mem_of_getElem? (i := 998) (by decide +kernel)) rfl
theorem q_999 : Cond.code yX8_takeSpot cX8_takeSpot 3 (some .int) ∈ lw_gd := mem_gd (List.mem_of_getElem? (i := 999) (by decide +kernel)) rfl
theorem q_1000 : Cond.methodLink RX8 227 yX8_takeBeggar ∈ lw_gd := mem_gd (List.mem_of_getElem? (i := 1000) (by decide +kernel)) rfl
theorem q_1002 : Cond.instanceMethod yX8_takeBeggar ∈ lw_gd := mem_gd (List.mem_of_getElem? (i := 1002) (by decide +kernel)) rfl
theorem q_1003 : Cond.code yX8_takeBeggar cX8_takeBeggar 2 (some .int) ∈ lw_gd := mem_gd (List.mem_of_getElem? (i := 1003) (by decide +kernel)) rfl
theorem q_1004 : Cond.methodLink RX8 230 yX8_takeHat ∈ lw_gd := mem_gd (List.mem_of_getElem? (i := 1004) (by decide +kernel)) rfl
theorem q_1006 : Cond.instanceMethod yX8_takeHat ∈ lw_gd := mem_gd (List.mem_of_getElem? (i := 1006) (by decide +kernel)) rfl
theorem q_1007 : Cond.code yX8_takeHat cX8_takeHat 3 (some .int) ∈ lw_gd := mem_gd (List.mem_of_getElem? (i := 1007) (by decide +kernel)) rfl
theorem q_1009 : Cond.instanceMethod yX8_fault ∈ lw_gd := mem_gd (List.mem_of_getElem? (i := 1009) (by decide +kernel)) rfl
theorem q_1010 : Cond.selects RX8 yX8_fault yX8_fault ∈ lw_gd := mem_gd (List.mem_of_getElem? (i := 1010) (by decide +kernel)) rfl
theorem q_1011 : Cond.code yX8_fault cX8_fault 1 (some .int) ∈ lw_gd := mem_gd (List.mem_of_getElem? (i := 1011) (by decide +kernel)) rfl
theorem q_1013 : Cond.instanceMethod yX8_told ∈ lw_gd := mem_gd (List.mem_of_getElem? (i := 1013) (by decide +kernel)) rfl
theorem q_1014 : Cond.selects RX8 yX8_told yX8_told ∈ lw_gd := mem_gd (List.mem_of_getElem? (i := 1014) (by decide +kernel)) rfl
theorem q_1015 : Cond.code yX8_told cX8_told 2 (some .int) ∈ lw_gd := mem_gd (List.mem_of_getElem? (i := 1015) (by decide +kernel)) rfl
theorem q_1017 : Cond.instanceMethod yX8_bell ∈ lw_gd := mem_gd (List.mem_of_getElem? (i := 1017) (by decide +kernel)) rfl
theorem q_1018 : Cond.selects RX8 yX8_bell yX8_bell ∈ lw_gd := mem_gd (List.mem_of_getElem? (i := 1018) (by decide +kernel)) rfl
theorem q_1019 : Cond.code yX8_bell cX8_bell 3 (some .int) ∈ lw_gd := mem_gd (List.mem_of_getElem? (i := 1019) (by decide +kernel)) rfl
theorem q_1020 : Cond.methodLink RX8 251 yX8_isBell ∈ lw_gd := mem_gd (List.mem_of_getElem? (i := 1020) (by decide +kernel)) rfl
theorem q_1022 : Cond.instanceMethod yX8_isBell ∈ lw_gd := mem_gd (List.mem_of_getElem? (i := 1022) (by decide +kernel)) rfl
theorem q_1023 : Cond.code yX8_isBell cX8_isBell 2 (some .boolean) ∈ lw_gd := mem_gd (List.mem_of_getElem? (i := 1023) (by decide +kernel)) rfl
theorem q_1024 : Cond.constant RX8 255 (-1000000001) ∈ lw_gd := mem_gd (List.mem_of_getElem? (i := 1024) (by decide +kernel)) rfl
theorem q_1025 : Cond.constantLong RX8 256 (99999) ∈ lw_gd := mem_gd (List.mem_of_getElem? (i := 1025) (by decide +kernel)) rfl
theorem q_1026 : Cond.methodLink RX8 258 yX8_longOn ∈ lw_gd := mem_gd (List.mem_of_getElem? (i := 1026) (by decide +kernel)) rfl
theorem q_1028 : Cond.instanceMethod yX8_longOn ∈ lw_gd := mem_gd (List.mem_of_getElem? (i := 1028) (by decide +kernel)) rfl
theorem q_1029 : Cond.code yX8_longOn cX8_longOn 5 (some .int) ∈ lw_gd := mem_gd (List.mem_of_getElem? (i := 1029) (by decide +kernel)) rfl
theorem q_1031 : Cond.instanceMethod yX8_spot ∈ lw_gd := mem_gd (List.mem_of_getElem? (i := 1031) (by decide +kernel)) rfl
theorem q_1032 : Cond.selects RX8 yX8_spot yX8_spot ∈ lw_gd := mem_gd (List.mem_of_getElem? (i := 1032) (by decide +kernel)) rfl
theorem q_1033 : Cond.code yX8_spot cX8_spot 3 (some .int) ∈ lw_gd := mem_gd (List.mem_of_getElem? (i := 1033) (by decide +kernel)) rfl
theorem q_1034 : Cond.methodLink RX8 261 yX8_isSpot ∈ lw_gd := mem_gd (List.mem_of_getElem? (i := 1034) (by decide +kernel)) rfl
theorem q_1036 : Cond.instanceMethod yX8_isSpot ∈ lw_gd := mem_gd (List.mem_of_getElem? (i := 1036) (by decide +kernel)) rfl
theorem q_1037 : Cond.code yX8_isSpot cX8_isSpot 2 (some .boolean) ∈ lw_gd := mem_gd (List.mem_of_getElem? (i := 1037) (by decide +kernel)) rfl
theorem q_1038 : Cond.methodLink RX8 264 yX8_whoIsOn ∈ lw_gd := mem_gd (List.mem_of_getElem? (i := 1038) (by decide +kernel)) rfl
theorem q_1040 : Cond.instanceMethod yX8_whoIsOn ∈ lw_gd := mem_gd (List.mem_of_getElem? (i := 1040) (by decide +kernel)) rfl
theorem q_1041 : Cond.code yX8_whoIsOn cX8_whoIsOn 5 (some .int) ∈ lw_gd := mem_gd (List.mem_of_getElem? (i := 1041) (by decide +kernel)) rfl
theorem q_1043 : Cond.instanceMethod yX8_beggar ∈ lw_gd := mem_gd (List.mem_of_getElem? (i := 1043) (by decide +kernel)) rfl
theorem q_1044 : Cond.selects RX8 yX8_beggar yX8_beggar ∈ lw_gd := mem_gd (List.mem_of_getElem? (i := 1044) (by decide +kernel)) rfl
theorem q_1045 : Cond.code yX8_beggar cX8_beggar 3 (some .int) ∈ lw_gd := mem_gd (List.mem_of_getElem? (i := 1045) (by decide +kernel)) rfl
theorem q_1046 : Cond.methodLink RX8 267 yX8_isBeggar ∈ lw_gd := mem_gd (List.mem_of_getElem? (i := 1046) (by decide +kernel)) rfl
theorem q_1048 : Cond.instanceMethod yX8_isBeggar ∈ lw_gd := mem_gd (List.mem_of_getElem? (i := 1048) (by decide +kernel)) rfl
theorem q_1049 : Cond.code yX8_isBeggar cX8_isBeggar 2 (some .boolean) ∈ lw_gd := mem_gd (List.mem_of_getElem? (i := 1049) (by decide +kernel)) rfl
theorem q_1050 : Cond.methodLink RX8 270 yX8_tallOf ∈ lw_gd := mem_gd (List.mem_of_getElem? (i := 1050) (by decide +kernel)) rfl
theorem q_1052 : Cond.instanceMethod yX8_tallOf ∈ lw_gd := mem_gd (List.mem_of_getElem? (i := 1052) (by decide +kernel)) rfl
theorem q_1053 : Cond.code yX8_tallOf cX8_tallOf 3 (some .int) ∈ lw_gd := mem_gd (List.mem_of_getElem? (i := 1053) (by decide +kernel)) rfl
theorem q_1055 : Cond.instanceMethod yX8_hat ∈ lw_gd := mem_gd (List.mem_of_getElem? (i := 1055) (by decide +kernel)) rfl
theorem q_1056 : Cond.selects RX8 yX8_hat yX8_hat ∈ lw_gd := mem_gd (List.mem_of_getElem? (i := 1056) (by decide +kernel)) rfl
theorem q_1057 : Cond.code yX8_hat cX8_hat 3 (some .int) ∈ lw_gd := mem_gd (List.mem_of_getElem? (i := 1057) (by decide +kernel)) rfl
theorem q_1058 : Cond.methodLink RX8 274 yX8_isHat ∈ lw_gd := mem_gd (List.mem_of_getElem? (i := 1058) (by decide +kernel)) rfl
theorem q_1060 : Cond.instanceMethod yX8_isHat ∈ lw_gd := mem_gd (List.mem_of_getElem? (i := 1060) (by decide +kernel)) rfl
theorem q_1061 : Cond.code yX8_isHat cX8_isHat 2 (some .boolean) ∈ lw_gd := mem_gd (List.mem_of_getElem? (i := 1061) (by decide +kernel)) rfl
theorem q_1062 : Cond.methodLink RX8 277 yX8_onWhom ∈ lw_gd := mem_gd (List.mem_of_getElem? (i := 1062) (by decide +kernel)) rfl
theorem q_1064 : Cond.instanceMethod yX8_onWhom ∈ lw_gd := mem_gd (List.mem_of_getElem? (i := 1064) (by decide +kernel)) rfl
theorem q_1065 : Cond.code yX8_onWhom cX8_onWhom 4 (some .int) ∈ lw_gd := mem_gd (List.mem_of_getElem? (i := 1065) (by decide +kernel)) rfl
theorem q_1067 : Cond.instanceMethod yX8_shadow ∈ lw_gd := mem_gd (List.mem_of_getElem? (i := 1067) (by decide +kernel)) rfl
theorem q_1068 : Cond.selects RX8 yX8_shadow yX8_shadow ∈ lw_gd := mem_gd (List.mem_of_getElem? (i := 1068) (by decide +kernel)) rfl
theorem q_1069 : Cond.code yX8_shadow cX8_shadow 4 (some .int) ∈ lw_gd := mem_gd (List.mem_of_getElem? (i := 1069) (by decide +kernel)) rfl
theorem q_1070 : Cond.methodLink RX8 293 yX8_longNow ∈ lw_gd := mem_gd (List.mem_of_getElem? (i := 1070) (by decide +kernel)) rfl
theorem q_1072 : Cond.instanceMethod yX8_longNow ∈ lw_gd := mem_gd (List.mem_of_getElem? (i := 1072) (by decide +kernel)) rfl
theorem q_1073 : Cond.code yX8_longNow cX8_longNow 2 (some .int) ∈ lw_gd := mem_gd (List.mem_of_getElem? (i := 1073) (by decide +kernel)) rfl
theorem q_1074 : Cond.methodLink RX8 296 yX8_findAlms ∈ lw_gd := mem_gd (List.mem_of_getElem? (i := 1074) (by decide +kernel)) rfl
theorem q_1076 : Cond.instanceMethod yX8_findAlms ∈ lw_gd := mem_gd (List.mem_of_getElem? (i := 1076) (by decide +kernel)) rfl
theorem q_1077 : Cond.code yX8_findAlms cX8_findAlms 7 none ∈ lw_gd := mem_gd (List.mem_of_getElem? (i := 1077) (by decide +kernel)) rfl
theorem q_1078 : Cond.methodLink RX8 284 yX8_shadowOf ∈ lw_gd := mem_gd (List.mem_of_getElem? (i := 1078) (by decide +kernel)) rfl
theorem q_1080 : Cond.instanceMethod yX8_shadowOf ∈ lw_gd := mem_gd (List.mem_of_getElem? (i := 1080) (by decide +kernel)) rfl
theorem q_1081 : Cond.code yX8_shadowOf cX8_shadowOf 6 (some .int) ∈ lw_gd := mem_gd (List.mem_of_getElem? (i := 1081) (by decide +kernel)) rfl
theorem q_1082 : Cond.methodLink RX8 280 yX8_lengthBy ∈ lw_gd := mem_gd (List.mem_of_getElem? (i := 1082) (by decide +kernel)) rfl
theorem q_1084 : Cond.instanceMethod yX8_lengthBy ∈ lw_gd := mem_gd (List.mem_of_getElem? (i := 1084) (by decide +kernel)) rfl
theorem q_1085 : Cond.code yX8_lengthBy cX8_lengthBy 5 (some .int) ∈ lw_gd := mem_gd (List.mem_of_getElem? (i := 1085) (by decide +kernel)) rfl
theorem q_1086 : Cond.methodLink RX8 290 yX8_almsOf ∈ lw_gd := mem_gd (List.mem_of_getElem? (i := 1086) (by decide +kernel)) rfl
theorem q_1088 : Cond.instanceMethod yX8_almsOf ∈ lw_gd := mem_gd (List.mem_of_getElem? (i := 1088) (by decide +kernel)) rfl
theorem q_1089 : Cond.code yX8_almsOf cX8_almsOf 2 (some .int) ∈ lw_gd := mem_gd (List.mem_of_getElem? (i := 1089) (by decide +kernel)) rfl
theorem q_1090 : Cond.methodLink RX8 287 yX8_costOf ∈ lw_gd := mem_gd (List.mem_of_getElem? (i := 1090) (by decide +kernel)) rfl
theorem q_1092 : Cond.instanceMethod yX8_costOf ∈ lw_gd := mem_gd (List.mem_of_getElem? (i := 1092) (by decide +kernel)) rfl
theorem q_1093 : Cond.code yX8_costOf cX8_costOf 2 (some .int) ∈ lw_gd := mem_gd (List.mem_of_getElem? (i := 1093) (by decide +kernel)) rfl
theorem q_1095 : Cond.instanceMethod yX8_go ∈ lw_gd := mem_gd (List.mem_of_getElem? (i := 1095) (by decide +kernel)) rfl
theorem q_1096 : Cond.selects RX8 yX8_go yX8_go ∈ lw_gd := mem_gd (List.mem_of_getElem? (i := 1096) (by decide +kernel)) rfl
theorem q_1097 : Cond.code yX8_go cX8_go 5 (some .int) ∈ lw_gd := mem_gd (List.mem_of_getElem? (i := 1097) (by decide +kernel)) rfl
theorem q_1098 : Cond.constant RX8 300 (-1000000003) ∈ lw_gd := mem_gd (List.mem_of_getElem? (i := 1098) (by decide +kernel)) rfl
theorem q_1100 : Cond.instanceMethod yX8_lend ∈ lw_gd := mem_gd (List.mem_of_getElem? (i := 1100) (by decide +kernel)) rfl
theorem q_1101 : Cond.selects RX8 yX8_lend yX8_lend ∈ lw_gd := mem_gd (List.mem_of_getElem? (i := 1101) (by decide +kernel)) rfl
theorem q_1102 : Cond.code yX8_lend cX8_lend 4 (some .int) ∈ lw_gd := mem_gd (List.mem_of_getElem? (i := 1102) (by decide +kernel)) rfl
theorem q_1104 : Cond.instanceMethod yX8_law ∈ lw_gd := mem_gd (List.mem_of_getElem? (i := 1104) (by decide +kernel)) rfl
theorem q_1105 : Cond.selects RX8 yX8_law yX8_law ∈ lw_gd := mem_gd (List.mem_of_getElem? (i := 1105) (by decide +kernel)) rfl
theorem q_1106 : Cond.code yX8_law cX8_law 3 (some .int) ∈ lw_gd := mem_gd (List.mem_of_getElem? (i := 1106) (by decide +kernel)) rfl
theorem q_1107 : Cond.constantLong RX8 301 (2) ∈ lw_gd := mem_gd (List.mem_of_getElem? (i := 1107) (by decide +kernel)) rfl
theorem q_1109 : Cond.instanceMethod yX8_ring ∈ lw_gd := mem_gd (List.mem_of_getElem? (i := 1109) (by decide +kernel)) rfl
theorem q_1110 : Cond.selects RX8 yX8_ring yX8_ring ∈ lw_gd := mem_gd (List.mem_of_getElem? (i := 1110) (by decide +kernel)) rfl
theorem q_1111 : Cond.code yX8_ring cX8_ring 2 (some .int) ∈ lw_gd := mem_gd (List.mem_of_getElem? (i := 1111) (by decide +kernel)) rfl
theorem q_1112 : Cond.methodLink RX8 307 yX8_ringNow ∈ lw_gd := mem_gd (List.mem_of_getElem? (i := 1112) (by decide +kernel)) rfl
theorem q_1114 : Cond.instanceMethod yX8_ringNow ∈ lw_gd := mem_gd (List.mem_of_getElem? (i := 1114) (by decide +kernel)) rfl
theorem q_1115 : Cond.code yX8_ringNow cX8_ringNow 4 (some .int) ∈ lw_gd := mem_gd (List.mem_of_getElem? (i := 1115) (by decide +kernel)) rfl
theorem q_1116 : Cond.methodLink RX8 304 yX8_held ∈ lw_gd := mem_gd (List.mem_of_getElem? (i := 1116) (by decide +kernel)) rfl
theorem q_1117 : Cond.static yX8_held ∈ lw_gd := mem_gd (List.mem_of_getElem? (i := 1117) (by decide +kernel)) rfl
theorem q_1118 : Cond.code yX8_held cX8_held 1 (some .int) ∈ lw_gd := mem_gd (List.mem_of_getElem? (i := 1118) (by decide +kernel)) rfl
theorem q_1119 : Cond.constant RX8 303 (999999999) ∈ lw_gd := mem_gd (List.mem_of_getElem? (i := 1119) (by decide +kernel)) rfl
theorem q_1121 : Cond.instanceMethod yX8_day ∈ lw_gd := mem_gd (List.mem_of_getElem? (i := 1121) (by decide +kernel)) rfl
theorem q_1122 : Cond.selects RX8 yX8_day yX8_day ∈ lw_gd := mem_gd (List.mem_of_getElem? (i := 1122) (by decide +kernel)) rfl
theorem q_1123 : Cond.code yX8_day cX8_day 2 (some .int) ∈ lw_gd := mem_gd (List.mem_of_getElem? (i := 1123) (by decide +kernel)) rfl
theorem q_1124 : Cond.constantLong RX8 310 (99) ∈ lw_gd := mem_gd (List.mem_of_getElem? (i := 1124) (by decide +kernel)) rfl
theorem q_1126 : Cond.instanceMethod yX8_drift ∈ lw_gd := mem_gd (List.mem_of_getElem? (i := 1126) (by decide +kernel)) rfl
theorem q_1127 : Cond.selects RX8 yX8_drift yX8_drift ∈ lw_gd := mem_gd (List.mem_of_getElem? (i := 1127) (by decide +kernel)) rfl
theorem q_1128 : Cond.code yX8_drift cX8_drift 5 (some .int) ∈ lw_gd := mem_gd (List.mem_of_getElem? (i := 1128) (by decide +kernel)) rfl
theorem q_1129 : Cond.methodLink RX8 325 yX8_dayNow ∈ lw_gd := mem_gd (List.mem_of_getElem? (i := 1129) (by decide +kernel)) rfl
theorem q_1131 : Cond.instanceMethod yX8_dayNow ∈ lw_gd := mem_gd (List.mem_of_getElem? (i := 1131) (by decide +kernel)) rfl
theorem q_1132 : Cond.code yX8_dayNow cX8_dayNow 4 (some .int) ∈ lw_gd := mem_gd (List.mem_of_getElem? (i := 1132) (by decide +kernel)) rfl
theorem q_1133 : Cond.methodLink RX8 322 yX8_draw ∈ lw_gd := mem_gd (List.mem_of_getElem? (i := 1133) (by decide +kernel)) rfl
theorem q_1135 : Cond.instanceMethod yX8_draw ∈ lw_gd := mem_gd (List.mem_of_getElem? (i := 1135) (by decide +kernel)) rfl
theorem q_1136 : Cond.code yX8_draw cX8_draw 2 (some .int) ∈ lw_gd := mem_gd (List.mem_of_getElem? (i := 1136) (by decide +kernel)) rfl
theorem q_1137 : Cond.constantLong RX8 315 (1103515245) ∈ lw_gd := mem_gd (List.mem_of_getElem? (i := 1137) (by decide +kernel)) rfl
theorem q_1138 : Cond.constantLong RX8 317 (12345) ∈ lw_gd := mem_gd (List.mem_of_getElem? (i := 1138) (by decide +kernel)) rfl
theorem q_1139 : Cond.constantLong RX8 319 (2147483648) ∈ lw_gd := mem_gd (List.mem_of_getElem? (i := 1139) (by decide +kernel)) rfl
theorem q_1140 : Cond.constant RX8 321 (65536) ∈ lw_gd := mem_gd (List.mem_of_getElem? (i := 1140) (by decide +kernel)) rfl
theorem q_1142 : Cond.instanceMethod yX8_standing ∈ lw_gd := mem_gd (List.mem_of_getElem? (i := 1142) (by decide +kernel)) rfl
theorem q_1143 : Cond.selects RX8 yX8_standing yX8_standing ∈ lw_gd := mem_gd (List.mem_of_getElem? (i := 1143) (by decide +kernel)) rfl
theorem q_1144 : Cond.code yX8_standing cX8_standing 4 (some .int) ∈ lw_gd := mem_gd (List.mem_of_getElem? (i := 1144) (by decide +kernel)) rfl
theorem q_1145 : Cond.methodLink RX8 339 yX8_saveAll ∈ lw_gd := mem_gd (List.mem_of_getElem? (i := 1145) (by decide +kernel)) rfl
theorem q_1147 : Cond.instanceMethod yX8_saveAll ∈ lw_gd := mem_gd (List.mem_of_getElem? (i := 1147) (by decide +kernel)) rfl
theorem q_1148 : Cond.code yX8_saveAll cX8_saveAll 2 none ∈ lw_gd := mem_gd (List.mem_of_getElem? (i := 1148) (by decide +kernel)) rfl
theorem q_1149 : Cond.methodLink RX8 342 yX8_findStanding ∈ lw_gd := mem_gd (List.mem_of_getElem? (i := 1149) (by decide +kernel)) rfl
theorem q_1151 : Cond.instanceMethod yX8_findStanding ∈ lw_gd := mem_gd (List.mem_of_getElem? (i := 1151) (by decide +kernel)) rfl
theorem q_1152 : Cond.code yX8_findStanding cX8_findStanding 8 none ∈ lw_gd := mem_gd (List.mem_of_getElem? (i := 1152) (by decide +kernel)) rfl
theorem q_1153 : Cond.constant RX8 328 (-1000000000) ∈ lw_gd := mem_gd (List.mem_of_getElem? (i := 1153) (by decide +kernel)) rfl
theorem q_1154 : Cond.methodLink RX8 332 yX8_standBy ∈ lw_gd := mem_gd (List.mem_of_getElem? (i := 1154) (by decide +kernel)) rfl
theorem q_1156 : Cond.instanceMethod yX8_standBy ∈ lw_gd := mem_gd (List.mem_of_getElem? (i := 1156) (by decide +kernel)) rfl
theorem q_1157 : Cond.code yX8_standBy cX8_standBy 8 (some .boolean) ∈ lw_gd := mem_gd (List.mem_of_getElem? (i := 1157) (by decide +kernel)) rfl
theorem q_1158 : Cond.methodLink RX8 336 yX8_almsOfAll ∈ lw_gd := mem_gd (List.mem_of_getElem? (i := 1158) (by decide +kernel)) rfl
theorem q_1160 : Cond.instanceMethod yX8_almsOfAll ∈ lw_gd := mem_gd (List.mem_of_getElem? (i := 1160) (by decide +kernel)) rfl
theorem q_1161 : Cond.code yX8_almsOfAll cX8_almsOfAll 4 (some .int) ∈ lw_gd := mem_gd (List.mem_of_getElem? (i := 1161) (by decide +kernel)) rfl
theorem q_1162 : Cond.methodLink RX8 345 yX8_putBack ∈ lw_gd := mem_gd (List.mem_of_getElem? (i := 1162) (by decide +kernel)) rfl
theorem q_1164 : Cond.instanceMethod yX8_putBack ∈ lw_gd := mem_gd (List.mem_of_getElem? (i := 1164) (by decide +kernel)) rfl
theorem q_1165 : Cond.code yX8_putBack cX8_putBack 2 none ∈ lw_gd := mem_gd (List.mem_of_getElem? (i := 1165) (by decide +kernel)) rfl
theorem q_1167 : Cond.instanceMethod yX8_hats ∈ lw_gd := mem_gd (List.mem_of_getElem? (i := 1167) (by decide +kernel)) rfl
theorem q_1168 : Cond.selects RX8 yX8_hats yX8_hats ∈ lw_gd := mem_gd (List.mem_of_getElem? (i := 1168) (by decide +kernel)) rfl
theorem q_1169 : Cond.code yX8_hats cX8_hats 7 (some .int) ∈ lw_gd := mem_gd (List.mem_of_getElem? (i := 1169) (by decide +kernel)) rfl
theorem q_1170 : Cond.methodLink RX8 348 yX8_lendBy ∈ lw_gd := mem_gd (List.mem_of_getElem? (i := 1170) (by decide +kernel)) rfl
theorem q_1172 : Cond.instanceMethod yX8_lendBy ∈ lw_gd := mem_gd (List.mem_of_getElem? (i := 1172) (by decide +kernel)) rfl
theorem q_1173 : Cond.code yX8_lendBy cX8_lendBy 6 (some .boolean) ∈ lw_gd := mem_gd (List.mem_of_getElem? (i := 1173) (by decide +kernel)) rfl
theorem q_1175 : Cond.instanceMethod yX8_giant ∈ lw_gd := mem_gd (List.mem_of_getElem? (i := 1175) (by decide +kernel)) rfl
theorem q_1176 : Cond.selects RX8 yX8_giant yX8_giant ∈ lw_gd := mem_gd (List.mem_of_getElem? (i := 1176) (by decide +kernel)) rfl
theorem q_1177 : Cond.code yX8_giant cX8_giant 12 (some .int) ∈ lw_gd := mem_gd (List.mem_of_getElem? (i := 1177) (by decide +kernel)) rfl
theorem q_1178 : Cond.constantLong RX8 351 (200) ∈ lw_gd := mem_gd (List.mem_of_getElem? (i := 1178) (by decide +kernel)) rfl
theorem q_1179 : Cond.constantLong RX8 353 (999) ∈ lw_gd := mem_gd (List.mem_of_getElem? (i := 1179) (by decide +kernel)) rfl
theorem q_1181 : Cond.instanceMethod yX8_peace ∈ lw_gd := mem_gd (List.mem_of_getElem? (i := 1181) (by decide +kernel)) rfl
theorem q_1182 : Cond.selects RX8 yX8_peace yX8_peace ∈ lw_gd := mem_gd (List.mem_of_getElem? (i := 1182) (by decide +kernel)) rfl
theorem q_1183 : Cond.code yX8_peace cX8_peace 3 (some .int) ∈ lw_gd := mem_gd (List.mem_of_getElem? (i := 1183) (by decide +kernel)) rfl
theorem q_1184 : Cond.methodLink RX8 355 yX8_lacksFor ∈ lw_gd := mem_gd (List.mem_of_getElem? (i := 1184) (by decide +kernel)) rfl
theorem q_1186 : Cond.instanceMethod yX8_lacksFor ∈ lw_gd := mem_gd (List.mem_of_getElem? (i := 1186) (by decide +kernel)) rfl
theorem q_1187 : Cond.code yX8_lacksFor cX8_lacksFor 4 (some .int) ∈ lw_gd := mem_gd (List.mem_of_getElem? (i := 1187) (by decide +kernel)) rfl
theorem q_1189 : Cond.instanceMethod yX8_bread ∈ lw_gd := mem_gd (List.mem_of_getElem? (i := 1189) (by decide +kernel)) rfl
theorem q_1190 : Cond.selects RX8 yX8_bread yX8_bread ∈ lw_gd := mem_gd (List.mem_of_getElem? (i := 1190) (by decide +kernel)) rfl
theorem q_1191 : Cond.code yX8_bread cX8_bread 4 (some .int) ∈ lw_gd := mem_gd (List.mem_of_getElem? (i := 1191) (by decide +kernel)) rfl
theorem q_1192 : Cond.constantLong RX8 358 (9999) ∈ lw_gd := mem_gd (List.mem_of_getElem? (i := 1192) (by decide +kernel)) rfl
theorem q_1194 : Cond.instanceMethod yX8_best ∈ lw_gd := mem_gd (List.mem_of_getElem? (i := 1194) (by decide +kernel)) rfl
theorem q_1195 : Cond.selects RX8 yX8_best yX8_best ∈ lw_gd := mem_gd (List.mem_of_getElem? (i := 1195) (by decide +kernel)) rfl
theorem q_1196 : Cond.code yX8_best cX8_best 8 (some .int) ∈ lw_gd := mem_gd (List.mem_of_getElem? (i := 1196) (by decide +kernel)) rfl
theorem q_1198 : Cond.instanceMethod yX8_tell ∈ lw_gd := mem_gd (List.mem_of_getElem? (i := 1198) (by decide +kernel)) rfl
theorem q_1199 : Cond.selects RX8 yX8_tell yX8_tell ∈ lw_gd := mem_gd (List.mem_of_getElem? (i := 1199) (by decide +kernel)) rfl
theorem q_1200 : Cond.code yX8_tell cX8_tell 5 (some .int) ∈ lw_gd := mem_gd (List.mem_of_getElem? (i := 1200) (by decide +kernel)) rfl
theorem q_1202 : Cond.instanceMethod yX8_fits ∈ lw_gd := mem_gd (List.mem_of_getElem? (i := 1202) (by decide +kernel)) rfl
theorem q_1203 : Cond.selects RX8 yX8_fits yX8_fits ∈ lw_gd := mem_gd (List.mem_of_getElem? (i := 1203) (by decide +kernel)) rfl
theorem q_1204 : Cond.code yX8_fits cX8_fits 6 (some .int) ∈ lw_gd := mem_gd (List.mem_of_getElem? (i := 1204) (by decide +kernel)) rfl
theorem q_1205 : Cond.methodLink RX8 360 yX8_isAsTold ∈ lw_gd := mem_gd (List.mem_of_getElem? (i := 1205) (by decide +kernel)) rfl
theorem q_1207 : Cond.instanceMethod yX8_isAsTold ∈ lw_gd := mem_gd (List.mem_of_getElem? (i := 1207) (by decide +kernel)) rfl
theorem q_1208 : Cond.code yX8_isAsTold cX8_isAsTold 4 (some .boolean) ∈ lw_gd := mem_gd (List.mem_of_getElem? (i := 1208) (by decide +kernel)) rfl
theorem q_1210 : Cond.instanceMethod yX8_write ∈ lw_gd := mem_gd (List.mem_of_getElem? (i := 1210) (by decide +kernel)) rfl
theorem q_1211 : Cond.selects RX8 yX8_write yX8_write ∈ lw_gd := mem_gd (List.mem_of_getElem? (i := 1211) (by decide +kernel)) rfl
theorem q_1212 : Cond.code yX8_write cX8_write 4 (some .int) ∈ lw_gd := mem_gd (List.mem_of_getElem? (i := 1212) (by decide +kernel)) rfl
theorem q_1213 : Cond.constantLong RX8 363 (-999) ∈ lw_gd := mem_gd (List.mem_of_getElem? (i := 1213) (by decide +kernel)) rfl
theorem q_1215 : Cond.instanceMethod yX8_tear ∈ lw_gd := mem_gd (List.mem_of_getElem? (i := 1215) (by decide +kernel)) rfl
theorem q_1216 : Cond.selects RX8 yX8_tear yX8_tear ∈ lw_gd := mem_gd (List.mem_of_getElem? (i := 1216) (by decide +kernel)) rfl
theorem q_1217 : Cond.code yX8_tear cX8_tear 2 (some .int) ∈ lw_gd := mem_gd (List.mem_of_getElem? (i := 1217) (by decide +kernel)) rfl
theorem q_1219 : Cond.instanceMethod yX8_judge ∈ lw_gd := mem_gd (List.mem_of_getElem? (i := 1219) (by decide +kernel)) rfl
theorem q_1220 : Cond.selects RX8 yX8_judge yX8_judge ∈ lw_gd := mem_gd (List.mem_of_getElem? (i := 1220) (by decide +kernel)) rfl
theorem q_1221 : Cond.code yX8_judge cX8_judge 2 (some .int) ∈ lw_gd := mem_gd (List.mem_of_getElem? (i := 1221) (by decide +kernel)) rfl
theorem q_1223 : Cond.instanceMethod yX8_seed ∈ lw_gd := mem_gd (List.mem_of_getElem? (i := 1223) (by decide +kernel)) rfl
theorem q_1224 : Cond.selects RX8 yX8_seed yX8_seed ∈ lw_gd := mem_gd (List.mem_of_getElem? (i := 1224) (by decide +kernel)) rfl
theorem q_1225 : Cond.code yX8_seed cX8_seed 3 (some .int) ∈ lw_gd := mem_gd (List.mem_of_getElem? (i := 1225) (by decide +kernel)) rfl
theorem q_1227 : Cond.instanceMethod yX8_keep ∈ lw_gd := mem_gd (List.mem_of_getElem? (i := 1227) (by decide +kernel)) rfl
theorem q_1228 : Cond.selects RX8 yX8_keep yX8_keep ∈ lw_gd := mem_gd (List.mem_of_getElem? (i := 1228) (by decide +kernel)) rfl
theorem q_1229 : Cond.code yX8_keep cX8_keep 4 (some .int) ∈ lw_gd := mem_gd (List.mem_of_getElem? (i := 1229) (by decide +kernel)) rfl
theorem q_1231 : Cond.instanceMethod yX8_goBack ∈ lw_gd := mem_gd (List.mem_of_getElem? (i := 1231) (by decide +kernel)) rfl
theorem q_1232 : Cond.selects RX8 yX8_goBack yX8_goBack ∈ lw_gd := mem_gd (List.mem_of_getElem? (i := 1232) (by decide +kernel)) rfl
theorem q_1233 : Cond.code yX8_goBack cX8_goBack 4 (some .int) ∈ lw_gd := mem_gd (List.mem_of_getElem? (i := 1233) (by decide +kernel)) rfl
theorem q_1235 : Cond.fieldLink RJ0 9 "java/lang/String" "value" "[B" ∈ lw_gd := mem_gd (List.mem_of_getElem? (i := 1235) (by decide +kernel)) rfl
theorem q_1236 : Cond.fieldLink RJ0 15 "java/lang/String" "coder" "B" ∈ lw_gd := mem_gd (List.mem_of_getElem? (i := 1236) (by decide +kernel)) rfl
