/-! ===== the tables are right ===== -/
set_option maxRecDepth 100000 in
theorem nk_ck0 : nk_T0.all (nk_chk 0 cX0_remember) = true := by decide +kernel
set_option maxRecDepth 100000 in
theorem nk_ck1 : nk_T1.all (nk_chk 0 cX0_returnTo) = true := by decide +kernel
set_option maxRecDepth 100000 in
theorem nk_ck2 : nk_T2.all (nk_chk 1 cX1_divide) = true := by decide +kernel
set_option maxRecDepth 100000 in
theorem nk_ck3 : nk_T3.all (nk_chk 1 cX1_place) = true := by decide +kernel
set_option maxRecDepth 100000 in
theorem nk_ck4 : nk_T4.all (nk_chk 1 cX1_roomOf) = true := by decide +kernel
set_option maxRecDepth 100000 in
theorem nk_ck5 : nk_T5.all (nk_chk 2 cX2_copyFrom) = true := by decide +kernel
set_option maxRecDepth 100000 in
theorem nk_ck6 : nk_T6.all (nk_chk 2 cX2_clear) = true := by decide +kernel
set_option maxRecDepth 100000 in
theorem nk_ck7 : nk_T7.all (nk_chk 2 cX2_addPerson) = true := by decide +kernel
set_option maxRecDepth 100000 in
theorem nk_ck8 : nk_T8.all (nk_chk 2 cX2_has) = true := by decide +kernel
set_option maxRecDepth 100000 in
theorem nk_ck9 : nk_T9.all (nk_chk 2 cX2_hasPair) = true := by decide +kernel
set_option maxRecDepth 100000 in
theorem nk_ck10 : nk_T10.all (nk_chk 2 cX2_hasAll) = true := by decide +kernel
set_option maxRecDepth 100000 in
theorem nk_ck11 : nk_T11.all (nk_chk 2 cX2_kindOf) = true := by decide +kernel
set_option maxRecDepth 100000 in
theorem nk_ck12 : nk_T12.all (nk_chk 2 cX2_bearsOf) = true := by decide +kernel
set_option maxRecDepth 100000 in
theorem nk_ck13 : nk_T13.all (nk_chk 2 cX2_roleTo) = true := by decide +kernel
set_option maxRecDepth 100000 in
theorem nk_ck14 : nk_T14.all (nk_chk 2 cX2_setRole) = true := by decide +kernel
set_option maxRecDepth 100000 in
theorem nk_ck15 : nk_T15.all (nk_chk 2 cX2_knownTo) = true := by decide +kernel
set_option maxRecDepth 100000 in
theorem nk_ck16 : nk_T16.all (nk_chk 2 cX2_introductions) = true := by decide +kernel
set_option maxRecDepth 100000 in
theorem nk_ck17 : nk_T17.all (nk_chk 2 cX2_mustBe) = true := by decide +kernel
set_option maxRecDepth 100000 in
theorem nk_ck18 : nk_T18.all (nk_chk 2 cX2_mustBeTwo) = true := by decide +kernel
set_option maxRecDepth 100000 in
theorem nk_ck19 : nk_T19.all (nk_chk 2 cX2_clashOf) = true := by decide +kernel
set_option maxRecDepth 100000 in
theorem nk_ck20 : nk_T20.all (nk_chk 2 cX2_passEvening) = true := by decide +kernel
set_option maxRecDepth 100000 in
theorem nk_ck21 : nk_T21.all (nk_chk 2 cX2_spread) = true := by decide +kernel
set_option maxRecDepth 100000 in
theorem nk_ck22 : nk_T22.all (nk_chk 2 cX2_onlyRole) = true := by decide +kernel
set_option maxRecDepth 100000 in
theorem nk_ck23 : nk_T23.all (nk_chk 3 cX3_note) = true := by decide +kernel
set_option maxRecDepth 100000 in
theorem nk_ck24 : nk_T24.all (nk_chk 3 cX3_fit) = true := by decide +kernel
set_option maxRecDepth 100000 in
theorem nk_ck25 : nk_T25.all (nk_chk 4 cX4_append) = true := by decide +kernel
set_option maxRecDepth 100000 in
theorem nk_ck26 : nk_T26.all (nk_chk 4 cX4_readInto) = true := by decide +kernel
set_option maxRecDepth 100000 in
theorem nk_ck27 : nk_T27.all (nk_chk 4 cX4_readClause) = true := by decide +kernel
set_option maxRecDepth 100000 in
theorem nk_ck28 : nk_T28.all (nk_chk 4 cX4_readIntroduction) = true := by decide +kernel
set_option maxRecDepth 100000 in
theorem nk_ck29 : nk_T29.all (nk_chk 4 cX4_readRoom) = true := by decide +kernel
set_option maxRecDepth 100000 in
theorem nk_ck30 : nk_T30.all (nk_chk 4 cX4_kindByWord) = true := by decide +kernel
set_option maxRecDepth 100000 in
theorem nk_ck31 : nk_T31.all (nk_chk 4 cX4_toNextToken) = true := by decide +kernel
set_option maxRecDepth 100000 in
theorem nk_ck32 : nk_T32.all (nk_chk 4 cX4_letterAt) = true := by decide +kernel
set_option maxRecDepth 100000 in
theorem nk_ck33 : nk_T33.all (nk_chk 4 cX4_sortAt) = true := by decide +kernel
set_option maxRecDepth 100000 in
theorem nk_ck34 : nk_T34.all (nk_chk 4 cX4_isWord) = true := by decide +kernel
set_option maxRecDepth 100000 in
theorem nk_ck35 : nk_T35.all (nk_chk 4 cX4_number) = true := by decide +kernel
set_option maxRecDepth 100000 in
theorem nk_ck36 : nk_T36.all (nk_chk 5 cX5_write) = true := by decide +kernel
set_option maxRecDepth 100000 in
theorem nk_ck37 : nk_T37.all (nk_chk 5 cX5_erase) = true := by decide +kernel
set_option maxRecDepth 100000 in
theorem nk_ck38 : nk_T38.all (nk_chk 5 cX5_fault) = true := by decide +kernel
set_option maxRecDepth 100000 in
theorem nk_ck39 : nk_T39.all (nk_chk 5 cX5_season) = true := by decide +kernel
set_option maxRecDepth 100000 in
theorem nk_ck40 : nk_T40.all (nk_chk 5 cX5_person) = true := by decide +kernel
set_option maxRecDepth 100000 in
theorem nk_ck41 : nk_T41.all (nk_chk 5 cX5_to) = true := by decide +kernel
set_option maxRecDepth 100000 in
theorem nk_ck42 : nk_T42.all (nk_chk 5 cX5_as) = true := by decide +kernel
set_option maxRecDepth 100000 in
theorem nk_ck43 : nk_T43.all (nk_chk 5 cX5_comes) = true := by decide +kernel
set_option maxRecDepth 100000 in
theorem nk_ck44 : nk_T44.all (nk_chk 5 cX5_introduce) = true := by decide +kernel
set_option maxRecDepth 100000 in
theorem nk_ck45 : nk_T45.all (nk_chk 5 cX5_contradict) = true := by decide +kernel
set_option maxRecDepth 100000 in
theorem nk_ck46 : nk_T46.all (nk_chk 5 cX5_evening) = true := by decide +kernel
set_option maxRecDepth 100000 in
theorem nk_ck47 : nk_T47.all (nk_chk 5 cX5_undo) = true := by decide +kernel
set_option maxRecDepth 100000 in
theorem nk_ck48 : nk_T48.all (nk_chk 5 cX5_keep) = true := by decide +kernel
set_option maxRecDepth 100000 in
theorem nk_ck49 : nk_T49.all (nk_chk 5 cX5_back) = true := by decide +kernel
set_option maxRecDepth 100000 in
theorem nk_ck50 : nk_T50.all (nk_chk 5 cX5_clash) = true := by decide +kernel
set_option maxRecDepth 100000 in
theorem nk_ck51 : nk_T51.all (nk_chk 5 cX5_rooms) = true := by decide +kernel
set_option maxRecDepth 100000 in
theorem nk_ck52 : nk_T52.all (nk_chk 5 cX5_largest) = true := by decide +kernel
set_option maxRecDepth 100000 in
theorem nk_ck53 : nk_T53.all (nk_chk 5 cX5_smallest) = true := by decide +kernel
set_option maxRecDepth 100000 in
theorem nk_ck54 : nk_T54.all (nk_chk 5 cX5_may) = true := by decide +kernel
set_option maxRecDepth 100000 in
theorem nk_ck55 : nk_T55.all (nk_chk 5 cX5_learn) = true := by decide +kernel
set_option maxRecDepth 100000 in
theorem nk_ck56 : nk_T56.all (nk_chk 5 cX5_stays) = true := by decide +kernel
set_option maxRecDepth 100000 in
theorem nk_ck57 : nk_T57.all (nk_chk 5 cX5_seen) = true := by decide +kernel
set_option maxRecDepth 100000 in
theorem nk_ck58 : nk_T58.all (nk_chk 5 cX5_forget) = true := by decide +kernel
set_option maxRecDepth 100000 in
theorem nk_ck59 : nk_T59.all (nk_chk 5 cX5_was) = true := by decide +kernel
set_option maxRecDepth 100000 in
theorem nk_ck60 : nk_T60.all (nk_chk 5 cX5_chance) = true := by decide +kernel
set_option maxRecDepth 100000 in
theorem nk_ck61 : nk_T61.all (nk_chk 5 cX5_count) = true := by decide +kernel
set_option maxRecDepth 100000 in
theorem nk_ck62 : nk_T62.all (nk_chk 5 cX5_foretell) = true := by decide +kernel
set_option maxRecDepth 100000 in
theorem nk_ck63 : nk_T63.all (nk_chk 5 cX5_weightOfPeace) = true := by decide +kernel
set_option maxRecDepth 100000 in
theorem nk_ck64 : nk_T64.all (nk_chk 5 cX5_power) = true := by decide +kernel
set_option maxRecDepth 100000 in
theorem nk_ck65 : nk_T65.all (nk_chk 5 cX5_commonDivisor) = true := by decide +kernel
set_option maxRecDepth 100000 in
theorem nk_ck66 : nk_T66.all (nk_chk 5 cX5_isRole) = true := by decide +kernel
set_option maxRecDepth 100000 in
theorem nk_ck67 : nk_T67.all (nk_chk 5 cX5_roleOrNone) = true := by decide +kernel
set_option maxRecDepth 100000 in
theorem nk_ck68 : nk_T68.all (nk_chk 5 cX5_isIn) = true := by decide +kernel
set_option maxRecDepth 100000 in
theorem nk_ck69 : nk_T69.all (nk_chk 5 cX5_isPart) = true := by decide +kernel
set_option maxRecDepth 100000 in
theorem nk_ck70 : nk_T70.all (nk_chk 5 cX5_isUnder) = true := by decide +kernel
