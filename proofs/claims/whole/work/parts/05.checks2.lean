set_option maxRecDepth 100000 in
theorem nk_ck71 : nk_T71.all (nk_chk 6 cX6_in) = true := by decide +kernel
set_option maxRecDepth 100000 in
theorem nk_ck72 : nk_T72.all (nk_chk 6 cX6_has) = true := by decide +kernel
set_option maxRecDepth 100000 in
theorem nk_ck73 : nk_T73.all (nk_chk 6 cX6_ones) = true := by decide +kernel
set_option maxRecDepth 100000 in
theorem nk_ck74 : nk_T74.all (nk_chk 6 cX6_isPerson) = true := by decide +kernel
set_option maxRecDepth 100000 in
theorem nk_ck75 : nk_T75.all (nk_chk 6 cX6_arePeople) = true := by decide +kernel
set_option maxRecDepth 100000 in
theorem nk_ck76 : nk_T76.all (nk_chk 6 cX6_areTwo) = true := by decide +kernel
set_option maxRecDepth 100000 in
theorem nk_ck77 : nk_T77.all (nk_chk 6 cX6_write) = true := by decide +kernel
set_option maxRecDepth 100000 in
theorem nk_ck78 : nk_T78.all (nk_chk 6 cX6_erase) = true := by decide +kernel
set_option maxRecDepth 100000 in
theorem nk_ck79 : nk_T79.all (nk_chk 6 cX6_letterAt) = true := by decide +kernel
set_option maxRecDepth 100000 in
theorem nk_ck80 : nk_T80.all (nk_chk 6 cX6_nextToken) = true := by decide +kernel
set_option maxRecDepth 100000 in
theorem nk_ck81 : nk_T81.all (nk_chk 6 cX6_wordOf) = true := by decide +kernel
set_option maxRecDepth 100000 in
theorem nk_ck82 : nk_T82.all (nk_chk 6 cX6_spelt) = true := by decide +kernel
set_option maxRecDepth 100000 in
theorem nk_ck83 : nk_T83.all (nk_chk 6 cX6_verb) = true := by decide +kernel
set_option maxRecDepth 100000 in
theorem nk_ck84 : nk_T84.all (nk_chk 6 cX6_number) = true := by decide +kernel
set_option maxRecDepth 100000 in
theorem nk_ck85 : nk_T85.all (nk_chk 6 cX6_readPerson) = true := by decide +kernel
set_option maxRecDepth 100000 in
theorem nk_ck86 : nk_T86.all (nk_chk 6 cX6_readAs) = true := by decide +kernel
set_option maxRecDepth 100000 in
theorem nk_ck87 : nk_T87.all (nk_chk 6 cX6_readClause) = true := by decide +kernel
set_option maxRecDepth 100000 in
theorem nk_ck88 : nk_T88.all (nk_chk 6 cX6_readText) = true := by decide +kernel
set_option maxRecDepth 100000 in
theorem nk_ck89 : nk_T89.all (nk_chk 6 cX6_fault) = true := by decide +kernel
set_option maxRecDepth 100000 in
theorem nk_ck90 : nk_T90.all (nk_chk 6 cX6_season) = true := by decide +kernel
set_option maxRecDepth 100000 in
theorem nk_ck91 : nk_T91.all (nk_chk 6 cX6_roleTo) = true := by decide +kernel
set_option maxRecDepth 100000 in
theorem nk_ck92 : nk_T92.all (nk_chk 6 cX6_mustBe) = true := by decide +kernel
set_option maxRecDepth 100000 in
theorem nk_ck93 : nk_T93.all (nk_chk 6 cX6_bears) = true := by decide +kernel
set_option maxRecDepth 100000 in
theorem nk_ck94 : nk_T94.all (nk_chk 6 cX6_isTwo) = true := by decide +kernel
set_option maxRecDepth 100000 in
theorem nk_ck95 : nk_T95.all (nk_chk 6 cX6_twoIn) = true := by decide +kernel
set_option maxRecDepth 100000 in
theorem nk_ck96 : nk_T96.all (nk_chk 6 cX6_knownMany) = true := by decide +kernel
set_option maxRecDepth 100000 in
theorem nk_ck97 : nk_T97.all (nk_chk 6 cX6_person) = true := by decide +kernel
set_option maxRecDepth 100000 in
theorem nk_ck98 : nk_T98.all (nk_chk 6 cX6_orNone) = true := by decide +kernel
set_option maxRecDepth 100000 in
theorem nk_ck99 : nk_T99.all (nk_chk 6 cX6_to) = true := by decide +kernel
set_option maxRecDepth 100000 in
theorem nk_ck100 : nk_T100.all (nk_chk 6 cX6_as) = true := by decide +kernel
set_option maxRecDepth 100000 in
theorem nk_ck101 : nk_T101.all (nk_chk 6 cX6_note) = true := by decide +kernel
set_option maxRecDepth 100000 in
theorem nk_ck102 : nk_T102.all (nk_chk 6 cX6_comes) = true := by decide +kernel
set_option maxRecDepth 100000 in
theorem nk_ck103 : nk_T103.all (nk_chk 6 cX6_introduce) = true := by decide +kernel
set_option maxRecDepth 100000 in
theorem nk_ck104 : nk_T104.all (nk_chk 6 cX6_contradict) = true := by decide +kernel
set_option maxRecDepth 100000 in
theorem nk_ck105 : nk_T105.all (nk_chk 6 cX6_oneEvening) = true := by decide +kernel
set_option maxRecDepth 100000 in
theorem nk_ck106 : nk_T106.all (nk_chk 6 cX6_evening) = true := by decide +kernel
set_option maxRecDepth 100000 in
theorem nk_ck107 : nk_T107.all (nk_chk 6 cX6_undo) = true := by decide +kernel
set_option maxRecDepth 100000 in
theorem nk_ck108 : nk_T108.all (nk_chk 6 cX6_keep) = true := by decide +kernel
set_option maxRecDepth 100000 in
theorem nk_ck109 : nk_T109.all (nk_chk 6 cX6_back) = true := by decide +kernel
set_option maxRecDepth 100000 in
theorem nk_ck110 : nk_T110.all (nk_chk 6 cX6_clash) = true := by decide +kernel
set_option maxRecDepth 100000 in
theorem nk_ck111 : nk_T111.all (nk_chk 6 cX6_roomsBy) = true := by decide +kernel
set_option maxRecDepth 100000 in
theorem nk_ck112 : nk_T112.all (nk_chk 6 cX6_rooms) = true := by decide +kernel
set_option maxRecDepth 100000 in
theorem nk_ck113 : nk_T113.all (nk_chk 6 cX6_largest) = true := by decide +kernel
set_option maxRecDepth 100000 in
theorem nk_ck114 : nk_T114.all (nk_chk 6 cX6_smallest) = true := by decide +kernel
set_option maxRecDepth 100000 in
theorem nk_ck115 : nk_T115.all (nk_chk 6 cX6_may) = true := by decide +kernel
set_option maxRecDepth 100000 in
theorem nk_ck116 : nk_T116.all (nk_chk 6 cX6_goOn) = true := by decide +kernel
set_option maxRecDepth 100000 in
theorem nk_ck117 : nk_T117.all (nk_chk 6 cX6_takeBack) = true := by decide +kernel
set_option maxRecDepth 100000 in
theorem nk_ck118 : nk_T118.all (nk_chk 6 cX6_learn) = true := by decide +kernel
set_option maxRecDepth 100000 in
theorem nk_ck119 : nk_T119.all (nk_chk 6 cX6_stays) = true := by decide +kernel
set_option maxRecDepth 100000 in
theorem nk_ck120 : nk_T120.all (nk_chk 6 cX6_seen) = true := by decide +kernel
set_option maxRecDepth 100000 in
theorem nk_ck121 : nk_T121.all (nk_chk 6 cX6_forget) = true := by decide +kernel
set_option maxRecDepth 100000 in
theorem nk_ck122 : nk_T122.all (nk_chk 6 cX6_isSo) = true := by decide +kernel
set_option maxRecDepth 100000 in
theorem nk_ck123 : nk_T123.all (nk_chk 6 cX6_was) = true := by decide +kernel
set_option maxRecDepth 100000 in
theorem nk_ck124 : nk_T124.all (nk_chk 6 cX6_chance) = true := by decide +kernel
set_option maxRecDepth 100000 in
theorem nk_ck125 : nk_T125.all (nk_chk 6 cX6_count) = true := by decide +kernel
set_option maxRecDepth 100000 in
theorem nk_ck126 : nk_T126.all (nk_chk 11 cJ6_bitCount_0f7a4) = true := by decide +kernel
set_option maxRecDepth 100000 in
theorem nk_ck127 : nk_T127.all (nk_chk 8 cJ0_length_8abf5) = true := by decide +kernel
set_option maxRecDepth 100000 in
theorem nk_ck128 : nk_T128.all (nk_chk 8 cJ0_charAt_5068e) = true := by decide +kernel
set_option maxRecDepth 100000 in
theorem nk_ck129 : nk_T129.all (nk_chk 8 cJ0_coder_7d493) = true := by decide +kernel
set_option maxRecDepth 100000 in
theorem nk_ck130 : nk_T130.all (nk_chk 8 cJ0_isLatin1_aae02) = true := by decide +kernel
set_option maxRecDepth 100000 in
theorem nk_ck131 : nk_T131.all (nk_chk 8 cJ0_checkIndex_df160) = true := by decide +kernel
set_option maxRecDepth 100000 in
theorem nk_ck132 : nk_T132.all (nk_chk 9 cJ1_charAt_3b067) = true := by decide +kernel
set_option maxRecDepth 100000 in
theorem nk_ck133 : nk_T133.all (nk_chk 10 cJ3_checkIndex_8e157) = true := by decide +kernel
