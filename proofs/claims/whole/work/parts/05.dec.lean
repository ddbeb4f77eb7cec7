set_option maxRecDepth 100000 in
theorem db_X0_findSets : (pg_X0_findSets).all (am_db cX0_findSets RX0) = true := by decide +kernel
set_option maxRecDepth 100000 in
theorem db_X0_bookIsSo : (pg_X0_bookIsSo).all (am_db cX0_bookIsSo RX0) = true := by decide +kernel
set_option maxRecDepth 100000 in
theorem db_X0_findQuestion : (pg_X0_findQuestion).all (am_db cX0_findQuestion RX0) = true := by decide +kernel
set_option maxRecDepth 100000 in
theorem db_X0_leftAtWorst : (pg_X0_leftAtWorst).all (am_db cX0_leftAtWorst RX0) = true := by decide +kernel
set_option maxRecDepth 100000 in
theorem db_X0_maybesReached : (pg_X0_maybesReached).all (am_db cX0_maybesReached RX0) = true := by decide +kernel
set_option maxRecDepth 100000 in
theorem db_X0_countWith : (pg_X0_countWith).all (am_db cX0_countWith RX0) = true := by decide +kernel
set_option maxRecDepth 100000 in
theorem db_X1_gainBy : (pg_X1_gainBy).all (am_db cX1_gainBy RX1) = true := by decide +kernel
set_option maxRecDepth 100000 in
theorem db_X1_findLeastBuilding : (pg_X1_findLeastBuilding).all (am_db cX1_findLeastBuilding RX1) = true := by decide +kernel
set_option maxRecDepth 100000 in
theorem db_X1_costOf : (pg_X1_costOf).all (am_db cX1_costOf RX1) = true := by decide +kernel
set_option maxRecDepth 100000 in
theorem db_X1_mostWith : (pg_X1_mostWith).all (am_db cX1_mostWith RX1) = true := by decide +kernel
set_option maxRecDepth 100000 in
theorem db_X1_findRests : (pg_X1_findRests).all (am_db cX1_findRests RX1) = true := by decide +kernel
set_option maxRecDepth 100000 in
theorem db_X1_fillWorths : (pg_X1_fillWorths).all (am_db cX1_fillWorths RX1) = true := by decide +kernel
set_option maxRecDepth 100000 in
theorem db_X1_isOpen : (pg_X1_isOpen).all (am_db cX1_isOpen RX1) = true := by decide +kernel
set_option maxRecDepth 100000 in
theorem db_X1_isRest : (pg_X1_isRest).all (am_db cX1_isRest RX1) = true := by decide +kernel
set_option maxRecDepth 100000 in
theorem db_X1_hasBetter : (pg_X1_hasBetter).all (am_db cX1_hasBetter RX1) = true := by decide +kernel
set_option maxRecDepth 100000 in
theorem db_X1_outcome : (pg_X1_outcome).all (am_db cX1_outcome RX1) = true := by decide +kernel
set_option maxRecDepth 100000 in
theorem db_X1_digitsOfChoices : (pg_X1_digitsOfChoices).all (am_db cX1_digitsOfChoices RX1) = true := by decide +kernel
set_option maxRecDepth 100000 in
theorem db_X1_nextRow : (pg_X1_nextRow).all (am_db cX1_nextRow RX1) = true := by decide +kernel
set_option maxRecDepth 100000 in
theorem db_X2_clear : (pg_X2_clear).all (am_db cX2_clear RX2) = true := by decide +kernel
set_option maxRecDepth 100000 in
theorem db_X2_take : (pg_X2_take).all (am_db cX2_take RX2) = true := by decide +kernel
set_option maxRecDepth 100000 in
theorem db_X2_bare : (pg_X2_bare).all (am_db cX2_bare RX2) = true := by decide +kernel
set_option maxRecDepth 100000 in
theorem db_X2_raise : (pg_X2_raise).all (am_db cX2_raise RX2) = true := by decide +kernel
set_option maxRecDepth 100000 in
theorem db_X2_lower : (pg_X2_lower).all (am_db cX2_lower RX2) = true := by decide +kernel
set_option maxRecDepth 100000 in
theorem db_X3_survey : (pg_X3_survey).all (am_db cX3_survey RX3) = true := by decide +kernel
set_option maxRecDepth 100000 in
theorem db_X3_noteCount : (pg_X3_noteCount).all (am_db cX3_noteCount RX3) = true := by decide +kernel
set_option maxRecDepth 100000 in
theorem db_X3_worthBy : (pg_X3_worthBy).all (am_db cX3_worthBy RX3) = true := by decide +kernel
set_option maxRecDepth 100000 in
theorem db_X3_mostForDeaf : (pg_X3_mostForDeaf).all (am_db cX3_mostForDeaf RX3) = true := by decide +kernel
set_option maxRecDepth 100000 in
theorem db_X3_fairPart : (pg_X3_fairPart).all (am_db cX3_fairPart RX3) = true := by decide +kernel
set_option maxRecDepth 100000 in
theorem db_X3_bestTrade : (pg_X3_bestTrade).all (am_db cX3_bestTrade RX3) = true := by decide +kernel
set_option maxRecDepth 100000 in
theorem db_X3_unlikePairs : (pg_X3_unlikePairs).all (am_db cX3_unlikePairs RX3) = true := by decide +kernel
set_option maxRecDepth 100000 in
theorem db_X4_clear : (pg_X4_clear).all (am_db cX4_clear RX4) = true := by decide +kernel
set_option maxRecDepth 100000 in
theorem db_X4_take : (pg_X4_take).all (am_db cX4_take RX4) = true := by decide +kernel
set_option maxRecDepth 100000 in
theorem db_X5_readAll : (pg_X5_readAll).all (am_db cX5_readAll RX5) = true := by decide +kernel
set_option maxRecDepth 100000 in
theorem db_X5_readKind : (pg_X5_readKind).all (am_db cX5_readKind RX5) = true := by decide +kernel
set_option maxRecDepth 100000 in
theorem db_X5_readNumbers : (pg_X5_readNumbers).all (am_db cX5_readNumbers RX5) = true := by decide +kernel
set_option maxRecDepth 100000 in
theorem db_X5_isFull : (pg_X5_isFull).all (am_db cX5_isFull RX5) = true := by decide +kernel
set_option maxRecDepth 100000 in
theorem db_X5_readSize : (pg_X5_readSize).all (am_db cX5_readSize RX5) = true := by decide +kernel
set_option maxRecDepth 100000 in
theorem db_X5_readThing : (pg_X5_readThing).all (am_db cX5_readThing RX5) = true := by decide +kernel
set_option maxRecDepth 100000 in
theorem db_X5_readPlace : (pg_X5_readPlace).all (am_db cX5_readPlace RX5) = true := by decide +kernel
set_option maxRecDepth 100000 in
theorem db_X5_readPlaceWith : (pg_X5_readPlaceWith).all (am_db cX5_readPlaceWith RX5) = true := by decide +kernel
set_option maxRecDepth 100000 in
theorem db_X5_readField : (pg_X5_readField).all (am_db cX5_readField RX5) = true := by decide +kernel
set_option maxRecDepth 100000 in
theorem db_X5_readSeason : (pg_X5_readSeason).all (am_db cX5_readSeason RX5) = true := by decide +kernel
set_option maxRecDepth 100000 in
theorem db_X5_readEnd : (pg_X5_readEnd).all (am_db cX5_readEnd RX5) = true := by decide +kernel
set_option maxRecDepth 100000 in
theorem db_X5_readNumber : (pg_X5_readNumber).all (am_db cX5_readNumber RX5) = true := by decide +kernel
set_option maxRecDepth 100000 in
theorem db_X5_readWord : (pg_X5_readWord).all (am_db cX5_readWord RX5) = true := by decide +kernel
set_option maxRecDepth 100000 in
theorem db_X5_isWord : (pg_X5_isWord).all (am_db cX5_isWord RX5) = true := by decide +kernel
set_option maxRecDepth 100000 in
theorem db_X5_wordOf : (pg_X5_wordOf).all (am_db cX5_wordOf RX5) = true := by decide +kernel
set_option maxRecDepth 100000 in
theorem db_X5_skipBlanks : (pg_X5_skipBlanks).all (am_db cX5_skipBlanks RX5) = true := by decide +kernel
set_option maxRecDepth 100000 in
theorem db_X5_refuse : (pg_X5_refuse).all (am_db cX5_refuse RX5) = true := by decide +kernel
set_option maxRecDepth 100000 in
theorem db_X6_shout : (pg_X6_shout).all (am_db cX6_shout RX6) = true := by decide +kernel
set_option maxRecDepth 100000 in
theorem db_X6_follow : (pg_X6_follow).all (am_db cX6_follow RX6) = true := by decide +kernel
set_option maxRecDepth 100000 in
theorem db_X6_addEcho : (pg_X6_addEcho).all (am_db cX6_addEcho RX6) = true := by decide +kernel
set_option maxRecDepth 100000 in
theorem db_X6_tellEcho : (pg_X6_tellEcho).all (am_db cX6_tellEcho RX6) = true := by decide +kernel
set_option maxRecDepth 100000 in
theorem db_X6_countBy : (pg_X6_countBy).all (am_db cX6_countBy RX6) = true := by decide +kernel
set_option maxRecDepth 100000 in
theorem db_X6_countTimes : (pg_X6_countTimes).all (am_db cX6_countTimes RX6) = true := by decide +kernel
set_option maxRecDepth 100000 in
theorem db_X6_countStrong : (pg_X6_countStrong).all (am_db cX6_countStrong RX6) = true := by decide +kernel
set_option maxRecDepth 100000 in
theorem db_X6_countAt : (pg_X6_countAt).all (am_db cX6_countAt RX6) = true := by decide +kernel
set_option maxRecDepth 100000 in
theorem db_X6_snowsFalling : (pg_X6_snowsFalling).all (am_db cX6_snowsFalling RX6) = true := by decide +kernel
set_option maxRecDepth 100000 in
theorem db_X6_greatestHush : (pg_X6_greatestHush).all (am_db cX6_greatestHush RX6) = true := by decide +kernel
set_option maxRecDepth 100000 in
theorem db_X6_shoutForPeaks : (pg_X6_shoutForPeaks).all (am_db cX6_shoutForPeaks RX6) = true := by decide +kernel
set_option maxRecDepth 100000 in
theorem db_X7_listen : (pg_X7_listen).all (am_db cX7_listen RX7) = true := by decide +kernel
set_option maxRecDepth 100000 in
theorem db_X7_strengthOfSong : (pg_X7_strengthOfSong).all (am_db cX7_strengthOfSong RX7) = true := by decide +kernel
set_option maxRecDepth 100000 in
theorem db_X7_findPeak : (pg_X7_findPeak).all (am_db cX7_findPeak RX7) = true := by decide +kernel
set_option maxRecDepth 100000 in
theorem db_X7_bestSong : (pg_X7_bestSong).all (am_db cX7_bestSong RX7) = true := by decide +kernel
set_option maxRecDepth 100000 in
theorem db_X8_isFull : (pg_X8_isFull).all (am_db cX8_isFull RX8) = true := by decide +kernel
set_option maxRecDepth 100000 in
theorem db_X8_open : (pg_X8_open).all (am_db cX8_open RX8) = true := by decide +kernel
set_option maxRecDepth 100000 in
theorem db_X8_has : (pg_X8_has).all (am_db cX8_has RX8) = true := by decide +kernel
set_option maxRecDepth 100000 in
theorem db_X8_at : (pg_X8_at).all (am_db cX8_at RX8) = true := by decide +kernel
set_option maxRecDepth 100000 in
theorem db_X8_put : (pg_X8_put).all (am_db cX8_put RX8) = true := by decide +kernel
set_option maxRecDepth 100000 in
theorem db_X8_cellAt : (pg_X8_cellAt).all (am_db cX8_cellAt RX8) = true := by decide +kernel
set_option maxRecDepth 100000 in
theorem db_X8_take : (pg_X8_take).all (am_db cX8_take RX8) = true := by decide +kernel
set_option maxRecDepth 100000 in
theorem db_X9_feed : (pg_X9_feed).all (am_db cX9_feed RX9) = true := by decide +kernel
set_option maxRecDepth 100000 in
theorem db_X9_valley : (pg_X9_valley).all (am_db cX9_valley RX9) = true := by decide +kernel
set_option maxRecDepth 100000 in
theorem db_X9_fault : (pg_X9_fault).all (am_db cX9_fault RX9) = true := by decide +kernel
set_option maxRecDepth 100000 in
theorem db_X9_told : (pg_X9_told).all (am_db cX9_told RX9) = true := by decide +kernel
set_option maxRecDepth 100000 in
theorem db_X9_cell : (pg_X9_cell).all (am_db cX9_cell RX9) = true := by decide +kernel
set_option maxRecDepth 100000 in
theorem db_X9_build : (pg_X9_build).all (am_db cX9_build RX9) = true := by decide +kernel
set_option maxRecDepth 100000 in
theorem db_X9_fell : (pg_X9_fell).all (am_db cX9_fell RX9) = true := by decide +kernel
set_option maxRecDepth 100000 in
theorem db_X9_years : (pg_X9_years).all (am_db cX9_years RX9) = true := by decide +kernel
set_option maxRecDepth 100000 in
theorem db_X9_echoes : (pg_X9_echoes).all (am_db cX9_echoes RX9) = true := by decide +kernel
set_option maxRecDepth 100000 in
theorem db_X9_echo : (pg_X9_echo).all (am_db cX9_echo RX9) = true := by decide +kernel
set_option maxRecDepth 100000 in
theorem db_X9_count : (pg_X9_count).all (am_db cX9_count RX9) = true := by decide +kernel
set_option maxRecDepth 100000 in
theorem db_X9_field : (pg_X9_field).all (am_db cX9_field RX9) = true := by decide +kernel
set_option maxRecDepth 100000 in
theorem db_X9_most : (pg_X9_most).all (am_db cX9_most RX9) = true := by decide +kernel
set_option maxRecDepth 100000 in
theorem db_X9_least : (pg_X9_least).all (am_db cX9_least RX9) = true := by decide +kernel
set_option maxRecDepth 100000 in
theorem db_X9_mean : (pg_X9_mean).all (am_db cX9_mean RX9) = true := by decide +kernel
set_option maxRecDepth 100000 in
theorem db_X9_worth : (pg_X9_worth).all (am_db cX9_worth RX9) = true := by decide +kernel
set_option maxRecDepth 100000 in
theorem db_X9_gain : (pg_X9_gain).all (am_db cX9_gain RX9) = true := by decide +kernel
set_option maxRecDepth 100000 in
theorem db_X9_building : (pg_X9_building).all (am_db cX9_building RX9) = true := by decide +kernel
set_option maxRecDepth 100000 in
theorem db_X9_rests : (pg_X9_rests).all (am_db cX9_rests RX9) = true := by decide +kernel
set_option maxRecDepth 100000 in
theorem db_X9_fair : (pg_X9_fair).all (am_db cX9_fair RX9) = true := by decide +kernel
set_option maxRecDepth 100000 in
theorem db_X9_trade : (pg_X9_trade).all (am_db cX9_trade RX9) = true := by decide +kernel
set_option maxRecDepth 100000 in
theorem db_X9_unlike : (pg_X9_unlike).all (am_db cX9_unlike RX9) = true := by decide +kernel
set_option maxRecDepth 100000 in
theorem db_X9_heard : (pg_X9_heard).all (am_db cX9_heard RX9) = true := by decide +kernel
set_option maxRecDepth 100000 in
theorem db_X9_loudest : (pg_X9_loudest).all (am_db cX9_loudest RX9) = true := by decide +kernel
set_option maxRecDepth 100000 in
theorem db_X9_compose : (pg_X9_compose).all (am_db cX9_compose RX9) = true := by decide +kernel
set_option maxRecDepth 100000 in
theorem db_X9_book : (pg_X9_book).all (am_db cX9_book RX9) = true := by decide +kernel
set_option maxRecDepth 100000 in
theorem db_X9_forget : (pg_X9_forget).all (am_db cX9_forget RX9) = true := by decide +kernel
set_option maxRecDepth 100000 in
theorem db_X9_explain : (pg_X9_explain).all (am_db cX9_explain RX9) = true := by decide +kernel
set_option maxRecDepth 100000 in
theorem db_X9_ask : (pg_X9_ask).all (am_db cX9_ask RX9) = true := by decide +kernel
set_option maxRecDepth 100000 in
theorem db_X9_snows : (pg_X9_snows).all (am_db cX9_snows RX9) = true := by decide +kernel
set_option maxRecDepth 100000 in
theorem db_X9_safe : (pg_X9_safe).all (am_db cX9_safe RX9) = true := by decide +kernel
set_option maxRecDepth 100000 in
theorem db_X9_hush : (pg_X9_hush).all (am_db cX9_hush RX9) = true := by decide +kernel
set_option maxRecDepth 100000 in
theorem db_X9_deaf : (pg_X9_deaf).all (am_db cX9_deaf RX9) = true := by decide +kernel
set_option maxRecDepth 100000 in
theorem db_X9_image : (pg_X9_image).all (am_db cX9_image RX9) = true := by decide +kernel
set_option maxRecDepth 100000 in
theorem db_X9_restore : (pg_X9_restore).all (am_db cX9_restore RX9) = true := by decide +kernel
set_option maxRecDepth 100000 in
theorem db_X9_status : (pg_X9_status).all (am_db cX9_status RX9) = true := by decide +kernel
set_option maxRecDepth 100000 in
theorem db_X9_sums : (pg_X9_sums).all (am_db cX9_sums RX9) = true := by decide +kernel
set_option maxRecDepth 100000 in
theorem db_X9_putOnTape : (pg_X9_putOnTape).all (am_db cX9_putOnTape RX9) = true := by decide +kernel
set_option maxRecDepth 100000 in
theorem db_X9_needCell : (pg_X9_needCell).all (am_db cX9_needCell RX9) = true := by decide +kernel
set_option maxRecDepth 100000 in
theorem db_X9_needField : (pg_X9_needField).all (am_db cX9_needField RX9) = true := by decide +kernel
set_option maxRecDepth 100000 in
theorem db_X9_needBetween : (pg_X9_needBetween).all (am_db cX9_needBetween RX9) = true := by decide +kernel
set_option maxRecDepth 100000 in
theorem db_X9_needFog : (pg_X9_needFog).all (am_db cX9_needFog RX9) = true := by decide +kernel
set_option maxRecDepth 100000 in
theorem db_X9_needLaw : (pg_X9_needLaw).all (am_db cX9_needLaw RX9) = true := by decide +kernel
set_option maxRecDepth 100000 in
theorem db_X9_needNotes : (pg_X9_needNotes).all (am_db cX9_needNotes RX9) = true := by decide +kernel
set_option maxRecDepth 100000 in
theorem db_X9_needSurvey : (pg_X9_needSurvey).all (am_db cX9_needSurvey RX9) = true := by decide +kernel
set_option maxRecDepth 100000 in
theorem db_X9_cellOf : (pg_X9_cellOf).all (am_db cX9_cellOf RX9) = true := by decide +kernel
set_option maxRecDepth 100000 in
theorem db_X9_partOfFraction : (pg_X9_partOfFraction).all (am_db cX9_partOfFraction RX9) = true := by decide +kernel
set_option maxRecDepth 100000 in
theorem db_X9_commonDivisor : (pg_X9_commonDivisor).all (am_db cX9_commonDivisor RX9) = true := by decide +kernel
set_option maxRecDepth 100000 in
theorem db_X10_thrown : (pg_X10_thrown).all (am_db cX10_thrown RX10) = true := by decide +kernel
set_option maxRecDepth 100000 in
theorem db_X10_may : (pg_X10_may).all (am_db cX10_may RX10) = true := by decide +kernel
set_option maxRecDepth 100000 in
theorem db_X10_within : (pg_X10_within).all (am_db cX10_within RX10) = true := by decide +kernel
set_option maxRecDepth 100000 in
theorem db_X10_feed : (pg_X10_feed).all (am_db cX10_feed RX10) = true := by decide +kernel
set_option maxRecDepth 100000 in
theorem db_X10_fine : (pg_X10_fine).all (am_db cX10_fine RX10) = true := by decide +kernel
set_option maxRecDepth 100000 in
theorem db_X10_wrong : (pg_X10_wrong).all (am_db cX10_wrong RX10) = true := by decide +kernel
set_option maxRecDepth 100000 in
theorem db_X10_here : (pg_X10_here).all (am_db cX10_here RX10) = true := by decide +kernel
set_option maxRecDepth 100000 in
theorem db_X10_isSmall : (pg_X10_isSmall).all (am_db cX10_isSmall RX10) = true := by decide +kernel
set_option maxRecDepth 100000 in
theorem db_X10_isDigit : (pg_X10_isDigit).all (am_db cX10_isDigit RX10) = true := by decide +kernel
set_option maxRecDepth 100000 in
theorem db_X10_word : (pg_X10_word).all (am_db cX10_word RX10) = true := by decide +kernel
set_option maxRecDepth 100000 in
theorem db_X10_of : (pg_X10_of).all (am_db cX10_of RX10) = true := by decide +kernel
set_option maxRecDepth 100000 in
theorem db_X10_pass : (pg_X10_pass).all (am_db cX10_pass RX10) = true := by decide +kernel
set_option maxRecDepth 100000 in
theorem db_X10_readNumber : (pg_X10_readNumber).all (am_db cX10_readNumber RX10) = true := by decide +kernel
set_option maxRecDepth 100000 in
theorem db_X10_sign : (pg_X10_sign).all (am_db cX10_sign RX10) = true := by decide +kernel
set_option maxRecDepth 100000 in
theorem db_X10_isMore : (pg_X10_isMore).all (am_db cX10_isMore RX10) = true := by decide +kernel
set_option maxRecDepth 100000 in
theorem db_X10_begins : (pg_X10_begins).all (am_db cX10_begins RX10) = true := by decide +kernel
set_option maxRecDepth 100000 in
theorem db_X10_result : (pg_X10_result).all (am_db cX10_result RX10) = true := by decide +kernel
set_option maxRecDepth 100000 in
theorem db_X10_fault : (pg_X10_fault).all (am_db cX10_fault RX10) = true := by decide +kernel
set_option maxRecDepth 100000 in
theorem db_X10_clears : (pg_X10_clears).all (am_db cX10_clears RX10) = true := by decide +kernel
set_option maxRecDepth 100000 in
theorem db_X10_copies : (pg_X10_copies).all (am_db cX10_copies RX10) = true := by decide +kernel
set_option maxRecDepth 100000 in
theorem db_X10_sets : (pg_X10_sets).all (am_db cX10_sets RX10) = true := by decide +kernel
set_option maxRecDepth 100000 in
theorem db_X10_readCell : (pg_X10_readCell).all (am_db cX10_readCell RX10) = true := by decide +kernel
set_option maxRecDepth 100000 in
theorem db_X10_readOther : (pg_X10_readOther).all (am_db cX10_readOther RX10) = true := by decide +kernel
set_option maxRecDepth 100000 in
theorem db_X10_isOther : (pg_X10_isOther).all (am_db cX10_isOther RX10) = true := by decide +kernel
set_option maxRecDepth 100000 in
theorem db_X10_isFull : (pg_X10_isFull).all (am_db cX10_isFull RX10) = true := by decide +kernel
set_option maxRecDepth 100000 in
theorem db_X10_valley : (pg_X10_valley).all (am_db cX10_valley RX10) = true := by decide +kernel
set_option maxRecDepth 100000 in
theorem db_X10_told : (pg_X10_told).all (am_db cX10_told RX10) = true := by decide +kernel
set_option maxRecDepth 100000 in
theorem db_X10_isCell : (pg_X10_isCell).all (am_db cX10_isCell RX10) = true := by decide +kernel
set_option maxRecDepth 100000 in
theorem db_X10_isField : (pg_X10_isField).all (am_db cX10_isField RX10) = true := by decide +kernel
set_option maxRecDepth 100000 in
theorem db_X10_cell : (pg_X10_cell).all (am_db cX10_cell RX10) = true := by decide +kernel
set_option maxRecDepth 100000 in
theorem db_X10_build : (pg_X10_build).all (am_db cX10_build RX10) = true := by decide +kernel
set_option maxRecDepth 100000 in
theorem db_X10_fell : (pg_X10_fell).all (am_db cX10_fell RX10) = true := by decide +kernel
set_option maxRecDepth 100000 in
theorem db_X10_years : (pg_X10_years).all (am_db cX10_years RX10) = true := by decide +kernel
set_option maxRecDepth 100000 in
theorem db_X10_across : (pg_X10_across).all (am_db cX10_across RX10) = true := by decide +kernel
set_option maxRecDepth 100000 in
theorem db_X10_down : (pg_X10_down).all (am_db cX10_down RX10) = true := by decide +kernel
set_option maxRecDepth 100000 in
theorem db_X10_hard : (pg_X10_hard).all (am_db cX10_hard RX10) = true := by decide +kernel
set_option maxRecDepth 100000 in
theorem db_X10_falls : (pg_X10_falls).all (am_db cX10_falls RX10) = true := by decide +kernel
set_option maxRecDepth 100000 in
theorem db_X10_puts : (pg_X10_puts).all (am_db cX10_puts RX10) = true := by decide +kernel
set_option maxRecDepth 100000 in
theorem db_X10_goes : (pg_X10_goes).all (am_db cX10_goes RX10) = true := by decide +kernel
set_option maxRecDepth 100000 in
theorem db_X10_shouts : (pg_X10_shouts).all (am_db cX10_shouts RX10) = true := by decide +kernel
set_option maxRecDepth 100000 in
theorem db_X10_isFog : (pg_X10_isFog).all (am_db cX10_isFog RX10) = true := by decide +kernel
set_option maxRecDepth 100000 in
theorem db_X10_echoes : (pg_X10_echoes).all (am_db cX10_echoes RX10) = true := by decide +kernel
set_option maxRecDepth 100000 in
theorem db_X10_echo : (pg_X10_echo).all (am_db cX10_echo RX10) = true := by decide +kernel
set_option maxRecDepth 100000 in
theorem db_X10_countOf : (pg_X10_countOf).all (am_db cX10_countOf RX10) = true := by decide +kernel
set_option maxRecDepth 100000 in
theorem db_X10_count : (pg_X10_count).all (am_db cX10_count RX10) = true := by decide +kernel
set_option maxRecDepth 100000 in
theorem db_X10_findField : (pg_X10_findField).all (am_db cX10_findField RX10) = true := by decide +kernel
set_option maxRecDepth 100000 in
theorem db_X10_field : (pg_X10_field).all (am_db cX10_field RX10) = true := by decide +kernel
set_option maxRecDepth 100000 in
theorem db_X10_foundOf : (pg_X10_foundOf).all (am_db cX10_foundOf RX10) = true := by decide +kernel
set_option maxRecDepth 100000 in
theorem db_X10_most : (pg_X10_most).all (am_db cX10_most RX10) = true := by decide +kernel
set_option maxRecDepth 100000 in
theorem db_X10_least : (pg_X10_least).all (am_db cX10_least RX10) = true := by decide +kernel
set_option maxRecDepth 100000 in
theorem db_X10_divisor : (pg_X10_divisor).all (am_db cX10_divisor RX10) = true := by decide +kernel
set_option maxRecDepth 100000 in
theorem db_X10_fraction : (pg_X10_fraction).all (am_db cX10_fraction RX10) = true := by decide +kernel
set_option maxRecDepth 100000 in
theorem db_X10_mean : (pg_X10_mean).all (am_db cX10_mean RX10) = true := by decide +kernel
set_option maxRecDepth 100000 in
theorem db_X10_worthBy : (pg_X10_worthBy).all (am_db cX10_worthBy RX10) = true := by decide +kernel
set_option maxRecDepth 100000 in
theorem db_X10_worth : (pg_X10_worth).all (am_db cX10_worth RX10) = true := by decide +kernel
set_option maxRecDepth 100000 in
theorem db_X10_gain : (pg_X10_gain).all (am_db cX10_gain RX10) = true := by decide +kernel
set_option maxRecDepth 100000 in
theorem db_X10_openSites : (pg_X10_openSites).all (am_db cX10_openSites RX10) = true := by decide +kernel
set_option maxRecDepth 100000 in
theorem db_X10_stands : (pg_X10_stands).all (am_db cX10_stands RX10) = true := by decide +kernel
set_option maxRecDepth 100000 in
theorem db_X10_building : (pg_X10_building).all (am_db cX10_building RX10) = true := by decide +kernel
set_option maxRecDepth 100000 in
theorem db_X10_barns : (pg_X10_barns).all (am_db cX10_barns RX10) = true := by decide +kernel
set_option maxRecDepth 100000 in
theorem db_X10_gets : (pg_X10_gets).all (am_db cX10_gets RX10) = true := by decide +kernel
set_option maxRecDepth 100000 in
theorem db_X10_isRest : (pg_X10_isRest).all (am_db cX10_isRest RX10) = true := by decide +kernel
set_option maxRecDepth 100000 in
theorem db_X10_rests : (pg_X10_rests).all (am_db cX10_rests RX10) = true := by decide +kernel
set_option maxRecDepth 100000 in
theorem db_X10_fair : (pg_X10_fair).all (am_db cX10_fair RX10) = true := by decide +kernel
set_option maxRecDepth 100000 in
theorem db_X10_trade : (pg_X10_trade).all (am_db cX10_trade RX10) = true := by decide +kernel
set_option maxRecDepth 100000 in
theorem db_X10_sideOf : (pg_X10_sideOf).all (am_db cX10_sideOf RX10) = true := by decide +kernel
set_option maxRecDepth 100000 in
theorem db_X10_unlike : (pg_X10_unlike).all (am_db cX10_unlike RX10) = true := by decide +kernel
set_option maxRecDepth 100000 in
theorem db_X10_listens : (pg_X10_listens).all (am_db cX10_listens RX10) = true := by decide +kernel
set_option maxRecDepth 100000 in
theorem db_X10_heardAt : (pg_X10_heardAt).all (am_db cX10_heardAt RX10) = true := by decide +kernel
set_option maxRecDepth 100000 in
theorem db_X10_findLoudest : (pg_X10_findLoudest).all (am_db cX10_findLoudest RX10) = true := by decide +kernel
set_option maxRecDepth 100000 in
theorem db_X10_areNotes : (pg_X10_areNotes).all (am_db cX10_areNotes RX10) = true := by decide +kernel
set_option maxRecDepth 100000 in
theorem db_X10_heard : (pg_X10_heard).all (am_db cX10_heard RX10) = true := by decide +kernel
set_option maxRecDepth 100000 in
theorem db_X10_loudest : (pg_X10_loudest).all (am_db cX10_loudest RX10) = true := by decide +kernel
set_option maxRecDepth 100000 in
theorem db_X10_ones : (pg_X10_ones).all (am_db cX10_ones RX10) = true := by decide +kernel
set_option maxRecDepth 100000 in
theorem db_X10_compose : (pg_X10_compose).all (am_db cX10_compose RX10) = true := by decide +kernel
set_option maxRecDepth 100000 in
theorem db_X10_book : (pg_X10_book).all (am_db cX10_book RX10) = true := by decide +kernel
set_option maxRecDepth 100000 in
theorem db_X10_forget : (pg_X10_forget).all (am_db cX10_forget RX10) = true := by decide +kernel
set_option maxRecDepth 100000 in
theorem db_X10_wonders : (pg_X10_wonders).all (am_db cX10_wonders RX10) = true := by decide +kernel
set_option maxRecDepth 100000 in
theorem db_X10_explains : (pg_X10_explains).all (am_db cX10_explains RX10) = true := by decide +kernel
set_option maxRecDepth 100000 in
theorem db_X10_findSo : (pg_X10_findSo).all (am_db cX10_findSo RX10) = true := by decide +kernel
set_option maxRecDepth 100000 in
theorem db_X10_explain : (pg_X10_explain).all (am_db cX10_explain RX10) = true := by decide +kernel
set_option maxRecDepth 100000 in
theorem db_X10_ask : (pg_X10_ask).all (am_db cX10_ask RX10) = true := by decide +kernel
set_option maxRecDepth 100000 in
theorem db_X10_snows : (pg_X10_snows).all (am_db cX10_snows RX10) = true := by decide +kernel
set_option maxRecDepth 100000 in
theorem db_X10_safe : (pg_X10_safe).all (am_db cX10_safe RX10) = true := by decide +kernel
set_option maxRecDepth 100000 in
theorem db_X10_hush : (pg_X10_hush).all (am_db cX10_hush RX10) = true := by decide +kernel
set_option maxRecDepth 100000 in
theorem db_X10_deaf : (pg_X10_deaf).all (am_db cX10_deaf RX10) = true := by decide +kernel
set_option maxRecDepth 100000 in
theorem db_X10_keeps : (pg_X10_keeps).all (am_db cX10_keeps RX10) = true := by decide +kernel
set_option maxRecDepth 100000 in
theorem db_X10_keepsAll : (pg_X10_keepsAll).all (am_db cX10_keepsAll RX10) = true := by decide +kernel
set_option maxRecDepth 100000 in
theorem db_X10_image : (pg_X10_image).all (am_db cX10_image RX10) = true := by decide +kernel
set_option maxRecDepth 100000 in
theorem db_X10_restore : (pg_X10_restore).all (am_db cX10_restore RX10) = true := by decide +kernel
set_option maxRecDepth 100000 in
theorem db_X10_status : (pg_X10_status).all (am_db cX10_status RX10) = true := by decide +kernel
set_option maxRecDepth 100000 in
theorem db_X10_sums : (pg_X10_sums).all (am_db cX10_sums RX10) = true := by decide +kernel
set_option maxRecDepth 100000 in
theorem db_J0_length_8abf5 : (pg_J0_length_8abf5).all (am_db cJ0_length_8abf5 RJ0) = true := by decide +kernel
set_option maxRecDepth 100000 in
theorem db_J0_charAt_5068e : (pg_J0_charAt_5068e).all (am_db cJ0_charAt_5068e RJ0) = true := by decide +kernel
set_option maxRecDepth 100000 in
theorem db_J0_coder_7d493 : (pg_J0_coder_7d493).all (am_db cJ0_coder_7d493 RJ0) = true := by decide +kernel
set_option maxRecDepth 100000 in
theorem db_J0_isLatin1_aae02 : (pg_J0_isLatin1_aae02).all (am_db cJ0_isLatin1_aae02 RJ0) = true := by decide +kernel
set_option maxRecDepth 100000 in
theorem db_J0_checkIndex_df160 : (pg_J0_checkIndex_df160).all (am_db cJ0_checkIndex_df160 RJ0) = true := by decide +kernel
set_option maxRecDepth 100000 in
theorem db_J1_charAt_3b067 : (pg_J1_charAt_3b067).all (am_db cJ1_charAt_3b067 RJ1) = true := by decide +kernel
set_option maxRecDepth 100000 in
theorem db_J3_checkIndex_8e157 : (pg_J3_checkIndex_8e157).all (am_db cJ3_checkIndex_8e157 RJ3) = true := by decide +kernel
set_option maxRecDepth 100000 in
theorem db_J6_compare_7cf53 : (pg_J6_compare_7cf53).all (am_db cJ6_compare_7cf53 RJ6) = true := by decide +kernel
set_option maxRecDepth 100000 in
theorem db_J6_bitCount_0f7a4 : (pg_J6_bitCount_0f7a4).all (am_db cJ6_bitCount_0f7a4 RJ6) = true := by decide +kernel
