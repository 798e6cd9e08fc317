/-! ONE list of words for every method: wAll. A word of it by its place. -/
def wA0 : List Cond := [.code yJ7_fill_53178 cJ7_fill_53178 4 none, .code yX2_clear cX2_clear 1 none, .fieldLink RX2 30 "FlickerDesk$Film" "wide" "I", .fieldLink RX2 34 "FlickerDesk$Film" "high" "I", .fieldLink RX2 37 "FlickerDesk$Film" "frames" "I", .fieldLink RX2 15 "FlickerDesk$Film" "cuts" "[I", .fieldLink RX2 18 "FlickerDesk$Film" "skips" "[I", .fieldLink RX2 24 "FlickerDesk$Film" "weights" "[I", .fieldLink RX2 21 "FlickerDesk$Film" "settings" "[I", .methodLink RX2 49 arraycopyName, .native arraycopyName, .static arraycopyName, .initialized "java/lang/System", .methodLink RX2 40 yJ7_fill_53178, .static yJ7_fill_53178, .initialized RJ7, .methodLink RX2 3 objectInit, .instanceMethod objectInit, .code objectInit ⟨#[0xb1]⟩ 1 none, .arrayClass .int, .fieldLink RX2 9 "FlickerDesk$Film" "dots" "[I", .methodLink RX2 27 yX2_clear, .instanceMethod yX2_clear, .selects RX2 yX2_clear yX2_clear, .initialized RX2, .code yX2_init cX2_init 1 none, .methodLink RX0 3 objectInit, .classLink RX0 9 RX2, .fieldLink RX0 11 "FlickerDesk$Acts" "films" "[LFlickerDesk$Film;", .instantiable RX2 8, .methodLink RX0 17 yX2_init, .instanceMethod yX2_init, .code yX0_init cX0_init 2 none, .code yX0_dropOldest cX0_dropOldest 3 none, .fieldLink RX0 18 "FlickerDesk$Acts" "many" "I", .code yX2_copyDots cX2_copyDots 2 none, .code yX2_copyFrom cX2_copyFrom 2 none, .methodLink RX2 55 yX2_copyDots, .instanceMethod yX2_copyDots, .selects RX2 yX2_copyDots yX2_copyDots, .methodLink RX0 22 yX0_dropOldest, .instanceMethod yX0_dropOldest, .selects RX0 yX0_dropOldest yX0_dropOldest, .initialized RX0, .methodLink RX0 25 yX2_copyFrom, .instanceMethod yX2_copyFrom, .selects RX2 yX2_copyFrom yX2_copyFrom, .code yX0_keep cX0_keep 2 none, .code yX0_bringBack cX0_bringBack 2 none, .code yX9_init cX9_init 1 none, .methodLink RX9 3 objectInit, .fieldLink RX9 9 "FlickerDesk$Tally" "cums" "[I", .code yX8_init cX8_init 1 none, .methodLink RX8 3 objectInit, .fieldLink RX8 9 "FlickerDesk$Scenes" "sceneOf" "[I", .fieldLink RX8 15 "FlickerDesk$Scenes" "firstOf" "[I", .fieldLink RX8 18 "FlickerDesk$Scenes" "sums" "[I", .code yX6_init cX6_init 1 none, .methodLink RX6 3 objectInit, .fieldLink RX6 9 "FlickerDesk$Ranks" "order" "[I"]
def wA1 : List Cond := [.fieldLink RX6 15 "FlickerDesk$Ranks" "across" "[I", .fieldLink RX6 18 "FlickerDesk$Ranks" "around" "[I", .fieldLink RX6 21 "FlickerDesk$Ranks" "nextOf" "[I", .methodLink RX1 3 objectInit, .classLink RX1 9 RX9, .instantiable RX9 1, .initialized RX9, .fieldLink RX1 12 "FlickerDesk$Evening" "ahead" "LFlickerDesk$Tally;", .fieldLink RX1 18 "FlickerDesk$Evening" "then" "LFlickerDesk$Tally;", .classLink RX1 21 RX8, .instantiable RX8 4, .initialized RX8, .fieldLink RX1 24 "FlickerDesk$Evening" "scenes" "LFlickerDesk$Scenes;", .classLink RX1 28 RX6, .instantiable RX6 5, .initialized RX6, .fieldLink RX1 31 "FlickerDesk$Evening" "ranks" "LFlickerDesk$Ranks;", .fieldLink RX1 35 "FlickerDesk$Evening" "targets" "[I", .fieldLink RX1 39 "FlickerDesk$Evening" "tables" "[I", .fieldLink RX1 42 "FlickerDesk$Evening" "dots" "[I", .instanceMethod yX9_init, .instanceMethod yX8_init, .instanceMethod yX6_init, .code yX1_init cX1_init 1 none, .code yX1_forget cX1_forget 1 none, .fieldLink RX1 45 "FlickerDesk$Evening" "isLooked" "Z", .fieldLink RX1 49 "FlickerDesk$Evening" "isEvened" "Z", .code yX1_forgetEvened cX1_forgetEvened 1 none, .code yX2_size cX2_size 1 (some .int), .code yX9_read cX9_read 7 none, .methodLink RX9 15 yJ7_fill_53178, .code yX9_gap cX9_gap 6 (some .int), .code yX8_isFirst cX8_isFirst 4 (some .boolean), .fieldLink RX8 34 "FlickerDesk$Film" "cuts" "[I", .fieldLink RX8 37 "FlickerDesk$Film" "settings" "[I", .methodLink RX8 40 yX9_gap, .instanceMethod yX9_gap, .selects RX9 yX9_gap yX9_gap, .code yX8_find cX8_find 4 none, .fieldLink RX8 21 "FlickerDesk$Scenes" "many" "I", .fieldLink RX8 25 "FlickerDesk$Film" "frames" "I", .methodLink RX8 30 yX8_isFirst, .static yX8_isFirst, .fieldLink RX1 52 "FlickerDesk$Film" "dots" "[I", .fieldLink RX1 55 "FlickerDesk$Film" "frames" "I", .methodLink RX1 59 yX2_size, .instanceMethod yX2_size, .selects RX2 yX2_size yX2_size, .methodLink RX1 63 yX9_read, .instanceMethod yX9_read, .selects RX9 yX9_read yX9_read, .methodLink RX1 67 yX8_find, .instanceMethod yX8_find, .selects RX8 yX8_find yX8_find, .code yX1_look cX1_look 2 none, .code yX8_keyFrame cX8_keyFrame 8 (some .int), .code yX1_aimAt cX1_aimAt 3 none, .fieldLink RX1 112 "FlickerDesk$Tally" "cums" "[I", .methodLink RX1 115 arraycopyName, .fieldLink RX1 105 "FlickerDesk$Scenes" "firstOf" "[I"]
def wA2 : List Cond := [.methodLink RX1 101 yX8_keyFrame, .instanceMethod yX8_keyFrame, .selects RX8 yX8_keyFrame yX8_keyFrame, .methodLink RX1 108 yX1_aimAt, .instanceMethod yX1_aimAt, .selects RX1 yX1_aimAt yX1_aimAt, .initialized RX1, .code yX1_aimByKey cX1_aimByKey 4 none, .code yX8_start cX8_start 2 (some .int), .code yX1_windowStart cX1_windowStart 3 (some .int), .fieldLink RX1 82 "FlickerDesk$Film" "settings" "[I", .methodLink RX1 147 Lib.Math.max.name, .static Lib.Math.max.name, .initialized "java/lang/Math", .code Lib.Math.max.name Lib.Math.max.code 2 (some .int), .methodLink RX1 144 yX8_start, .instanceMethod yX8_start, .selects RX8 yX8_start yX8_start, .code yX8_last cX8_last 2 (some .int), .code yX1_windowLast cX1_windowLast 3 (some .int), .methodLink RX1 154 Lib.Math.min.name, .static Lib.Math.min.name, .code Lib.Math.min.name Lib.Math.min.code 2 (some .int), .methodLink RX1 151 yX8_last, .instanceMethod yX8_last, .selects RX8 yX8_last yX8_last, .code yX1_addWeighted cX1_addWeighted 5 none, .fieldLink RX1 128 "FlickerDesk$Film" "skips" "[I", .fieldLink RX1 131 "FlickerDesk$Film" "weights" "[I", .methodLink RX1 134 Lib.Math.abs.name, .static Lib.Math.abs.name, .code Lib.Math.abs.name Lib.Math.abs.code 1 (some .int), .methodLink RX1 121 yX1_windowStart, .instanceMethod yX1_windowStart, .selects RX1 yX1_windowStart yX1_windowStart, .methodLink RX1 125 yX1_windowLast, .instanceMethod yX1_windowLast, .selects RX1 yX1_windowLast yX1_windowLast, .methodLink RX1 140 yX1_addWeighted, .instanceMethod yX1_addWeighted, .selects RX1 yX1_addWeighted yX1_addWeighted, .code yX1_aimByWindow cX1_aimByWindow 7 none, .fieldLink RX1 91 "FlickerDesk$Scenes" "many" "I", .methodLink RX1 94 yX1_aimByKey, .instanceMethod yX1_aimByKey, .selects RX1 yX1_aimByKey yX1_aimByKey, .methodLink RX1 98 yX1_aimByWindow, .instanceMethod yX1_aimByWindow, .selects RX1 yX1_aimByWindow yX1_aimByWindow, .code yX1_aim cX1_aim 3 none, .code yX2_keeps cX2_keeps 2 (some .boolean), .code yX2_bounded cX2_bounded 5 (some .int), .methodLink RX2 70 Lib.Math.max.name, .methodLink RX2 76 Lib.Math.min.name, .code yX1_makeTable cX1_makeTable 6 none, .methodLink RX1 157 yX2_keeps, .instanceMethod yX2_keeps, .selects RX2 yX2_keeps yX2_keeps, .methodLink RX1 161 yX2_bounded, .instanceMethod yX2_bounded]
def wA3 : List Cond := [.selects RX2 yX2_bounded yX2_bounded, .code yX6_addAcross cX6_addAcross 9 none, .fieldLink RX6 47 "FlickerDesk$Film" "high" "I", .fieldLink RX6 50 "FlickerDesk$Film" "wide" "I", .fieldLink RX6 53 "FlickerDesk$Film" "dots" "[I", .code yX6_addAround cX6_addAround 6 none, .fieldLink RX6 30 "FlickerDesk$Ranks" "size" "I", .code yX6_orderByShade cX6_orderByShade 6 none, .fieldLink RX6 56 "FlickerDesk$Tally" "cums" "[I", .code yX6_orderWithinShades cX6_orderWithinShades 7 none, .methodLink RX6 24 yX2_size, .methodLink RX6 33 yX6_addAcross, .instanceMethod yX6_addAcross, .selects RX6 yX6_addAcross yX6_addAcross, .methodLink RX6 37 yX6_addAround, .instanceMethod yX6_addAround, .selects RX6 yX6_addAround yX6_addAround, .methodLink RX6 40 yX6_orderByShade, .instanceMethod yX6_orderByShade, .selects RX6 yX6_orderByShade yX6_orderByShade, .methodLink RX6 44 yX6_orderWithinShades, .instanceMethod yX6_orderWithinShades, .selects RX6 yX6_orderWithinShades yX6_orderWithinShades, .code yX6_read cX6_read 4 none, .fieldLink RX1 167 "FlickerDesk$Ranks" "order" "[I", .methodLink RX1 164 yX6_read, .instanceMethod yX6_read, .selects RX6 yX6_read yX6_read, .code yX1_spreadDots cX1_spreadDots 7 none, .code yX1_passByTable cX1_passByTable 5 none, .methodLink RX1 71 yX1_look, .instanceMethod yX1_look, .selects RX1 yX1_look yX1_look, .methodLink RX1 75 yX1_aim, .instanceMethod yX1_aim, .selects RX1 yX1_aim yX1_aim, .methodLink RX1 78 yX1_makeTable, .instanceMethod yX1_makeTable, .selects RX1 yX1_makeTable yX1_makeTable, .methodLink RX1 85 yX1_spreadDots, .instanceMethod yX1_spreadDots, .selects RX1 yX1_spreadDots yX1_spreadDots, .methodLink RX1 88 yX1_passByTable, .instanceMethod yX1_passByTable, .selects RX1 yX1_passByTable yX1_passByTable, .code yX1_even cX1_even 3 none, .code yX1_windowSize cX1_windowSize 5 (some .int), .code yX1_changedIn cX1_changedIn 6 (some .int), .code yX1_changedDots cX1_changedDots 4 (some .int), .methodLink RX1 170 yX1_changedIn, .instanceMethod yX1_changedIn, .selects RX1 yX1_changedIn yX1_changedIn, .code yX8_begins cX8_begins 2 (some .boolean), .code yX1_flickerOf cX1_flickerOf 5 (some .int), .methodLink RX1 173 yX8_begins, .instanceMethod yX8_begins, .selects RX8 yX8_begins yX8_begins, .methodLink RX1 176 yX9_gap, .code yX9_number cX9_number 4 (some .int), .code yX9_mean cX9_mean 4 (some .int)]
def wA4 : List Cond := [.methodLink RX9 21 yX9_number, .instanceMethod yX9_number, .selects RX9 yX9_number yX9_number, .code yX1_flashes cX1_flashes 6 (some .boolean), .methodLink RX1 179 yX9_mean, .instanceMethod yX9_mean, .selects RX9 yX9_mean yX9_mean, .code yX1_meetsAnother cX1_meetsAnother 4 (some .boolean), .methodLink RX1 182 yX9_number, .code yX2_hasFrame cX2_hasFrame 2 (some .boolean), .code yX2_hasPlace cX2_hasPlace 2 (some .boolean), .methodLink RX2 59 yX2_size, .code yX2_allows cX2_allows 3 (some .boolean), .code yX2_marked cX2_marked 4 (some .int), .code yX2_sameDots cX2_sameDots 4 (some .boolean), .code yX2_firstLike cX2_firstLike 3 (some .int), .methodLink RX2 66 yX2_sameDots, .instanceMethod yX2_sameDots, .selects RX2 yX2_sameDots yX2_sameDots, .code yX3_init cX3_init 1 none, .methodLink RX3 3 objectInit, .fieldLink RX3 9 "FlickerDesk$Fit" "costs" "[I", .fieldLink RX3 15 "FlickerDesk$Fit" "least" "[I", .code yX3_addCosts cX3_addCosts 8 none, .fieldLink RX3 44 "FlickerDesk$Film" "dots" "[I", .methodLink RX3 47 Lib.Math.abs.name, .methodLink RX3 32 yJ7_fill_53178, .methodLink RX3 38 yX2_size, .code yX3_costBy cX3_costBy 3 (some .int), .constant RX3 22 (1000000), .methodLink RX3 27 Lib.Math.min.name, .methodLink RX3 18 yX3_addCosts, .instanceMethod yX3_addCosts, .selects RX3 yX3_addCosts yX3_addCosts, .initialized RX3, .methodLink RX3 23 yX3_costBy, .instanceMethod yX3_costBy, .selects RX3 yX3_costBy yX3_costBy, .code yX3_work cX3_work 7 none, .code yX3_comesTo cX3_comesTo 4 (some .int), .code yX4_init cX4_init 1 none, .methodLink RX4 3 objectInit, .code yX4_sameDots cX4_sameDots 9 (some .int), .methodLink RX4 35 Lib.Math.max.name, .fieldLink RX4 39 "FlickerDesk$Film" "high" "I", .methodLink RX4 44 Lib.Math.min.name, .fieldLink RX4 47 "FlickerDesk$Film" "wide" "I", .fieldLink RX4 50 "FlickerDesk$Film" "dots" "[I", .code yX4_isShorter cX4_isShorter 3 (some .boolean), .methodLink RX4 29 Lib.Math.abs.name, .fieldLink RX4 23 "FlickerDesk$Move" "right" "I", .fieldLink RX4 26 "FlickerDesk$Move" "down" "I", .code yX4_work cX4_work 6 none, .fieldLink RX4 9 "FlickerDesk$Move" "dots" "I", .methodLink RX4 15 yX4_sameDots, .static yX4_sameDots, .initialized RX4, .methodLink RX4 19 yX4_isShorter, .instanceMethod yX4_isShorter, .selects RX4 yX4_isShorter yX4_isShorter]
def wA5 : List Cond := [.code yX5_init cX5_init 1 none, .methodLink RX5 3 objectInit, .fieldLink RX5 9 "FlickerDesk$Parting" "sums" "[I", .fieldLink RX5 15 "FlickerDesk$Parting" "gaps" "[I", .fieldLink RX5 18 "FlickerDesk$Parting" "costs" "[I", .fieldLink RX5 21 "FlickerDesk$Parting" "leasts" "[I", .code yX5_measureGaps cX5_measureGaps 4 none, .fieldLink RX5 28 "FlickerDesk$Parting" "frames" "I", .methodLink RX5 51 yX9_gap, .code yX5_addCosts cX5_addCosts 7 none, .constant RX5 40 (1000000), .methodLink RX5 56 Lib.Math.min.name, .code yX5_least cX5_least 3 (some .int), .code yX5_costBy cX5_costBy 4 (some .int), .methodLink RX5 65 yX5_least, .instanceMethod yX5_least, .selects RX5 yX5_least yX5_least, .initialized RX5, .code yX5_leastOf cX5_leastOf 5 (some .int), .methodLink RX5 61 yX5_costBy, .instanceMethod yX5_costBy, .selects RX5 yX5_costBy yX5_costBy, .fieldLink RX5 24 "FlickerDesk$Parting" "ready" "Z", .methodLink RX5 32 yX5_measureGaps, .instanceMethod yX5_measureGaps, .selects RX5 yX5_measureGaps yX5_measureGaps, .methodLink RX5 36 yX5_addCosts, .instanceMethod yX5_addCosts, .selects RX5 yX5_addCosts yX5_addCosts, .methodLink RX5 41 yJ7_fill_53178, .methodLink RX5 47 yX5_leastOf, .instanceMethod yX5_leastOf, .selects RX5 yX5_leastOf yX5_leastOf, .code yX5_work cX5_work 5 none, .code yX5_start cX5_start 7 (some .int), .code yX6_find cX6_find 3 (some .int), .methodLink RX7 3 objectInit, .classLink RX7 9 RX2, .fieldLink RX7 12 "FlickerDesk$Reader" "film" "LFlickerDesk$Film;", .fieldLink RX7 18 "FlickerDesk$Reader" "tape" "[I", .arrayClass .boolean, .fieldLink RX7 22 "FlickerDesk$Reader" "told" "[Z", .fieldLink RX7 26 "FlickerDesk$Reader" "weighted" "[Z", .fieldLink RX7 29 "FlickerDesk$Reader" "place" "I", .methodLink RX7 11 yX2_init, .code yX7_init cX7_init 1 none, .code yX7_putFour cX7_putFour 3 none, .fieldLink RX7 33 "FlickerDesk$Reader" "length" "I", .fieldLink RX7 49 "FlickerDesk$Reader" "fault" "I", .fieldLink RX7 46 "FlickerDesk$Reader" "end" "I", .fieldLink RX7 43 "FlickerDesk$Reader" "at" "I", .methodLink RX7 62 yX2_clear, .code yX7_begin cX7_begin 3 none, .code yX7_skipBlanks cX7_skipBlanks 1 none, .code yX7_isAt cX7_isAt 3 (some .boolean), .code yJ0_coder_7d493 cJ0_coder_7d493 1 (some .byte), .fieldLink RJ0 38 "java/lang/String" "COMPACT_STRINGS" "Z", .fieldLink RJ0 15 "java/lang/String" "coder" "B", .code yJ0_length_8abf5 cJ0_length_8abf5 1 (some .int), .fieldLink RJ0 9 "java/lang/String" "value" "[B"]
def wA6 : List Cond := [.methodLink RJ0 335 yJ0_coder_7d493, .instanceMethod yJ0_coder_7d493, .selects RJ0 yJ0_coder_7d493 yJ0_coder_7d493, .initialized RJ0, .code yJ0_isLatin1_aae02 cJ0_isLatin1_aae02 1 (some .boolean), .code yJ3_checkIndex_8e157 cJ3_checkIndex_8e157 3 (some .int), .code yJ0_checkIndex_df160 cJ0_checkIndex_df160 2 none, .fieldLink RJ0 1053 "jdk/internal/util/Preconditions" "SIOOBE_FORMATTER" "Ljava/util/function/BiFunction;", .methodLink RJ0 1059 yJ3_checkIndex_8e157, .static yJ3_checkIndex_8e157, .initialized RJ3, .code yJ1_charAt_3b067 cJ1_charAt_3b067 2 (some .char), .methodLink RJ1 9 yJ0_checkIndex_df160, .static yJ0_checkIndex_df160, .code yJ2_length_9d52b cJ2_length_9d52b 1 (some .int), .code yJ2_checkIndex_2214a cJ2_checkIndex_2214a 2 none, .methodLink RJ2 48 yJ2_length_9d52b, .static yJ2_length_9d52b, .initialized RJ2, .methodLink RJ2 414 yJ0_checkIndex_df160, .code yJ2_getChar_3b067 cJ2_getChar_3b067 2 (some .char), .fieldLink RJ2 44 "java/lang/StringUTF16" "$assertionsDisabled" "Z", .fieldLink RJ2 59 "java/lang/StringUTF16" "HI_BYTE_SHIFT" "I", .fieldLink RJ2 63 "java/lang/StringUTF16" "LO_BYTE_SHIFT" "I", .code yJ2_charAt_3b067 cJ2_charAt_3b067 2 (some .char), .methodLink RJ2 67 yJ2_checkIndex_2214a, .static yJ2_checkIndex_2214a, .methodLink RJ2 71 yJ2_getChar_3b067, .static yJ2_getChar_3b067, .methodLink RJ0 492 yJ0_isLatin1_aae02, .instanceMethod yJ0_isLatin1_aae02, .selects RJ0 yJ0_isLatin1_aae02 yJ0_isLatin1_aae02, .methodLink RJ0 495 yJ1_charAt_3b067, .static yJ1_charAt_3b067, .initialized RJ1, .methodLink RJ0 498 yJ2_charAt_3b067, .static yJ2_charAt_3b067, .code yJ0_charAt_5068e cJ0_charAt_5068e 2 (some .char), .methodLink RX7 108 yJ0_length_8abf5, .instanceMethod yJ0_length_8abf5, .selects RJ0 yJ0_length_8abf5 yJ0_length_8abf5, .methodLink RX7 113 yJ0_charAt_5068e, .instanceMethod yJ0_charAt_5068e, .selects RJ0 yJ0_charAt_5068e yJ0_charAt_5068e, .code yX7_stands cX7_stands 4 (some .boolean), .fieldLink RX7 100 "FlickerDesk$Word" "text" "Ljava/lang/String;", .methodLink RX7 92 yX7_isAt, .instanceMethod yX7_isAt, .selects RX7 yX7_isAt yX7_isAt, .initialized RX7, .methodLink RX7 104 yX7_stands, .instanceMethod yX7_stands, .selects RX7 yX7_stands yX7_stands, .code yX7_readWord cX7_readWord 6 (some (.object "FlickerDesk$Word")), .code yX7_isOutOfPlace cX7_isOutOfPlace 2 (some .boolean), .fieldLink RX7 117 "FlickerDesk$Word" "SIZE" "LFlickerDesk$Word;", .fieldLink RX7 120 "FlickerDesk$Film" "frames" "I", .fieldLink RX7 82 "FlickerDesk$Word" "once" "I", .code yX7_fail cX7_fail 3 none, .code yX7_endFrame cX7_endFrame 2 none]
def wA7 : List Cond := [.methodLink RX7 183 yX2_size, .methodLink RX7 58 yX7_fail, .instanceMethod yX7_fail, .selects RX7 yX7_fail yX7_fail, .code yX7_readNumber cX7_readNumber 3 (some .boolean), .fieldLink RX7 170 "FlickerDesk$Reader" "numberAt" "I", .fieldLink RX7 161 "FlickerDesk$Reader" "number" "I", .methodLink RX7 40 yX7_skipBlanks, .instanceMethod yX7_skipBlanks, .selects RX7 yX7_skipBlanks yX7_skipBlanks, .fieldLink RX7 186 "FlickerDesk$Film" "dots" "[I", .methodLink RX7 157 yX7_readNumber, .instanceMethod yX7_readNumber, .selects RX7 yX7_readNumber yX7_readNumber, .code yX7_readRun cX7_readRun 6 (some .int), .methodLink RX7 176 yX7_endFrame, .instanceMethod yX7_endFrame, .selects RX7 yX7_endFrame yX7_endFrame, .methodLink RX7 179 yX7_readRun, .instanceMethod yX7_readRun, .selects RX7 yX7_readRun yX7_readRun, .code yX7_readFrame cX7_readFrame 4 none, .fieldLink RX7 164 "FlickerDesk$Film" "wide" "I", .fieldLink RX7 167 "FlickerDesk$Film" "high" "I", .code yX7_readSize cX7_readSize 1 none, .fieldLink RX7 173 "FlickerDesk$Film" "weights" "[I", .code yX7_readWeight cX7_readWeight 2 none, .code yX7_readMark cX7_readMark 3 none, .fieldLink RX7 126 "FlickerDesk$Word" "WEIGHT" "LFlickerDesk$Word;", .fieldLink RX7 132 "FlickerDesk$Word" "CUT" "LFlickerDesk$Word;", .fieldLink RX7 135 "FlickerDesk$Film" "cuts" "[I", .fieldLink RX7 142 "FlickerDesk$Word" "SKIP" "LFlickerDesk$Word;", .fieldLink RX7 145 "FlickerDesk$Film" "skips" "[I", .fieldLink RX7 148 "FlickerDesk$Word" "SPREAD" "LFlickerDesk$Word;", .fieldLink RX7 55 "FlickerDesk$Film" "settings" "[I", .fieldLink RX7 151 "FlickerDesk$Word" "KEYED" "LFlickerDesk$Word;", .methodLink RX7 123 yX7_readSize, .instanceMethod yX7_readSize, .selects RX7 yX7_readSize yX7_readSize, .methodLink RX7 129 yX7_readWeight, .instanceMethod yX7_readWeight, .selects RX7 yX7_readWeight yX7_readWeight, .methodLink RX7 138 yX7_readMark, .instanceMethod yX7_readMark, .selects RX7 yX7_readMark yX7_readMark, .code yX7_readNumbers cX7_readNumbers 2 none, .code yX7_readLineEnd cX7_readLineEnd 1 none, .fieldLink RX7 73 "FlickerDesk$Word" "FRAME" "LFlickerDesk$Word;", .methodLink RX7 65 yX7_readWord, .instanceMethod yX7_readWord, .selects RX7 yX7_readWord yX7_readWord, .methodLink RX7 69 yX7_isOutOfPlace, .instanceMethod yX7_isOutOfPlace, .selects RX7 yX7_isOutOfPlace yX7_isOutOfPlace, .methodLink RX7 79 yX7_readFrame, .instanceMethod yX7_readFrame, .selects RX7 yX7_readFrame yX7_readFrame, .methodLink RX7 85 yX7_readNumbers, .instanceMethod yX7_readNumbers, .selects RX7 yX7_readNumbers yX7_readNumbers]
def wA8 : List Cond := [.methodLink RX7 89 yX7_readLineEnd, .instanceMethod yX7_readLineEnd, .selects RX7 yX7_readLineEnd yX7_readLineEnd, .code yX7_readLine cX7_readLine 3 none, .methodLink RX7 36 yX7_begin, .instanceMethod yX7_begin, .selects RX7 yX7_begin yX7_begin, .methodLink RX7 52 yX7_readLine, .instanceMethod yX7_readLine, .selects RX7 yX7_readLine yX7_readLine, .code yX7_readText cX7_readText 3 none, .code yX9_shades cX9_shades 4 (some .int), .code yX9_isNew cX9_isNew 3 (some .boolean), .methodLink RX9 25 yX9_gap, .methodLink RX11 1 objectInit, .classLink RX11 7 RX2, .fieldLink RX11 10 "FlickerDesk" "film" "LFlickerDesk$Film;", .classLink RX11 16 RX1, .instantiable RX1 9, .fieldLink RX11 19 "FlickerDesk" "evening" "LFlickerDesk$Evening;", .classLink RX11 23 RX7, .instantiable RX7 11, .fieldLink RX11 26 "FlickerDesk" "reader" "LFlickerDesk$Reader;", .classLink RX11 30 RX0, .instantiable RX0 2, .fieldLink RX11 33 "FlickerDesk" "acts" "LFlickerDesk$Acts;", .fieldLink RX11 37 "FlickerDesk" "trial" "LFlickerDesk$Film;", .fieldLink RX11 40 "FlickerDesk" "trialEvening" "LFlickerDesk$Evening;", .classLink RX11 43 RX5, .instantiable RX5 6, .fieldLink RX11 46 "FlickerDesk" "parting" "LFlickerDesk$Parting;", .classLink RX11 50 RX3, .instantiable RX3 2, .fieldLink RX11 53 "FlickerDesk" "fit" "LFlickerDesk$Fit;", .classLink RX11 57 RX4, .instantiable RX4 3, .fieldLink RX11 60 "FlickerDesk" "move" "LFlickerDesk$Move;", .methodLink RX11 9 yX2_init, .instanceMethod yX1_init, .instanceMethod yX7_init, .methodLink RX11 32 yX0_init, .instanceMethod yX0_init, .instanceMethod yX5_init, .instanceMethod yX3_init, .instanceMethod yX4_init, .code yX11_init cX11_init 1 none, .code yX11_feed cX11_feed 6 (some .int), .fieldLink RX11 64 "FlickerDesk$Reader" "length" "I", .methodLink RX11 68 yX7_putFour, .instanceMethod yX7_putFour, .selects RX7 yX7_putFour yX7_putFour, .code yX11_forgetDerived cX11_forgetDerived 1 none, .fieldLink RX11 319 "FlickerDesk$Parting" "ready" "Z", .methodLink RX11 316 yX1_forget, .instanceMethod yX1_forget, .selects RX1 yX1_forget yX1_forget, .fieldLink RX11 75 "FlickerDesk$Reader" "fault" "I", .fieldLink RX11 78 "FlickerDesk$Reader" "film" "LFlickerDesk$Film;", .fieldLink RX11 83 "FlickerDesk$Acts" "many" "I", .fieldLink RX11 89 "FlickerDesk$Film" "frames" "I"]
def wA9 : List Cond := [.methodLink RX11 72 yX7_readText, .instanceMethod yX7_readText, .selects RX7 yX7_readText yX7_readText, .methodLink RX11 79 yX2_copyFrom, .methodLink RX11 86 yX11_forgetDerived, .instanceMethod yX11_forgetDerived, .selects RX11 yX11_forgetDerived yX11_forgetDerived, .initialized RX11, .code yX11_tell cX11_tell 2 (some .int), .code yX11_fault cX11_fault 2 (some .int), .fieldLink RX11 92 "FlickerDesk$Reader" "place" "I", .code yX11_isSetting cX11_isSetting 1 (some .boolean), .methodLink RX11 313 yX0_keep, .instanceMethod yX0_keep, .selects RX0 yX0_keep yX0_keep, .code yX11_beginAct cX11_beginAct 1 none, .fieldLink RX11 103 "FlickerDesk$Film" "settings" "[I", .methodLink RX11 95 yX11_isSetting, .static yX11_isSetting, .methodLink RX11 99 yX2_allows, .instanceMethod yX2_allows, .selects RX2 yX2_allows yX2_allows, .methodLink RX11 107 yX11_beginAct, .instanceMethod yX11_beginAct, .selects RX11 yX11_beginAct yX11_beginAct, .code yX11_set cX11_set 4 (some .int), .fieldLink RX11 110 "FlickerDesk$Film" "weights" "[I", .code yX11_weight cX11_weight 4 (some .int), .methodLink RX11 259 yX1_look, .code yX11_looked cX11_looked 1 (some (.object "FlickerDesk$Evening")), .fieldLink RX11 116 "FlickerDesk$Film" "cuts" "[I", .fieldLink RX11 123 "FlickerDesk$Evening" "scenes" "LFlickerDesk$Scenes;", .fieldLink RX11 127 "FlickerDesk$Scenes" "many" "I", .methodLink RX11 113 yX2_hasFrame, .instanceMethod yX2_hasFrame, .selects RX2 yX2_hasFrame yX2_hasFrame, .methodLink RX11 119 yX11_looked, .instanceMethod yX11_looked, .selects RX11 yX11_looked yX11_looked, .code yX11_cut cX11_cut 2 (some .int), .fieldLink RX11 130 "FlickerDesk$Film" "skips" "[I", .methodLink RX11 133 yX2_marked, .instanceMethod yX2_marked, .selects RX2 yX2_marked yX2_marked, .code yX11_skip cX11_skip 2 (some .int), .code yX11_isShade cX11_isShade 1 (some .boolean), .fieldLink RX11 143 "FlickerDesk$Film" "dots" "[I", .methodLink RX11 137 yX2_hasPlace, .instanceMethod yX2_hasPlace, .selects RX2 yX2_hasPlace yX2_hasPlace, .methodLink RX11 140 yX11_isShade, .static yX11_isShade, .code yX11_dot cX11_dot 5 (some .int), .methodLink RX11 323 yX1_even, .instanceMethod yX1_even, .selects RX1 yX1_even yX1_even, .code yX11_evened cX11_evened 1 (some (.object "FlickerDesk$Evening")), .fieldLink RX11 153 "FlickerDesk$Evening" "dots" "[I", .methodLink RX11 146 yX11_evened, .instanceMethod yX11_evened]
def wA10 : List Cond := [.selects RX11 yX11_evened yX11_evened, .methodLink RX11 149 yX1_changedDots, .instanceMethod yX1_changedDots, .selects RX1 yX1_changedDots yX1_changedDots, .methodLink RX11 154 yX2_copyDots, .code yX11_take cX11_take 3 (some .int), .methodLink RX11 158 yX0_bringBack, .instanceMethod yX0_bringBack, .selects RX0 yX0_bringBack yX0_bringBack, .code yX11_undo cX11_undo 1 (some .int), .classLink RX11 161 "java/util/NoSuchElementException", .initialized "java/util/NoSuchElementException", .code yX11_shade cX11_shade 5 (some .int), .fieldLink RX11 168 "FlickerDesk$Evening" "ahead" "LFlickerDesk$Tally;", .fieldLink RX11 178 "FlickerDesk$Tally" "cums" "[I", .fieldLink RX11 181 "FlickerDesk$Evening" "targets" "[I", .fieldLink RX11 184 "FlickerDesk$Evening" "tables" "[I", .fieldLink RX11 187 "FlickerDesk$Evening" "then" "LFlickerDesk$Tally;", .methodLink RX11 172 yX9_number, .code yX11_level cX11_level 4 (some .int), .fieldLink RX11 194 "FlickerDesk$Scenes" "sceneOf" "[I", .methodLink RX11 190 yX9_mean, .methodLink RX11 197 yX8_begins, .methodLink RX11 200 yX1_windowSize, .instanceMethod yX1_windowSize, .selects RX1 yX1_windowSize yX1_windowSize, .methodLink RX11 204 yX9_shades, .instanceMethod yX9_shades, .selects RX9 yX9_shades yX9_shades, .methodLink RX11 207 yX1_changedIn, .code yX11_frame cX11_frame 3 (some .int), .code yX11_tally cX11_tally 2 (some (.object "FlickerDesk$Tally")), .methodLink RX11 210 yX11_tally, .instanceMethod yX11_tally, .selects RX11 yX11_tally yX11_tally, .methodLink RX11 214 yX9_gap, .code yX11_apart cX11_apart 4 (some .int), .fieldLink RX11 217 "FlickerDesk$Scenes" "firstOf" "[I", .code yX11_scene cX11_scene 3 (some .int), .fieldLink RX11 220 "FlickerDesk$Evening" "ranks" "LFlickerDesk$Ranks;", .methodLink RX11 224 yX6_read, .methodLink RX11 230 yX6_find, .instanceMethod yX6_find, .selects RX6 yX6_find yX6_find, .code yX11_rank cX11_rank 4 (some .int), .code yX11_inverse cX11_inverse 5 (some .int), .methodLink RX11 233 yX1_flickerOf, .instanceMethod yX1_flickerOf, .selects RX1 yX1_flickerOf yX1_flickerOf, .code yX11_flicker cX11_flicker 2 (some .int), .code yX11_steady cX11_steady 2 (some .int), .code yX11_beginTrial cX11_beginTrial 1 none, .methodLink RX11 326 yX1_forgetEvened, .instanceMethod yX1_forgetEvened, .selects RX1 yX1_forgetEvened yX1_forgetEvened, .code yX11_trialFlicker cX11_trialFlicker 3 (some .int), .constant RX11 240 (1000000), .fieldLink RX11 241 "FlickerDesk" "HIGHEST_SETTINGS" "[I", .methodLink RX11 237 yX11_beginTrial, .instanceMethod yX11_beginTrial]
def wA11 : List Cond := [.selects RX11 yX11_beginTrial yX11_beginTrial, .methodLink RX11 244 yX11_trialFlicker, .instanceMethod yX11_trialFlicker, .selects RX11 yX11_trialFlicker yX11_trialFlicker, .code yX11_bestRadius cX11_bestRadius 5 (some .int), .code yX11_leastStep cX11_leastStep 3 (some .int), .methodLink RX11 247 yX1_flashes, .instanceMethod yX1_flashes, .selects RX1 yX1_flashes yX1_flashes, .code yX11_flash cX11_flash 6 (some .int), .methodLink RX11 250 Lib.Math.abs.name, .code yX11_period cX11_period 9 (some .int), .code yX11_takeInTrial cX11_takeInTrial 2 (some .int), .methodLink RX11 255 yX11_takeInTrial, .instanceMethod yX11_takeInTrial, .selects RX11 yX11_takeInTrial yX11_takeInTrial, .code yX11_rounds cX11_rounds 3 (some .int), .code yX11_settles cX11_settles 2 (some .int), .methodLink RX11 262 yX8_keyFrame, .code yX11_key cX11_key 3 (some .int), .methodLink RX11 266 yX5_work, .instanceMethod yX5_work, .selects RX5 yX5_work yX5_work, .methodLink RX11 270 yX5_least, .methodLink RX11 273 yX5_start, .instanceMethod yX5_start, .selects RX5 yX5_start yX5_start, .code yX11_parted cX11_parted 3 (some .int), .fieldLink RX11 279 "FlickerDesk$Move" "right" "I", .fieldLink RX11 282 "FlickerDesk$Move" "down" "I", .fieldLink RX11 285 "FlickerDesk$Move" "dots" "I", .methodLink RX11 276 yX4_work, .instanceMethod yX4_work, .selects RX4 yX4_work yX4_work, .code yX11_shift cX11_shift 3 (some .int), .code yX11_alike cX11_alike 4 (some .int), .methodLink RX11 287 yX2_firstLike, .instanceMethod yX2_firstLike, .selects RX2 yX2_firstLike yX2_firstLike, .code yX11_nearest cX11_nearest 7 (some .int), .methodLink RX11 290 yX9_isNew, .instanceMethod yX9_isNew, .selects RX9 yX9_isNew yX9_isNew, .code yX11_kinds cX11_kinds 5 (some .int), .fieldLink RX11 296 "FlickerDesk$Fit" "least" "[I", .methodLink RX11 293 yX3_work, .instanceMethod yX3_work, .selects RX3 yX3_work yX3_work, .methodLink RX11 298 yX3_comesTo, .instanceMethod yX3_comesTo, .selects RX3 yX3_comesTo yX3_comesTo, .code yX11_fitted cX11_fitted 4 (some .int), .methodLink RX11 301 yX1_meetsAnother, .instanceMethod yX1_meetsAnother, .selects RX1 yX1_meetsAnother yX1_meetsAnother, .code yX11_lost cX11_lost 5 (some .int), .code yX11_setting cX11_setting 2 (some .int), .code yX11_weightCount cX11_weightCount 2 (some .int), .code yX11_count cX11_count 2 (some .int), .fieldLink RX11 304 "FlickerDesk$Film" "wide" "I"]
def wA12 : List Cond := [.fieldLink RX11 307 "FlickerDesk$Film" "high" "I", .methodLink RX11 310 yX11_weightCount, .instanceMethod yX11_weightCount, .selects RX11 yX11_weightCount yX11_weightCount, .code yX12_thrown cX12_thrown 1 (some .int), .fieldLink RX12 1 "FlickerDeskModel" "thrown" "I", .code yX12_isIn cX12_isIn 6 (some .boolean), .code yX12_plain cX12_plain 2 none, .fieldLink RX12 13 "FlickerDeskModel" "s" "[I", .methodLink RX12 7 objectInit, .fieldLink RX12 17 "FlickerDeskModel" "saved" "[I", .fieldLink RX12 20 "FlickerDeskModel" "acts" "[I", .arrayClass .byte, .fieldLink RX12 23 "FlickerDeskModel" "tape" "[B", .fieldLink RX12 27 "FlickerDeskModel" "wrongAt" "I", .fieldLink RX12 30 "FlickerDeskModel" "cums" "[I", .fieldLink RX12 33 "FlickerDeskModel" "means" "[I", .fieldLink RX12 36 "FlickerDeskModel" "begins" "[Z", .fieldLink RX12 40 "FlickerDeskModel" "target" "[I", .fieldLink RX12 43 "FlickerDeskModel" "table" "[I", .fieldLink RX12 46 "FlickerDeskModel" "evened" "[I", .fieldLink RX12 49 "FlickerDeskModel" "evenCums" "[I", .fieldLink RX12 52 "FlickerDeskModel" "orders" "[I", .fieldLink RX12 55 "FlickerDeskModel" "rowCosts" "[I", .fieldLink RX12 58 "FlickerDeskModel" "partCosts" "[I", .fieldLink RX12 61 "FlickerDeskModel" "costs" "[I", .methodLink RX12 64 yX12_plain, .instanceMethod yX12_plain, .selects RX12 yX12_plain yX12_plain, .initialized RX12, .code yX12_init cX12_init 1 none, .code yX12_feed cX12_feed 8 (some .int), .fieldLink RX12 67 "FlickerDeskModel" "taped" "I", .code yX12_peek cX12_peek 1 (some .int), .fieldLink RX12 70 "FlickerDeskModel" "spot" "I", .fieldLink RX12 73 "FlickerDeskModel" "size" "I", .code yX12_fails cX12_fails 3 none, .fieldLink RX12 76 "FlickerDeskModel" "wrong" "I", .code yX12_isLetter cX12_isLetter 1 (some .boolean), .constantLong RX12 79 (97), .constantLong RX12 81 (122), .methodLink RX12 83 yX12_isIn, .static yX12_isIn, .code yX12_isDigit cX12_isDigit 1 (some .boolean), .constantLong RX12 87 (48), .constantLong RX12 89 (57), .code yX12_lettersHere cX12_lettersHere 2 (some .int), .methodLink RX12 91 yX12_isLetter, .static yX12_isLetter, .methodLink RX12 95 yX12_peek, .instanceMethod yX12_peek, .selects RX12 yX12_peek yX12_peek, .methodLink RX12 99 yX12_lettersHere, .instanceMethod yX12_lettersHere, .selects RX12 yX12_lettersHere yX12_lettersHere, .methodLink RX12 104 yJ0_length_8abf5, .methodLink RX12 109 yJ0_charAt_5068e, .code yX12_wordHere cX12_wordHere 7 (some .int), .code yX12_numeral cX12_numeral 4 (some .int), .fieldLink RX12 120 "FlickerDeskModel" "readAt" "I"]
def wA13 : List Cond := [.methodLink RX12 113 yX12_isDigit, .static yX12_isDigit, .methodLink RX12 116 yX12_fails, .instanceMethod yX12_fails, .selects RX12 yX12_fails yX12_fails, .code yX12_dots cX12_dots 1 (some .int), .constantLong RX12 123 (112), .methodLink RX12 125 yX12_numeral, .instanceMethod yX12_numeral, .selects RX12 yX12_numeral yX12_numeral, .methodLink RX12 129 yX12_dots, .instanceMethod yX12_dots, .selects RX12 yX12_dots yX12_dots, .code yX12_frameRead cX12_frameRead 7 none, .fieldLink RX12 151 "FlickerDeskModel" "seenFar" "I", .code yX12_weightRead cX12_weightRead 3 none, .code yX12_bitRead cX12_bitRead 3 none, .methodLink RX12 142 yX12_frameRead, .instanceMethod yX12_frameRead, .selects RX12 yX12_frameRead yX12_frameRead, .methodLink RX12 145 yX12_weightRead, .instanceMethod yX12_weightRead, .selects RX12 yX12_weightRead yX12_weightRead, .methodLink RX12 148 yX12_bitRead, .instanceMethod yX12_bitRead, .selects RX12 yX12_bitRead yX12_bitRead, .code yX12_behind cX12_behind 2 none, .fieldLink RX12 135 "FlickerDeskModel" "seen" "I", .methodLink RX12 132 yX12_wordHere, .instanceMethod yX12_wordHere, .selects RX12 yX12_wordHere yX12_wordHere, .methodLink RX12 138 yX12_behind, .instanceMethod yX12_behind, .selects RX12 yX12_behind yX12_behind, .code yX12_lineRead cX12_lineRead 5 none, .fieldLink RX12 157 "FlickerDeskModel" "actMany" "I", .methodLink RX12 154 yX12_lineRead, .instanceMethod yX12_lineRead, .selects RX12 yX12_lineRead yX12_lineRead, .code yX12_tell cX12_tell 3 (some .int), .code yX12_fault cX12_fault 2 (some .int), .code yX12_isFrame cX12_isFrame 2 (some .boolean), .code yX12_isPlace cX12_isPlace 2 (some .boolean), .code yX12_isShade cX12_isShade 1 (some .boolean), .constantLong RX12 160 (15), .code yX12_remembers cX12_remembers 2 none, .code yX12_canSet cX12_canSet 3 (some .boolean), .constantLong RX12 162 (3), .constantLong RX12 167 (999), .constantLong RX12 169 (2), .methodLink RX12 164 yX12_isShade, .static yX12_isShade, .code yX12_set cX12_set 4 (some .int), .constantLong RX12 171 (5), .methodLink RX12 173 yX12_canSet, .instanceMethod yX12_canSet, .selects RX12 yX12_canSet yX12_canSet, .methodLink RX12 177 yX12_remembers, .instanceMethod yX12_remembers, .selects RX12 yX12_remembers yX12_remembers]
def wA14 : List Cond := [.code yX12_weight cX12_weight 4 (some .int), .constantLong RX12 180 (9), .code yX12_dotAt cX12_dotAt 3 (some .int), .code yX12_off cX12_off 2 (some .int), .code yX12_apartBy cX12_apartBy 5 (some .int), .methodLink RX12 203 yX12_off, .static yX12_off, .code yX12_lays cX12_lays 4 none, .methodLink RX12 200 yX12_dotAt, .instanceMethod yX12_dotAt, .selects RX12 yX12_dotAt yX12_dotAt, .methodLink RX12 206 yX12_apartBy, .static yX12_apartBy, .code yX12_scenes cX12_scenes 3 (some .int), .methodLink RX12 182 yX12_isFrame, .instanceMethod yX12_isFrame, .selects RX12 yX12_isFrame yX12_isFrame, .methodLink RX12 185 yX12_lays, .instanceMethod yX12_lays, .selects RX12 yX12_lays yX12_lays, .methodLink RX12 188 yX12_scenes, .instanceMethod yX12_scenes, .selects RX12 yX12_scenes yX12_scenes, .code yX12_cut cX12_cut 2 (some .int), .code yJ6_bitCount_0f7a4 cJ6_bitCount_0f7a4 1 (some .int), .constant RJ6 265 (1431655765), .constant RJ6 266 (858993459), .constant RJ6 267 (252645135), .code yX12_skip cX12_skip 2 (some .int), .methodLink RX12 191 yJ6_bitCount_0f7a4, .static yJ6_bitCount_0f7a4, .initialized RJ6, .methodLink RX12 197 yX12_isPlace, .instanceMethod yX12_isPlace, .selects RX12 yX12_isPlace yX12_isPlace, .code yX12_dot cX12_dot 5 (some .int), .code yX12_undo cX12_undo 2 (some .int), .code yX12_cumAt cX12_cumAt 3 (some .int), .code yX12_sceneOf cX12_sceneOf 4 (some .int), .code yX12_isSkipped cX12_isSkipped 2 (some .boolean), .code yX12_awayFrom cX12_awayFrom 6 (some .int), .code yX12_midst cX12_midst 5 (some .int), .methodLink RX12 210 yX12_awayFrom, .instanceMethod yX12_awayFrom, .selects RX12 yX12_awayFrom yX12_awayFrom, .code yX12_firstOfScene cX12_firstOfScene 3 (some .int), .methodLink RX12 214 yX12_sceneOf, .instanceMethod yX12_sceneOf, .selects RX12 yX12_sceneOf yX12_sceneOf, .methodLink RX12 217 yX12_firstOfScene, .instanceMethod yX12_firstOfScene, .selects RX12 yX12_firstOfScene yX12_firstOfScene, .methodLink RX12 220 yX12_midst, .instanceMethod yX12_midst, .selects RX12 yX12_midst yX12_midst, .code yX12_keyOf cX12_keyOf 4 (some .int), .fieldLink RX12 223 "FlickerDeskModel" "windowMany" "I", .methodLink RX12 226 yX12_isSkipped, .instanceMethod yX12_isSkipped, .selects RX12 yX12_isSkipped yX12_isSkipped]
def wA15 : List Cond := [.methodLink RX12 229 yX12_cumAt, .instanceMethod yX12_cumAt, .selects RX12 yX12_cumAt yX12_cumAt, .methodLink RX12 232 yX12_keyOf, .instanceMethod yX12_keyOf, .selects RX12 yX12_keyOf yX12_keyOf, .code yX12_laysTarget cX12_laysTarget 6 none, .code yX12_isKept cX12_isKept 2 (some .boolean), .code yX12_boundedTo cX12_boundedTo 5 (some .int), .methodLink RX12 235 yX12_laysTarget, .instanceMethod yX12_laysTarget, .selects RX12 yX12_laysTarget yX12_laysTarget, .methodLink RX12 238 yX12_isKept, .instanceMethod yX12_isKept, .selects RX12 yX12_isKept yX12_isKept, .methodLink RX12 241 yX12_boundedTo, .instanceMethod yX12_boundedTo, .selects RX12 yX12_boundedTo yX12_boundedTo, .code yX12_laysTable cX12_laysTable 3 none, .code yX12_roundOf cX12_roundOf 8 (some .int), .code yX12_laysOrders cX12_laysOrders 3 none, .methodLink RX12 244 yX12_roundOf, .instanceMethod yX12_roundOf, .selects RX12 yX12_roundOf yX12_roundOf, .code yX12_rankOf cX12_rankOf 4 (some .int), .methodLink RX12 247 yX12_laysTable, .instanceMethod yX12_laysTable, .selects RX12 yX12_laysTable yX12_laysTable, .methodLink RX12 250 yX12_laysOrders, .instanceMethod yX12_laysOrders, .selects RX12 yX12_laysOrders yX12_laysOrders, .methodLink RX12 253 yX12_rankOf, .instanceMethod yX12_rankOf, .selects RX12 yX12_rankOf yX12_rankOf, .code yX12_evens cX12_evens 6 none, .methodLink RX12 256 yX12_evens, .instanceMethod yX12_evens, .selects RX12 yX12_evens yX12_evens, .code yX12_evensAll cX12_evensAll 2 none, .code yX12_changedOf cX12_changedOf 4 (some .int), .methodLink RX12 259 yX12_evensAll, .instanceMethod yX12_evensAll, .selects RX12 yX12_evensAll yX12_evensAll, .methodLink RX12 262 yX12_changedOf, .instanceMethod yX12_changedOf, .selects RX12 yX12_changedOf yX12_changedOf, .code yX12_takes cX12_takes 4 (some .int), .methodLink RX12 265 yX12_takes, .instanceMethod yX12_takes, .selects RX12 yX12_takes yX12_takes, .code yX12_take cX12_take 1 (some .int), .code yX12_laysAside cX12_laysAside 2 none, .code yX12_comesBack cX12_comesBack 2 none, .code yX12_flickerBy cX12_flickerBy 4 (some .int), .constantLong RX12 268 (10), .methodLink RX12 270 yX12_laysAside, .instanceMethod yX12_laysAside, .selects RX12 yX12_laysAside yX12_laysAside, .methodLink RX12 273 yX12_flickerBy, .instanceMethod yX12_flickerBy]
def wA16 : List Cond := [.selects RX12 yX12_flickerBy yX12_flickerBy, .methodLink RX12 277 yX12_comesBack, .instanceMethod yX12_comesBack, .selects RX12 yX12_comesBack yX12_comesBack, .code yX12_rounds cX12_rounds 3 (some .int), .code yX12_settles cX12_settles 2 (some .int), .code yX12_key cX12_key 2 (some .int), .code yX12_laysParts cX12_laysParts 8 none, .constant RX12 280 (100000000), .constantLong RX12 281 (8), .methodLink RX12 283 yX12_laysParts, .instanceMethod yX12_laysParts, .selects RX12 yX12_laysParts yX12_laysParts, .code yX12_parted cX12_parted 6 (some .int), .code yX12_likeBy cX12_likeBy 8 (some .int), .methodLink RX12 286 yX12_likeBy, .instanceMethod yX12_likeBy, .selects RX12 yX12_likeBy yX12_likeBy, .code yX12_shift cX12_shift 9 (some .int), .code yX12_shade cX12_shade 4 (some .int), .code yX12_countIn cX12_countIn 3 (some .int), .constantLong RX12 289 (4), .methodLink RX12 291 yX12_countIn, .static yX12_countIn, .code yX12_level cX12_level 4 (some .int), .code yX12_shadesIn cX12_shadesIn 4 (some .int), .methodLink RX12 294 yX12_shadesIn, .static yX12_shadesIn, .code yX12_frame cX12_frame 5 (some .int), .code yX12_apart cX12_apart 4 (some .int), .code yX12_scene cX12_scene 3 (some .int), .code yX12_rank cX12_rank 3 (some .int), .code yX12_inverse cX12_inverse 4 (some .int), .code yX12_flicker cX12_flicker 2 (some .int), .code yX12_steady cX12_steady 2 (some .int), .code yX12_bestRadius cX12_bestRadius 6 (some .int), .code yX12_leastStep cX12_leastStep 5 (some .int), .code yX12_isFlash cX12_isFlash 3 (some .boolean), .methodLink RX12 298 yX12_isFlash, .instanceMethod yX12_isFlash, .selects RX12 yX12_isFlash yX12_isFlash, .code yX12_flash cX12_flash 5 (some .int), .code yX12_period cX12_period 6 (some .int), .code yX12_areLike cX12_areLike 4 (some .boolean), .code yX12_firstLike cX12_firstLike 3 (some .int), .methodLink RX12 301 yX12_areLike, .instanceMethod yX12_areLike, .selects RX12 yX12_areLike yX12_areLike, .methodLink RX12 304 yX12_firstLike, .instanceMethod yX12_firstLike, .selects RX12 yX12_firstLike yX12_firstLike, .code yX12_alike cX12_alike 4 (some .int), .code yX12_nearest cX12_nearest 4 (some .int), .code yX12_kinds cX12_kinds 7 (some .int), .code yX12_costOf cX12_costOf 7 (some .int), .code yX12_leastFrom cX12_leastFrom 5 (some .int), .methodLink RX12 307 yX12_costOf, .instanceMethod yX12_costOf, .selects RX12 yX12_costOf yX12_costOf, .methodLink RX12 311 yX12_leastFrom]
def wA17 : List Cond := [.instanceMethod yX12_leastFrom, .selects RX12 yX12_leastFrom yX12_leastFrom, .code yX12_fitted cX12_fitted 7 (some .int), .code yX12_lost cX12_lost 6 (some .int), .code yX12_setting cX12_setting 2 (some .int), .code yX12_count cX12_count 2 (some .int), .constantLong RX12 314 (13), .code yJ9_abs_0f7a4 cJ9_abs_0f7a4 1 (some .int), .code yJ9_max_7cf53 cJ9_max_7cf53 2 (some .int), .code yJ9_min_7cf53 cJ9_min_7cf53 2 (some .int), .classLink RL 13 "java/util/NoSuchElementException", .methodLink RL 7 yX11_shade, .instanceMethod yX11_shade, .selects RX11 yX11_shade yX11_shade, .codeWith yL_shade cL_shade 6 (some .int) [(0, 12, 15, 13)], .classLink RL 8 RX11, .instantiable RX11 9, .classLink RL 16 RX12, .instantiable RX12 26, .arrayClass .long, .methodLink RL 15 yX11_init, .instanceMethod yX11_init, .methodLink RL 18 yX12_init, .instanceMethod yX12_init, .methodLink RL 19 yX11_feed, .instanceMethod yX11_feed, .selects RX11 yX11_feed yX11_feed, .methodLink RL 23 yX12_feed, .instanceMethod yX12_feed, .selects RX12 yX12_feed yX12_feed, .methodLink RL 24 yX11_tell, .instanceMethod yX11_tell, .selects RX11 yX11_tell yX11_tell, .methodLink RL 28 yX12_tell, .instanceMethod yX12_tell, .selects RX12 yX12_tell yX12_tell, .methodLink RL 29 yX11_fault, .instanceMethod yX11_fault, .selects RX11 yX11_fault yX11_fault, .methodLink RL 32 yX12_fault, .instanceMethod yX12_fault, .selects RX12 yX12_fault yX12_fault, .methodLink RL 33 yX11_set, .instanceMethod yX11_set, .selects RX11 yX11_set yX11_set, .methodLink RL 37 yX12_set, .instanceMethod yX12_set, .selects RX12 yX12_set yX12_set, .methodLink RL 38 yX11_weight, .instanceMethod yX11_weight, .selects RX11 yX11_weight yX11_weight, .methodLink RL 41 yX12_weight, .instanceMethod yX12_weight, .selects RX12 yX12_weight yX12_weight, .methodLink RL 42 yX11_cut, .instanceMethod yX11_cut, .selects RX11 yX11_cut yX11_cut, .methodLink RL 45 yX12_cut, .instanceMethod yX12_cut, .selects RX12 yX12_cut yX12_cut]
def wA18 : List Cond := [.methodLink RL 46 yX11_skip, .instanceMethod yX11_skip, .selects RX11 yX11_skip yX11_skip, .methodLink RL 49 yX12_skip, .instanceMethod yX12_skip, .selects RX12 yX12_skip yX12_skip, .methodLink RL 50 yX11_dot, .instanceMethod yX11_dot, .selects RX11 yX11_dot yX11_dot, .methodLink RL 54 yX12_dot, .instanceMethod yX12_dot, .selects RX12 yX12_dot yX12_dot, .methodLink RL 55 yX11_take, .instanceMethod yX11_take, .selects RX11 yX11_take yX11_take, .methodLink RL 59 yX12_take, .instanceMethod yX12_take, .selects RX12 yX12_take yX12_take, .methodLink RL 60 yX11_undo, .instanceMethod yX11_undo, .selects RX11 yX11_undo yX11_undo, .methodLink RL 63 yX12_undo, .instanceMethod yX12_undo, .selects RX12 yX12_undo yX12_undo, .methodLink RL 64 yL_shade, .static yL_shade, .initialized RL, .methodLink RL 69 yX12_shade, .instanceMethod yX12_shade, .selects RX12 yX12_shade yX12_shade, .methodLink RL 70 yX12_thrown, .instanceMethod yX12_thrown, .selects RX12 yX12_thrown yX12_thrown, .methodLink RL 73 yX11_level, .instanceMethod yX11_level, .selects RX11 yX11_level yX11_level, .methodLink RL 76 yX12_level, .instanceMethod yX12_level, .selects RX12 yX12_level yX12_level, .methodLink RL 77 yX11_frame, .instanceMethod yX11_frame, .selects RX11 yX11_frame yX11_frame, .methodLink RL 80 yX12_frame, .instanceMethod yX12_frame, .selects RX12 yX12_frame yX12_frame, .methodLink RL 81 yX11_apart, .instanceMethod yX11_apart, .selects RX11 yX11_apart yX11_apart, .methodLink RL 84 yX12_apart, .instanceMethod yX12_apart, .selects RX12 yX12_apart yX12_apart, .methodLink RL 85 yX11_scene, .instanceMethod yX11_scene, .selects RX11 yX11_scene yX11_scene, .methodLink RL 88 yX12_scene, .instanceMethod yX12_scene, .selects RX12 yX12_scene yX12_scene, .methodLink RL 89 yX11_rank, .instanceMethod yX11_rank, .selects RX11 yX11_rank yX11_rank]
def wA19 : List Cond := [.methodLink RL 92 yX12_rank, .instanceMethod yX12_rank, .selects RX12 yX12_rank yX12_rank, .methodLink RL 93 yX11_inverse, .instanceMethod yX11_inverse, .selects RX11 yX11_inverse yX11_inverse, .methodLink RL 96 yX12_inverse, .instanceMethod yX12_inverse, .selects RX12 yX12_inverse yX12_inverse, .methodLink RL 97 yX11_flicker, .instanceMethod yX11_flicker, .selects RX11 yX11_flicker yX11_flicker, .methodLink RL 101 yX12_flicker, .instanceMethod yX12_flicker, .selects RX12 yX12_flicker yX12_flicker, .methodLink RL 102 yX11_steady, .instanceMethod yX11_steady, .selects RX11 yX11_steady yX11_steady, .methodLink RL 105 yX12_steady, .instanceMethod yX12_steady, .selects RX12 yX12_steady yX12_steady, .methodLink RL 106 yX11_bestRadius, .instanceMethod yX11_bestRadius, .selects RX11 yX11_bestRadius yX11_bestRadius, .methodLink RL 109 yX12_bestRadius, .instanceMethod yX12_bestRadius, .selects RX12 yX12_bestRadius yX12_bestRadius, .methodLink RL 110 yX11_leastStep, .instanceMethod yX11_leastStep, .selects RX11 yX11_leastStep yX11_leastStep, .methodLink RL 113 yX12_leastStep, .instanceMethod yX12_leastStep, .selects RX12 yX12_leastStep yX12_leastStep, .methodLink RL 114 yX11_flash, .instanceMethod yX11_flash, .selects RX11 yX11_flash yX11_flash, .methodLink RL 117 yX12_flash, .instanceMethod yX12_flash, .selects RX12 yX12_flash yX12_flash, .methodLink RL 118 yX11_period, .instanceMethod yX11_period, .selects RX11 yX11_period yX11_period, .methodLink RL 121 yX12_period, .instanceMethod yX12_period, .selects RX12 yX12_period yX12_period, .methodLink RL 122 yX11_rounds, .instanceMethod yX11_rounds, .selects RX11 yX11_rounds yX11_rounds, .methodLink RL 125 yX12_rounds, .instanceMethod yX12_rounds, .selects RX12 yX12_rounds yX12_rounds, .methodLink RL 126 yX11_settles, .instanceMethod yX11_settles, .selects RX11 yX11_settles yX11_settles, .methodLink RL 129 yX12_settles, .instanceMethod yX12_settles, .selects RX12 yX12_settles yX12_settles, .methodLink RL 130 yX11_key, .instanceMethod yX11_key, .selects RX11 yX11_key yX11_key]
def wA20 : List Cond := [.methodLink RL 133 yX12_key, .instanceMethod yX12_key, .selects RX12 yX12_key yX12_key, .methodLink RL 134 yX11_parted, .instanceMethod yX11_parted, .selects RX11 yX11_parted yX11_parted, .methodLink RL 137 yX12_parted, .instanceMethod yX12_parted, .selects RX12 yX12_parted yX12_parted, .methodLink RL 138 yX11_shift, .instanceMethod yX11_shift, .selects RX11 yX11_shift yX11_shift, .methodLink RL 141 yX12_shift, .instanceMethod yX12_shift, .selects RX12 yX12_shift yX12_shift, .methodLink RL 142 yX11_alike, .instanceMethod yX11_alike, .selects RX11 yX11_alike yX11_alike, .methodLink RL 145 yX12_alike, .instanceMethod yX12_alike, .selects RX12 yX12_alike yX12_alike, .methodLink RL 146 yX11_nearest, .instanceMethod yX11_nearest, .selects RX11 yX11_nearest yX11_nearest, .methodLink RL 149 yX12_nearest, .instanceMethod yX12_nearest, .selects RX12 yX12_nearest yX12_nearest, .methodLink RL 150 yX11_kinds, .instanceMethod yX11_kinds, .selects RX11 yX11_kinds yX11_kinds, .methodLink RL 153 yX12_kinds, .instanceMethod yX12_kinds, .selects RX12 yX12_kinds yX12_kinds, .methodLink RL 154 yX11_fitted, .instanceMethod yX11_fitted, .selects RX11 yX11_fitted yX11_fitted, .methodLink RL 157 yX12_fitted, .instanceMethod yX12_fitted, .selects RX12 yX12_fitted yX12_fitted, .methodLink RL 158 yX11_lost, .instanceMethod yX11_lost, .selects RX11 yX11_lost yX11_lost, .methodLink RL 161 yX12_lost, .instanceMethod yX12_lost, .selects RX12 yX12_lost yX12_lost, .methodLink RL 162 yX11_setting, .instanceMethod yX11_setting, .selects RX11 yX11_setting yX11_setting, .methodLink RL 165 yX12_setting, .instanceMethod yX12_setting, .selects RX12 yX12_setting yX12_setting, .methodLink RL 166 yX11_count, .instanceMethod yX11_count, .selects RX11 yX11_count yX11_count, .methodLink RL 169 yX12_count, .instanceMethod yX12_count, .selects RX12 yX12_count yX12_count]
theorem wA0_g : wA0.all goodWord = true := by decide +kernel
theorem wA1_g : wA1.all goodWord = true := by decide +kernel
theorem wA2_g : wA2.all goodWord = true := by decide +kernel
theorem wA3_g : wA3.all goodWord = true := by decide +kernel
theorem wA4_g : wA4.all goodWord = true := by decide +kernel
theorem wA5_g : wA5.all goodWord = true := by decide +kernel
theorem wA6_g : wA6.all goodWord = true := by decide +kernel
theorem wA7_g : wA7.all goodWord = true := by decide +kernel
theorem wA8_g : wA8.all goodWord = true := by decide +kernel
theorem wA9_g : wA9.all goodWord = true := by decide +kernel
theorem wA10_g : wA10.all goodWord = true := by decide +kernel
theorem wA11_g : wA11.all goodWord = true := by decide +kernel
theorem wA12_g : wA12.all goodWord = true := by decide +kernel
theorem wA13_g : wA13.all goodWord = true := by decide +kernel
theorem wA14_g : wA14.all goodWord = true := by decide +kernel
theorem wA15_g : wA15.all goodWord = true := by decide +kernel
theorem wA16_g : wA16.all goodWord = true := by decide +kernel
theorem wA17_g : wA17.all goodWord = true := by decide +kernel
theorem wA18_g : wA18.all goodWord = true := by decide +kernel
theorem wA19_g : wA19.all goodWord = true := by decide +kernel
theorem wA20_g : wA20.all goodWord = true := by decide +kernel
theorem wsX00_g : wsX00.all goodWord = true := by decide +kernel
theorem wsX10_g : wsX10.all goodWord = true := by decide +kernel
theorem wsX20_g : wsX20.all goodWord = true := by decide +kernel
theorem wsX30_g : wsX30.all goodWord = true := by decide +kernel
theorem wsX40_g : wsX40.all goodWord = true := by decide +kernel
theorem wsX50_g : wsX50.all goodWord = true := by decide +kernel
theorem wsX60_g : wsX60.all goodWord = true := by decide +kernel
theorem wsX70_g : wsX70.all goodWord = true := by decide +kernel
theorem wsX80_g : wsX80.all goodWord = true := by decide +kernel
theorem wsX90_g : wsX90.all goodWord = true := by decide +kernel
theorem wsX100_g : wsX100.all goodWord = true := by decide +kernel
theorem wsX110_g : wsX110.all goodWord = true := by decide +kernel
theorem wsX120_g : wsX120.all goodWord = true := by decide +kernel
theorem wsJx145de0_g : wsJx145de0.all goodWord = true := by decide +kernel
theorem wsJx9f9b00_g : wsJx9f9b00.all goodWord = true := by decide +kernel
theorem wsJxb160c0_g : wsJxb160c0.all goodWord = true := by decide +kernel
theorem wsJx29ce00_g : wsJx29ce00.all goodWord = true := by decide +kernel
theorem wsJ60_g : wsJ60.all goodWord = true := by decide +kernel
theorem wsJ90_g : wsJ90.all goodWord = true := by decide +kernel
theorem wsJ00_g : wsJ00.all goodWord = true := by decide +kernel
theorem wsJ10_g : wsJ10.all goodWord = true := by decide +kernel
theorem wsJ20_g : wsJ20.all goodWord = true := by decide +kernel
theorem wsJ100_g : wsJ100.all goodWord = true := by decide +kernel
theorem wsJxfd54e0_g : wsJxfd54e0.all goodWord = true := by decide +kernel
theorem wsJx3cf430_g : wsJx3cf430.all goodWord = true := by decide +kernel
theorem wsJ70_g : wsJ70.all goodWord = true := by decide +kernel
theorem wsJ30_g : wsJ30.all goodWord = true := by decide +kernel
def wAll : List Cond := wA0 ++ (wA1 ++ (wA2 ++ (wA3 ++ (wA4 ++ (wA5 ++ (wA6 ++ (wA7 ++ (wA8 ++ (wA9 ++ (wA10 ++ (wA11 ++ (wA12 ++ (wA13 ++ (wA14 ++ (wA15 ++ (wA16 ++ (wA17 ++ (wA18 ++ (wA19 ++ (wA20 ++ (wsX00 ++ (wsX10 ++ (wsX20 ++ (wsX30 ++ (wsX40 ++ (wsX50 ++ (wsX60 ++ (wsX70 ++ (wsX80 ++ (wsX90 ++ (wsX100 ++ (wsX110 ++ (wsX120 ++ (wsJx145de0 ++ (wsJx9f9b00 ++ (wsJxb160c0 ++ (wsJx29ce00 ++ (wsJ60 ++ (wsJ90 ++ (wsJ00 ++ (wsJ10 ++ (wsJ20 ++ (wsJ100 ++ (wsJxfd54e0 ++ (wsJx3cf430 ++ (wsJ70 ++ (wsJ30)))))))))))))))))))))))))))))))))))))))))))))))
theorem all_app {a b : List Cond} (ha : a.all goodWord = true) (hb : b.all goodWord = true) : (a ++ b).all goodWord = true := by rw [List.all_append, ha, hb]; rfl
theorem wAll_g : wAll.all goodWord = true := all_app wA0_g (all_app wA1_g (all_app wA2_g (all_app wA3_g (all_app wA4_g (all_app wA5_g (all_app wA6_g (all_app wA7_g (all_app wA8_g (all_app wA9_g (all_app wA10_g (all_app wA11_g (all_app wA12_g (all_app wA13_g (all_app wA14_g (all_app wA15_g (all_app wA16_g (all_app wA17_g (all_app wA18_g (all_app wA19_g (all_app wA20_g (all_app wsX00_g (all_app wsX10_g (all_app wsX20_g (all_app wsX30_g (all_app wsX40_g (all_app wsX50_g (all_app wsX60_g (all_app wsX70_g (all_app wsX80_g (all_app wsX90_g (all_app wsX100_g (all_app wsX110_g (all_app wsX120_g (all_app wsJx145de0_g (all_app wsJx9f9b00_g (all_app wsJxb160c0_g (all_app wsJx29ce00_g (all_app wsJ60_g (all_app wsJ90_g (all_app wsJ00_g (all_app wsJ10_g (all_app wsJ20_g (all_app wsJ100_g (all_app wsJxfd54e0_g (all_app wsJx3cf430_g (all_app wsJ70_g (wsJ30_g)))))))))))))))))))))))))))))))))))))))))))))))
theorem in_wA0 : ∀ w ∈ wA0, w ∈ wAll := fun _ h => List.mem_append_left _ h
theorem in_wA1 : ∀ w ∈ wA1, w ∈ wAll := fun _ h => List.mem_append_right _ (List.mem_append_left _ h)
theorem in_wA2 : ∀ w ∈ wA2, w ∈ wAll := fun _ h => List.mem_append_right _ (List.mem_append_right _ (List.mem_append_left _ h))
theorem in_wA3 : ∀ w ∈ wA3, w ∈ wAll := fun _ h => List.mem_append_right _ (List.mem_append_right _ (List.mem_append_right _ (List.mem_append_left _ h)))
theorem in_wA4 : ∀ w ∈ wA4, w ∈ wAll := fun _ h => List.mem_append_right _ (List.mem_append_right _ (List.mem_append_right _ (List.mem_append_right _ (List.mem_append_left _ h))))
theorem in_wA5 : ∀ w ∈ wA5, w ∈ wAll := fun _ h => List.mem_append_right _ (List.mem_append_right _ (List.mem_append_right _ (List.mem_append_right _ (List.mem_append_right _ (List.mem_append_left _ h)))))
theorem in_wA6 : ∀ w ∈ wA6, w ∈ wAll := fun _ h => List.mem_append_right _ (List.mem_append_right _ (List.mem_append_right _ (List.mem_append_right _ (List.mem_append_right _ (List.mem_append_right _ (List.mem_append_left _ h))))))
theorem in_wA7 : ∀ w ∈ wA7, w ∈ wAll := fun _ h => List.mem_append_right _ (List.mem_append_right _ (List.mem_append_right _ (List.mem_append_right _ (List.mem_append_right _ (List.mem_append_right _ (List.mem_append_right _ (List.mem_append_left _ h)))))))
theorem in_wA8 : ∀ w ∈ wA8, w ∈ wAll := fun _ h => List.mem_append_right _ (List.mem_append_right _ (List.mem_append_right _ (List.mem_append_right _ (List.mem_append_right _ (List.mem_append_right _ (List.mem_append_right _ (List.mem_append_right _ (List.mem_append_left _ h))))))))
theorem in_wA9 : ∀ w ∈ wA9, w ∈ wAll := fun _ h => List.mem_append_right _ (List.mem_append_right _ (List.mem_append_right _ (List.mem_append_right _ (List.mem_append_right _ (List.mem_append_right _ (List.mem_append_right _ (List.mem_append_right _ (List.mem_append_right _ (List.mem_append_left _ h)))))))))
theorem in_wA10 : ∀ w ∈ wA10, w ∈ wAll := fun _ h => List.mem_append_right _ (List.mem_append_right _ (List.mem_append_right _ (List.mem_append_right _ (List.mem_append_right _ (List.mem_append_right _ (List.mem_append_right _ (List.mem_append_right _ (List.mem_append_right _ (List.mem_append_right _ (List.mem_append_left _ h))))))))))
theorem in_wA11 : ∀ w ∈ wA11, w ∈ wAll := fun _ h => List.mem_append_right _ (List.mem_append_right _ (List.mem_append_right _ (List.mem_append_right _ (List.mem_append_right _ (List.mem_append_right _ (List.mem_append_right _ (List.mem_append_right _ (List.mem_append_right _ (List.mem_append_right _ (List.mem_append_right _ (List.mem_append_left _ h)))))))))))
theorem in_wA12 : ∀ w ∈ wA12, w ∈ wAll := fun _ h => List.mem_append_right _ (List.mem_append_right _ (List.mem_append_right _ (List.mem_append_right _ (List.mem_append_right _ (List.mem_append_right _ (List.mem_append_right _ (List.mem_append_right _ (List.mem_append_right _ (List.mem_append_right _ (List.mem_append_right _ (List.mem_append_right _ (List.mem_append_left _ h))))))))))))
theorem in_wA13 : ∀ w ∈ wA13, w ∈ wAll := fun _ h => List.mem_append_right _ (List.mem_append_right _ (List.mem_append_right _ (List.mem_append_right _ (List.mem_append_right _ (List.mem_append_right _ (List.mem_append_right _ (List.mem_append_right _ (List.mem_append_right _ (List.mem_append_right _ (List.mem_append_right _ (List.mem_append_right _ (List.mem_append_right _ (List.mem_append_left _ h)))))))))))))
theorem in_wA14 : ∀ w ∈ wA14, w ∈ wAll := fun _ h => List.mem_append_right _ (List.mem_append_right _ (List.mem_append_right _ (List.mem_append_right _ (List.mem_append_right _ (List.mem_append_right _ (List.mem_append_right _ (List.mem_append_right _ (List.mem_append_right _ (List.mem_append_right _ (List.mem_append_right _ (List.mem_append_right _ (List.mem_append_right _ (List.mem_append_right _ (List.mem_append_left _ h))))))))))))))
theorem in_wA15 : ∀ w ∈ wA15, w ∈ wAll := fun _ h => List.mem_append_right _ (List.mem_append_right _ (List.mem_append_right _ (List.mem_append_right _ (List.mem_append_right _ (List.mem_append_right _ (List.mem_append_right _ (List.mem_append_right _ (List.mem_append_right _ (List.mem_append_right _ (List.mem_append_right _ (List.mem_append_right _ (List.mem_append_right _ (List.mem_append_right _ (List.mem_append_right _ (List.mem_append_left _ h)))))))))))))))
theorem in_wA16 : ∀ w ∈ wA16, w ∈ wAll := fun _ h => List.mem_append_right _ (List.mem_append_right _ (List.mem_append_right _ (List.mem_append_right _ (List.mem_append_right _ (List.mem_append_right _ (List.mem_append_right _ (List.mem_append_right _ (List.mem_append_right _ (List.mem_append_right _ (List.mem_append_right _ (List.mem_append_right _ (List.mem_append_right _ (List.mem_append_right _ (List.mem_append_right _ (List.mem_append_right _ (List.mem_append_left _ h))))))))))))))))
theorem in_wA17 : ∀ w ∈ wA17, w ∈ wAll := fun _ h => List.mem_append_right _ (List.mem_append_right _ (List.mem_append_right _ (List.mem_append_right _ (List.mem_append_right _ (List.mem_append_right _ (List.mem_append_right _ (List.mem_append_right _ (List.mem_append_right _ (List.mem_append_right _ (List.mem_append_right _ (List.mem_append_right _ (List.mem_append_right _ (List.mem_append_right _ (List.mem_append_right _ (List.mem_append_right _ (List.mem_append_right _ (List.mem_append_left _ h)))))))))))))))))
theorem in_wA18 : ∀ w ∈ wA18, w ∈ wAll := fun _ h => List.mem_append_right _ (List.mem_append_right _ (List.mem_append_right _ (List.mem_append_right _ (List.mem_append_right _ (List.mem_append_right _ (List.mem_append_right _ (List.mem_append_right _ (List.mem_append_right _ (List.mem_append_right _ (List.mem_append_right _ (List.mem_append_right _ (List.mem_append_right _ (List.mem_append_right _ (List.mem_append_right _ (List.mem_append_right _ (List.mem_append_right _ (List.mem_append_right _ (List.mem_append_left _ h))))))))))))))))))
theorem in_wA19 : ∀ w ∈ wA19, w ∈ wAll := fun _ h => List.mem_append_right _ (List.mem_append_right _ (List.mem_append_right _ (List.mem_append_right _ (List.mem_append_right _ (List.mem_append_right _ (List.mem_append_right _ (List.mem_append_right _ (List.mem_append_right _ (List.mem_append_right _ (List.mem_append_right _ (List.mem_append_right _ (List.mem_append_right _ (List.mem_append_right _ (List.mem_append_right _ (List.mem_append_right _ (List.mem_append_right _ (List.mem_append_right _ (List.mem_append_right _ (List.mem_append_left _ h)))))))))))))))))))
theorem in_wA20 : ∀ w ∈ wA20, w ∈ wAll := fun _ h => List.mem_append_right _ (List.mem_append_right _ (List.mem_append_right _ (List.mem_append_right _ (List.mem_append_right _ (List.mem_append_right _ (List.mem_append_right _ (List.mem_append_right _ (List.mem_append_right _ (List.mem_append_right _ (List.mem_append_right _ (List.mem_append_right _ (List.mem_append_right _ (List.mem_append_right _ (List.mem_append_right _ (List.mem_append_right _ (List.mem_append_right _ (List.mem_append_right _ (List.mem_append_right _ (List.mem_append_right _ (List.mem_append_left _ h))))))))))))))))))))
theorem in_wsX00 : ∀ w ∈ wsX00, w ∈ wAll := fun _ h => List.mem_append_right _ (List.mem_append_right _ (List.mem_append_right _ (List.mem_append_right _ (List.mem_append_right _ (List.mem_append_right _ (List.mem_append_right _ (List.mem_append_right _ (List.mem_append_right _ (List.mem_append_right _ (List.mem_append_right _ (List.mem_append_right _ (List.mem_append_right _ (List.mem_append_right _ (List.mem_append_right _ (List.mem_append_right _ (List.mem_append_right _ (List.mem_append_right _ (List.mem_append_right _ (List.mem_append_right _ (List.mem_append_right _ (List.mem_append_left _ h)))))))))))))))))))))
theorem in_wsX10 : ∀ w ∈ wsX10, w ∈ wAll := fun _ h => List.mem_append_right _ (List.mem_append_right _ (List.mem_append_right _ (List.mem_append_right _ (List.mem_append_right _ (List.mem_append_right _ (List.mem_append_right _ (List.mem_append_right _ (List.mem_append_right _ (List.mem_append_right _ (List.mem_append_right _ (List.mem_append_right _ (List.mem_append_right _ (List.mem_append_right _ (List.mem_append_right _ (List.mem_append_right _ (List.mem_append_right _ (List.mem_append_right _ (List.mem_append_right _ (List.mem_append_right _ (List.mem_append_right _ (List.mem_append_right _ (List.mem_append_left _ h))))))))))))))))))))))
theorem in_wsX20 : ∀ w ∈ wsX20, w ∈ wAll := fun _ h => List.mem_append_right _ (List.mem_append_right _ (List.mem_append_right _ (List.mem_append_right _ (List.mem_append_right _ (List.mem_append_right _ (List.mem_append_right _ (List.mem_append_right _ (List.mem_append_right _ (List.mem_append_right _ (List.mem_append_right _ (List.mem_append_right _ (List.mem_append_right _ (List.mem_append_right _ (List.mem_append_right _ (List.mem_append_right _ (List.mem_append_right _ (List.mem_append_right _ (List.mem_append_right _ (List.mem_append_right _ (List.mem_append_right _ (List.mem_append_right _ (List.mem_append_right _ (List.mem_append_left _ h)))))))))))))))))))))))
theorem in_wsX30 : ∀ w ∈ wsX30, w ∈ wAll := fun _ h => List.mem_append_right _ (List.mem_append_right _ (List.mem_append_right _ (List.mem_append_right _ (List.mem_append_right _ (List.mem_append_right _ (List.mem_append_right _ (List.mem_append_right _ (List.mem_append_right _ (List.mem_append_right _ (List.mem_append_right _ (List.mem_append_right _ (List.mem_append_right _ (List.mem_append_right _ (List.mem_append_right _ (List.mem_append_right _ (List.mem_append_right _ (List.mem_append_right _ (List.mem_append_right _ (List.mem_append_right _ (List.mem_append_right _ (List.mem_append_right _ (List.mem_append_right _ (List.mem_append_right _ (List.mem_append_left _ h))))))))))))))))))))))))
theorem in_wsX40 : ∀ w ∈ wsX40, w ∈ wAll := fun _ h => List.mem_append_right _ (List.mem_append_right _ (List.mem_append_right _ (List.mem_append_right _ (List.mem_append_right _ (List.mem_append_right _ (List.mem_append_right _ (List.mem_append_right _ (List.mem_append_right _ (List.mem_append_right _ (List.mem_append_right _ (List.mem_append_right _ (List.mem_append_right _ (List.mem_append_right _ (List.mem_append_right _ (List.mem_append_right _ (List.mem_append_right _ (List.mem_append_right _ (List.mem_append_right _ (List.mem_append_right _ (List.mem_append_right _ (List.mem_append_right _ (List.mem_append_right _ (List.mem_append_right _ (List.mem_append_right _ (List.mem_append_left _ h)))))))))))))))))))))))))
theorem in_wsX50 : ∀ w ∈ wsX50, w ∈ wAll := fun _ h => List.mem_append_right _ (List.mem_append_right _ (List.mem_append_right _ (List.mem_append_right _ (List.mem_append_right _ (List.mem_append_right _ (List.mem_append_right _ (List.mem_append_right _ (List.mem_append_right _ (List.mem_append_right _ (List.mem_append_right _ (List.mem_append_right _ (List.mem_append_right _ (List.mem_append_right _ (List.mem_append_right _ (List.mem_append_right _ (List.mem_append_right _ (List.mem_append_right _ (List.mem_append_right _ (List.mem_append_right _ (List.mem_append_right _ (List.mem_append_right _ (List.mem_append_right _ (List.mem_append_right _ (List.mem_append_right _ (List.mem_append_right _ (List.mem_append_left _ h))))))))))))))))))))))))))
theorem in_wsX60 : ∀ w ∈ wsX60, w ∈ wAll := fun _ h => List.mem_append_right _ (List.mem_append_right _ (List.mem_append_right _ (List.mem_append_right _ (List.mem_append_right _ (List.mem_append_right _ (List.mem_append_right _ (List.mem_append_right _ (List.mem_append_right _ (List.mem_append_right _ (List.mem_append_right _ (List.mem_append_right _ (List.mem_append_right _ (List.mem_append_right _ (List.mem_append_right _ (List.mem_append_right _ (List.mem_append_right _ (List.mem_append_right _ (List.mem_append_right _ (List.mem_append_right _ (List.mem_append_right _ (List.mem_append_right _ (List.mem_append_right _ (List.mem_append_right _ (List.mem_append_right _ (List.mem_append_right _ (List.mem_append_right _ (List.mem_append_left _ h)))))))))))))))))))))))))))
theorem in_wsX70 : ∀ w ∈ wsX70, w ∈ wAll := fun _ h => List.mem_append_right _ (List.mem_append_right _ (List.mem_append_right _ (List.mem_append_right _ (List.mem_append_right _ (List.mem_append_right _ (List.mem_append_right _ (List.mem_append_right _ (List.mem_append_right _ (List.mem_append_right _ (List.mem_append_right _ (List.mem_append_right _ (List.mem_append_right _ (List.mem_append_right _ (List.mem_append_right _ (List.mem_append_right _ (List.mem_append_right _ (List.mem_append_right _ (List.mem_append_right _ (List.mem_append_right _ (List.mem_append_right _ (List.mem_append_right _ (List.mem_append_right _ (List.mem_append_right _ (List.mem_append_right _ (List.mem_append_right _ (List.mem_append_right _ (List.mem_append_right _ (List.mem_append_left _ h))))))))))))))))))))))))))))
theorem in_wsX80 : ∀ w ∈ wsX80, w ∈ wAll := fun _ h => List.mem_append_right _ (List.mem_append_right _ (List.mem_append_right _ (List.mem_append_right _ (List.mem_append_right _ (List.mem_append_right _ (List.mem_append_right _ (List.mem_append_right _ (List.mem_append_right _ (List.mem_append_right _ (List.mem_append_right _ (List.mem_append_right _ (List.mem_append_right _ (List.mem_append_right _ (List.mem_append_right _ (List.mem_append_right _ (List.mem_append_right _ (List.mem_append_right _ (List.mem_append_right _ (List.mem_append_right _ (List.mem_append_right _ (List.mem_append_right _ (List.mem_append_right _ (List.mem_append_right _ (List.mem_append_right _ (List.mem_append_right _ (List.mem_append_right _ (List.mem_append_right _ (List.mem_append_right _ (List.mem_append_left _ h)))))))))))))))))))))))))))))
theorem in_wsX90 : ∀ w ∈ wsX90, w ∈ wAll := fun _ h => List.mem_append_right _ (List.mem_append_right _ (List.mem_append_right _ (List.mem_append_right _ (List.mem_append_right _ (List.mem_append_right _ (List.mem_append_right _ (List.mem_append_right _ (List.mem_append_right _ (List.mem_append_right _ (List.mem_append_right _ (List.mem_append_right _ (List.mem_append_right _ (List.mem_append_right _ (List.mem_append_right _ (List.mem_append_right _ (List.mem_append_right _ (List.mem_append_right _ (List.mem_append_right _ (List.mem_append_right _ (List.mem_append_right _ (List.mem_append_right _ (List.mem_append_right _ (List.mem_append_right _ (List.mem_append_right _ (List.mem_append_right _ (List.mem_append_right _ (List.mem_append_right _ (List.mem_append_right _ (List.mem_append_right _ (List.mem_append_left _ h))))))))))))))))))))))))))))))
theorem in_wsX100 : ∀ w ∈ wsX100, w ∈ wAll := fun _ h => List.mem_append_right _ (List.mem_append_right _ (List.mem_append_right _ (List.mem_append_right _ (List.mem_append_right _ (List.mem_append_right _ (List.mem_append_right _ (List.mem_append_right _ (List.mem_append_right _ (List.mem_append_right _ (List.mem_append_right _ (List.mem_append_right _ (List.mem_append_right _ (List.mem_append_right _ (List.mem_append_right _ (List.mem_append_right _ (List.mem_append_right _ (List.mem_append_right _ (List.mem_append_right _ (List.mem_append_right _ (List.mem_append_right _ (List.mem_append_right _ (List.mem_append_right _ (List.mem_append_right _ (List.mem_append_right _ (List.mem_append_right _ (List.mem_append_right _ (List.mem_append_right _ (List.mem_append_right _ (List.mem_append_right _ (List.mem_append_right _ (List.mem_append_left _ h)))))))))))))))))))))))))))))))
theorem in_wsX110 : ∀ w ∈ wsX110, w ∈ wAll := fun _ h => List.mem_append_right _ (List.mem_append_right _ (List.mem_append_right _ (List.mem_append_right _ (List.mem_append_right _ (List.mem_append_right _ (List.mem_append_right _ (List.mem_append_right _ (List.mem_append_right _ (List.mem_append_right _ (List.mem_append_right _ (List.mem_append_right _ (List.mem_append_right _ (List.mem_append_right _ (List.mem_append_right _ (List.mem_append_right _ (List.mem_append_right _ (List.mem_append_right _ (List.mem_append_right _ (List.mem_append_right _ (List.mem_append_right _ (List.mem_append_right _ (List.mem_append_right _ (List.mem_append_right _ (List.mem_append_right _ (List.mem_append_right _ (List.mem_append_right _ (List.mem_append_right _ (List.mem_append_right _ (List.mem_append_right _ (List.mem_append_right _ (List.mem_append_right _ (List.mem_append_left _ h))))))))))))))))))))))))))))))))
theorem in_wsX120 : ∀ w ∈ wsX120, w ∈ wAll := fun _ h => List.mem_append_right _ (List.mem_append_right _ (List.mem_append_right _ (List.mem_append_right _ (List.mem_append_right _ (List.mem_append_right _ (List.mem_append_right _ (List.mem_append_right _ (List.mem_append_right _ (List.mem_append_right _ (List.mem_append_right _ (List.mem_append_right _ (List.mem_append_right _ (List.mem_append_right _ (List.mem_append_right _ (List.mem_append_right _ (List.mem_append_right _ (List.mem_append_right _ (List.mem_append_right _ (List.mem_append_right _ (List.mem_append_right _ (List.mem_append_right _ (List.mem_append_right _ (List.mem_append_right _ (List.mem_append_right _ (List.mem_append_right _ (List.mem_append_right _ (List.mem_append_right _ (List.mem_append_right _ (List.mem_append_right _ (List.mem_append_right _ (List.mem_append_right _ (List.mem_append_right _ (List.mem_append_left _ h)))))))))))))))))))))))))))))))))
theorem in_wsJx145de0 : ∀ w ∈ wsJx145de0, w ∈ wAll := fun _ h => List.mem_append_right _ (List.mem_append_right _ (List.mem_append_right _ (List.mem_append_right _ (List.mem_append_right _ (List.mem_append_right _ (List.mem_append_right _ (List.mem_append_right _ (List.mem_append_right _ (List.mem_append_right _ (List.mem_append_right _ (List.mem_append_right _ (List.mem_append_right _ (List.mem_append_right _ (List.mem_append_right _ (List.mem_append_right _ (List.mem_append_right _ (List.mem_append_right _ (List.mem_append_right _ (List.mem_append_right _ (List.mem_append_right _ (List.mem_append_right _ (List.mem_append_right _ (List.mem_append_right _ (List.mem_append_right _ (List.mem_append_right _ (List.mem_append_right _ (List.mem_append_right _ (List.mem_append_right _ (List.mem_append_right _ (List.mem_append_right _ (List.mem_append_right _ (List.mem_append_right _ (List.mem_append_right _ (List.mem_append_left _ h))))))))))))))))))))))))))))))))))
theorem in_wsJx9f9b00 : ∀ w ∈ wsJx9f9b00, w ∈ wAll := fun _ h => List.mem_append_right _ (List.mem_append_right _ (List.mem_append_right _ (List.mem_append_right _ (List.mem_append_right _ (List.mem_append_right _ (List.mem_append_right _ (List.mem_append_right _ (List.mem_append_right _ (List.mem_append_right _ (List.mem_append_right _ (List.mem_append_right _ (List.mem_append_right _ (List.mem_append_right _ (List.mem_append_right _ (List.mem_append_right _ (List.mem_append_right _ (List.mem_append_right _ (List.mem_append_right _ (List.mem_append_right _ (List.mem_append_right _ (List.mem_append_right _ (List.mem_append_right _ (List.mem_append_right _ (List.mem_append_right _ (List.mem_append_right _ (List.mem_append_right _ (List.mem_append_right _ (List.mem_append_right _ (List.mem_append_right _ (List.mem_append_right _ (List.mem_append_right _ (List.mem_append_right _ (List.mem_append_right _ (List.mem_append_right _ (List.mem_append_left _ h)))))))))))))))))))))))))))))))))))
theorem in_wsJxb160c0 : ∀ w ∈ wsJxb160c0, w ∈ wAll := fun _ h => List.mem_append_right _ (List.mem_append_right _ (List.mem_append_right _ (List.mem_append_right _ (List.mem_append_right _ (List.mem_append_right _ (List.mem_append_right _ (List.mem_append_right _ (List.mem_append_right _ (List.mem_append_right _ (List.mem_append_right _ (List.mem_append_right _ (List.mem_append_right _ (List.mem_append_right _ (List.mem_append_right _ (List.mem_append_right _ (List.mem_append_right _ (List.mem_append_right _ (List.mem_append_right _ (List.mem_append_right _ (List.mem_append_right _ (List.mem_append_right _ (List.mem_append_right _ (List.mem_append_right _ (List.mem_append_right _ (List.mem_append_right _ (List.mem_append_right _ (List.mem_append_right _ (List.mem_append_right _ (List.mem_append_right _ (List.mem_append_right _ (List.mem_append_right _ (List.mem_append_right _ (List.mem_append_right _ (List.mem_append_right _ (List.mem_append_right _ (List.mem_append_left _ h))))))))))))))))))))))))))))))))))))
theorem in_wsJx29ce00 : ∀ w ∈ wsJx29ce00, w ∈ wAll := fun _ h => List.mem_append_right _ (List.mem_append_right _ (List.mem_append_right _ (List.mem_append_right _ (List.mem_append_right _ (List.mem_append_right _ (List.mem_append_right _ (List.mem_append_right _ (List.mem_append_right _ (List.mem_append_right _ (List.mem_append_right _ (List.mem_append_right _ (List.mem_append_right _ (List.mem_append_right _ (List.mem_append_right _ (List.mem_append_right _ (List.mem_append_right _ (List.mem_append_right _ (List.mem_append_right _ (List.mem_append_right _ (List.mem_append_right _ (List.mem_append_right _ (List.mem_append_right _ (List.mem_append_right _ (List.mem_append_right _ (List.mem_append_right _ (List.mem_append_right _ (List.mem_append_right _ (List.mem_append_right _ (List.mem_append_right _ (List.mem_append_right _ (List.mem_append_right _ (List.mem_append_right _ (List.mem_append_right _ (List.mem_append_right _ (List.mem_append_right _ (List.mem_append_right _ (List.mem_append_left _ h)))))))))))))))))))))))))))))))))))))
theorem in_wsJ60 : ∀ w ∈ wsJ60, w ∈ wAll := fun _ h => List.mem_append_right _ (List.mem_append_right _ (List.mem_append_right _ (List.mem_append_right _ (List.mem_append_right _ (List.mem_append_right _ (List.mem_append_right _ (List.mem_append_right _ (List.mem_append_right _ (List.mem_append_right _ (List.mem_append_right _ (List.mem_append_right _ (List.mem_append_right _ (List.mem_append_right _ (List.mem_append_right _ (List.mem_append_right _ (List.mem_append_right _ (List.mem_append_right _ (List.mem_append_right _ (List.mem_append_right _ (List.mem_append_right _ (List.mem_append_right _ (List.mem_append_right _ (List.mem_append_right _ (List.mem_append_right _ (List.mem_append_right _ (List.mem_append_right _ (List.mem_append_right _ (List.mem_append_right _ (List.mem_append_right _ (List.mem_append_right _ (List.mem_append_right _ (List.mem_append_right _ (List.mem_append_right _ (List.mem_append_right _ (List.mem_append_right _ (List.mem_append_right _ (List.mem_append_right _ (List.mem_append_left _ h))))))))))))))))))))))))))))))))))))))
theorem in_wsJ90 : ∀ w ∈ wsJ90, w ∈ wAll := fun _ h => List.mem_append_right _ (List.mem_append_right _ (List.mem_append_right _ (List.mem_append_right _ (List.mem_append_right _ (List.mem_append_right _ (List.mem_append_right _ (List.mem_append_right _ (List.mem_append_right _ (List.mem_append_right _ (List.mem_append_right _ (List.mem_append_right _ (List.mem_append_right _ (List.mem_append_right _ (List.mem_append_right _ (List.mem_append_right _ (List.mem_append_right _ (List.mem_append_right _ (List.mem_append_right _ (List.mem_append_right _ (List.mem_append_right _ (List.mem_append_right _ (List.mem_append_right _ (List.mem_append_right _ (List.mem_append_right _ (List.mem_append_right _ (List.mem_append_right _ (List.mem_append_right _ (List.mem_append_right _ (List.mem_append_right _ (List.mem_append_right _ (List.mem_append_right _ (List.mem_append_right _ (List.mem_append_right _ (List.mem_append_right _ (List.mem_append_right _ (List.mem_append_right _ (List.mem_append_right _ (List.mem_append_right _ (List.mem_append_left _ h)))))))))))))))))))))))))))))))))))))))
theorem in_wsJ00 : ∀ w ∈ wsJ00, w ∈ wAll := fun _ h => List.mem_append_right _ (List.mem_append_right _ (List.mem_append_right _ (List.mem_append_right _ (List.mem_append_right _ (List.mem_append_right _ (List.mem_append_right _ (List.mem_append_right _ (List.mem_append_right _ (List.mem_append_right _ (List.mem_append_right _ (List.mem_append_right _ (List.mem_append_right _ (List.mem_append_right _ (List.mem_append_right _ (List.mem_append_right _ (List.mem_append_right _ (List.mem_append_right _ (List.mem_append_right _ (List.mem_append_right _ (List.mem_append_right _ (List.mem_append_right _ (List.mem_append_right _ (List.mem_append_right _ (List.mem_append_right _ (List.mem_append_right _ (List.mem_append_right _ (List.mem_append_right _ (List.mem_append_right _ (List.mem_append_right _ (List.mem_append_right _ (List.mem_append_right _ (List.mem_append_right _ (List.mem_append_right _ (List.mem_append_right _ (List.mem_append_right _ (List.mem_append_right _ (List.mem_append_right _ (List.mem_append_right _ (List.mem_append_right _ (List.mem_append_left _ h))))))))))))))))))))))))))))))))))))))))
theorem in_wsJ10 : ∀ w ∈ wsJ10, w ∈ wAll := fun _ h => List.mem_append_right _ (List.mem_append_right _ (List.mem_append_right _ (List.mem_append_right _ (List.mem_append_right _ (List.mem_append_right _ (List.mem_append_right _ (List.mem_append_right _ (List.mem_append_right _ (List.mem_append_right _ (List.mem_append_right _ (List.mem_append_right _ (List.mem_append_right _ (List.mem_append_right _ (List.mem_append_right _ (List.mem_append_right _ (List.mem_append_right _ (List.mem_append_right _ (List.mem_append_right _ (List.mem_append_right _ (List.mem_append_right _ (List.mem_append_right _ (List.mem_append_right _ (List.mem_append_right _ (List.mem_append_right _ (List.mem_append_right _ (List.mem_append_right _ (List.mem_append_right _ (List.mem_append_right _ (List.mem_append_right _ (List.mem_append_right _ (List.mem_append_right _ (List.mem_append_right _ (List.mem_append_right _ (List.mem_append_right _ (List.mem_append_right _ (List.mem_append_right _ (List.mem_append_right _ (List.mem_append_right _ (List.mem_append_right _ (List.mem_append_right _ (List.mem_append_left _ h)))))))))))))))))))))))))))))))))))))))))
theorem in_wsJ20 : ∀ w ∈ wsJ20, w ∈ wAll := fun _ h => List.mem_append_right _ (List.mem_append_right _ (List.mem_append_right _ (List.mem_append_right _ (List.mem_append_right _ (List.mem_append_right _ (List.mem_append_right _ (List.mem_append_right _ (List.mem_append_right _ (List.mem_append_right _ (List.mem_append_right _ (List.mem_append_right _ (List.mem_append_right _ (List.mem_append_right _ (List.mem_append_right _ (List.mem_append_right _ (List.mem_append_right _ (List.mem_append_right _ (List.mem_append_right _ (List.mem_append_right _ (List.mem_append_right _ (List.mem_append_right _ (List.mem_append_right _ (List.mem_append_right _ (List.mem_append_right _ (List.mem_append_right _ (List.mem_append_right _ (List.mem_append_right _ (List.mem_append_right _ (List.mem_append_right _ (List.mem_append_right _ (List.mem_append_right _ (List.mem_append_right _ (List.mem_append_right _ (List.mem_append_right _ (List.mem_append_right _ (List.mem_append_right _ (List.mem_append_right _ (List.mem_append_right _ (List.mem_append_right _ (List.mem_append_right _ (List.mem_append_right _ (List.mem_append_left _ h))))))))))))))))))))))))))))))))))))))))))
theorem in_wsJ100 : ∀ w ∈ wsJ100, w ∈ wAll := fun _ h => List.mem_append_right _ (List.mem_append_right _ (List.mem_append_right _ (List.mem_append_right _ (List.mem_append_right _ (List.mem_append_right _ (List.mem_append_right _ (List.mem_append_right _ (List.mem_append_right _ (List.mem_append_right _ (List.mem_append_right _ (List.mem_append_right _ (List.mem_append_right _ (List.mem_append_right _ (List.mem_append_right _ (List.mem_append_right _ (List.mem_append_right _ (List.mem_append_right _ (List.mem_append_right _ (List.mem_append_right _ (List.mem_append_right _ (List.mem_append_right _ (List.mem_append_right _ (List.mem_append_right _ (List.mem_append_right _ (List.mem_append_right _ (List.mem_append_right _ (List.mem_append_right _ (List.mem_append_right _ (List.mem_append_right _ (List.mem_append_right _ (List.mem_append_right _ (List.mem_append_right _ (List.mem_append_right _ (List.mem_append_right _ (List.mem_append_right _ (List.mem_append_right _ (List.mem_append_right _ (List.mem_append_right _ (List.mem_append_right _ (List.mem_append_right _ (List.mem_append_right _ (List.mem_append_right _ (List.mem_append_left _ h)))))))))))))))))))))))))))))))))))))))))))
theorem in_wsJxfd54e0 : ∀ w ∈ wsJxfd54e0, w ∈ wAll := fun _ h => List.mem_append_right _ (List.mem_append_right _ (List.mem_append_right _ (List.mem_append_right _ (List.mem_append_right _ (List.mem_append_right _ (List.mem_append_right _ (List.mem_append_right _ (List.mem_append_right _ (List.mem_append_right _ (List.mem_append_right _ (List.mem_append_right _ (List.mem_append_right _ (List.mem_append_right _ (List.mem_append_right _ (List.mem_append_right _ (List.mem_append_right _ (List.mem_append_right _ (List.mem_append_right _ (List.mem_append_right _ (List.mem_append_right _ (List.mem_append_right _ (List.mem_append_right _ (List.mem_append_right _ (List.mem_append_right _ (List.mem_append_right _ (List.mem_append_right _ (List.mem_append_right _ (List.mem_append_right _ (List.mem_append_right _ (List.mem_append_right _ (List.mem_append_right _ (List.mem_append_right _ (List.mem_append_right _ (List.mem_append_right _ (List.mem_append_right _ (List.mem_append_right _ (List.mem_append_right _ (List.mem_append_right _ (List.mem_append_right _ (List.mem_append_right _ (List.mem_append_right _ (List.mem_append_right _ (List.mem_append_right _ (List.mem_append_left _ h))))))))))))))))))))))))))))))))))))))))))))
theorem in_wsJx3cf430 : ∀ w ∈ wsJx3cf430, w ∈ wAll := fun _ h => List.mem_append_right _ (List.mem_append_right _ (List.mem_append_right _ (List.mem_append_right _ (List.mem_append_right _ (List.mem_append_right _ (List.mem_append_right _ (List.mem_append_right _ (List.mem_append_right _ (List.mem_append_right _ (List.mem_append_right _ (List.mem_append_right _ (List.mem_append_right _ (List.mem_append_right _ (List.mem_append_right _ (List.mem_append_right _ (List.mem_append_right _ (List.mem_append_right _ (List.mem_append_right _ (List.mem_append_right _ (List.mem_append_right _ (List.mem_append_right _ (List.mem_append_right _ (List.mem_append_right _ (List.mem_append_right _ (List.mem_append_right _ (List.mem_append_right _ (List.mem_append_right _ (List.mem_append_right _ (List.mem_append_right _ (List.mem_append_right _ (List.mem_append_right _ (List.mem_append_right _ (List.mem_append_right _ (List.mem_append_right _ (List.mem_append_right _ (List.mem_append_right _ (List.mem_append_right _ (List.mem_append_right _ (List.mem_append_right _ (List.mem_append_right _ (List.mem_append_right _ (List.mem_append_right _ (List.mem_append_right _ (List.mem_append_right _ (List.mem_append_left _ h)))))))))))))))))))))))))))))))))))))))))))))
theorem in_wsJ70 : ∀ w ∈ wsJ70, w ∈ wAll := fun _ h => List.mem_append_right _ (List.mem_append_right _ (List.mem_append_right _ (List.mem_append_right _ (List.mem_append_right _ (List.mem_append_right _ (List.mem_append_right _ (List.mem_append_right _ (List.mem_append_right _ (List.mem_append_right _ (List.mem_append_right _ (List.mem_append_right _ (List.mem_append_right _ (List.mem_append_right _ (List.mem_append_right _ (List.mem_append_right _ (List.mem_append_right _ (List.mem_append_right _ (List.mem_append_right _ (List.mem_append_right _ (List.mem_append_right _ (List.mem_append_right _ (List.mem_append_right _ (List.mem_append_right _ (List.mem_append_right _ (List.mem_append_right _ (List.mem_append_right _ (List.mem_append_right _ (List.mem_append_right _ (List.mem_append_right _ (List.mem_append_right _ (List.mem_append_right _ (List.mem_append_right _ (List.mem_append_right _ (List.mem_append_right _ (List.mem_append_right _ (List.mem_append_right _ (List.mem_append_right _ (List.mem_append_right _ (List.mem_append_right _ (List.mem_append_right _ (List.mem_append_right _ (List.mem_append_right _ (List.mem_append_right _ (List.mem_append_right _ (List.mem_append_right _ (List.mem_append_left _ h))))))))))))))))))))))))))))))))))))))))))))))
theorem in_wsJ30 : ∀ w ∈ wsJ30, w ∈ wAll := fun _ h => List.mem_append_right _ (List.mem_append_right _ (List.mem_append_right _ (List.mem_append_right _ (List.mem_append_right _ (List.mem_append_right _ (List.mem_append_right _ (List.mem_append_right _ (List.mem_append_right _ (List.mem_append_right _ (List.mem_append_right _ (List.mem_append_right _ (List.mem_append_right _ (List.mem_append_right _ (List.mem_append_right _ (List.mem_append_right _ (List.mem_append_right _ (List.mem_append_right _ (List.mem_append_right _ (List.mem_append_right _ (List.mem_append_right _ (List.mem_append_right _ (List.mem_append_right _ (List.mem_append_right _ (List.mem_append_right _ (List.mem_append_right _ (List.mem_append_right _ (List.mem_append_right _ (List.mem_append_right _ (List.mem_append_right _ (List.mem_append_right _ (List.mem_append_right _ (List.mem_append_right _ (List.mem_append_right _ (List.mem_append_right _ (List.mem_append_right _ (List.mem_append_right _ (List.mem_append_right _ (List.mem_append_right _ (List.mem_append_right _ (List.mem_append_right _ (List.mem_append_right _ (List.mem_append_right _ (List.mem_append_right _ (List.mem_append_right _ (List.mem_append_right _ (List.mem_append_right _ (h)))))))))))))))))))))))))))))))))))))))))))))))
theorem q0 : (.code yJ7_fill_53178 cJ7_fill_53178 4 none : Cond) ∈ wAll := in_wA0 _ (List.mem_of_getElem? (i := 0) rfl)
theorem q1 : (.code yX2_clear cX2_clear 1 none : Cond) ∈ wAll := in_wA0 _ (List.mem_of_getElem? (i := 1) rfl)
theorem q2 : (.fieldLink RX2 30 "FlickerDesk$Film" "wide" "I" : Cond) ∈ wAll := in_wA0 _ (List.mem_of_getElem? (i := 2) rfl)
theorem q3 : (.fieldLink RX2 34 "FlickerDesk$Film" "high" "I" : Cond) ∈ wAll := in_wA0 _ (List.mem_of_getElem? (i := 3) rfl)
theorem q4 : (.fieldLink RX2 37 "FlickerDesk$Film" "frames" "I" : Cond) ∈ wAll := in_wA0 _ (List.mem_of_getElem? (i := 4) rfl)
theorem q5 : (.fieldLink RX2 15 "FlickerDesk$Film" "cuts" "[I" : Cond) ∈ wAll := in_wA0 _ (List.mem_of_getElem? (i := 5) rfl)
theorem q6 : (.fieldLink RX2 18 "FlickerDesk$Film" "skips" "[I" : Cond) ∈ wAll := in_wA0 _ (List.mem_of_getElem? (i := 6) rfl)
theorem q7 : (.fieldLink RX2 24 "FlickerDesk$Film" "weights" "[I" : Cond) ∈ wAll := in_wA0 _ (List.mem_of_getElem? (i := 7) rfl)
theorem q8 : (.fieldLink RX2 21 "FlickerDesk$Film" "settings" "[I" : Cond) ∈ wAll := in_wA0 _ (List.mem_of_getElem? (i := 8) rfl)
theorem q9 : (.methodLink RX2 49 arraycopyName : Cond) ∈ wAll := in_wA0 _ (List.mem_of_getElem? (i := 9) rfl)
theorem q10 : (.native arraycopyName : Cond) ∈ wAll := in_wA0 _ (List.mem_of_getElem? (i := 10) rfl)
theorem q11 : (.static arraycopyName : Cond) ∈ wAll := in_wA0 _ (List.mem_of_getElem? (i := 11) rfl)
theorem q12 : (.initialized "java/lang/System" : Cond) ∈ wAll := in_wA0 _ (List.mem_of_getElem? (i := 12) rfl)
theorem q13 : (.methodLink RX2 40 yJ7_fill_53178 : Cond) ∈ wAll := in_wA0 _ (List.mem_of_getElem? (i := 13) rfl)
theorem q14 : (.static yJ7_fill_53178 : Cond) ∈ wAll := in_wA0 _ (List.mem_of_getElem? (i := 14) rfl)
theorem q15 : (.initialized RJ7 : Cond) ∈ wAll := in_wA0 _ (List.mem_of_getElem? (i := 15) rfl)
theorem q16 : (.methodLink RX2 3 objectInit : Cond) ∈ wAll := in_wA0 _ (List.mem_of_getElem? (i := 16) rfl)
theorem q17 : (.instanceMethod objectInit : Cond) ∈ wAll := in_wA0 _ (List.mem_of_getElem? (i := 17) rfl)
theorem q18 : (.code objectInit ⟨#[0xb1]⟩ 1 none : Cond) ∈ wAll := in_wA0 _ (List.mem_of_getElem? (i := 18) rfl)
theorem q19 : (.arrayClass .int : Cond) ∈ wAll := in_wA0 _ (List.mem_of_getElem? (i := 19) rfl)
theorem q20 : (.fieldLink RX2 9 "FlickerDesk$Film" "dots" "[I" : Cond) ∈ wAll := in_wA0 _ (List.mem_of_getElem? (i := 20) rfl)
theorem q21 : (.methodLink RX2 27 yX2_clear : Cond) ∈ wAll := in_wA0 _ (List.mem_of_getElem? (i := 21) rfl)
theorem q22 : (.instanceMethod yX2_clear : Cond) ∈ wAll := in_wA0 _ (List.mem_of_getElem? (i := 22) rfl)
theorem q23 : (.selects RX2 yX2_clear yX2_clear : Cond) ∈ wAll := in_wA0 _ (List.mem_of_getElem? (i := 23) rfl)
theorem q24 : (.initialized RX2 : Cond) ∈ wAll := in_wA0 _ (List.mem_of_getElem? (i := 24) rfl)
theorem q25 : (.code yX2_init cX2_init 1 none : Cond) ∈ wAll := in_wA0 _ (List.mem_of_getElem? (i := 25) rfl)
theorem q26 : (.methodLink RX0 3 objectInit : Cond) ∈ wAll := in_wA0 _ (List.mem_of_getElem? (i := 26) rfl)
theorem q27 : (.classLink RX0 9 RX2 : Cond) ∈ wAll := in_wA0 _ (List.mem_of_getElem? (i := 27) rfl)
theorem q28 : (.fieldLink RX0 11 "FlickerDesk$Acts" "films" "[LFlickerDesk$Film;" : Cond) ∈ wAll := in_wA0 _ (List.mem_of_getElem? (i := 28) rfl)
theorem q29 : (.instantiable RX2 8 : Cond) ∈ wAll := in_wA0 _ (List.mem_of_getElem? (i := 29) rfl)
theorem q30 : (.methodLink RX0 17 yX2_init : Cond) ∈ wAll := in_wA0 _ (List.mem_of_getElem? (i := 30) rfl)
theorem q31 : (.instanceMethod yX2_init : Cond) ∈ wAll := in_wA0 _ (List.mem_of_getElem? (i := 31) rfl)
theorem q32 : (.code yX0_init cX0_init 2 none : Cond) ∈ wAll := in_wA0 _ (List.mem_of_getElem? (i := 32) rfl)
theorem q33 : (.code yX0_dropOldest cX0_dropOldest 3 none : Cond) ∈ wAll := in_wA0 _ (List.mem_of_getElem? (i := 33) rfl)
theorem q34 : (.fieldLink RX0 18 "FlickerDesk$Acts" "many" "I" : Cond) ∈ wAll := in_wA0 _ (List.mem_of_getElem? (i := 34) rfl)
theorem q35 : (.code yX2_copyDots cX2_copyDots 2 none : Cond) ∈ wAll := in_wA0 _ (List.mem_of_getElem? (i := 35) rfl)
theorem q36 : (.code yX2_copyFrom cX2_copyFrom 2 none : Cond) ∈ wAll := in_wA0 _ (List.mem_of_getElem? (i := 36) rfl)
theorem q37 : (.methodLink RX2 55 yX2_copyDots : Cond) ∈ wAll := in_wA0 _ (List.mem_of_getElem? (i := 37) rfl)
theorem q38 : (.instanceMethod yX2_copyDots : Cond) ∈ wAll := in_wA0 _ (List.mem_of_getElem? (i := 38) rfl)
theorem q39 : (.selects RX2 yX2_copyDots yX2_copyDots : Cond) ∈ wAll := in_wA0 _ (List.mem_of_getElem? (i := 39) rfl)
theorem q40 : (.methodLink RX0 22 yX0_dropOldest : Cond) ∈ wAll := in_wA0 _ (List.mem_of_getElem? (i := 40) rfl)
theorem q41 : (.instanceMethod yX0_dropOldest : Cond) ∈ wAll := in_wA0 _ (List.mem_of_getElem? (i := 41) rfl)
theorem q42 : (.selects RX0 yX0_dropOldest yX0_dropOldest : Cond) ∈ wAll := in_wA0 _ (List.mem_of_getElem? (i := 42) rfl)
theorem q43 : (.initialized RX0 : Cond) ∈ wAll := in_wA0 _ (List.mem_of_getElem? (i := 43) rfl)
theorem q44 : (.methodLink RX0 25 yX2_copyFrom : Cond) ∈ wAll := in_wA0 _ (List.mem_of_getElem? (i := 44) rfl)
theorem q45 : (.instanceMethod yX2_copyFrom : Cond) ∈ wAll := in_wA0 _ (List.mem_of_getElem? (i := 45) rfl)
theorem q46 : (.selects RX2 yX2_copyFrom yX2_copyFrom : Cond) ∈ wAll := in_wA0 _ (List.mem_of_getElem? (i := 46) rfl)
theorem q47 : (.code yX0_keep cX0_keep 2 none : Cond) ∈ wAll := in_wA0 _ (List.mem_of_getElem? (i := 47) rfl)
theorem q48 : (.code yX0_bringBack cX0_bringBack 2 none : Cond) ∈ wAll := in_wA0 _ (List.mem_of_getElem? (i := 48) rfl)
theorem q49 : (.code yX9_init cX9_init 1 none : Cond) ∈ wAll := in_wA0 _ (List.mem_of_getElem? (i := 49) rfl)
theorem q50 : (.methodLink RX9 3 objectInit : Cond) ∈ wAll := in_wA0 _ (List.mem_of_getElem? (i := 50) rfl)
theorem q51 : (.fieldLink RX9 9 "FlickerDesk$Tally" "cums" "[I" : Cond) ∈ wAll := in_wA0 _ (List.mem_of_getElem? (i := 51) rfl)
theorem q52 : (.code yX8_init cX8_init 1 none : Cond) ∈ wAll := in_wA0 _ (List.mem_of_getElem? (i := 52) rfl)
theorem q53 : (.methodLink RX8 3 objectInit : Cond) ∈ wAll := in_wA0 _ (List.mem_of_getElem? (i := 53) rfl)
theorem q54 : (.fieldLink RX8 9 "FlickerDesk$Scenes" "sceneOf" "[I" : Cond) ∈ wAll := in_wA0 _ (List.mem_of_getElem? (i := 54) rfl)
theorem q55 : (.fieldLink RX8 15 "FlickerDesk$Scenes" "firstOf" "[I" : Cond) ∈ wAll := in_wA0 _ (List.mem_of_getElem? (i := 55) rfl)
theorem q56 : (.fieldLink RX8 18 "FlickerDesk$Scenes" "sums" "[I" : Cond) ∈ wAll := in_wA0 _ (List.mem_of_getElem? (i := 56) rfl)
theorem q57 : (.code yX6_init cX6_init 1 none : Cond) ∈ wAll := in_wA0 _ (List.mem_of_getElem? (i := 57) rfl)
theorem q58 : (.methodLink RX6 3 objectInit : Cond) ∈ wAll := in_wA0 _ (List.mem_of_getElem? (i := 58) rfl)
theorem q59 : (.fieldLink RX6 9 "FlickerDesk$Ranks" "order" "[I" : Cond) ∈ wAll := in_wA0 _ (List.mem_of_getElem? (i := 59) rfl)
theorem q60 : (.fieldLink RX6 15 "FlickerDesk$Ranks" "across" "[I" : Cond) ∈ wAll := in_wA1 _ (List.mem_of_getElem? (i := 0) rfl)
theorem q61 : (.fieldLink RX6 18 "FlickerDesk$Ranks" "around" "[I" : Cond) ∈ wAll := in_wA1 _ (List.mem_of_getElem? (i := 1) rfl)
theorem q62 : (.fieldLink RX6 21 "FlickerDesk$Ranks" "nextOf" "[I" : Cond) ∈ wAll := in_wA1 _ (List.mem_of_getElem? (i := 2) rfl)
theorem q63 : (.methodLink RX1 3 objectInit : Cond) ∈ wAll := in_wA1 _ (List.mem_of_getElem? (i := 3) rfl)
theorem q64 : (.classLink RX1 9 RX9 : Cond) ∈ wAll := in_wA1 _ (List.mem_of_getElem? (i := 4) rfl)
theorem q65 : (.instantiable RX9 1 : Cond) ∈ wAll := in_wA1 _ (List.mem_of_getElem? (i := 5) rfl)
theorem q66 : (.initialized RX9 : Cond) ∈ wAll := in_wA1 _ (List.mem_of_getElem? (i := 6) rfl)
theorem q67 : (.fieldLink RX1 12 "FlickerDesk$Evening" "ahead" "LFlickerDesk$Tally;" : Cond) ∈ wAll := in_wA1 _ (List.mem_of_getElem? (i := 7) rfl)
theorem q68 : (.fieldLink RX1 18 "FlickerDesk$Evening" "then" "LFlickerDesk$Tally;" : Cond) ∈ wAll := in_wA1 _ (List.mem_of_getElem? (i := 8) rfl)
theorem q69 : (.classLink RX1 21 RX8 : Cond) ∈ wAll := in_wA1 _ (List.mem_of_getElem? (i := 9) rfl)
theorem q70 : (.instantiable RX8 4 : Cond) ∈ wAll := in_wA1 _ (List.mem_of_getElem? (i := 10) rfl)
theorem q71 : (.initialized RX8 : Cond) ∈ wAll := in_wA1 _ (List.mem_of_getElem? (i := 11) rfl)
theorem q72 : (.fieldLink RX1 24 "FlickerDesk$Evening" "scenes" "LFlickerDesk$Scenes;" : Cond) ∈ wAll := in_wA1 _ (List.mem_of_getElem? (i := 12) rfl)
theorem q73 : (.classLink RX1 28 RX6 : Cond) ∈ wAll := in_wA1 _ (List.mem_of_getElem? (i := 13) rfl)
theorem q74 : (.instantiable RX6 5 : Cond) ∈ wAll := in_wA1 _ (List.mem_of_getElem? (i := 14) rfl)
theorem q75 : (.initialized RX6 : Cond) ∈ wAll := in_wA1 _ (List.mem_of_getElem? (i := 15) rfl)
theorem q76 : (.fieldLink RX1 31 "FlickerDesk$Evening" "ranks" "LFlickerDesk$Ranks;" : Cond) ∈ wAll := in_wA1 _ (List.mem_of_getElem? (i := 16) rfl)
theorem q77 : (.fieldLink RX1 35 "FlickerDesk$Evening" "targets" "[I" : Cond) ∈ wAll := in_wA1 _ (List.mem_of_getElem? (i := 17) rfl)
theorem q78 : (.fieldLink RX1 39 "FlickerDesk$Evening" "tables" "[I" : Cond) ∈ wAll := in_wA1 _ (List.mem_of_getElem? (i := 18) rfl)
theorem q79 : (.fieldLink RX1 42 "FlickerDesk$Evening" "dots" "[I" : Cond) ∈ wAll := in_wA1 _ (List.mem_of_getElem? (i := 19) rfl)
theorem q80 : (.instanceMethod yX9_init : Cond) ∈ wAll := in_wA1 _ (List.mem_of_getElem? (i := 20) rfl)
theorem q81 : (.instanceMethod yX8_init : Cond) ∈ wAll := in_wA1 _ (List.mem_of_getElem? (i := 21) rfl)
theorem q82 : (.instanceMethod yX6_init : Cond) ∈ wAll := in_wA1 _ (List.mem_of_getElem? (i := 22) rfl)
theorem q83 : (.code yX1_init cX1_init 1 none : Cond) ∈ wAll := in_wA1 _ (List.mem_of_getElem? (i := 23) rfl)
theorem q84 : (.code yX1_forget cX1_forget 1 none : Cond) ∈ wAll := in_wA1 _ (List.mem_of_getElem? (i := 24) rfl)
theorem q85 : (.fieldLink RX1 45 "FlickerDesk$Evening" "isLooked" "Z" : Cond) ∈ wAll := in_wA1 _ (List.mem_of_getElem? (i := 25) rfl)
theorem q86 : (.fieldLink RX1 49 "FlickerDesk$Evening" "isEvened" "Z" : Cond) ∈ wAll := in_wA1 _ (List.mem_of_getElem? (i := 26) rfl)
theorem q87 : (.code yX1_forgetEvened cX1_forgetEvened 1 none : Cond) ∈ wAll := in_wA1 _ (List.mem_of_getElem? (i := 27) rfl)
theorem q88 : (.code yX2_size cX2_size 1 (some .int) : Cond) ∈ wAll := in_wA1 _ (List.mem_of_getElem? (i := 28) rfl)
theorem q89 : (.code yX9_read cX9_read 7 none : Cond) ∈ wAll := in_wA1 _ (List.mem_of_getElem? (i := 29) rfl)
theorem q90 : (.methodLink RX9 15 yJ7_fill_53178 : Cond) ∈ wAll := in_wA1 _ (List.mem_of_getElem? (i := 30) rfl)
theorem q91 : (.code yX9_gap cX9_gap 6 (some .int) : Cond) ∈ wAll := in_wA1 _ (List.mem_of_getElem? (i := 31) rfl)
theorem q92 : (.code yX8_isFirst cX8_isFirst 4 (some .boolean) : Cond) ∈ wAll := in_wA1 _ (List.mem_of_getElem? (i := 32) rfl)
theorem q93 : (.fieldLink RX8 34 "FlickerDesk$Film" "cuts" "[I" : Cond) ∈ wAll := in_wA1 _ (List.mem_of_getElem? (i := 33) rfl)
theorem q94 : (.fieldLink RX8 37 "FlickerDesk$Film" "settings" "[I" : Cond) ∈ wAll := in_wA1 _ (List.mem_of_getElem? (i := 34) rfl)
theorem q95 : (.methodLink RX8 40 yX9_gap : Cond) ∈ wAll := in_wA1 _ (List.mem_of_getElem? (i := 35) rfl)
theorem q96 : (.instanceMethod yX9_gap : Cond) ∈ wAll := in_wA1 _ (List.mem_of_getElem? (i := 36) rfl)
theorem q97 : (.selects RX9 yX9_gap yX9_gap : Cond) ∈ wAll := in_wA1 _ (List.mem_of_getElem? (i := 37) rfl)
theorem q98 : (.code yX8_find cX8_find 4 none : Cond) ∈ wAll := in_wA1 _ (List.mem_of_getElem? (i := 38) rfl)
theorem q99 : (.fieldLink RX8 21 "FlickerDesk$Scenes" "many" "I" : Cond) ∈ wAll := in_wA1 _ (List.mem_of_getElem? (i := 39) rfl)
theorem q100 : (.fieldLink RX8 25 "FlickerDesk$Film" "frames" "I" : Cond) ∈ wAll := in_wA1 _ (List.mem_of_getElem? (i := 40) rfl)
theorem q101 : (.methodLink RX8 30 yX8_isFirst : Cond) ∈ wAll := in_wA1 _ (List.mem_of_getElem? (i := 41) rfl)
theorem q102 : (.static yX8_isFirst : Cond) ∈ wAll := in_wA1 _ (List.mem_of_getElem? (i := 42) rfl)
theorem q103 : (.fieldLink RX1 52 "FlickerDesk$Film" "dots" "[I" : Cond) ∈ wAll := in_wA1 _ (List.mem_of_getElem? (i := 43) rfl)
theorem q104 : (.fieldLink RX1 55 "FlickerDesk$Film" "frames" "I" : Cond) ∈ wAll := in_wA1 _ (List.mem_of_getElem? (i := 44) rfl)
theorem q105 : (.methodLink RX1 59 yX2_size : Cond) ∈ wAll := in_wA1 _ (List.mem_of_getElem? (i := 45) rfl)
theorem q106 : (.instanceMethod yX2_size : Cond) ∈ wAll := in_wA1 _ (List.mem_of_getElem? (i := 46) rfl)
theorem q107 : (.selects RX2 yX2_size yX2_size : Cond) ∈ wAll := in_wA1 _ (List.mem_of_getElem? (i := 47) rfl)
theorem q108 : (.methodLink RX1 63 yX9_read : Cond) ∈ wAll := in_wA1 _ (List.mem_of_getElem? (i := 48) rfl)
theorem q109 : (.instanceMethod yX9_read : Cond) ∈ wAll := in_wA1 _ (List.mem_of_getElem? (i := 49) rfl)
theorem q110 : (.selects RX9 yX9_read yX9_read : Cond) ∈ wAll := in_wA1 _ (List.mem_of_getElem? (i := 50) rfl)
theorem q111 : (.methodLink RX1 67 yX8_find : Cond) ∈ wAll := in_wA1 _ (List.mem_of_getElem? (i := 51) rfl)
theorem q112 : (.instanceMethod yX8_find : Cond) ∈ wAll := in_wA1 _ (List.mem_of_getElem? (i := 52) rfl)
theorem q113 : (.selects RX8 yX8_find yX8_find : Cond) ∈ wAll := in_wA1 _ (List.mem_of_getElem? (i := 53) rfl)
theorem q114 : (.code yX1_look cX1_look 2 none : Cond) ∈ wAll := in_wA1 _ (List.mem_of_getElem? (i := 54) rfl)
theorem q115 : (.code yX8_keyFrame cX8_keyFrame 8 (some .int) : Cond) ∈ wAll := in_wA1 _ (List.mem_of_getElem? (i := 55) rfl)
theorem q116 : (.code yX1_aimAt cX1_aimAt 3 none : Cond) ∈ wAll := in_wA1 _ (List.mem_of_getElem? (i := 56) rfl)
theorem q117 : (.fieldLink RX1 112 "FlickerDesk$Tally" "cums" "[I" : Cond) ∈ wAll := in_wA1 _ (List.mem_of_getElem? (i := 57) rfl)
theorem q118 : (.methodLink RX1 115 arraycopyName : Cond) ∈ wAll := in_wA1 _ (List.mem_of_getElem? (i := 58) rfl)
theorem q119 : (.fieldLink RX1 105 "FlickerDesk$Scenes" "firstOf" "[I" : Cond) ∈ wAll := in_wA1 _ (List.mem_of_getElem? (i := 59) rfl)
theorem q120 : (.methodLink RX1 101 yX8_keyFrame : Cond) ∈ wAll := in_wA2 _ (List.mem_of_getElem? (i := 0) rfl)
theorem q121 : (.instanceMethod yX8_keyFrame : Cond) ∈ wAll := in_wA2 _ (List.mem_of_getElem? (i := 1) rfl)
theorem q122 : (.selects RX8 yX8_keyFrame yX8_keyFrame : Cond) ∈ wAll := in_wA2 _ (List.mem_of_getElem? (i := 2) rfl)
theorem q123 : (.methodLink RX1 108 yX1_aimAt : Cond) ∈ wAll := in_wA2 _ (List.mem_of_getElem? (i := 3) rfl)
theorem q124 : (.instanceMethod yX1_aimAt : Cond) ∈ wAll := in_wA2 _ (List.mem_of_getElem? (i := 4) rfl)
theorem q125 : (.selects RX1 yX1_aimAt yX1_aimAt : Cond) ∈ wAll := in_wA2 _ (List.mem_of_getElem? (i := 5) rfl)
theorem q126 : (.initialized RX1 : Cond) ∈ wAll := in_wA2 _ (List.mem_of_getElem? (i := 6) rfl)
theorem q127 : (.code yX1_aimByKey cX1_aimByKey 4 none : Cond) ∈ wAll := in_wA2 _ (List.mem_of_getElem? (i := 7) rfl)
theorem q128 : (.code yX8_start cX8_start 2 (some .int) : Cond) ∈ wAll := in_wA2 _ (List.mem_of_getElem? (i := 8) rfl)
theorem q129 : (.code yX1_windowStart cX1_windowStart 3 (some .int) : Cond) ∈ wAll := in_wA2 _ (List.mem_of_getElem? (i := 9) rfl)
theorem q130 : (.fieldLink RX1 82 "FlickerDesk$Film" "settings" "[I" : Cond) ∈ wAll := in_wA2 _ (List.mem_of_getElem? (i := 10) rfl)
theorem q131 : (.methodLink RX1 147 Lib.Math.max.name : Cond) ∈ wAll := in_wA2 _ (List.mem_of_getElem? (i := 11) rfl)
theorem q132 : (.static Lib.Math.max.name : Cond) ∈ wAll := in_wA2 _ (List.mem_of_getElem? (i := 12) rfl)
theorem q133 : (.initialized "java/lang/Math" : Cond) ∈ wAll := in_wA2 _ (List.mem_of_getElem? (i := 13) rfl)
theorem q134 : (.code Lib.Math.max.name Lib.Math.max.code 2 (some .int) : Cond) ∈ wAll := in_wA2 _ (List.mem_of_getElem? (i := 14) rfl)
theorem q135 : (.methodLink RX1 144 yX8_start : Cond) ∈ wAll := in_wA2 _ (List.mem_of_getElem? (i := 15) rfl)
theorem q136 : (.instanceMethod yX8_start : Cond) ∈ wAll := in_wA2 _ (List.mem_of_getElem? (i := 16) rfl)
theorem q137 : (.selects RX8 yX8_start yX8_start : Cond) ∈ wAll := in_wA2 _ (List.mem_of_getElem? (i := 17) rfl)
theorem q138 : (.code yX8_last cX8_last 2 (some .int) : Cond) ∈ wAll := in_wA2 _ (List.mem_of_getElem? (i := 18) rfl)
theorem q139 : (.code yX1_windowLast cX1_windowLast 3 (some .int) : Cond) ∈ wAll := in_wA2 _ (List.mem_of_getElem? (i := 19) rfl)
theorem q140 : (.methodLink RX1 154 Lib.Math.min.name : Cond) ∈ wAll := in_wA2 _ (List.mem_of_getElem? (i := 20) rfl)
theorem q141 : (.static Lib.Math.min.name : Cond) ∈ wAll := in_wA2 _ (List.mem_of_getElem? (i := 21) rfl)
theorem q142 : (.code Lib.Math.min.name Lib.Math.min.code 2 (some .int) : Cond) ∈ wAll := in_wA2 _ (List.mem_of_getElem? (i := 22) rfl)
theorem q143 : (.methodLink RX1 151 yX8_last : Cond) ∈ wAll := in_wA2 _ (List.mem_of_getElem? (i := 23) rfl)
theorem q144 : (.instanceMethod yX8_last : Cond) ∈ wAll := in_wA2 _ (List.mem_of_getElem? (i := 24) rfl)
theorem q145 : (.selects RX8 yX8_last yX8_last : Cond) ∈ wAll := in_wA2 _ (List.mem_of_getElem? (i := 25) rfl)
theorem q146 : (.code yX1_addWeighted cX1_addWeighted 5 none : Cond) ∈ wAll := in_wA2 _ (List.mem_of_getElem? (i := 26) rfl)
theorem q147 : (.fieldLink RX1 128 "FlickerDesk$Film" "skips" "[I" : Cond) ∈ wAll := in_wA2 _ (List.mem_of_getElem? (i := 27) rfl)
theorem q148 : (.fieldLink RX1 131 "FlickerDesk$Film" "weights" "[I" : Cond) ∈ wAll := in_wA2 _ (List.mem_of_getElem? (i := 28) rfl)
theorem q149 : (.methodLink RX1 134 Lib.Math.abs.name : Cond) ∈ wAll := in_wA2 _ (List.mem_of_getElem? (i := 29) rfl)
theorem q150 : (.static Lib.Math.abs.name : Cond) ∈ wAll := in_wA2 _ (List.mem_of_getElem? (i := 30) rfl)
theorem q151 : (.code Lib.Math.abs.name Lib.Math.abs.code 1 (some .int) : Cond) ∈ wAll := in_wA2 _ (List.mem_of_getElem? (i := 31) rfl)
theorem q152 : (.methodLink RX1 121 yX1_windowStart : Cond) ∈ wAll := in_wA2 _ (List.mem_of_getElem? (i := 32) rfl)
theorem q153 : (.instanceMethod yX1_windowStart : Cond) ∈ wAll := in_wA2 _ (List.mem_of_getElem? (i := 33) rfl)
theorem q154 : (.selects RX1 yX1_windowStart yX1_windowStart : Cond) ∈ wAll := in_wA2 _ (List.mem_of_getElem? (i := 34) rfl)
theorem q155 : (.methodLink RX1 125 yX1_windowLast : Cond) ∈ wAll := in_wA2 _ (List.mem_of_getElem? (i := 35) rfl)
theorem q156 : (.instanceMethod yX1_windowLast : Cond) ∈ wAll := in_wA2 _ (List.mem_of_getElem? (i := 36) rfl)
theorem q157 : (.selects RX1 yX1_windowLast yX1_windowLast : Cond) ∈ wAll := in_wA2 _ (List.mem_of_getElem? (i := 37) rfl)
theorem q158 : (.methodLink RX1 140 yX1_addWeighted : Cond) ∈ wAll := in_wA2 _ (List.mem_of_getElem? (i := 38) rfl)
theorem q159 : (.instanceMethod yX1_addWeighted : Cond) ∈ wAll := in_wA2 _ (List.mem_of_getElem? (i := 39) rfl)
theorem q160 : (.selects RX1 yX1_addWeighted yX1_addWeighted : Cond) ∈ wAll := in_wA2 _ (List.mem_of_getElem? (i := 40) rfl)
theorem q161 : (.code yX1_aimByWindow cX1_aimByWindow 7 none : Cond) ∈ wAll := in_wA2 _ (List.mem_of_getElem? (i := 41) rfl)
theorem q162 : (.fieldLink RX1 91 "FlickerDesk$Scenes" "many" "I" : Cond) ∈ wAll := in_wA2 _ (List.mem_of_getElem? (i := 42) rfl)
theorem q163 : (.methodLink RX1 94 yX1_aimByKey : Cond) ∈ wAll := in_wA2 _ (List.mem_of_getElem? (i := 43) rfl)
theorem q164 : (.instanceMethod yX1_aimByKey : Cond) ∈ wAll := in_wA2 _ (List.mem_of_getElem? (i := 44) rfl)
theorem q165 : (.selects RX1 yX1_aimByKey yX1_aimByKey : Cond) ∈ wAll := in_wA2 _ (List.mem_of_getElem? (i := 45) rfl)
theorem q166 : (.methodLink RX1 98 yX1_aimByWindow : Cond) ∈ wAll := in_wA2 _ (List.mem_of_getElem? (i := 46) rfl)
theorem q167 : (.instanceMethod yX1_aimByWindow : Cond) ∈ wAll := in_wA2 _ (List.mem_of_getElem? (i := 47) rfl)
theorem q168 : (.selects RX1 yX1_aimByWindow yX1_aimByWindow : Cond) ∈ wAll := in_wA2 _ (List.mem_of_getElem? (i := 48) rfl)
theorem q169 : (.code yX1_aim cX1_aim 3 none : Cond) ∈ wAll := in_wA2 _ (List.mem_of_getElem? (i := 49) rfl)
theorem q170 : (.code yX2_keeps cX2_keeps 2 (some .boolean) : Cond) ∈ wAll := in_wA2 _ (List.mem_of_getElem? (i := 50) rfl)
theorem q171 : (.code yX2_bounded cX2_bounded 5 (some .int) : Cond) ∈ wAll := in_wA2 _ (List.mem_of_getElem? (i := 51) rfl)
theorem q172 : (.methodLink RX2 70 Lib.Math.max.name : Cond) ∈ wAll := in_wA2 _ (List.mem_of_getElem? (i := 52) rfl)
theorem q173 : (.methodLink RX2 76 Lib.Math.min.name : Cond) ∈ wAll := in_wA2 _ (List.mem_of_getElem? (i := 53) rfl)
theorem q174 : (.code yX1_makeTable cX1_makeTable 6 none : Cond) ∈ wAll := in_wA2 _ (List.mem_of_getElem? (i := 54) rfl)
theorem q175 : (.methodLink RX1 157 yX2_keeps : Cond) ∈ wAll := in_wA2 _ (List.mem_of_getElem? (i := 55) rfl)
theorem q176 : (.instanceMethod yX2_keeps : Cond) ∈ wAll := in_wA2 _ (List.mem_of_getElem? (i := 56) rfl)
theorem q177 : (.selects RX2 yX2_keeps yX2_keeps : Cond) ∈ wAll := in_wA2 _ (List.mem_of_getElem? (i := 57) rfl)
theorem q178 : (.methodLink RX1 161 yX2_bounded : Cond) ∈ wAll := in_wA2 _ (List.mem_of_getElem? (i := 58) rfl)
theorem q179 : (.instanceMethod yX2_bounded : Cond) ∈ wAll := in_wA2 _ (List.mem_of_getElem? (i := 59) rfl)
theorem q180 : (.selects RX2 yX2_bounded yX2_bounded : Cond) ∈ wAll := in_wA3 _ (List.mem_of_getElem? (i := 0) rfl)
theorem q181 : (.code yX6_addAcross cX6_addAcross 9 none : Cond) ∈ wAll := in_wA3 _ (List.mem_of_getElem? (i := 1) rfl)
theorem q182 : (.fieldLink RX6 47 "FlickerDesk$Film" "high" "I" : Cond) ∈ wAll := in_wA3 _ (List.mem_of_getElem? (i := 2) rfl)
theorem q183 : (.fieldLink RX6 50 "FlickerDesk$Film" "wide" "I" : Cond) ∈ wAll := in_wA3 _ (List.mem_of_getElem? (i := 3) rfl)
theorem q184 : (.fieldLink RX6 53 "FlickerDesk$Film" "dots" "[I" : Cond) ∈ wAll := in_wA3 _ (List.mem_of_getElem? (i := 4) rfl)
theorem q185 : (.code yX6_addAround cX6_addAround 6 none : Cond) ∈ wAll := in_wA3 _ (List.mem_of_getElem? (i := 5) rfl)
theorem q186 : (.fieldLink RX6 30 "FlickerDesk$Ranks" "size" "I" : Cond) ∈ wAll := in_wA3 _ (List.mem_of_getElem? (i := 6) rfl)
theorem q187 : (.code yX6_orderByShade cX6_orderByShade 6 none : Cond) ∈ wAll := in_wA3 _ (List.mem_of_getElem? (i := 7) rfl)
theorem q188 : (.fieldLink RX6 56 "FlickerDesk$Tally" "cums" "[I" : Cond) ∈ wAll := in_wA3 _ (List.mem_of_getElem? (i := 8) rfl)
theorem q189 : (.code yX6_orderWithinShades cX6_orderWithinShades 7 none : Cond) ∈ wAll := in_wA3 _ (List.mem_of_getElem? (i := 9) rfl)
theorem q190 : (.methodLink RX6 24 yX2_size : Cond) ∈ wAll := in_wA3 _ (List.mem_of_getElem? (i := 10) rfl)
theorem q191 : (.methodLink RX6 33 yX6_addAcross : Cond) ∈ wAll := in_wA3 _ (List.mem_of_getElem? (i := 11) rfl)
theorem q192 : (.instanceMethod yX6_addAcross : Cond) ∈ wAll := in_wA3 _ (List.mem_of_getElem? (i := 12) rfl)
theorem q193 : (.selects RX6 yX6_addAcross yX6_addAcross : Cond) ∈ wAll := in_wA3 _ (List.mem_of_getElem? (i := 13) rfl)
theorem q194 : (.methodLink RX6 37 yX6_addAround : Cond) ∈ wAll := in_wA3 _ (List.mem_of_getElem? (i := 14) rfl)
theorem q195 : (.instanceMethod yX6_addAround : Cond) ∈ wAll := in_wA3 _ (List.mem_of_getElem? (i := 15) rfl)
theorem q196 : (.selects RX6 yX6_addAround yX6_addAround : Cond) ∈ wAll := in_wA3 _ (List.mem_of_getElem? (i := 16) rfl)
theorem q197 : (.methodLink RX6 40 yX6_orderByShade : Cond) ∈ wAll := in_wA3 _ (List.mem_of_getElem? (i := 17) rfl)
theorem q198 : (.instanceMethod yX6_orderByShade : Cond) ∈ wAll := in_wA3 _ (List.mem_of_getElem? (i := 18) rfl)
theorem q199 : (.selects RX6 yX6_orderByShade yX6_orderByShade : Cond) ∈ wAll := in_wA3 _ (List.mem_of_getElem? (i := 19) rfl)
theorem q200 : (.methodLink RX6 44 yX6_orderWithinShades : Cond) ∈ wAll := in_wA3 _ (List.mem_of_getElem? (i := 20) rfl)
theorem q201 : (.instanceMethod yX6_orderWithinShades : Cond) ∈ wAll := in_wA3 _ (List.mem_of_getElem? (i := 21) rfl)
theorem q202 : (.selects RX6 yX6_orderWithinShades yX6_orderWithinShades : Cond) ∈ wAll := in_wA3 _ (List.mem_of_getElem? (i := 22) rfl)
theorem q203 : (.code yX6_read cX6_read 4 none : Cond) ∈ wAll := in_wA3 _ (List.mem_of_getElem? (i := 23) rfl)
theorem q204 : (.fieldLink RX1 167 "FlickerDesk$Ranks" "order" "[I" : Cond) ∈ wAll := in_wA3 _ (List.mem_of_getElem? (i := 24) rfl)
theorem q205 : (.methodLink RX1 164 yX6_read : Cond) ∈ wAll := in_wA3 _ (List.mem_of_getElem? (i := 25) rfl)
theorem q206 : (.instanceMethod yX6_read : Cond) ∈ wAll := in_wA3 _ (List.mem_of_getElem? (i := 26) rfl)
theorem q207 : (.selects RX6 yX6_read yX6_read : Cond) ∈ wAll := in_wA3 _ (List.mem_of_getElem? (i := 27) rfl)
theorem q208 : (.code yX1_spreadDots cX1_spreadDots 7 none : Cond) ∈ wAll := in_wA3 _ (List.mem_of_getElem? (i := 28) rfl)
theorem q209 : (.code yX1_passByTable cX1_passByTable 5 none : Cond) ∈ wAll := in_wA3 _ (List.mem_of_getElem? (i := 29) rfl)
theorem q210 : (.methodLink RX1 71 yX1_look : Cond) ∈ wAll := in_wA3 _ (List.mem_of_getElem? (i := 30) rfl)
theorem q211 : (.instanceMethod yX1_look : Cond) ∈ wAll := in_wA3 _ (List.mem_of_getElem? (i := 31) rfl)
theorem q212 : (.selects RX1 yX1_look yX1_look : Cond) ∈ wAll := in_wA3 _ (List.mem_of_getElem? (i := 32) rfl)
theorem q213 : (.methodLink RX1 75 yX1_aim : Cond) ∈ wAll := in_wA3 _ (List.mem_of_getElem? (i := 33) rfl)
theorem q214 : (.instanceMethod yX1_aim : Cond) ∈ wAll := in_wA3 _ (List.mem_of_getElem? (i := 34) rfl)
theorem q215 : (.selects RX1 yX1_aim yX1_aim : Cond) ∈ wAll := in_wA3 _ (List.mem_of_getElem? (i := 35) rfl)
theorem q216 : (.methodLink RX1 78 yX1_makeTable : Cond) ∈ wAll := in_wA3 _ (List.mem_of_getElem? (i := 36) rfl)
theorem q217 : (.instanceMethod yX1_makeTable : Cond) ∈ wAll := in_wA3 _ (List.mem_of_getElem? (i := 37) rfl)
theorem q218 : (.selects RX1 yX1_makeTable yX1_makeTable : Cond) ∈ wAll := in_wA3 _ (List.mem_of_getElem? (i := 38) rfl)
theorem q219 : (.methodLink RX1 85 yX1_spreadDots : Cond) ∈ wAll := in_wA3 _ (List.mem_of_getElem? (i := 39) rfl)
theorem q220 : (.instanceMethod yX1_spreadDots : Cond) ∈ wAll := in_wA3 _ (List.mem_of_getElem? (i := 40) rfl)
theorem q221 : (.selects RX1 yX1_spreadDots yX1_spreadDots : Cond) ∈ wAll := in_wA3 _ (List.mem_of_getElem? (i := 41) rfl)
theorem q222 : (.methodLink RX1 88 yX1_passByTable : Cond) ∈ wAll := in_wA3 _ (List.mem_of_getElem? (i := 42) rfl)
theorem q223 : (.instanceMethod yX1_passByTable : Cond) ∈ wAll := in_wA3 _ (List.mem_of_getElem? (i := 43) rfl)
theorem q224 : (.selects RX1 yX1_passByTable yX1_passByTable : Cond) ∈ wAll := in_wA3 _ (List.mem_of_getElem? (i := 44) rfl)
theorem q225 : (.code yX1_even cX1_even 3 none : Cond) ∈ wAll := in_wA3 _ (List.mem_of_getElem? (i := 45) rfl)
theorem q226 : (.code yX1_windowSize cX1_windowSize 5 (some .int) : Cond) ∈ wAll := in_wA3 _ (List.mem_of_getElem? (i := 46) rfl)
theorem q227 : (.code yX1_changedIn cX1_changedIn 6 (some .int) : Cond) ∈ wAll := in_wA3 _ (List.mem_of_getElem? (i := 47) rfl)
theorem q228 : (.code yX1_changedDots cX1_changedDots 4 (some .int) : Cond) ∈ wAll := in_wA3 _ (List.mem_of_getElem? (i := 48) rfl)
theorem q229 : (.methodLink RX1 170 yX1_changedIn : Cond) ∈ wAll := in_wA3 _ (List.mem_of_getElem? (i := 49) rfl)
theorem q230 : (.instanceMethod yX1_changedIn : Cond) ∈ wAll := in_wA3 _ (List.mem_of_getElem? (i := 50) rfl)
theorem q231 : (.selects RX1 yX1_changedIn yX1_changedIn : Cond) ∈ wAll := in_wA3 _ (List.mem_of_getElem? (i := 51) rfl)
theorem q232 : (.code yX8_begins cX8_begins 2 (some .boolean) : Cond) ∈ wAll := in_wA3 _ (List.mem_of_getElem? (i := 52) rfl)
theorem q233 : (.code yX1_flickerOf cX1_flickerOf 5 (some .int) : Cond) ∈ wAll := in_wA3 _ (List.mem_of_getElem? (i := 53) rfl)
theorem q234 : (.methodLink RX1 173 yX8_begins : Cond) ∈ wAll := in_wA3 _ (List.mem_of_getElem? (i := 54) rfl)
theorem q235 : (.instanceMethod yX8_begins : Cond) ∈ wAll := in_wA3 _ (List.mem_of_getElem? (i := 55) rfl)
theorem q236 : (.selects RX8 yX8_begins yX8_begins : Cond) ∈ wAll := in_wA3 _ (List.mem_of_getElem? (i := 56) rfl)
theorem q237 : (.methodLink RX1 176 yX9_gap : Cond) ∈ wAll := in_wA3 _ (List.mem_of_getElem? (i := 57) rfl)
theorem q238 : (.code yX9_number cX9_number 4 (some .int) : Cond) ∈ wAll := in_wA3 _ (List.mem_of_getElem? (i := 58) rfl)
theorem q239 : (.code yX9_mean cX9_mean 4 (some .int) : Cond) ∈ wAll := in_wA3 _ (List.mem_of_getElem? (i := 59) rfl)
theorem q240 : (.methodLink RX9 21 yX9_number : Cond) ∈ wAll := in_wA4 _ (List.mem_of_getElem? (i := 0) rfl)
theorem q241 : (.instanceMethod yX9_number : Cond) ∈ wAll := in_wA4 _ (List.mem_of_getElem? (i := 1) rfl)
theorem q242 : (.selects RX9 yX9_number yX9_number : Cond) ∈ wAll := in_wA4 _ (List.mem_of_getElem? (i := 2) rfl)
theorem q243 : (.code yX1_flashes cX1_flashes 6 (some .boolean) : Cond) ∈ wAll := in_wA4 _ (List.mem_of_getElem? (i := 3) rfl)
theorem q244 : (.methodLink RX1 179 yX9_mean : Cond) ∈ wAll := in_wA4 _ (List.mem_of_getElem? (i := 4) rfl)
theorem q245 : (.instanceMethod yX9_mean : Cond) ∈ wAll := in_wA4 _ (List.mem_of_getElem? (i := 5) rfl)
theorem q246 : (.selects RX9 yX9_mean yX9_mean : Cond) ∈ wAll := in_wA4 _ (List.mem_of_getElem? (i := 6) rfl)
theorem q247 : (.code yX1_meetsAnother cX1_meetsAnother 4 (some .boolean) : Cond) ∈ wAll := in_wA4 _ (List.mem_of_getElem? (i := 7) rfl)
theorem q248 : (.methodLink RX1 182 yX9_number : Cond) ∈ wAll := in_wA4 _ (List.mem_of_getElem? (i := 8) rfl)
theorem q249 : (.code yX2_hasFrame cX2_hasFrame 2 (some .boolean) : Cond) ∈ wAll := in_wA4 _ (List.mem_of_getElem? (i := 9) rfl)
theorem q250 : (.code yX2_hasPlace cX2_hasPlace 2 (some .boolean) : Cond) ∈ wAll := in_wA4 _ (List.mem_of_getElem? (i := 10) rfl)
theorem q251 : (.methodLink RX2 59 yX2_size : Cond) ∈ wAll := in_wA4 _ (List.mem_of_getElem? (i := 11) rfl)
theorem q252 : (.code yX2_allows cX2_allows 3 (some .boolean) : Cond) ∈ wAll := in_wA4 _ (List.mem_of_getElem? (i := 12) rfl)
theorem q253 : (.code yX2_marked cX2_marked 4 (some .int) : Cond) ∈ wAll := in_wA4 _ (List.mem_of_getElem? (i := 13) rfl)
theorem q254 : (.code yX2_sameDots cX2_sameDots 4 (some .boolean) : Cond) ∈ wAll := in_wA4 _ (List.mem_of_getElem? (i := 14) rfl)
theorem q255 : (.code yX2_firstLike cX2_firstLike 3 (some .int) : Cond) ∈ wAll := in_wA4 _ (List.mem_of_getElem? (i := 15) rfl)
theorem q256 : (.methodLink RX2 66 yX2_sameDots : Cond) ∈ wAll := in_wA4 _ (List.mem_of_getElem? (i := 16) rfl)
theorem q257 : (.instanceMethod yX2_sameDots : Cond) ∈ wAll := in_wA4 _ (List.mem_of_getElem? (i := 17) rfl)
theorem q258 : (.selects RX2 yX2_sameDots yX2_sameDots : Cond) ∈ wAll := in_wA4 _ (List.mem_of_getElem? (i := 18) rfl)
theorem q259 : (.code yX3_init cX3_init 1 none : Cond) ∈ wAll := in_wA4 _ (List.mem_of_getElem? (i := 19) rfl)
theorem q260 : (.methodLink RX3 3 objectInit : Cond) ∈ wAll := in_wA4 _ (List.mem_of_getElem? (i := 20) rfl)
theorem q261 : (.fieldLink RX3 9 "FlickerDesk$Fit" "costs" "[I" : Cond) ∈ wAll := in_wA4 _ (List.mem_of_getElem? (i := 21) rfl)
theorem q262 : (.fieldLink RX3 15 "FlickerDesk$Fit" "least" "[I" : Cond) ∈ wAll := in_wA4 _ (List.mem_of_getElem? (i := 22) rfl)
theorem q263 : (.code yX3_addCosts cX3_addCosts 8 none : Cond) ∈ wAll := in_wA4 _ (List.mem_of_getElem? (i := 23) rfl)
theorem q264 : (.fieldLink RX3 44 "FlickerDesk$Film" "dots" "[I" : Cond) ∈ wAll := in_wA4 _ (List.mem_of_getElem? (i := 24) rfl)
theorem q265 : (.methodLink RX3 47 Lib.Math.abs.name : Cond) ∈ wAll := in_wA4 _ (List.mem_of_getElem? (i := 25) rfl)
theorem q266 : (.methodLink RX3 32 yJ7_fill_53178 : Cond) ∈ wAll := in_wA4 _ (List.mem_of_getElem? (i := 26) rfl)
theorem q267 : (.methodLink RX3 38 yX2_size : Cond) ∈ wAll := in_wA4 _ (List.mem_of_getElem? (i := 27) rfl)
theorem q268 : (.code yX3_costBy cX3_costBy 3 (some .int) : Cond) ∈ wAll := in_wA4 _ (List.mem_of_getElem? (i := 28) rfl)
theorem q269 : (.constant RX3 22 (1000000) : Cond) ∈ wAll := in_wA4 _ (List.mem_of_getElem? (i := 29) rfl)
theorem q270 : (.methodLink RX3 27 Lib.Math.min.name : Cond) ∈ wAll := in_wA4 _ (List.mem_of_getElem? (i := 30) rfl)
theorem q271 : (.methodLink RX3 18 yX3_addCosts : Cond) ∈ wAll := in_wA4 _ (List.mem_of_getElem? (i := 31) rfl)
theorem q272 : (.instanceMethod yX3_addCosts : Cond) ∈ wAll := in_wA4 _ (List.mem_of_getElem? (i := 32) rfl)
theorem q273 : (.selects RX3 yX3_addCosts yX3_addCosts : Cond) ∈ wAll := in_wA4 _ (List.mem_of_getElem? (i := 33) rfl)
theorem q274 : (.initialized RX3 : Cond) ∈ wAll := in_wA4 _ (List.mem_of_getElem? (i := 34) rfl)
theorem q275 : (.methodLink RX3 23 yX3_costBy : Cond) ∈ wAll := in_wA4 _ (List.mem_of_getElem? (i := 35) rfl)
theorem q276 : (.instanceMethod yX3_costBy : Cond) ∈ wAll := in_wA4 _ (List.mem_of_getElem? (i := 36) rfl)
theorem q277 : (.selects RX3 yX3_costBy yX3_costBy : Cond) ∈ wAll := in_wA4 _ (List.mem_of_getElem? (i := 37) rfl)
theorem q278 : (.code yX3_work cX3_work 7 none : Cond) ∈ wAll := in_wA4 _ (List.mem_of_getElem? (i := 38) rfl)
theorem q279 : (.code yX3_comesTo cX3_comesTo 4 (some .int) : Cond) ∈ wAll := in_wA4 _ (List.mem_of_getElem? (i := 39) rfl)
theorem q280 : (.code yX4_init cX4_init 1 none : Cond) ∈ wAll := in_wA4 _ (List.mem_of_getElem? (i := 40) rfl)
theorem q281 : (.methodLink RX4 3 objectInit : Cond) ∈ wAll := in_wA4 _ (List.mem_of_getElem? (i := 41) rfl)
theorem q282 : (.code yX4_sameDots cX4_sameDots 9 (some .int) : Cond) ∈ wAll := in_wA4 _ (List.mem_of_getElem? (i := 42) rfl)
theorem q283 : (.methodLink RX4 35 Lib.Math.max.name : Cond) ∈ wAll := in_wA4 _ (List.mem_of_getElem? (i := 43) rfl)
theorem q284 : (.fieldLink RX4 39 "FlickerDesk$Film" "high" "I" : Cond) ∈ wAll := in_wA4 _ (List.mem_of_getElem? (i := 44) rfl)
theorem q285 : (.methodLink RX4 44 Lib.Math.min.name : Cond) ∈ wAll := in_wA4 _ (List.mem_of_getElem? (i := 45) rfl)
theorem q286 : (.fieldLink RX4 47 "FlickerDesk$Film" "wide" "I" : Cond) ∈ wAll := in_wA4 _ (List.mem_of_getElem? (i := 46) rfl)
theorem q287 : (.fieldLink RX4 50 "FlickerDesk$Film" "dots" "[I" : Cond) ∈ wAll := in_wA4 _ (List.mem_of_getElem? (i := 47) rfl)
theorem q288 : (.code yX4_isShorter cX4_isShorter 3 (some .boolean) : Cond) ∈ wAll := in_wA4 _ (List.mem_of_getElem? (i := 48) rfl)
theorem q289 : (.methodLink RX4 29 Lib.Math.abs.name : Cond) ∈ wAll := in_wA4 _ (List.mem_of_getElem? (i := 49) rfl)
theorem q290 : (.fieldLink RX4 23 "FlickerDesk$Move" "right" "I" : Cond) ∈ wAll := in_wA4 _ (List.mem_of_getElem? (i := 50) rfl)
theorem q291 : (.fieldLink RX4 26 "FlickerDesk$Move" "down" "I" : Cond) ∈ wAll := in_wA4 _ (List.mem_of_getElem? (i := 51) rfl)
theorem q292 : (.code yX4_work cX4_work 6 none : Cond) ∈ wAll := in_wA4 _ (List.mem_of_getElem? (i := 52) rfl)
theorem q293 : (.fieldLink RX4 9 "FlickerDesk$Move" "dots" "I" : Cond) ∈ wAll := in_wA4 _ (List.mem_of_getElem? (i := 53) rfl)
theorem q294 : (.methodLink RX4 15 yX4_sameDots : Cond) ∈ wAll := in_wA4 _ (List.mem_of_getElem? (i := 54) rfl)
theorem q295 : (.static yX4_sameDots : Cond) ∈ wAll := in_wA4 _ (List.mem_of_getElem? (i := 55) rfl)
theorem q296 : (.initialized RX4 : Cond) ∈ wAll := in_wA4 _ (List.mem_of_getElem? (i := 56) rfl)
theorem q297 : (.methodLink RX4 19 yX4_isShorter : Cond) ∈ wAll := in_wA4 _ (List.mem_of_getElem? (i := 57) rfl)
theorem q298 : (.instanceMethod yX4_isShorter : Cond) ∈ wAll := in_wA4 _ (List.mem_of_getElem? (i := 58) rfl)
theorem q299 : (.selects RX4 yX4_isShorter yX4_isShorter : Cond) ∈ wAll := in_wA4 _ (List.mem_of_getElem? (i := 59) rfl)
theorem q300 : (.code yX5_init cX5_init 1 none : Cond) ∈ wAll := in_wA5 _ (List.mem_of_getElem? (i := 0) rfl)
theorem q301 : (.methodLink RX5 3 objectInit : Cond) ∈ wAll := in_wA5 _ (List.mem_of_getElem? (i := 1) rfl)
theorem q302 : (.fieldLink RX5 9 "FlickerDesk$Parting" "sums" "[I" : Cond) ∈ wAll := in_wA5 _ (List.mem_of_getElem? (i := 2) rfl)
theorem q303 : (.fieldLink RX5 15 "FlickerDesk$Parting" "gaps" "[I" : Cond) ∈ wAll := in_wA5 _ (List.mem_of_getElem? (i := 3) rfl)
theorem q304 : (.fieldLink RX5 18 "FlickerDesk$Parting" "costs" "[I" : Cond) ∈ wAll := in_wA5 _ (List.mem_of_getElem? (i := 4) rfl)
theorem q305 : (.fieldLink RX5 21 "FlickerDesk$Parting" "leasts" "[I" : Cond) ∈ wAll := in_wA5 _ (List.mem_of_getElem? (i := 5) rfl)
theorem q306 : (.code yX5_measureGaps cX5_measureGaps 4 none : Cond) ∈ wAll := in_wA5 _ (List.mem_of_getElem? (i := 6) rfl)
theorem q307 : (.fieldLink RX5 28 "FlickerDesk$Parting" "frames" "I" : Cond) ∈ wAll := in_wA5 _ (List.mem_of_getElem? (i := 7) rfl)
theorem q308 : (.methodLink RX5 51 yX9_gap : Cond) ∈ wAll := in_wA5 _ (List.mem_of_getElem? (i := 8) rfl)
theorem q309 : (.code yX5_addCosts cX5_addCosts 7 none : Cond) ∈ wAll := in_wA5 _ (List.mem_of_getElem? (i := 9) rfl)
theorem q310 : (.constant RX5 40 (1000000) : Cond) ∈ wAll := in_wA5 _ (List.mem_of_getElem? (i := 10) rfl)
theorem q311 : (.methodLink RX5 56 Lib.Math.min.name : Cond) ∈ wAll := in_wA5 _ (List.mem_of_getElem? (i := 11) rfl)
theorem q312 : (.code yX5_least cX5_least 3 (some .int) : Cond) ∈ wAll := in_wA5 _ (List.mem_of_getElem? (i := 12) rfl)
theorem q313 : (.code yX5_costBy cX5_costBy 4 (some .int) : Cond) ∈ wAll := in_wA5 _ (List.mem_of_getElem? (i := 13) rfl)
theorem q314 : (.methodLink RX5 65 yX5_least : Cond) ∈ wAll := in_wA5 _ (List.mem_of_getElem? (i := 14) rfl)
theorem q315 : (.instanceMethod yX5_least : Cond) ∈ wAll := in_wA5 _ (List.mem_of_getElem? (i := 15) rfl)
theorem q316 : (.selects RX5 yX5_least yX5_least : Cond) ∈ wAll := in_wA5 _ (List.mem_of_getElem? (i := 16) rfl)
theorem q317 : (.initialized RX5 : Cond) ∈ wAll := in_wA5 _ (List.mem_of_getElem? (i := 17) rfl)
theorem q318 : (.code yX5_leastOf cX5_leastOf 5 (some .int) : Cond) ∈ wAll := in_wA5 _ (List.mem_of_getElem? (i := 18) rfl)
theorem q319 : (.methodLink RX5 61 yX5_costBy : Cond) ∈ wAll := in_wA5 _ (List.mem_of_getElem? (i := 19) rfl)
theorem q320 : (.instanceMethod yX5_costBy : Cond) ∈ wAll := in_wA5 _ (List.mem_of_getElem? (i := 20) rfl)
theorem q321 : (.selects RX5 yX5_costBy yX5_costBy : Cond) ∈ wAll := in_wA5 _ (List.mem_of_getElem? (i := 21) rfl)
theorem q322 : (.fieldLink RX5 24 "FlickerDesk$Parting" "ready" "Z" : Cond) ∈ wAll := in_wA5 _ (List.mem_of_getElem? (i := 22) rfl)
theorem q323 : (.methodLink RX5 32 yX5_measureGaps : Cond) ∈ wAll := in_wA5 _ (List.mem_of_getElem? (i := 23) rfl)
theorem q324 : (.instanceMethod yX5_measureGaps : Cond) ∈ wAll := in_wA5 _ (List.mem_of_getElem? (i := 24) rfl)
theorem q325 : (.selects RX5 yX5_measureGaps yX5_measureGaps : Cond) ∈ wAll := in_wA5 _ (List.mem_of_getElem? (i := 25) rfl)
theorem q326 : (.methodLink RX5 36 yX5_addCosts : Cond) ∈ wAll := in_wA5 _ (List.mem_of_getElem? (i := 26) rfl)
theorem q327 : (.instanceMethod yX5_addCosts : Cond) ∈ wAll := in_wA5 _ (List.mem_of_getElem? (i := 27) rfl)
theorem q328 : (.selects RX5 yX5_addCosts yX5_addCosts : Cond) ∈ wAll := in_wA5 _ (List.mem_of_getElem? (i := 28) rfl)
theorem q329 : (.methodLink RX5 41 yJ7_fill_53178 : Cond) ∈ wAll := in_wA5 _ (List.mem_of_getElem? (i := 29) rfl)
theorem q330 : (.methodLink RX5 47 yX5_leastOf : Cond) ∈ wAll := in_wA5 _ (List.mem_of_getElem? (i := 30) rfl)
theorem q331 : (.instanceMethod yX5_leastOf : Cond) ∈ wAll := in_wA5 _ (List.mem_of_getElem? (i := 31) rfl)
theorem q332 : (.selects RX5 yX5_leastOf yX5_leastOf : Cond) ∈ wAll := in_wA5 _ (List.mem_of_getElem? (i := 32) rfl)
theorem q333 : (.code yX5_work cX5_work 5 none : Cond) ∈ wAll := in_wA5 _ (List.mem_of_getElem? (i := 33) rfl)
theorem q334 : (.code yX5_start cX5_start 7 (some .int) : Cond) ∈ wAll := in_wA5 _ (List.mem_of_getElem? (i := 34) rfl)
theorem q335 : (.code yX6_find cX6_find 3 (some .int) : Cond) ∈ wAll := in_wA5 _ (List.mem_of_getElem? (i := 35) rfl)
theorem q336 : (.methodLink RX7 3 objectInit : Cond) ∈ wAll := in_wA5 _ (List.mem_of_getElem? (i := 36) rfl)
theorem q337 : (.classLink RX7 9 RX2 : Cond) ∈ wAll := in_wA5 _ (List.mem_of_getElem? (i := 37) rfl)
theorem q338 : (.fieldLink RX7 12 "FlickerDesk$Reader" "film" "LFlickerDesk$Film;" : Cond) ∈ wAll := in_wA5 _ (List.mem_of_getElem? (i := 38) rfl)
theorem q339 : (.fieldLink RX7 18 "FlickerDesk$Reader" "tape" "[I" : Cond) ∈ wAll := in_wA5 _ (List.mem_of_getElem? (i := 39) rfl)
theorem q340 : (.arrayClass .boolean : Cond) ∈ wAll := in_wA5 _ (List.mem_of_getElem? (i := 40) rfl)
theorem q341 : (.fieldLink RX7 22 "FlickerDesk$Reader" "told" "[Z" : Cond) ∈ wAll := in_wA5 _ (List.mem_of_getElem? (i := 41) rfl)
theorem q342 : (.fieldLink RX7 26 "FlickerDesk$Reader" "weighted" "[Z" : Cond) ∈ wAll := in_wA5 _ (List.mem_of_getElem? (i := 42) rfl)
theorem q343 : (.fieldLink RX7 29 "FlickerDesk$Reader" "place" "I" : Cond) ∈ wAll := in_wA5 _ (List.mem_of_getElem? (i := 43) rfl)
theorem q344 : (.methodLink RX7 11 yX2_init : Cond) ∈ wAll := in_wA5 _ (List.mem_of_getElem? (i := 44) rfl)
theorem q345 : (.code yX7_init cX7_init 1 none : Cond) ∈ wAll := in_wA5 _ (List.mem_of_getElem? (i := 45) rfl)
theorem q346 : (.code yX7_putFour cX7_putFour 3 none : Cond) ∈ wAll := in_wA5 _ (List.mem_of_getElem? (i := 46) rfl)
theorem q347 : (.fieldLink RX7 33 "FlickerDesk$Reader" "length" "I" : Cond) ∈ wAll := in_wA5 _ (List.mem_of_getElem? (i := 47) rfl)
theorem q348 : (.fieldLink RX7 49 "FlickerDesk$Reader" "fault" "I" : Cond) ∈ wAll := in_wA5 _ (List.mem_of_getElem? (i := 48) rfl)
theorem q349 : (.fieldLink RX7 46 "FlickerDesk$Reader" "end" "I" : Cond) ∈ wAll := in_wA5 _ (List.mem_of_getElem? (i := 49) rfl)
theorem q350 : (.fieldLink RX7 43 "FlickerDesk$Reader" "at" "I" : Cond) ∈ wAll := in_wA5 _ (List.mem_of_getElem? (i := 50) rfl)
theorem q351 : (.methodLink RX7 62 yX2_clear : Cond) ∈ wAll := in_wA5 _ (List.mem_of_getElem? (i := 51) rfl)
theorem q352 : (.code yX7_begin cX7_begin 3 none : Cond) ∈ wAll := in_wA5 _ (List.mem_of_getElem? (i := 52) rfl)
theorem q353 : (.code yX7_skipBlanks cX7_skipBlanks 1 none : Cond) ∈ wAll := in_wA5 _ (List.mem_of_getElem? (i := 53) rfl)
theorem q354 : (.code yX7_isAt cX7_isAt 3 (some .boolean) : Cond) ∈ wAll := in_wA5 _ (List.mem_of_getElem? (i := 54) rfl)
theorem q355 : (.code yJ0_coder_7d493 cJ0_coder_7d493 1 (some .byte) : Cond) ∈ wAll := in_wA5 _ (List.mem_of_getElem? (i := 55) rfl)
theorem q356 : (.fieldLink RJ0 38 "java/lang/String" "COMPACT_STRINGS" "Z" : Cond) ∈ wAll := in_wA5 _ (List.mem_of_getElem? (i := 56) rfl)
theorem q357 : (.fieldLink RJ0 15 "java/lang/String" "coder" "B" : Cond) ∈ wAll := in_wA5 _ (List.mem_of_getElem? (i := 57) rfl)
theorem q358 : (.code yJ0_length_8abf5 cJ0_length_8abf5 1 (some .int) : Cond) ∈ wAll := in_wA5 _ (List.mem_of_getElem? (i := 58) rfl)
theorem q359 : (.fieldLink RJ0 9 "java/lang/String" "value" "[B" : Cond) ∈ wAll := in_wA5 _ (List.mem_of_getElem? (i := 59) rfl)
theorem q360 : (.methodLink RJ0 335 yJ0_coder_7d493 : Cond) ∈ wAll := in_wA6 _ (List.mem_of_getElem? (i := 0) rfl)
theorem q361 : (.instanceMethod yJ0_coder_7d493 : Cond) ∈ wAll := in_wA6 _ (List.mem_of_getElem? (i := 1) rfl)
theorem q362 : (.selects RJ0 yJ0_coder_7d493 yJ0_coder_7d493 : Cond) ∈ wAll := in_wA6 _ (List.mem_of_getElem? (i := 2) rfl)
theorem q363 : (.initialized RJ0 : Cond) ∈ wAll := in_wA6 _ (List.mem_of_getElem? (i := 3) rfl)
theorem q364 : (.code yJ0_isLatin1_aae02 cJ0_isLatin1_aae02 1 (some .boolean) : Cond) ∈ wAll := in_wA6 _ (List.mem_of_getElem? (i := 4) rfl)
theorem q365 : (.code yJ3_checkIndex_8e157 cJ3_checkIndex_8e157 3 (some .int) : Cond) ∈ wAll := in_wA6 _ (List.mem_of_getElem? (i := 5) rfl)
theorem q366 : (.code yJ0_checkIndex_df160 cJ0_checkIndex_df160 2 none : Cond) ∈ wAll := in_wA6 _ (List.mem_of_getElem? (i := 6) rfl)
theorem q367 : (.fieldLink RJ0 1053 "jdk/internal/util/Preconditions" "SIOOBE_FORMATTER" "Ljava/util/function/BiFunction;" : Cond) ∈ wAll := in_wA6 _ (List.mem_of_getElem? (i := 7) rfl)
theorem q368 : (.methodLink RJ0 1059 yJ3_checkIndex_8e157 : Cond) ∈ wAll := in_wA6 _ (List.mem_of_getElem? (i := 8) rfl)
theorem q369 : (.static yJ3_checkIndex_8e157 : Cond) ∈ wAll := in_wA6 _ (List.mem_of_getElem? (i := 9) rfl)
theorem q370 : (.initialized RJ3 : Cond) ∈ wAll := in_wA6 _ (List.mem_of_getElem? (i := 10) rfl)
theorem q371 : (.code yJ1_charAt_3b067 cJ1_charAt_3b067 2 (some .char) : Cond) ∈ wAll := in_wA6 _ (List.mem_of_getElem? (i := 11) rfl)
theorem q372 : (.methodLink RJ1 9 yJ0_checkIndex_df160 : Cond) ∈ wAll := in_wA6 _ (List.mem_of_getElem? (i := 12) rfl)
theorem q373 : (.static yJ0_checkIndex_df160 : Cond) ∈ wAll := in_wA6 _ (List.mem_of_getElem? (i := 13) rfl)
theorem q374 : (.code yJ2_length_9d52b cJ2_length_9d52b 1 (some .int) : Cond) ∈ wAll := in_wA6 _ (List.mem_of_getElem? (i := 14) rfl)
theorem q375 : (.code yJ2_checkIndex_2214a cJ2_checkIndex_2214a 2 none : Cond) ∈ wAll := in_wA6 _ (List.mem_of_getElem? (i := 15) rfl)
theorem q376 : (.methodLink RJ2 48 yJ2_length_9d52b : Cond) ∈ wAll := in_wA6 _ (List.mem_of_getElem? (i := 16) rfl)
theorem q377 : (.static yJ2_length_9d52b : Cond) ∈ wAll := in_wA6 _ (List.mem_of_getElem? (i := 17) rfl)
theorem q378 : (.initialized RJ2 : Cond) ∈ wAll := in_wA6 _ (List.mem_of_getElem? (i := 18) rfl)
theorem q379 : (.methodLink RJ2 414 yJ0_checkIndex_df160 : Cond) ∈ wAll := in_wA6 _ (List.mem_of_getElem? (i := 19) rfl)
theorem q380 : (.code yJ2_getChar_3b067 cJ2_getChar_3b067 2 (some .char) : Cond) ∈ wAll := in_wA6 _ (List.mem_of_getElem? (i := 20) rfl)
theorem q381 : (.fieldLink RJ2 44 "java/lang/StringUTF16" "$assertionsDisabled" "Z" : Cond) ∈ wAll := in_wA6 _ (List.mem_of_getElem? (i := 21) rfl)
theorem q382 : (.fieldLink RJ2 59 "java/lang/StringUTF16" "HI_BYTE_SHIFT" "I" : Cond) ∈ wAll := in_wA6 _ (List.mem_of_getElem? (i := 22) rfl)
theorem q383 : (.fieldLink RJ2 63 "java/lang/StringUTF16" "LO_BYTE_SHIFT" "I" : Cond) ∈ wAll := in_wA6 _ (List.mem_of_getElem? (i := 23) rfl)
theorem q384 : (.code yJ2_charAt_3b067 cJ2_charAt_3b067 2 (some .char) : Cond) ∈ wAll := in_wA6 _ (List.mem_of_getElem? (i := 24) rfl)
theorem q385 : (.methodLink RJ2 67 yJ2_checkIndex_2214a : Cond) ∈ wAll := in_wA6 _ (List.mem_of_getElem? (i := 25) rfl)
theorem q386 : (.static yJ2_checkIndex_2214a : Cond) ∈ wAll := in_wA6 _ (List.mem_of_getElem? (i := 26) rfl)
theorem q387 : (.methodLink RJ2 71 yJ2_getChar_3b067 : Cond) ∈ wAll := in_wA6 _ (List.mem_of_getElem? (i := 27) rfl)
theorem q388 : (.static yJ2_getChar_3b067 : Cond) ∈ wAll := in_wA6 _ (List.mem_of_getElem? (i := 28) rfl)
theorem q389 : (.methodLink RJ0 492 yJ0_isLatin1_aae02 : Cond) ∈ wAll := in_wA6 _ (List.mem_of_getElem? (i := 29) rfl)
theorem q390 : (.instanceMethod yJ0_isLatin1_aae02 : Cond) ∈ wAll := in_wA6 _ (List.mem_of_getElem? (i := 30) rfl)
theorem q391 : (.selects RJ0 yJ0_isLatin1_aae02 yJ0_isLatin1_aae02 : Cond) ∈ wAll := in_wA6 _ (List.mem_of_getElem? (i := 31) rfl)
theorem q392 : (.methodLink RJ0 495 yJ1_charAt_3b067 : Cond) ∈ wAll := in_wA6 _ (List.mem_of_getElem? (i := 32) rfl)
theorem q393 : (.static yJ1_charAt_3b067 : Cond) ∈ wAll := in_wA6 _ (List.mem_of_getElem? (i := 33) rfl)
theorem q394 : (.initialized RJ1 : Cond) ∈ wAll := in_wA6 _ (List.mem_of_getElem? (i := 34) rfl)
theorem q395 : (.methodLink RJ0 498 yJ2_charAt_3b067 : Cond) ∈ wAll := in_wA6 _ (List.mem_of_getElem? (i := 35) rfl)
theorem q396 : (.static yJ2_charAt_3b067 : Cond) ∈ wAll := in_wA6 _ (List.mem_of_getElem? (i := 36) rfl)
theorem q397 : (.code yJ0_charAt_5068e cJ0_charAt_5068e 2 (some .char) : Cond) ∈ wAll := in_wA6 _ (List.mem_of_getElem? (i := 37) rfl)
theorem q398 : (.methodLink RX7 108 yJ0_length_8abf5 : Cond) ∈ wAll := in_wA6 _ (List.mem_of_getElem? (i := 38) rfl)
theorem q399 : (.instanceMethod yJ0_length_8abf5 : Cond) ∈ wAll := in_wA6 _ (List.mem_of_getElem? (i := 39) rfl)
theorem q400 : (.selects RJ0 yJ0_length_8abf5 yJ0_length_8abf5 : Cond) ∈ wAll := in_wA6 _ (List.mem_of_getElem? (i := 40) rfl)
theorem q401 : (.methodLink RX7 113 yJ0_charAt_5068e : Cond) ∈ wAll := in_wA6 _ (List.mem_of_getElem? (i := 41) rfl)
theorem q402 : (.instanceMethod yJ0_charAt_5068e : Cond) ∈ wAll := in_wA6 _ (List.mem_of_getElem? (i := 42) rfl)
theorem q403 : (.selects RJ0 yJ0_charAt_5068e yJ0_charAt_5068e : Cond) ∈ wAll := in_wA6 _ (List.mem_of_getElem? (i := 43) rfl)
theorem q404 : (.code yX7_stands cX7_stands 4 (some .boolean) : Cond) ∈ wAll := in_wA6 _ (List.mem_of_getElem? (i := 44) rfl)
theorem q405 : (.fieldLink RX7 100 "FlickerDesk$Word" "text" "Ljava/lang/String;" : Cond) ∈ wAll := in_wA6 _ (List.mem_of_getElem? (i := 45) rfl)
theorem q406 : (.methodLink RX7 92 yX7_isAt : Cond) ∈ wAll := in_wA6 _ (List.mem_of_getElem? (i := 46) rfl)
theorem q407 : (.instanceMethod yX7_isAt : Cond) ∈ wAll := in_wA6 _ (List.mem_of_getElem? (i := 47) rfl)
theorem q408 : (.selects RX7 yX7_isAt yX7_isAt : Cond) ∈ wAll := in_wA6 _ (List.mem_of_getElem? (i := 48) rfl)
theorem q409 : (.initialized RX7 : Cond) ∈ wAll := in_wA6 _ (List.mem_of_getElem? (i := 49) rfl)
theorem q410 : (.methodLink RX7 104 yX7_stands : Cond) ∈ wAll := in_wA6 _ (List.mem_of_getElem? (i := 50) rfl)
theorem q411 : (.instanceMethod yX7_stands : Cond) ∈ wAll := in_wA6 _ (List.mem_of_getElem? (i := 51) rfl)
theorem q412 : (.selects RX7 yX7_stands yX7_stands : Cond) ∈ wAll := in_wA6 _ (List.mem_of_getElem? (i := 52) rfl)
theorem q413 : (.code yX7_readWord cX7_readWord 6 (some (.object "FlickerDesk$Word")) : Cond) ∈ wAll := in_wA6 _ (List.mem_of_getElem? (i := 53) rfl)
theorem q414 : (.code yX7_isOutOfPlace cX7_isOutOfPlace 2 (some .boolean) : Cond) ∈ wAll := in_wA6 _ (List.mem_of_getElem? (i := 54) rfl)
theorem q415 : (.fieldLink RX7 117 "FlickerDesk$Word" "SIZE" "LFlickerDesk$Word;" : Cond) ∈ wAll := in_wA6 _ (List.mem_of_getElem? (i := 55) rfl)
theorem q416 : (.fieldLink RX7 120 "FlickerDesk$Film" "frames" "I" : Cond) ∈ wAll := in_wA6 _ (List.mem_of_getElem? (i := 56) rfl)
theorem q417 : (.fieldLink RX7 82 "FlickerDesk$Word" "once" "I" : Cond) ∈ wAll := in_wA6 _ (List.mem_of_getElem? (i := 57) rfl)
theorem q418 : (.code yX7_fail cX7_fail 3 none : Cond) ∈ wAll := in_wA6 _ (List.mem_of_getElem? (i := 58) rfl)
theorem q419 : (.code yX7_endFrame cX7_endFrame 2 none : Cond) ∈ wAll := in_wA6 _ (List.mem_of_getElem? (i := 59) rfl)
theorem q420 : (.methodLink RX7 183 yX2_size : Cond) ∈ wAll := in_wA7 _ (List.mem_of_getElem? (i := 0) rfl)
theorem q421 : (.methodLink RX7 58 yX7_fail : Cond) ∈ wAll := in_wA7 _ (List.mem_of_getElem? (i := 1) rfl)
theorem q422 : (.instanceMethod yX7_fail : Cond) ∈ wAll := in_wA7 _ (List.mem_of_getElem? (i := 2) rfl)
theorem q423 : (.selects RX7 yX7_fail yX7_fail : Cond) ∈ wAll := in_wA7 _ (List.mem_of_getElem? (i := 3) rfl)
theorem q424 : (.code yX7_readNumber cX7_readNumber 3 (some .boolean) : Cond) ∈ wAll := in_wA7 _ (List.mem_of_getElem? (i := 4) rfl)
theorem q425 : (.fieldLink RX7 170 "FlickerDesk$Reader" "numberAt" "I" : Cond) ∈ wAll := in_wA7 _ (List.mem_of_getElem? (i := 5) rfl)
theorem q426 : (.fieldLink RX7 161 "FlickerDesk$Reader" "number" "I" : Cond) ∈ wAll := in_wA7 _ (List.mem_of_getElem? (i := 6) rfl)
theorem q427 : (.methodLink RX7 40 yX7_skipBlanks : Cond) ∈ wAll := in_wA7 _ (List.mem_of_getElem? (i := 7) rfl)
theorem q428 : (.instanceMethod yX7_skipBlanks : Cond) ∈ wAll := in_wA7 _ (List.mem_of_getElem? (i := 8) rfl)
theorem q429 : (.selects RX7 yX7_skipBlanks yX7_skipBlanks : Cond) ∈ wAll := in_wA7 _ (List.mem_of_getElem? (i := 9) rfl)
theorem q430 : (.fieldLink RX7 186 "FlickerDesk$Film" "dots" "[I" : Cond) ∈ wAll := in_wA7 _ (List.mem_of_getElem? (i := 10) rfl)
theorem q431 : (.methodLink RX7 157 yX7_readNumber : Cond) ∈ wAll := in_wA7 _ (List.mem_of_getElem? (i := 11) rfl)
theorem q432 : (.instanceMethod yX7_readNumber : Cond) ∈ wAll := in_wA7 _ (List.mem_of_getElem? (i := 12) rfl)
theorem q433 : (.selects RX7 yX7_readNumber yX7_readNumber : Cond) ∈ wAll := in_wA7 _ (List.mem_of_getElem? (i := 13) rfl)
theorem q434 : (.code yX7_readRun cX7_readRun 6 (some .int) : Cond) ∈ wAll := in_wA7 _ (List.mem_of_getElem? (i := 14) rfl)
theorem q435 : (.methodLink RX7 176 yX7_endFrame : Cond) ∈ wAll := in_wA7 _ (List.mem_of_getElem? (i := 15) rfl)
theorem q436 : (.instanceMethod yX7_endFrame : Cond) ∈ wAll := in_wA7 _ (List.mem_of_getElem? (i := 16) rfl)
theorem q437 : (.selects RX7 yX7_endFrame yX7_endFrame : Cond) ∈ wAll := in_wA7 _ (List.mem_of_getElem? (i := 17) rfl)
theorem q438 : (.methodLink RX7 179 yX7_readRun : Cond) ∈ wAll := in_wA7 _ (List.mem_of_getElem? (i := 18) rfl)
theorem q439 : (.instanceMethod yX7_readRun : Cond) ∈ wAll := in_wA7 _ (List.mem_of_getElem? (i := 19) rfl)
theorem q440 : (.selects RX7 yX7_readRun yX7_readRun : Cond) ∈ wAll := in_wA7 _ (List.mem_of_getElem? (i := 20) rfl)
theorem q441 : (.code yX7_readFrame cX7_readFrame 4 none : Cond) ∈ wAll := in_wA7 _ (List.mem_of_getElem? (i := 21) rfl)
theorem q442 : (.fieldLink RX7 164 "FlickerDesk$Film" "wide" "I" : Cond) ∈ wAll := in_wA7 _ (List.mem_of_getElem? (i := 22) rfl)
theorem q443 : (.fieldLink RX7 167 "FlickerDesk$Film" "high" "I" : Cond) ∈ wAll := in_wA7 _ (List.mem_of_getElem? (i := 23) rfl)
theorem q444 : (.code yX7_readSize cX7_readSize 1 none : Cond) ∈ wAll := in_wA7 _ (List.mem_of_getElem? (i := 24) rfl)
theorem q445 : (.fieldLink RX7 173 "FlickerDesk$Film" "weights" "[I" : Cond) ∈ wAll := in_wA7 _ (List.mem_of_getElem? (i := 25) rfl)
theorem q446 : (.code yX7_readWeight cX7_readWeight 2 none : Cond) ∈ wAll := in_wA7 _ (List.mem_of_getElem? (i := 26) rfl)
theorem q447 : (.code yX7_readMark cX7_readMark 3 none : Cond) ∈ wAll := in_wA7 _ (List.mem_of_getElem? (i := 27) rfl)
theorem q448 : (.fieldLink RX7 126 "FlickerDesk$Word" "WEIGHT" "LFlickerDesk$Word;" : Cond) ∈ wAll := in_wA7 _ (List.mem_of_getElem? (i := 28) rfl)
theorem q449 : (.fieldLink RX7 132 "FlickerDesk$Word" "CUT" "LFlickerDesk$Word;" : Cond) ∈ wAll := in_wA7 _ (List.mem_of_getElem? (i := 29) rfl)
theorem q450 : (.fieldLink RX7 135 "FlickerDesk$Film" "cuts" "[I" : Cond) ∈ wAll := in_wA7 _ (List.mem_of_getElem? (i := 30) rfl)
theorem q451 : (.fieldLink RX7 142 "FlickerDesk$Word" "SKIP" "LFlickerDesk$Word;" : Cond) ∈ wAll := in_wA7 _ (List.mem_of_getElem? (i := 31) rfl)
theorem q452 : (.fieldLink RX7 145 "FlickerDesk$Film" "skips" "[I" : Cond) ∈ wAll := in_wA7 _ (List.mem_of_getElem? (i := 32) rfl)
theorem q453 : (.fieldLink RX7 148 "FlickerDesk$Word" "SPREAD" "LFlickerDesk$Word;" : Cond) ∈ wAll := in_wA7 _ (List.mem_of_getElem? (i := 33) rfl)
theorem q454 : (.fieldLink RX7 55 "FlickerDesk$Film" "settings" "[I" : Cond) ∈ wAll := in_wA7 _ (List.mem_of_getElem? (i := 34) rfl)
theorem q455 : (.fieldLink RX7 151 "FlickerDesk$Word" "KEYED" "LFlickerDesk$Word;" : Cond) ∈ wAll := in_wA7 _ (List.mem_of_getElem? (i := 35) rfl)
theorem q456 : (.methodLink RX7 123 yX7_readSize : Cond) ∈ wAll := in_wA7 _ (List.mem_of_getElem? (i := 36) rfl)
theorem q457 : (.instanceMethod yX7_readSize : Cond) ∈ wAll := in_wA7 _ (List.mem_of_getElem? (i := 37) rfl)
theorem q458 : (.selects RX7 yX7_readSize yX7_readSize : Cond) ∈ wAll := in_wA7 _ (List.mem_of_getElem? (i := 38) rfl)
theorem q459 : (.methodLink RX7 129 yX7_readWeight : Cond) ∈ wAll := in_wA7 _ (List.mem_of_getElem? (i := 39) rfl)
theorem q460 : (.instanceMethod yX7_readWeight : Cond) ∈ wAll := in_wA7 _ (List.mem_of_getElem? (i := 40) rfl)
theorem q461 : (.selects RX7 yX7_readWeight yX7_readWeight : Cond) ∈ wAll := in_wA7 _ (List.mem_of_getElem? (i := 41) rfl)
theorem q462 : (.methodLink RX7 138 yX7_readMark : Cond) ∈ wAll := in_wA7 _ (List.mem_of_getElem? (i := 42) rfl)
theorem q463 : (.instanceMethod yX7_readMark : Cond) ∈ wAll := in_wA7 _ (List.mem_of_getElem? (i := 43) rfl)
theorem q464 : (.selects RX7 yX7_readMark yX7_readMark : Cond) ∈ wAll := in_wA7 _ (List.mem_of_getElem? (i := 44) rfl)
theorem q465 : (.code yX7_readNumbers cX7_readNumbers 2 none : Cond) ∈ wAll := in_wA7 _ (List.mem_of_getElem? (i := 45) rfl)
theorem q466 : (.code yX7_readLineEnd cX7_readLineEnd 1 none : Cond) ∈ wAll := in_wA7 _ (List.mem_of_getElem? (i := 46) rfl)
theorem q467 : (.fieldLink RX7 73 "FlickerDesk$Word" "FRAME" "LFlickerDesk$Word;" : Cond) ∈ wAll := in_wA7 _ (List.mem_of_getElem? (i := 47) rfl)
theorem q468 : (.methodLink RX7 65 yX7_readWord : Cond) ∈ wAll := in_wA7 _ (List.mem_of_getElem? (i := 48) rfl)
theorem q469 : (.instanceMethod yX7_readWord : Cond) ∈ wAll := in_wA7 _ (List.mem_of_getElem? (i := 49) rfl)
theorem q470 : (.selects RX7 yX7_readWord yX7_readWord : Cond) ∈ wAll := in_wA7 _ (List.mem_of_getElem? (i := 50) rfl)
theorem q471 : (.methodLink RX7 69 yX7_isOutOfPlace : Cond) ∈ wAll := in_wA7 _ (List.mem_of_getElem? (i := 51) rfl)
theorem q472 : (.instanceMethod yX7_isOutOfPlace : Cond) ∈ wAll := in_wA7 _ (List.mem_of_getElem? (i := 52) rfl)
theorem q473 : (.selects RX7 yX7_isOutOfPlace yX7_isOutOfPlace : Cond) ∈ wAll := in_wA7 _ (List.mem_of_getElem? (i := 53) rfl)
theorem q474 : (.methodLink RX7 79 yX7_readFrame : Cond) ∈ wAll := in_wA7 _ (List.mem_of_getElem? (i := 54) rfl)
theorem q475 : (.instanceMethod yX7_readFrame : Cond) ∈ wAll := in_wA7 _ (List.mem_of_getElem? (i := 55) rfl)
theorem q476 : (.selects RX7 yX7_readFrame yX7_readFrame : Cond) ∈ wAll := in_wA7 _ (List.mem_of_getElem? (i := 56) rfl)
theorem q477 : (.methodLink RX7 85 yX7_readNumbers : Cond) ∈ wAll := in_wA7 _ (List.mem_of_getElem? (i := 57) rfl)
theorem q478 : (.instanceMethod yX7_readNumbers : Cond) ∈ wAll := in_wA7 _ (List.mem_of_getElem? (i := 58) rfl)
theorem q479 : (.selects RX7 yX7_readNumbers yX7_readNumbers : Cond) ∈ wAll := in_wA7 _ (List.mem_of_getElem? (i := 59) rfl)
theorem q480 : (.methodLink RX7 89 yX7_readLineEnd : Cond) ∈ wAll := in_wA8 _ (List.mem_of_getElem? (i := 0) rfl)
theorem q481 : (.instanceMethod yX7_readLineEnd : Cond) ∈ wAll := in_wA8 _ (List.mem_of_getElem? (i := 1) rfl)
theorem q482 : (.selects RX7 yX7_readLineEnd yX7_readLineEnd : Cond) ∈ wAll := in_wA8 _ (List.mem_of_getElem? (i := 2) rfl)
theorem q483 : (.code yX7_readLine cX7_readLine 3 none : Cond) ∈ wAll := in_wA8 _ (List.mem_of_getElem? (i := 3) rfl)
theorem q484 : (.methodLink RX7 36 yX7_begin : Cond) ∈ wAll := in_wA8 _ (List.mem_of_getElem? (i := 4) rfl)
theorem q485 : (.instanceMethod yX7_begin : Cond) ∈ wAll := in_wA8 _ (List.mem_of_getElem? (i := 5) rfl)
theorem q486 : (.selects RX7 yX7_begin yX7_begin : Cond) ∈ wAll := in_wA8 _ (List.mem_of_getElem? (i := 6) rfl)
theorem q487 : (.methodLink RX7 52 yX7_readLine : Cond) ∈ wAll := in_wA8 _ (List.mem_of_getElem? (i := 7) rfl)
theorem q488 : (.instanceMethod yX7_readLine : Cond) ∈ wAll := in_wA8 _ (List.mem_of_getElem? (i := 8) rfl)
theorem q489 : (.selects RX7 yX7_readLine yX7_readLine : Cond) ∈ wAll := in_wA8 _ (List.mem_of_getElem? (i := 9) rfl)
theorem q490 : (.code yX7_readText cX7_readText 3 none : Cond) ∈ wAll := in_wA8 _ (List.mem_of_getElem? (i := 10) rfl)
theorem q491 : (.code yX9_shades cX9_shades 4 (some .int) : Cond) ∈ wAll := in_wA8 _ (List.mem_of_getElem? (i := 11) rfl)
theorem q492 : (.code yX9_isNew cX9_isNew 3 (some .boolean) : Cond) ∈ wAll := in_wA8 _ (List.mem_of_getElem? (i := 12) rfl)
theorem q493 : (.methodLink RX9 25 yX9_gap : Cond) ∈ wAll := in_wA8 _ (List.mem_of_getElem? (i := 13) rfl)
theorem q494 : (.methodLink RX11 1 objectInit : Cond) ∈ wAll := in_wA8 _ (List.mem_of_getElem? (i := 14) rfl)
theorem q495 : (.classLink RX11 7 RX2 : Cond) ∈ wAll := in_wA8 _ (List.mem_of_getElem? (i := 15) rfl)
theorem q496 : (.fieldLink RX11 10 "FlickerDesk" "film" "LFlickerDesk$Film;" : Cond) ∈ wAll := in_wA8 _ (List.mem_of_getElem? (i := 16) rfl)
theorem q497 : (.classLink RX11 16 RX1 : Cond) ∈ wAll := in_wA8 _ (List.mem_of_getElem? (i := 17) rfl)
theorem q498 : (.instantiable RX1 9 : Cond) ∈ wAll := in_wA8 _ (List.mem_of_getElem? (i := 18) rfl)
theorem q499 : (.fieldLink RX11 19 "FlickerDesk" "evening" "LFlickerDesk$Evening;" : Cond) ∈ wAll := in_wA8 _ (List.mem_of_getElem? (i := 19) rfl)
theorem q500 : (.classLink RX11 23 RX7 : Cond) ∈ wAll := in_wA8 _ (List.mem_of_getElem? (i := 20) rfl)
theorem q501 : (.instantiable RX7 11 : Cond) ∈ wAll := in_wA8 _ (List.mem_of_getElem? (i := 21) rfl)
theorem q502 : (.fieldLink RX11 26 "FlickerDesk" "reader" "LFlickerDesk$Reader;" : Cond) ∈ wAll := in_wA8 _ (List.mem_of_getElem? (i := 22) rfl)
theorem q503 : (.classLink RX11 30 RX0 : Cond) ∈ wAll := in_wA8 _ (List.mem_of_getElem? (i := 23) rfl)
theorem q504 : (.instantiable RX0 2 : Cond) ∈ wAll := in_wA8 _ (List.mem_of_getElem? (i := 24) rfl)
theorem q505 : (.fieldLink RX11 33 "FlickerDesk" "acts" "LFlickerDesk$Acts;" : Cond) ∈ wAll := in_wA8 _ (List.mem_of_getElem? (i := 25) rfl)
theorem q506 : (.fieldLink RX11 37 "FlickerDesk" "trial" "LFlickerDesk$Film;" : Cond) ∈ wAll := in_wA8 _ (List.mem_of_getElem? (i := 26) rfl)
theorem q507 : (.fieldLink RX11 40 "FlickerDesk" "trialEvening" "LFlickerDesk$Evening;" : Cond) ∈ wAll := in_wA8 _ (List.mem_of_getElem? (i := 27) rfl)
theorem q508 : (.classLink RX11 43 RX5 : Cond) ∈ wAll := in_wA8 _ (List.mem_of_getElem? (i := 28) rfl)
theorem q509 : (.instantiable RX5 6 : Cond) ∈ wAll := in_wA8 _ (List.mem_of_getElem? (i := 29) rfl)
theorem q510 : (.fieldLink RX11 46 "FlickerDesk" "parting" "LFlickerDesk$Parting;" : Cond) ∈ wAll := in_wA8 _ (List.mem_of_getElem? (i := 30) rfl)
theorem q511 : (.classLink RX11 50 RX3 : Cond) ∈ wAll := in_wA8 _ (List.mem_of_getElem? (i := 31) rfl)
theorem q512 : (.instantiable RX3 2 : Cond) ∈ wAll := in_wA8 _ (List.mem_of_getElem? (i := 32) rfl)
theorem q513 : (.fieldLink RX11 53 "FlickerDesk" "fit" "LFlickerDesk$Fit;" : Cond) ∈ wAll := in_wA8 _ (List.mem_of_getElem? (i := 33) rfl)
theorem q514 : (.classLink RX11 57 RX4 : Cond) ∈ wAll := in_wA8 _ (List.mem_of_getElem? (i := 34) rfl)
theorem q515 : (.instantiable RX4 3 : Cond) ∈ wAll := in_wA8 _ (List.mem_of_getElem? (i := 35) rfl)
theorem q516 : (.fieldLink RX11 60 "FlickerDesk" "move" "LFlickerDesk$Move;" : Cond) ∈ wAll := in_wA8 _ (List.mem_of_getElem? (i := 36) rfl)
theorem q517 : (.methodLink RX11 9 yX2_init : Cond) ∈ wAll := in_wA8 _ (List.mem_of_getElem? (i := 37) rfl)
theorem q518 : (.instanceMethod yX1_init : Cond) ∈ wAll := in_wA8 _ (List.mem_of_getElem? (i := 38) rfl)
theorem q519 : (.instanceMethod yX7_init : Cond) ∈ wAll := in_wA8 _ (List.mem_of_getElem? (i := 39) rfl)
theorem q520 : (.methodLink RX11 32 yX0_init : Cond) ∈ wAll := in_wA8 _ (List.mem_of_getElem? (i := 40) rfl)
theorem q521 : (.instanceMethod yX0_init : Cond) ∈ wAll := in_wA8 _ (List.mem_of_getElem? (i := 41) rfl)
theorem q522 : (.instanceMethod yX5_init : Cond) ∈ wAll := in_wA8 _ (List.mem_of_getElem? (i := 42) rfl)
theorem q523 : (.instanceMethod yX3_init : Cond) ∈ wAll := in_wA8 _ (List.mem_of_getElem? (i := 43) rfl)
theorem q524 : (.instanceMethod yX4_init : Cond) ∈ wAll := in_wA8 _ (List.mem_of_getElem? (i := 44) rfl)
theorem q525 : (.code yX11_init cX11_init 1 none : Cond) ∈ wAll := in_wA8 _ (List.mem_of_getElem? (i := 45) rfl)
theorem q526 : (.code yX11_feed cX11_feed 6 (some .int) : Cond) ∈ wAll := in_wA8 _ (List.mem_of_getElem? (i := 46) rfl)
theorem q527 : (.fieldLink RX11 64 "FlickerDesk$Reader" "length" "I" : Cond) ∈ wAll := in_wA8 _ (List.mem_of_getElem? (i := 47) rfl)
theorem q528 : (.methodLink RX11 68 yX7_putFour : Cond) ∈ wAll := in_wA8 _ (List.mem_of_getElem? (i := 48) rfl)
theorem q529 : (.instanceMethod yX7_putFour : Cond) ∈ wAll := in_wA8 _ (List.mem_of_getElem? (i := 49) rfl)
theorem q530 : (.selects RX7 yX7_putFour yX7_putFour : Cond) ∈ wAll := in_wA8 _ (List.mem_of_getElem? (i := 50) rfl)
theorem q531 : (.code yX11_forgetDerived cX11_forgetDerived 1 none : Cond) ∈ wAll := in_wA8 _ (List.mem_of_getElem? (i := 51) rfl)
theorem q532 : (.fieldLink RX11 319 "FlickerDesk$Parting" "ready" "Z" : Cond) ∈ wAll := in_wA8 _ (List.mem_of_getElem? (i := 52) rfl)
theorem q533 : (.methodLink RX11 316 yX1_forget : Cond) ∈ wAll := in_wA8 _ (List.mem_of_getElem? (i := 53) rfl)
theorem q534 : (.instanceMethod yX1_forget : Cond) ∈ wAll := in_wA8 _ (List.mem_of_getElem? (i := 54) rfl)
theorem q535 : (.selects RX1 yX1_forget yX1_forget : Cond) ∈ wAll := in_wA8 _ (List.mem_of_getElem? (i := 55) rfl)
theorem q536 : (.fieldLink RX11 75 "FlickerDesk$Reader" "fault" "I" : Cond) ∈ wAll := in_wA8 _ (List.mem_of_getElem? (i := 56) rfl)
theorem q537 : (.fieldLink RX11 78 "FlickerDesk$Reader" "film" "LFlickerDesk$Film;" : Cond) ∈ wAll := in_wA8 _ (List.mem_of_getElem? (i := 57) rfl)
theorem q538 : (.fieldLink RX11 83 "FlickerDesk$Acts" "many" "I" : Cond) ∈ wAll := in_wA8 _ (List.mem_of_getElem? (i := 58) rfl)
theorem q539 : (.fieldLink RX11 89 "FlickerDesk$Film" "frames" "I" : Cond) ∈ wAll := in_wA8 _ (List.mem_of_getElem? (i := 59) rfl)
theorem q540 : (.methodLink RX11 72 yX7_readText : Cond) ∈ wAll := in_wA9 _ (List.mem_of_getElem? (i := 0) rfl)
theorem q541 : (.instanceMethod yX7_readText : Cond) ∈ wAll := in_wA9 _ (List.mem_of_getElem? (i := 1) rfl)
theorem q542 : (.selects RX7 yX7_readText yX7_readText : Cond) ∈ wAll := in_wA9 _ (List.mem_of_getElem? (i := 2) rfl)
theorem q543 : (.methodLink RX11 79 yX2_copyFrom : Cond) ∈ wAll := in_wA9 _ (List.mem_of_getElem? (i := 3) rfl)
theorem q544 : (.methodLink RX11 86 yX11_forgetDerived : Cond) ∈ wAll := in_wA9 _ (List.mem_of_getElem? (i := 4) rfl)
theorem q545 : (.instanceMethod yX11_forgetDerived : Cond) ∈ wAll := in_wA9 _ (List.mem_of_getElem? (i := 5) rfl)
theorem q546 : (.selects RX11 yX11_forgetDerived yX11_forgetDerived : Cond) ∈ wAll := in_wA9 _ (List.mem_of_getElem? (i := 6) rfl)
theorem q547 : (.initialized RX11 : Cond) ∈ wAll := in_wA9 _ (List.mem_of_getElem? (i := 7) rfl)
theorem q548 : (.code yX11_tell cX11_tell 2 (some .int) : Cond) ∈ wAll := in_wA9 _ (List.mem_of_getElem? (i := 8) rfl)
theorem q549 : (.code yX11_fault cX11_fault 2 (some .int) : Cond) ∈ wAll := in_wA9 _ (List.mem_of_getElem? (i := 9) rfl)
theorem q550 : (.fieldLink RX11 92 "FlickerDesk$Reader" "place" "I" : Cond) ∈ wAll := in_wA9 _ (List.mem_of_getElem? (i := 10) rfl)
theorem q551 : (.code yX11_isSetting cX11_isSetting 1 (some .boolean) : Cond) ∈ wAll := in_wA9 _ (List.mem_of_getElem? (i := 11) rfl)
theorem q552 : (.methodLink RX11 313 yX0_keep : Cond) ∈ wAll := in_wA9 _ (List.mem_of_getElem? (i := 12) rfl)
theorem q553 : (.instanceMethod yX0_keep : Cond) ∈ wAll := in_wA9 _ (List.mem_of_getElem? (i := 13) rfl)
theorem q554 : (.selects RX0 yX0_keep yX0_keep : Cond) ∈ wAll := in_wA9 _ (List.mem_of_getElem? (i := 14) rfl)
theorem q555 : (.code yX11_beginAct cX11_beginAct 1 none : Cond) ∈ wAll := in_wA9 _ (List.mem_of_getElem? (i := 15) rfl)
theorem q556 : (.fieldLink RX11 103 "FlickerDesk$Film" "settings" "[I" : Cond) ∈ wAll := in_wA9 _ (List.mem_of_getElem? (i := 16) rfl)
theorem q557 : (.methodLink RX11 95 yX11_isSetting : Cond) ∈ wAll := in_wA9 _ (List.mem_of_getElem? (i := 17) rfl)
theorem q558 : (.static yX11_isSetting : Cond) ∈ wAll := in_wA9 _ (List.mem_of_getElem? (i := 18) rfl)
theorem q559 : (.methodLink RX11 99 yX2_allows : Cond) ∈ wAll := in_wA9 _ (List.mem_of_getElem? (i := 19) rfl)
theorem q560 : (.instanceMethod yX2_allows : Cond) ∈ wAll := in_wA9 _ (List.mem_of_getElem? (i := 20) rfl)
theorem q561 : (.selects RX2 yX2_allows yX2_allows : Cond) ∈ wAll := in_wA9 _ (List.mem_of_getElem? (i := 21) rfl)
theorem q562 : (.methodLink RX11 107 yX11_beginAct : Cond) ∈ wAll := in_wA9 _ (List.mem_of_getElem? (i := 22) rfl)
theorem q563 : (.instanceMethod yX11_beginAct : Cond) ∈ wAll := in_wA9 _ (List.mem_of_getElem? (i := 23) rfl)
theorem q564 : (.selects RX11 yX11_beginAct yX11_beginAct : Cond) ∈ wAll := in_wA9 _ (List.mem_of_getElem? (i := 24) rfl)
theorem q565 : (.code yX11_set cX11_set 4 (some .int) : Cond) ∈ wAll := in_wA9 _ (List.mem_of_getElem? (i := 25) rfl)
theorem q566 : (.fieldLink RX11 110 "FlickerDesk$Film" "weights" "[I" : Cond) ∈ wAll := in_wA9 _ (List.mem_of_getElem? (i := 26) rfl)
theorem q567 : (.code yX11_weight cX11_weight 4 (some .int) : Cond) ∈ wAll := in_wA9 _ (List.mem_of_getElem? (i := 27) rfl)
theorem q568 : (.methodLink RX11 259 yX1_look : Cond) ∈ wAll := in_wA9 _ (List.mem_of_getElem? (i := 28) rfl)
theorem q569 : (.code yX11_looked cX11_looked 1 (some (.object "FlickerDesk$Evening")) : Cond) ∈ wAll := in_wA9 _ (List.mem_of_getElem? (i := 29) rfl)
theorem q570 : (.fieldLink RX11 116 "FlickerDesk$Film" "cuts" "[I" : Cond) ∈ wAll := in_wA9 _ (List.mem_of_getElem? (i := 30) rfl)
theorem q571 : (.fieldLink RX11 123 "FlickerDesk$Evening" "scenes" "LFlickerDesk$Scenes;" : Cond) ∈ wAll := in_wA9 _ (List.mem_of_getElem? (i := 31) rfl)
theorem q572 : (.fieldLink RX11 127 "FlickerDesk$Scenes" "many" "I" : Cond) ∈ wAll := in_wA9 _ (List.mem_of_getElem? (i := 32) rfl)
theorem q573 : (.methodLink RX11 113 yX2_hasFrame : Cond) ∈ wAll := in_wA9 _ (List.mem_of_getElem? (i := 33) rfl)
theorem q574 : (.instanceMethod yX2_hasFrame : Cond) ∈ wAll := in_wA9 _ (List.mem_of_getElem? (i := 34) rfl)
theorem q575 : (.selects RX2 yX2_hasFrame yX2_hasFrame : Cond) ∈ wAll := in_wA9 _ (List.mem_of_getElem? (i := 35) rfl)
theorem q576 : (.methodLink RX11 119 yX11_looked : Cond) ∈ wAll := in_wA9 _ (List.mem_of_getElem? (i := 36) rfl)
theorem q577 : (.instanceMethod yX11_looked : Cond) ∈ wAll := in_wA9 _ (List.mem_of_getElem? (i := 37) rfl)
theorem q578 : (.selects RX11 yX11_looked yX11_looked : Cond) ∈ wAll := in_wA9 _ (List.mem_of_getElem? (i := 38) rfl)
theorem q579 : (.code yX11_cut cX11_cut 2 (some .int) : Cond) ∈ wAll := in_wA9 _ (List.mem_of_getElem? (i := 39) rfl)
theorem q580 : (.fieldLink RX11 130 "FlickerDesk$Film" "skips" "[I" : Cond) ∈ wAll := in_wA9 _ (List.mem_of_getElem? (i := 40) rfl)
theorem q581 : (.methodLink RX11 133 yX2_marked : Cond) ∈ wAll := in_wA9 _ (List.mem_of_getElem? (i := 41) rfl)
theorem q582 : (.instanceMethod yX2_marked : Cond) ∈ wAll := in_wA9 _ (List.mem_of_getElem? (i := 42) rfl)
theorem q583 : (.selects RX2 yX2_marked yX2_marked : Cond) ∈ wAll := in_wA9 _ (List.mem_of_getElem? (i := 43) rfl)
theorem q584 : (.code yX11_skip cX11_skip 2 (some .int) : Cond) ∈ wAll := in_wA9 _ (List.mem_of_getElem? (i := 44) rfl)
theorem q585 : (.code yX11_isShade cX11_isShade 1 (some .boolean) : Cond) ∈ wAll := in_wA9 _ (List.mem_of_getElem? (i := 45) rfl)
theorem q586 : (.fieldLink RX11 143 "FlickerDesk$Film" "dots" "[I" : Cond) ∈ wAll := in_wA9 _ (List.mem_of_getElem? (i := 46) rfl)
theorem q587 : (.methodLink RX11 137 yX2_hasPlace : Cond) ∈ wAll := in_wA9 _ (List.mem_of_getElem? (i := 47) rfl)
theorem q588 : (.instanceMethod yX2_hasPlace : Cond) ∈ wAll := in_wA9 _ (List.mem_of_getElem? (i := 48) rfl)
theorem q589 : (.selects RX2 yX2_hasPlace yX2_hasPlace : Cond) ∈ wAll := in_wA9 _ (List.mem_of_getElem? (i := 49) rfl)
theorem q590 : (.methodLink RX11 140 yX11_isShade : Cond) ∈ wAll := in_wA9 _ (List.mem_of_getElem? (i := 50) rfl)
theorem q591 : (.static yX11_isShade : Cond) ∈ wAll := in_wA9 _ (List.mem_of_getElem? (i := 51) rfl)
theorem q592 : (.code yX11_dot cX11_dot 5 (some .int) : Cond) ∈ wAll := in_wA9 _ (List.mem_of_getElem? (i := 52) rfl)
theorem q593 : (.methodLink RX11 323 yX1_even : Cond) ∈ wAll := in_wA9 _ (List.mem_of_getElem? (i := 53) rfl)
theorem q594 : (.instanceMethod yX1_even : Cond) ∈ wAll := in_wA9 _ (List.mem_of_getElem? (i := 54) rfl)
theorem q595 : (.selects RX1 yX1_even yX1_even : Cond) ∈ wAll := in_wA9 _ (List.mem_of_getElem? (i := 55) rfl)
theorem q596 : (.code yX11_evened cX11_evened 1 (some (.object "FlickerDesk$Evening")) : Cond) ∈ wAll := in_wA9 _ (List.mem_of_getElem? (i := 56) rfl)
theorem q597 : (.fieldLink RX11 153 "FlickerDesk$Evening" "dots" "[I" : Cond) ∈ wAll := in_wA9 _ (List.mem_of_getElem? (i := 57) rfl)
theorem q598 : (.methodLink RX11 146 yX11_evened : Cond) ∈ wAll := in_wA9 _ (List.mem_of_getElem? (i := 58) rfl)
theorem q599 : (.instanceMethod yX11_evened : Cond) ∈ wAll := in_wA9 _ (List.mem_of_getElem? (i := 59) rfl)
theorem q600 : (.selects RX11 yX11_evened yX11_evened : Cond) ∈ wAll := in_wA10 _ (List.mem_of_getElem? (i := 0) rfl)
theorem q601 : (.methodLink RX11 149 yX1_changedDots : Cond) ∈ wAll := in_wA10 _ (List.mem_of_getElem? (i := 1) rfl)
theorem q602 : (.instanceMethod yX1_changedDots : Cond) ∈ wAll := in_wA10 _ (List.mem_of_getElem? (i := 2) rfl)
theorem q603 : (.selects RX1 yX1_changedDots yX1_changedDots : Cond) ∈ wAll := in_wA10 _ (List.mem_of_getElem? (i := 3) rfl)
theorem q604 : (.methodLink RX11 154 yX2_copyDots : Cond) ∈ wAll := in_wA10 _ (List.mem_of_getElem? (i := 4) rfl)
theorem q605 : (.code yX11_take cX11_take 3 (some .int) : Cond) ∈ wAll := in_wA10 _ (List.mem_of_getElem? (i := 5) rfl)
theorem q606 : (.methodLink RX11 158 yX0_bringBack : Cond) ∈ wAll := in_wA10 _ (List.mem_of_getElem? (i := 6) rfl)
theorem q607 : (.instanceMethod yX0_bringBack : Cond) ∈ wAll := in_wA10 _ (List.mem_of_getElem? (i := 7) rfl)
theorem q608 : (.selects RX0 yX0_bringBack yX0_bringBack : Cond) ∈ wAll := in_wA10 _ (List.mem_of_getElem? (i := 8) rfl)
theorem q609 : (.code yX11_undo cX11_undo 1 (some .int) : Cond) ∈ wAll := in_wA10 _ (List.mem_of_getElem? (i := 9) rfl)
theorem q610 : (.classLink RX11 161 "java/util/NoSuchElementException" : Cond) ∈ wAll := in_wA10 _ (List.mem_of_getElem? (i := 10) rfl)
theorem q611 : (.initialized "java/util/NoSuchElementException" : Cond) ∈ wAll := in_wA10 _ (List.mem_of_getElem? (i := 11) rfl)
theorem q612 : (.code yX11_shade cX11_shade 5 (some .int) : Cond) ∈ wAll := in_wA10 _ (List.mem_of_getElem? (i := 12) rfl)
theorem q613 : (.fieldLink RX11 168 "FlickerDesk$Evening" "ahead" "LFlickerDesk$Tally;" : Cond) ∈ wAll := in_wA10 _ (List.mem_of_getElem? (i := 13) rfl)
theorem q614 : (.fieldLink RX11 178 "FlickerDesk$Tally" "cums" "[I" : Cond) ∈ wAll := in_wA10 _ (List.mem_of_getElem? (i := 14) rfl)
theorem q615 : (.fieldLink RX11 181 "FlickerDesk$Evening" "targets" "[I" : Cond) ∈ wAll := in_wA10 _ (List.mem_of_getElem? (i := 15) rfl)
theorem q616 : (.fieldLink RX11 184 "FlickerDesk$Evening" "tables" "[I" : Cond) ∈ wAll := in_wA10 _ (List.mem_of_getElem? (i := 16) rfl)
theorem q617 : (.fieldLink RX11 187 "FlickerDesk$Evening" "then" "LFlickerDesk$Tally;" : Cond) ∈ wAll := in_wA10 _ (List.mem_of_getElem? (i := 17) rfl)
theorem q618 : (.methodLink RX11 172 yX9_number : Cond) ∈ wAll := in_wA10 _ (List.mem_of_getElem? (i := 18) rfl)
theorem q619 : (.code yX11_level cX11_level 4 (some .int) : Cond) ∈ wAll := in_wA10 _ (List.mem_of_getElem? (i := 19) rfl)
theorem q620 : (.fieldLink RX11 194 "FlickerDesk$Scenes" "sceneOf" "[I" : Cond) ∈ wAll := in_wA10 _ (List.mem_of_getElem? (i := 20) rfl)
theorem q621 : (.methodLink RX11 190 yX9_mean : Cond) ∈ wAll := in_wA10 _ (List.mem_of_getElem? (i := 21) rfl)
theorem q622 : (.methodLink RX11 197 yX8_begins : Cond) ∈ wAll := in_wA10 _ (List.mem_of_getElem? (i := 22) rfl)
theorem q623 : (.methodLink RX11 200 yX1_windowSize : Cond) ∈ wAll := in_wA10 _ (List.mem_of_getElem? (i := 23) rfl)
theorem q624 : (.instanceMethod yX1_windowSize : Cond) ∈ wAll := in_wA10 _ (List.mem_of_getElem? (i := 24) rfl)
theorem q625 : (.selects RX1 yX1_windowSize yX1_windowSize : Cond) ∈ wAll := in_wA10 _ (List.mem_of_getElem? (i := 25) rfl)
theorem q626 : (.methodLink RX11 204 yX9_shades : Cond) ∈ wAll := in_wA10 _ (List.mem_of_getElem? (i := 26) rfl)
theorem q627 : (.instanceMethod yX9_shades : Cond) ∈ wAll := in_wA10 _ (List.mem_of_getElem? (i := 27) rfl)
theorem q628 : (.selects RX9 yX9_shades yX9_shades : Cond) ∈ wAll := in_wA10 _ (List.mem_of_getElem? (i := 28) rfl)
theorem q629 : (.methodLink RX11 207 yX1_changedIn : Cond) ∈ wAll := in_wA10 _ (List.mem_of_getElem? (i := 29) rfl)
theorem q630 : (.code yX11_frame cX11_frame 3 (some .int) : Cond) ∈ wAll := in_wA10 _ (List.mem_of_getElem? (i := 30) rfl)
theorem q631 : (.code yX11_tally cX11_tally 2 (some (.object "FlickerDesk$Tally")) : Cond) ∈ wAll := in_wA10 _ (List.mem_of_getElem? (i := 31) rfl)
theorem q632 : (.methodLink RX11 210 yX11_tally : Cond) ∈ wAll := in_wA10 _ (List.mem_of_getElem? (i := 32) rfl)
theorem q633 : (.instanceMethod yX11_tally : Cond) ∈ wAll := in_wA10 _ (List.mem_of_getElem? (i := 33) rfl)
theorem q634 : (.selects RX11 yX11_tally yX11_tally : Cond) ∈ wAll := in_wA10 _ (List.mem_of_getElem? (i := 34) rfl)
theorem q635 : (.methodLink RX11 214 yX9_gap : Cond) ∈ wAll := in_wA10 _ (List.mem_of_getElem? (i := 35) rfl)
theorem q636 : (.code yX11_apart cX11_apart 4 (some .int) : Cond) ∈ wAll := in_wA10 _ (List.mem_of_getElem? (i := 36) rfl)
theorem q637 : (.fieldLink RX11 217 "FlickerDesk$Scenes" "firstOf" "[I" : Cond) ∈ wAll := in_wA10 _ (List.mem_of_getElem? (i := 37) rfl)
theorem q638 : (.code yX11_scene cX11_scene 3 (some .int) : Cond) ∈ wAll := in_wA10 _ (List.mem_of_getElem? (i := 38) rfl)
theorem q639 : (.fieldLink RX11 220 "FlickerDesk$Evening" "ranks" "LFlickerDesk$Ranks;" : Cond) ∈ wAll := in_wA10 _ (List.mem_of_getElem? (i := 39) rfl)
theorem q640 : (.methodLink RX11 224 yX6_read : Cond) ∈ wAll := in_wA10 _ (List.mem_of_getElem? (i := 40) rfl)
theorem q641 : (.methodLink RX11 230 yX6_find : Cond) ∈ wAll := in_wA10 _ (List.mem_of_getElem? (i := 41) rfl)
theorem q642 : (.instanceMethod yX6_find : Cond) ∈ wAll := in_wA10 _ (List.mem_of_getElem? (i := 42) rfl)
theorem q643 : (.selects RX6 yX6_find yX6_find : Cond) ∈ wAll := in_wA10 _ (List.mem_of_getElem? (i := 43) rfl)
theorem q644 : (.code yX11_rank cX11_rank 4 (some .int) : Cond) ∈ wAll := in_wA10 _ (List.mem_of_getElem? (i := 44) rfl)
theorem q645 : (.code yX11_inverse cX11_inverse 5 (some .int) : Cond) ∈ wAll := in_wA10 _ (List.mem_of_getElem? (i := 45) rfl)
theorem q646 : (.methodLink RX11 233 yX1_flickerOf : Cond) ∈ wAll := in_wA10 _ (List.mem_of_getElem? (i := 46) rfl)
theorem q647 : (.instanceMethod yX1_flickerOf : Cond) ∈ wAll := in_wA10 _ (List.mem_of_getElem? (i := 47) rfl)
theorem q648 : (.selects RX1 yX1_flickerOf yX1_flickerOf : Cond) ∈ wAll := in_wA10 _ (List.mem_of_getElem? (i := 48) rfl)
theorem q649 : (.code yX11_flicker cX11_flicker 2 (some .int) : Cond) ∈ wAll := in_wA10 _ (List.mem_of_getElem? (i := 49) rfl)
theorem q650 : (.code yX11_steady cX11_steady 2 (some .int) : Cond) ∈ wAll := in_wA10 _ (List.mem_of_getElem? (i := 50) rfl)
theorem q651 : (.code yX11_beginTrial cX11_beginTrial 1 none : Cond) ∈ wAll := in_wA10 _ (List.mem_of_getElem? (i := 51) rfl)
theorem q652 : (.methodLink RX11 326 yX1_forgetEvened : Cond) ∈ wAll := in_wA10 _ (List.mem_of_getElem? (i := 52) rfl)
theorem q653 : (.instanceMethod yX1_forgetEvened : Cond) ∈ wAll := in_wA10 _ (List.mem_of_getElem? (i := 53) rfl)
theorem q654 : (.selects RX1 yX1_forgetEvened yX1_forgetEvened : Cond) ∈ wAll := in_wA10 _ (List.mem_of_getElem? (i := 54) rfl)
theorem q655 : (.code yX11_trialFlicker cX11_trialFlicker 3 (some .int) : Cond) ∈ wAll := in_wA10 _ (List.mem_of_getElem? (i := 55) rfl)
theorem q656 : (.constant RX11 240 (1000000) : Cond) ∈ wAll := in_wA10 _ (List.mem_of_getElem? (i := 56) rfl)
theorem q657 : (.fieldLink RX11 241 "FlickerDesk" "HIGHEST_SETTINGS" "[I" : Cond) ∈ wAll := in_wA10 _ (List.mem_of_getElem? (i := 57) rfl)
theorem q658 : (.methodLink RX11 237 yX11_beginTrial : Cond) ∈ wAll := in_wA10 _ (List.mem_of_getElem? (i := 58) rfl)
theorem q659 : (.instanceMethod yX11_beginTrial : Cond) ∈ wAll := in_wA10 _ (List.mem_of_getElem? (i := 59) rfl)
theorem q660 : (.selects RX11 yX11_beginTrial yX11_beginTrial : Cond) ∈ wAll := in_wA11 _ (List.mem_of_getElem? (i := 0) rfl)
theorem q661 : (.methodLink RX11 244 yX11_trialFlicker : Cond) ∈ wAll := in_wA11 _ (List.mem_of_getElem? (i := 1) rfl)
theorem q662 : (.instanceMethod yX11_trialFlicker : Cond) ∈ wAll := in_wA11 _ (List.mem_of_getElem? (i := 2) rfl)
theorem q663 : (.selects RX11 yX11_trialFlicker yX11_trialFlicker : Cond) ∈ wAll := in_wA11 _ (List.mem_of_getElem? (i := 3) rfl)
theorem q664 : (.code yX11_bestRadius cX11_bestRadius 5 (some .int) : Cond) ∈ wAll := in_wA11 _ (List.mem_of_getElem? (i := 4) rfl)
theorem q665 : (.code yX11_leastStep cX11_leastStep 3 (some .int) : Cond) ∈ wAll := in_wA11 _ (List.mem_of_getElem? (i := 5) rfl)
theorem q666 : (.methodLink RX11 247 yX1_flashes : Cond) ∈ wAll := in_wA11 _ (List.mem_of_getElem? (i := 6) rfl)
theorem q667 : (.instanceMethod yX1_flashes : Cond) ∈ wAll := in_wA11 _ (List.mem_of_getElem? (i := 7) rfl)
theorem q668 : (.selects RX1 yX1_flashes yX1_flashes : Cond) ∈ wAll := in_wA11 _ (List.mem_of_getElem? (i := 8) rfl)
theorem q669 : (.code yX11_flash cX11_flash 6 (some .int) : Cond) ∈ wAll := in_wA11 _ (List.mem_of_getElem? (i := 9) rfl)
theorem q670 : (.methodLink RX11 250 Lib.Math.abs.name : Cond) ∈ wAll := in_wA11 _ (List.mem_of_getElem? (i := 10) rfl)
theorem q671 : (.code yX11_period cX11_period 9 (some .int) : Cond) ∈ wAll := in_wA11 _ (List.mem_of_getElem? (i := 11) rfl)
theorem q672 : (.code yX11_takeInTrial cX11_takeInTrial 2 (some .int) : Cond) ∈ wAll := in_wA11 _ (List.mem_of_getElem? (i := 12) rfl)
theorem q673 : (.methodLink RX11 255 yX11_takeInTrial : Cond) ∈ wAll := in_wA11 _ (List.mem_of_getElem? (i := 13) rfl)
theorem q674 : (.instanceMethod yX11_takeInTrial : Cond) ∈ wAll := in_wA11 _ (List.mem_of_getElem? (i := 14) rfl)
theorem q675 : (.selects RX11 yX11_takeInTrial yX11_takeInTrial : Cond) ∈ wAll := in_wA11 _ (List.mem_of_getElem? (i := 15) rfl)
theorem q676 : (.code yX11_rounds cX11_rounds 3 (some .int) : Cond) ∈ wAll := in_wA11 _ (List.mem_of_getElem? (i := 16) rfl)
theorem q677 : (.code yX11_settles cX11_settles 2 (some .int) : Cond) ∈ wAll := in_wA11 _ (List.mem_of_getElem? (i := 17) rfl)
theorem q678 : (.methodLink RX11 262 yX8_keyFrame : Cond) ∈ wAll := in_wA11 _ (List.mem_of_getElem? (i := 18) rfl)
theorem q679 : (.code yX11_key cX11_key 3 (some .int) : Cond) ∈ wAll := in_wA11 _ (List.mem_of_getElem? (i := 19) rfl)
theorem q680 : (.methodLink RX11 266 yX5_work : Cond) ∈ wAll := in_wA11 _ (List.mem_of_getElem? (i := 20) rfl)
theorem q681 : (.instanceMethod yX5_work : Cond) ∈ wAll := in_wA11 _ (List.mem_of_getElem? (i := 21) rfl)
theorem q682 : (.selects RX5 yX5_work yX5_work : Cond) ∈ wAll := in_wA11 _ (List.mem_of_getElem? (i := 22) rfl)
theorem q683 : (.methodLink RX11 270 yX5_least : Cond) ∈ wAll := in_wA11 _ (List.mem_of_getElem? (i := 23) rfl)
theorem q684 : (.methodLink RX11 273 yX5_start : Cond) ∈ wAll := in_wA11 _ (List.mem_of_getElem? (i := 24) rfl)
theorem q685 : (.instanceMethod yX5_start : Cond) ∈ wAll := in_wA11 _ (List.mem_of_getElem? (i := 25) rfl)
theorem q686 : (.selects RX5 yX5_start yX5_start : Cond) ∈ wAll := in_wA11 _ (List.mem_of_getElem? (i := 26) rfl)
theorem q687 : (.code yX11_parted cX11_parted 3 (some .int) : Cond) ∈ wAll := in_wA11 _ (List.mem_of_getElem? (i := 27) rfl)
theorem q688 : (.fieldLink RX11 279 "FlickerDesk$Move" "right" "I" : Cond) ∈ wAll := in_wA11 _ (List.mem_of_getElem? (i := 28) rfl)
theorem q689 : (.fieldLink RX11 282 "FlickerDesk$Move" "down" "I" : Cond) ∈ wAll := in_wA11 _ (List.mem_of_getElem? (i := 29) rfl)
theorem q690 : (.fieldLink RX11 285 "FlickerDesk$Move" "dots" "I" : Cond) ∈ wAll := in_wA11 _ (List.mem_of_getElem? (i := 30) rfl)
theorem q691 : (.methodLink RX11 276 yX4_work : Cond) ∈ wAll := in_wA11 _ (List.mem_of_getElem? (i := 31) rfl)
theorem q692 : (.instanceMethod yX4_work : Cond) ∈ wAll := in_wA11 _ (List.mem_of_getElem? (i := 32) rfl)
theorem q693 : (.selects RX4 yX4_work yX4_work : Cond) ∈ wAll := in_wA11 _ (List.mem_of_getElem? (i := 33) rfl)
theorem q694 : (.code yX11_shift cX11_shift 3 (some .int) : Cond) ∈ wAll := in_wA11 _ (List.mem_of_getElem? (i := 34) rfl)
theorem q695 : (.code yX11_alike cX11_alike 4 (some .int) : Cond) ∈ wAll := in_wA11 _ (List.mem_of_getElem? (i := 35) rfl)
theorem q696 : (.methodLink RX11 287 yX2_firstLike : Cond) ∈ wAll := in_wA11 _ (List.mem_of_getElem? (i := 36) rfl)
theorem q697 : (.instanceMethod yX2_firstLike : Cond) ∈ wAll := in_wA11 _ (List.mem_of_getElem? (i := 37) rfl)
theorem q698 : (.selects RX2 yX2_firstLike yX2_firstLike : Cond) ∈ wAll := in_wA11 _ (List.mem_of_getElem? (i := 38) rfl)
theorem q699 : (.code yX11_nearest cX11_nearest 7 (some .int) : Cond) ∈ wAll := in_wA11 _ (List.mem_of_getElem? (i := 39) rfl)
theorem q700 : (.methodLink RX11 290 yX9_isNew : Cond) ∈ wAll := in_wA11 _ (List.mem_of_getElem? (i := 40) rfl)
theorem q701 : (.instanceMethod yX9_isNew : Cond) ∈ wAll := in_wA11 _ (List.mem_of_getElem? (i := 41) rfl)
theorem q702 : (.selects RX9 yX9_isNew yX9_isNew : Cond) ∈ wAll := in_wA11 _ (List.mem_of_getElem? (i := 42) rfl)
theorem q703 : (.code yX11_kinds cX11_kinds 5 (some .int) : Cond) ∈ wAll := in_wA11 _ (List.mem_of_getElem? (i := 43) rfl)
theorem q704 : (.fieldLink RX11 296 "FlickerDesk$Fit" "least" "[I" : Cond) ∈ wAll := in_wA11 _ (List.mem_of_getElem? (i := 44) rfl)
theorem q705 : (.methodLink RX11 293 yX3_work : Cond) ∈ wAll := in_wA11 _ (List.mem_of_getElem? (i := 45) rfl)
theorem q706 : (.instanceMethod yX3_work : Cond) ∈ wAll := in_wA11 _ (List.mem_of_getElem? (i := 46) rfl)
theorem q707 : (.selects RX3 yX3_work yX3_work : Cond) ∈ wAll := in_wA11 _ (List.mem_of_getElem? (i := 47) rfl)
theorem q708 : (.methodLink RX11 298 yX3_comesTo : Cond) ∈ wAll := in_wA11 _ (List.mem_of_getElem? (i := 48) rfl)
theorem q709 : (.instanceMethod yX3_comesTo : Cond) ∈ wAll := in_wA11 _ (List.mem_of_getElem? (i := 49) rfl)
theorem q710 : (.selects RX3 yX3_comesTo yX3_comesTo : Cond) ∈ wAll := in_wA11 _ (List.mem_of_getElem? (i := 50) rfl)
theorem q711 : (.code yX11_fitted cX11_fitted 4 (some .int) : Cond) ∈ wAll := in_wA11 _ (List.mem_of_getElem? (i := 51) rfl)
theorem q712 : (.methodLink RX11 301 yX1_meetsAnother : Cond) ∈ wAll := in_wA11 _ (List.mem_of_getElem? (i := 52) rfl)
theorem q713 : (.instanceMethod yX1_meetsAnother : Cond) ∈ wAll := in_wA11 _ (List.mem_of_getElem? (i := 53) rfl)
theorem q714 : (.selects RX1 yX1_meetsAnother yX1_meetsAnother : Cond) ∈ wAll := in_wA11 _ (List.mem_of_getElem? (i := 54) rfl)
theorem q715 : (.code yX11_lost cX11_lost 5 (some .int) : Cond) ∈ wAll := in_wA11 _ (List.mem_of_getElem? (i := 55) rfl)
theorem q716 : (.code yX11_setting cX11_setting 2 (some .int) : Cond) ∈ wAll := in_wA11 _ (List.mem_of_getElem? (i := 56) rfl)
theorem q717 : (.code yX11_weightCount cX11_weightCount 2 (some .int) : Cond) ∈ wAll := in_wA11 _ (List.mem_of_getElem? (i := 57) rfl)
theorem q718 : (.code yX11_count cX11_count 2 (some .int) : Cond) ∈ wAll := in_wA11 _ (List.mem_of_getElem? (i := 58) rfl)
theorem q719 : (.fieldLink RX11 304 "FlickerDesk$Film" "wide" "I" : Cond) ∈ wAll := in_wA11 _ (List.mem_of_getElem? (i := 59) rfl)
theorem q720 : (.fieldLink RX11 307 "FlickerDesk$Film" "high" "I" : Cond) ∈ wAll := in_wA12 _ (List.mem_of_getElem? (i := 0) rfl)
theorem q721 : (.methodLink RX11 310 yX11_weightCount : Cond) ∈ wAll := in_wA12 _ (List.mem_of_getElem? (i := 1) rfl)
theorem q722 : (.instanceMethod yX11_weightCount : Cond) ∈ wAll := in_wA12 _ (List.mem_of_getElem? (i := 2) rfl)
theorem q723 : (.selects RX11 yX11_weightCount yX11_weightCount : Cond) ∈ wAll := in_wA12 _ (List.mem_of_getElem? (i := 3) rfl)
theorem q724 : (.code yX12_thrown cX12_thrown 1 (some .int) : Cond) ∈ wAll := in_wA12 _ (List.mem_of_getElem? (i := 4) rfl)
theorem q725 : (.fieldLink RX12 1 "FlickerDeskModel" "thrown" "I" : Cond) ∈ wAll := in_wA12 _ (List.mem_of_getElem? (i := 5) rfl)
theorem q726 : (.code yX12_isIn cX12_isIn 6 (some .boolean) : Cond) ∈ wAll := in_wA12 _ (List.mem_of_getElem? (i := 6) rfl)
theorem q727 : (.code yX12_plain cX12_plain 2 none : Cond) ∈ wAll := in_wA12 _ (List.mem_of_getElem? (i := 7) rfl)
theorem q728 : (.fieldLink RX12 13 "FlickerDeskModel" "s" "[I" : Cond) ∈ wAll := in_wA12 _ (List.mem_of_getElem? (i := 8) rfl)
theorem q729 : (.methodLink RX12 7 objectInit : Cond) ∈ wAll := in_wA12 _ (List.mem_of_getElem? (i := 9) rfl)
theorem q730 : (.fieldLink RX12 17 "FlickerDeskModel" "saved" "[I" : Cond) ∈ wAll := in_wA12 _ (List.mem_of_getElem? (i := 10) rfl)
theorem q731 : (.fieldLink RX12 20 "FlickerDeskModel" "acts" "[I" : Cond) ∈ wAll := in_wA12 _ (List.mem_of_getElem? (i := 11) rfl)
theorem q732 : (.arrayClass .byte : Cond) ∈ wAll := in_wA12 _ (List.mem_of_getElem? (i := 12) rfl)
theorem q733 : (.fieldLink RX12 23 "FlickerDeskModel" "tape" "[B" : Cond) ∈ wAll := in_wA12 _ (List.mem_of_getElem? (i := 13) rfl)
theorem q734 : (.fieldLink RX12 27 "FlickerDeskModel" "wrongAt" "I" : Cond) ∈ wAll := in_wA12 _ (List.mem_of_getElem? (i := 14) rfl)
theorem q735 : (.fieldLink RX12 30 "FlickerDeskModel" "cums" "[I" : Cond) ∈ wAll := in_wA12 _ (List.mem_of_getElem? (i := 15) rfl)
theorem q736 : (.fieldLink RX12 33 "FlickerDeskModel" "means" "[I" : Cond) ∈ wAll := in_wA12 _ (List.mem_of_getElem? (i := 16) rfl)
theorem q737 : (.fieldLink RX12 36 "FlickerDeskModel" "begins" "[Z" : Cond) ∈ wAll := in_wA12 _ (List.mem_of_getElem? (i := 17) rfl)
theorem q738 : (.fieldLink RX12 40 "FlickerDeskModel" "target" "[I" : Cond) ∈ wAll := in_wA12 _ (List.mem_of_getElem? (i := 18) rfl)
theorem q739 : (.fieldLink RX12 43 "FlickerDeskModel" "table" "[I" : Cond) ∈ wAll := in_wA12 _ (List.mem_of_getElem? (i := 19) rfl)
theorem q740 : (.fieldLink RX12 46 "FlickerDeskModel" "evened" "[I" : Cond) ∈ wAll := in_wA12 _ (List.mem_of_getElem? (i := 20) rfl)
theorem q741 : (.fieldLink RX12 49 "FlickerDeskModel" "evenCums" "[I" : Cond) ∈ wAll := in_wA12 _ (List.mem_of_getElem? (i := 21) rfl)
theorem q742 : (.fieldLink RX12 52 "FlickerDeskModel" "orders" "[I" : Cond) ∈ wAll := in_wA12 _ (List.mem_of_getElem? (i := 22) rfl)
theorem q743 : (.fieldLink RX12 55 "FlickerDeskModel" "rowCosts" "[I" : Cond) ∈ wAll := in_wA12 _ (List.mem_of_getElem? (i := 23) rfl)
theorem q744 : (.fieldLink RX12 58 "FlickerDeskModel" "partCosts" "[I" : Cond) ∈ wAll := in_wA12 _ (List.mem_of_getElem? (i := 24) rfl)
theorem q745 : (.fieldLink RX12 61 "FlickerDeskModel" "costs" "[I" : Cond) ∈ wAll := in_wA12 _ (List.mem_of_getElem? (i := 25) rfl)
theorem q746 : (.methodLink RX12 64 yX12_plain : Cond) ∈ wAll := in_wA12 _ (List.mem_of_getElem? (i := 26) rfl)
theorem q747 : (.instanceMethod yX12_plain : Cond) ∈ wAll := in_wA12 _ (List.mem_of_getElem? (i := 27) rfl)
theorem q748 : (.selects RX12 yX12_plain yX12_plain : Cond) ∈ wAll := in_wA12 _ (List.mem_of_getElem? (i := 28) rfl)
theorem q749 : (.initialized RX12 : Cond) ∈ wAll := in_wA12 _ (List.mem_of_getElem? (i := 29) rfl)
theorem q750 : (.code yX12_init cX12_init 1 none : Cond) ∈ wAll := in_wA12 _ (List.mem_of_getElem? (i := 30) rfl)
theorem q751 : (.code yX12_feed cX12_feed 8 (some .int) : Cond) ∈ wAll := in_wA12 _ (List.mem_of_getElem? (i := 31) rfl)
theorem q752 : (.fieldLink RX12 67 "FlickerDeskModel" "taped" "I" : Cond) ∈ wAll := in_wA12 _ (List.mem_of_getElem? (i := 32) rfl)
theorem q753 : (.code yX12_peek cX12_peek 1 (some .int) : Cond) ∈ wAll := in_wA12 _ (List.mem_of_getElem? (i := 33) rfl)
theorem q754 : (.fieldLink RX12 70 "FlickerDeskModel" "spot" "I" : Cond) ∈ wAll := in_wA12 _ (List.mem_of_getElem? (i := 34) rfl)
theorem q755 : (.fieldLink RX12 73 "FlickerDeskModel" "size" "I" : Cond) ∈ wAll := in_wA12 _ (List.mem_of_getElem? (i := 35) rfl)
theorem q756 : (.code yX12_fails cX12_fails 3 none : Cond) ∈ wAll := in_wA12 _ (List.mem_of_getElem? (i := 36) rfl)
theorem q757 : (.fieldLink RX12 76 "FlickerDeskModel" "wrong" "I" : Cond) ∈ wAll := in_wA12 _ (List.mem_of_getElem? (i := 37) rfl)
theorem q758 : (.code yX12_isLetter cX12_isLetter 1 (some .boolean) : Cond) ∈ wAll := in_wA12 _ (List.mem_of_getElem? (i := 38) rfl)
theorem q759 : (.constantLong RX12 79 (97) : Cond) ∈ wAll := in_wA12 _ (List.mem_of_getElem? (i := 39) rfl)
theorem q760 : (.constantLong RX12 81 (122) : Cond) ∈ wAll := in_wA12 _ (List.mem_of_getElem? (i := 40) rfl)
theorem q761 : (.methodLink RX12 83 yX12_isIn : Cond) ∈ wAll := in_wA12 _ (List.mem_of_getElem? (i := 41) rfl)
theorem q762 : (.static yX12_isIn : Cond) ∈ wAll := in_wA12 _ (List.mem_of_getElem? (i := 42) rfl)
theorem q763 : (.code yX12_isDigit cX12_isDigit 1 (some .boolean) : Cond) ∈ wAll := in_wA12 _ (List.mem_of_getElem? (i := 43) rfl)
theorem q764 : (.constantLong RX12 87 (48) : Cond) ∈ wAll := in_wA12 _ (List.mem_of_getElem? (i := 44) rfl)
theorem q765 : (.constantLong RX12 89 (57) : Cond) ∈ wAll := in_wA12 _ (List.mem_of_getElem? (i := 45) rfl)
theorem q766 : (.code yX12_lettersHere cX12_lettersHere 2 (some .int) : Cond) ∈ wAll := in_wA12 _ (List.mem_of_getElem? (i := 46) rfl)
theorem q767 : (.methodLink RX12 91 yX12_isLetter : Cond) ∈ wAll := in_wA12 _ (List.mem_of_getElem? (i := 47) rfl)
theorem q768 : (.static yX12_isLetter : Cond) ∈ wAll := in_wA12 _ (List.mem_of_getElem? (i := 48) rfl)
theorem q769 : (.methodLink RX12 95 yX12_peek : Cond) ∈ wAll := in_wA12 _ (List.mem_of_getElem? (i := 49) rfl)
theorem q770 : (.instanceMethod yX12_peek : Cond) ∈ wAll := in_wA12 _ (List.mem_of_getElem? (i := 50) rfl)
theorem q771 : (.selects RX12 yX12_peek yX12_peek : Cond) ∈ wAll := in_wA12 _ (List.mem_of_getElem? (i := 51) rfl)
theorem q772 : (.methodLink RX12 99 yX12_lettersHere : Cond) ∈ wAll := in_wA12 _ (List.mem_of_getElem? (i := 52) rfl)
theorem q773 : (.instanceMethod yX12_lettersHere : Cond) ∈ wAll := in_wA12 _ (List.mem_of_getElem? (i := 53) rfl)
theorem q774 : (.selects RX12 yX12_lettersHere yX12_lettersHere : Cond) ∈ wAll := in_wA12 _ (List.mem_of_getElem? (i := 54) rfl)
theorem q775 : (.methodLink RX12 104 yJ0_length_8abf5 : Cond) ∈ wAll := in_wA12 _ (List.mem_of_getElem? (i := 55) rfl)
theorem q776 : (.methodLink RX12 109 yJ0_charAt_5068e : Cond) ∈ wAll := in_wA12 _ (List.mem_of_getElem? (i := 56) rfl)
theorem q777 : (.code yX12_wordHere cX12_wordHere 7 (some .int) : Cond) ∈ wAll := in_wA12 _ (List.mem_of_getElem? (i := 57) rfl)
theorem q778 : (.code yX12_numeral cX12_numeral 4 (some .int) : Cond) ∈ wAll := in_wA12 _ (List.mem_of_getElem? (i := 58) rfl)
theorem q779 : (.fieldLink RX12 120 "FlickerDeskModel" "readAt" "I" : Cond) ∈ wAll := in_wA12 _ (List.mem_of_getElem? (i := 59) rfl)
theorem q780 : (.methodLink RX12 113 yX12_isDigit : Cond) ∈ wAll := in_wA13 _ (List.mem_of_getElem? (i := 0) rfl)
theorem q781 : (.static yX12_isDigit : Cond) ∈ wAll := in_wA13 _ (List.mem_of_getElem? (i := 1) rfl)
theorem q782 : (.methodLink RX12 116 yX12_fails : Cond) ∈ wAll := in_wA13 _ (List.mem_of_getElem? (i := 2) rfl)
theorem q783 : (.instanceMethod yX12_fails : Cond) ∈ wAll := in_wA13 _ (List.mem_of_getElem? (i := 3) rfl)
theorem q784 : (.selects RX12 yX12_fails yX12_fails : Cond) ∈ wAll := in_wA13 _ (List.mem_of_getElem? (i := 4) rfl)
theorem q785 : (.code yX12_dots cX12_dots 1 (some .int) : Cond) ∈ wAll := in_wA13 _ (List.mem_of_getElem? (i := 5) rfl)
theorem q786 : (.constantLong RX12 123 (112) : Cond) ∈ wAll := in_wA13 _ (List.mem_of_getElem? (i := 6) rfl)
theorem q787 : (.methodLink RX12 125 yX12_numeral : Cond) ∈ wAll := in_wA13 _ (List.mem_of_getElem? (i := 7) rfl)
theorem q788 : (.instanceMethod yX12_numeral : Cond) ∈ wAll := in_wA13 _ (List.mem_of_getElem? (i := 8) rfl)
theorem q789 : (.selects RX12 yX12_numeral yX12_numeral : Cond) ∈ wAll := in_wA13 _ (List.mem_of_getElem? (i := 9) rfl)
theorem q790 : (.methodLink RX12 129 yX12_dots : Cond) ∈ wAll := in_wA13 _ (List.mem_of_getElem? (i := 10) rfl)
theorem q791 : (.instanceMethod yX12_dots : Cond) ∈ wAll := in_wA13 _ (List.mem_of_getElem? (i := 11) rfl)
theorem q792 : (.selects RX12 yX12_dots yX12_dots : Cond) ∈ wAll := in_wA13 _ (List.mem_of_getElem? (i := 12) rfl)
theorem q793 : (.code yX12_frameRead cX12_frameRead 7 none : Cond) ∈ wAll := in_wA13 _ (List.mem_of_getElem? (i := 13) rfl)
theorem q794 : (.fieldLink RX12 151 "FlickerDeskModel" "seenFar" "I" : Cond) ∈ wAll := in_wA13 _ (List.mem_of_getElem? (i := 14) rfl)
theorem q795 : (.code yX12_weightRead cX12_weightRead 3 none : Cond) ∈ wAll := in_wA13 _ (List.mem_of_getElem? (i := 15) rfl)
theorem q796 : (.code yX12_bitRead cX12_bitRead 3 none : Cond) ∈ wAll := in_wA13 _ (List.mem_of_getElem? (i := 16) rfl)
theorem q797 : (.methodLink RX12 142 yX12_frameRead : Cond) ∈ wAll := in_wA13 _ (List.mem_of_getElem? (i := 17) rfl)
theorem q798 : (.instanceMethod yX12_frameRead : Cond) ∈ wAll := in_wA13 _ (List.mem_of_getElem? (i := 18) rfl)
theorem q799 : (.selects RX12 yX12_frameRead yX12_frameRead : Cond) ∈ wAll := in_wA13 _ (List.mem_of_getElem? (i := 19) rfl)
theorem q800 : (.methodLink RX12 145 yX12_weightRead : Cond) ∈ wAll := in_wA13 _ (List.mem_of_getElem? (i := 20) rfl)
theorem q801 : (.instanceMethod yX12_weightRead : Cond) ∈ wAll := in_wA13 _ (List.mem_of_getElem? (i := 21) rfl)
theorem q802 : (.selects RX12 yX12_weightRead yX12_weightRead : Cond) ∈ wAll := in_wA13 _ (List.mem_of_getElem? (i := 22) rfl)
theorem q803 : (.methodLink RX12 148 yX12_bitRead : Cond) ∈ wAll := in_wA13 _ (List.mem_of_getElem? (i := 23) rfl)
theorem q804 : (.instanceMethod yX12_bitRead : Cond) ∈ wAll := in_wA13 _ (List.mem_of_getElem? (i := 24) rfl)
theorem q805 : (.selects RX12 yX12_bitRead yX12_bitRead : Cond) ∈ wAll := in_wA13 _ (List.mem_of_getElem? (i := 25) rfl)
theorem q806 : (.code yX12_behind cX12_behind 2 none : Cond) ∈ wAll := in_wA13 _ (List.mem_of_getElem? (i := 26) rfl)
theorem q807 : (.fieldLink RX12 135 "FlickerDeskModel" "seen" "I" : Cond) ∈ wAll := in_wA13 _ (List.mem_of_getElem? (i := 27) rfl)
theorem q808 : (.methodLink RX12 132 yX12_wordHere : Cond) ∈ wAll := in_wA13 _ (List.mem_of_getElem? (i := 28) rfl)
theorem q809 : (.instanceMethod yX12_wordHere : Cond) ∈ wAll := in_wA13 _ (List.mem_of_getElem? (i := 29) rfl)
theorem q810 : (.selects RX12 yX12_wordHere yX12_wordHere : Cond) ∈ wAll := in_wA13 _ (List.mem_of_getElem? (i := 30) rfl)
theorem q811 : (.methodLink RX12 138 yX12_behind : Cond) ∈ wAll := in_wA13 _ (List.mem_of_getElem? (i := 31) rfl)
theorem q812 : (.instanceMethod yX12_behind : Cond) ∈ wAll := in_wA13 _ (List.mem_of_getElem? (i := 32) rfl)
theorem q813 : (.selects RX12 yX12_behind yX12_behind : Cond) ∈ wAll := in_wA13 _ (List.mem_of_getElem? (i := 33) rfl)
theorem q814 : (.code yX12_lineRead cX12_lineRead 5 none : Cond) ∈ wAll := in_wA13 _ (List.mem_of_getElem? (i := 34) rfl)
theorem q815 : (.fieldLink RX12 157 "FlickerDeskModel" "actMany" "I" : Cond) ∈ wAll := in_wA13 _ (List.mem_of_getElem? (i := 35) rfl)
theorem q816 : (.methodLink RX12 154 yX12_lineRead : Cond) ∈ wAll := in_wA13 _ (List.mem_of_getElem? (i := 36) rfl)
theorem q817 : (.instanceMethod yX12_lineRead : Cond) ∈ wAll := in_wA13 _ (List.mem_of_getElem? (i := 37) rfl)
theorem q818 : (.selects RX12 yX12_lineRead yX12_lineRead : Cond) ∈ wAll := in_wA13 _ (List.mem_of_getElem? (i := 38) rfl)
theorem q819 : (.code yX12_tell cX12_tell 3 (some .int) : Cond) ∈ wAll := in_wA13 _ (List.mem_of_getElem? (i := 39) rfl)
theorem q820 : (.code yX12_fault cX12_fault 2 (some .int) : Cond) ∈ wAll := in_wA13 _ (List.mem_of_getElem? (i := 40) rfl)
theorem q821 : (.code yX12_isFrame cX12_isFrame 2 (some .boolean) : Cond) ∈ wAll := in_wA13 _ (List.mem_of_getElem? (i := 41) rfl)
theorem q822 : (.code yX12_isPlace cX12_isPlace 2 (some .boolean) : Cond) ∈ wAll := in_wA13 _ (List.mem_of_getElem? (i := 42) rfl)
theorem q823 : (.code yX12_isShade cX12_isShade 1 (some .boolean) : Cond) ∈ wAll := in_wA13 _ (List.mem_of_getElem? (i := 43) rfl)
theorem q824 : (.constantLong RX12 160 (15) : Cond) ∈ wAll := in_wA13 _ (List.mem_of_getElem? (i := 44) rfl)
theorem q825 : (.code yX12_remembers cX12_remembers 2 none : Cond) ∈ wAll := in_wA13 _ (List.mem_of_getElem? (i := 45) rfl)
theorem q826 : (.code yX12_canSet cX12_canSet 3 (some .boolean) : Cond) ∈ wAll := in_wA13 _ (List.mem_of_getElem? (i := 46) rfl)
theorem q827 : (.constantLong RX12 162 (3) : Cond) ∈ wAll := in_wA13 _ (List.mem_of_getElem? (i := 47) rfl)
theorem q828 : (.constantLong RX12 167 (999) : Cond) ∈ wAll := in_wA13 _ (List.mem_of_getElem? (i := 48) rfl)
theorem q829 : (.constantLong RX12 169 (2) : Cond) ∈ wAll := in_wA13 _ (List.mem_of_getElem? (i := 49) rfl)
theorem q830 : (.methodLink RX12 164 yX12_isShade : Cond) ∈ wAll := in_wA13 _ (List.mem_of_getElem? (i := 50) rfl)
theorem q831 : (.static yX12_isShade : Cond) ∈ wAll := in_wA13 _ (List.mem_of_getElem? (i := 51) rfl)
theorem q832 : (.code yX12_set cX12_set 4 (some .int) : Cond) ∈ wAll := in_wA13 _ (List.mem_of_getElem? (i := 52) rfl)
theorem q833 : (.constantLong RX12 171 (5) : Cond) ∈ wAll := in_wA13 _ (List.mem_of_getElem? (i := 53) rfl)
theorem q834 : (.methodLink RX12 173 yX12_canSet : Cond) ∈ wAll := in_wA13 _ (List.mem_of_getElem? (i := 54) rfl)
theorem q835 : (.instanceMethod yX12_canSet : Cond) ∈ wAll := in_wA13 _ (List.mem_of_getElem? (i := 55) rfl)
theorem q836 : (.selects RX12 yX12_canSet yX12_canSet : Cond) ∈ wAll := in_wA13 _ (List.mem_of_getElem? (i := 56) rfl)
theorem q837 : (.methodLink RX12 177 yX12_remembers : Cond) ∈ wAll := in_wA13 _ (List.mem_of_getElem? (i := 57) rfl)
theorem q838 : (.instanceMethod yX12_remembers : Cond) ∈ wAll := in_wA13 _ (List.mem_of_getElem? (i := 58) rfl)
theorem q839 : (.selects RX12 yX12_remembers yX12_remembers : Cond) ∈ wAll := in_wA13 _ (List.mem_of_getElem? (i := 59) rfl)
theorem q840 : (.code yX12_weight cX12_weight 4 (some .int) : Cond) ∈ wAll := in_wA14 _ (List.mem_of_getElem? (i := 0) rfl)
theorem q841 : (.constantLong RX12 180 (9) : Cond) ∈ wAll := in_wA14 _ (List.mem_of_getElem? (i := 1) rfl)
theorem q842 : (.code yX12_dotAt cX12_dotAt 3 (some .int) : Cond) ∈ wAll := in_wA14 _ (List.mem_of_getElem? (i := 2) rfl)
theorem q843 : (.code yX12_off cX12_off 2 (some .int) : Cond) ∈ wAll := in_wA14 _ (List.mem_of_getElem? (i := 3) rfl)
theorem q844 : (.code yX12_apartBy cX12_apartBy 5 (some .int) : Cond) ∈ wAll := in_wA14 _ (List.mem_of_getElem? (i := 4) rfl)
theorem q845 : (.methodLink RX12 203 yX12_off : Cond) ∈ wAll := in_wA14 _ (List.mem_of_getElem? (i := 5) rfl)
theorem q846 : (.static yX12_off : Cond) ∈ wAll := in_wA14 _ (List.mem_of_getElem? (i := 6) rfl)
theorem q847 : (.code yX12_lays cX12_lays 4 none : Cond) ∈ wAll := in_wA14 _ (List.mem_of_getElem? (i := 7) rfl)
theorem q848 : (.methodLink RX12 200 yX12_dotAt : Cond) ∈ wAll := in_wA14 _ (List.mem_of_getElem? (i := 8) rfl)
theorem q849 : (.instanceMethod yX12_dotAt : Cond) ∈ wAll := in_wA14 _ (List.mem_of_getElem? (i := 9) rfl)
theorem q850 : (.selects RX12 yX12_dotAt yX12_dotAt : Cond) ∈ wAll := in_wA14 _ (List.mem_of_getElem? (i := 10) rfl)
theorem q851 : (.methodLink RX12 206 yX12_apartBy : Cond) ∈ wAll := in_wA14 _ (List.mem_of_getElem? (i := 11) rfl)
theorem q852 : (.static yX12_apartBy : Cond) ∈ wAll := in_wA14 _ (List.mem_of_getElem? (i := 12) rfl)
theorem q853 : (.code yX12_scenes cX12_scenes 3 (some .int) : Cond) ∈ wAll := in_wA14 _ (List.mem_of_getElem? (i := 13) rfl)
theorem q854 : (.methodLink RX12 182 yX12_isFrame : Cond) ∈ wAll := in_wA14 _ (List.mem_of_getElem? (i := 14) rfl)
theorem q855 : (.instanceMethod yX12_isFrame : Cond) ∈ wAll := in_wA14 _ (List.mem_of_getElem? (i := 15) rfl)
theorem q856 : (.selects RX12 yX12_isFrame yX12_isFrame : Cond) ∈ wAll := in_wA14 _ (List.mem_of_getElem? (i := 16) rfl)
theorem q857 : (.methodLink RX12 185 yX12_lays : Cond) ∈ wAll := in_wA14 _ (List.mem_of_getElem? (i := 17) rfl)
theorem q858 : (.instanceMethod yX12_lays : Cond) ∈ wAll := in_wA14 _ (List.mem_of_getElem? (i := 18) rfl)
theorem q859 : (.selects RX12 yX12_lays yX12_lays : Cond) ∈ wAll := in_wA14 _ (List.mem_of_getElem? (i := 19) rfl)
theorem q860 : (.methodLink RX12 188 yX12_scenes : Cond) ∈ wAll := in_wA14 _ (List.mem_of_getElem? (i := 20) rfl)
theorem q861 : (.instanceMethod yX12_scenes : Cond) ∈ wAll := in_wA14 _ (List.mem_of_getElem? (i := 21) rfl)
theorem q862 : (.selects RX12 yX12_scenes yX12_scenes : Cond) ∈ wAll := in_wA14 _ (List.mem_of_getElem? (i := 22) rfl)
theorem q863 : (.code yX12_cut cX12_cut 2 (some .int) : Cond) ∈ wAll := in_wA14 _ (List.mem_of_getElem? (i := 23) rfl)
theorem q864 : (.code yJ6_bitCount_0f7a4 cJ6_bitCount_0f7a4 1 (some .int) : Cond) ∈ wAll := in_wA14 _ (List.mem_of_getElem? (i := 24) rfl)
theorem q865 : (.constant RJ6 265 (1431655765) : Cond) ∈ wAll := in_wA14 _ (List.mem_of_getElem? (i := 25) rfl)
theorem q866 : (.constant RJ6 266 (858993459) : Cond) ∈ wAll := in_wA14 _ (List.mem_of_getElem? (i := 26) rfl)
theorem q867 : (.constant RJ6 267 (252645135) : Cond) ∈ wAll := in_wA14 _ (List.mem_of_getElem? (i := 27) rfl)
theorem q868 : (.code yX12_skip cX12_skip 2 (some .int) : Cond) ∈ wAll := in_wA14 _ (List.mem_of_getElem? (i := 28) rfl)
theorem q869 : (.methodLink RX12 191 yJ6_bitCount_0f7a4 : Cond) ∈ wAll := in_wA14 _ (List.mem_of_getElem? (i := 29) rfl)
theorem q870 : (.static yJ6_bitCount_0f7a4 : Cond) ∈ wAll := in_wA14 _ (List.mem_of_getElem? (i := 30) rfl)
theorem q871 : (.initialized RJ6 : Cond) ∈ wAll := in_wA14 _ (List.mem_of_getElem? (i := 31) rfl)
theorem q872 : (.methodLink RX12 197 yX12_isPlace : Cond) ∈ wAll := in_wA14 _ (List.mem_of_getElem? (i := 32) rfl)
theorem q873 : (.instanceMethod yX12_isPlace : Cond) ∈ wAll := in_wA14 _ (List.mem_of_getElem? (i := 33) rfl)
theorem q874 : (.selects RX12 yX12_isPlace yX12_isPlace : Cond) ∈ wAll := in_wA14 _ (List.mem_of_getElem? (i := 34) rfl)
theorem q875 : (.code yX12_dot cX12_dot 5 (some .int) : Cond) ∈ wAll := in_wA14 _ (List.mem_of_getElem? (i := 35) rfl)
theorem q876 : (.code yX12_undo cX12_undo 2 (some .int) : Cond) ∈ wAll := in_wA14 _ (List.mem_of_getElem? (i := 36) rfl)
theorem q877 : (.code yX12_cumAt cX12_cumAt 3 (some .int) : Cond) ∈ wAll := in_wA14 _ (List.mem_of_getElem? (i := 37) rfl)
theorem q878 : (.code yX12_sceneOf cX12_sceneOf 4 (some .int) : Cond) ∈ wAll := in_wA14 _ (List.mem_of_getElem? (i := 38) rfl)
theorem q879 : (.code yX12_isSkipped cX12_isSkipped 2 (some .boolean) : Cond) ∈ wAll := in_wA14 _ (List.mem_of_getElem? (i := 39) rfl)
theorem q880 : (.code yX12_awayFrom cX12_awayFrom 6 (some .int) : Cond) ∈ wAll := in_wA14 _ (List.mem_of_getElem? (i := 40) rfl)
theorem q881 : (.code yX12_midst cX12_midst 5 (some .int) : Cond) ∈ wAll := in_wA14 _ (List.mem_of_getElem? (i := 41) rfl)
theorem q882 : (.methodLink RX12 210 yX12_awayFrom : Cond) ∈ wAll := in_wA14 _ (List.mem_of_getElem? (i := 42) rfl)
theorem q883 : (.instanceMethod yX12_awayFrom : Cond) ∈ wAll := in_wA14 _ (List.mem_of_getElem? (i := 43) rfl)
theorem q884 : (.selects RX12 yX12_awayFrom yX12_awayFrom : Cond) ∈ wAll := in_wA14 _ (List.mem_of_getElem? (i := 44) rfl)
theorem q885 : (.code yX12_firstOfScene cX12_firstOfScene 3 (some .int) : Cond) ∈ wAll := in_wA14 _ (List.mem_of_getElem? (i := 45) rfl)
theorem q886 : (.methodLink RX12 214 yX12_sceneOf : Cond) ∈ wAll := in_wA14 _ (List.mem_of_getElem? (i := 46) rfl)
theorem q887 : (.instanceMethod yX12_sceneOf : Cond) ∈ wAll := in_wA14 _ (List.mem_of_getElem? (i := 47) rfl)
theorem q888 : (.selects RX12 yX12_sceneOf yX12_sceneOf : Cond) ∈ wAll := in_wA14 _ (List.mem_of_getElem? (i := 48) rfl)
theorem q889 : (.methodLink RX12 217 yX12_firstOfScene : Cond) ∈ wAll := in_wA14 _ (List.mem_of_getElem? (i := 49) rfl)
theorem q890 : (.instanceMethod yX12_firstOfScene : Cond) ∈ wAll := in_wA14 _ (List.mem_of_getElem? (i := 50) rfl)
theorem q891 : (.selects RX12 yX12_firstOfScene yX12_firstOfScene : Cond) ∈ wAll := in_wA14 _ (List.mem_of_getElem? (i := 51) rfl)
theorem q892 : (.methodLink RX12 220 yX12_midst : Cond) ∈ wAll := in_wA14 _ (List.mem_of_getElem? (i := 52) rfl)
theorem q893 : (.instanceMethod yX12_midst : Cond) ∈ wAll := in_wA14 _ (List.mem_of_getElem? (i := 53) rfl)
theorem q894 : (.selects RX12 yX12_midst yX12_midst : Cond) ∈ wAll := in_wA14 _ (List.mem_of_getElem? (i := 54) rfl)
theorem q895 : (.code yX12_keyOf cX12_keyOf 4 (some .int) : Cond) ∈ wAll := in_wA14 _ (List.mem_of_getElem? (i := 55) rfl)
theorem q896 : (.fieldLink RX12 223 "FlickerDeskModel" "windowMany" "I" : Cond) ∈ wAll := in_wA14 _ (List.mem_of_getElem? (i := 56) rfl)
theorem q897 : (.methodLink RX12 226 yX12_isSkipped : Cond) ∈ wAll := in_wA14 _ (List.mem_of_getElem? (i := 57) rfl)
theorem q898 : (.instanceMethod yX12_isSkipped : Cond) ∈ wAll := in_wA14 _ (List.mem_of_getElem? (i := 58) rfl)
theorem q899 : (.selects RX12 yX12_isSkipped yX12_isSkipped : Cond) ∈ wAll := in_wA14 _ (List.mem_of_getElem? (i := 59) rfl)
theorem q900 : (.methodLink RX12 229 yX12_cumAt : Cond) ∈ wAll := in_wA15 _ (List.mem_of_getElem? (i := 0) rfl)
theorem q901 : (.instanceMethod yX12_cumAt : Cond) ∈ wAll := in_wA15 _ (List.mem_of_getElem? (i := 1) rfl)
theorem q902 : (.selects RX12 yX12_cumAt yX12_cumAt : Cond) ∈ wAll := in_wA15 _ (List.mem_of_getElem? (i := 2) rfl)
theorem q903 : (.methodLink RX12 232 yX12_keyOf : Cond) ∈ wAll := in_wA15 _ (List.mem_of_getElem? (i := 3) rfl)
theorem q904 : (.instanceMethod yX12_keyOf : Cond) ∈ wAll := in_wA15 _ (List.mem_of_getElem? (i := 4) rfl)
theorem q905 : (.selects RX12 yX12_keyOf yX12_keyOf : Cond) ∈ wAll := in_wA15 _ (List.mem_of_getElem? (i := 5) rfl)
theorem q906 : (.code yX12_laysTarget cX12_laysTarget 6 none : Cond) ∈ wAll := in_wA15 _ (List.mem_of_getElem? (i := 6) rfl)
theorem q907 : (.code yX12_isKept cX12_isKept 2 (some .boolean) : Cond) ∈ wAll := in_wA15 _ (List.mem_of_getElem? (i := 7) rfl)
theorem q908 : (.code yX12_boundedTo cX12_boundedTo 5 (some .int) : Cond) ∈ wAll := in_wA15 _ (List.mem_of_getElem? (i := 8) rfl)
theorem q909 : (.methodLink RX12 235 yX12_laysTarget : Cond) ∈ wAll := in_wA15 _ (List.mem_of_getElem? (i := 9) rfl)
theorem q910 : (.instanceMethod yX12_laysTarget : Cond) ∈ wAll := in_wA15 _ (List.mem_of_getElem? (i := 10) rfl)
theorem q911 : (.selects RX12 yX12_laysTarget yX12_laysTarget : Cond) ∈ wAll := in_wA15 _ (List.mem_of_getElem? (i := 11) rfl)
theorem q912 : (.methodLink RX12 238 yX12_isKept : Cond) ∈ wAll := in_wA15 _ (List.mem_of_getElem? (i := 12) rfl)
theorem q913 : (.instanceMethod yX12_isKept : Cond) ∈ wAll := in_wA15 _ (List.mem_of_getElem? (i := 13) rfl)
theorem q914 : (.selects RX12 yX12_isKept yX12_isKept : Cond) ∈ wAll := in_wA15 _ (List.mem_of_getElem? (i := 14) rfl)
theorem q915 : (.methodLink RX12 241 yX12_boundedTo : Cond) ∈ wAll := in_wA15 _ (List.mem_of_getElem? (i := 15) rfl)
theorem q916 : (.instanceMethod yX12_boundedTo : Cond) ∈ wAll := in_wA15 _ (List.mem_of_getElem? (i := 16) rfl)
theorem q917 : (.selects RX12 yX12_boundedTo yX12_boundedTo : Cond) ∈ wAll := in_wA15 _ (List.mem_of_getElem? (i := 17) rfl)
theorem q918 : (.code yX12_laysTable cX12_laysTable 3 none : Cond) ∈ wAll := in_wA15 _ (List.mem_of_getElem? (i := 18) rfl)
theorem q919 : (.code yX12_roundOf cX12_roundOf 8 (some .int) : Cond) ∈ wAll := in_wA15 _ (List.mem_of_getElem? (i := 19) rfl)
theorem q920 : (.code yX12_laysOrders cX12_laysOrders 3 none : Cond) ∈ wAll := in_wA15 _ (List.mem_of_getElem? (i := 20) rfl)
theorem q921 : (.methodLink RX12 244 yX12_roundOf : Cond) ∈ wAll := in_wA15 _ (List.mem_of_getElem? (i := 21) rfl)
theorem q922 : (.instanceMethod yX12_roundOf : Cond) ∈ wAll := in_wA15 _ (List.mem_of_getElem? (i := 22) rfl)
theorem q923 : (.selects RX12 yX12_roundOf yX12_roundOf : Cond) ∈ wAll := in_wA15 _ (List.mem_of_getElem? (i := 23) rfl)
theorem q924 : (.code yX12_rankOf cX12_rankOf 4 (some .int) : Cond) ∈ wAll := in_wA15 _ (List.mem_of_getElem? (i := 24) rfl)
theorem q925 : (.methodLink RX12 247 yX12_laysTable : Cond) ∈ wAll := in_wA15 _ (List.mem_of_getElem? (i := 25) rfl)
theorem q926 : (.instanceMethod yX12_laysTable : Cond) ∈ wAll := in_wA15 _ (List.mem_of_getElem? (i := 26) rfl)
theorem q927 : (.selects RX12 yX12_laysTable yX12_laysTable : Cond) ∈ wAll := in_wA15 _ (List.mem_of_getElem? (i := 27) rfl)
theorem q928 : (.methodLink RX12 250 yX12_laysOrders : Cond) ∈ wAll := in_wA15 _ (List.mem_of_getElem? (i := 28) rfl)
theorem q929 : (.instanceMethod yX12_laysOrders : Cond) ∈ wAll := in_wA15 _ (List.mem_of_getElem? (i := 29) rfl)
theorem q930 : (.selects RX12 yX12_laysOrders yX12_laysOrders : Cond) ∈ wAll := in_wA15 _ (List.mem_of_getElem? (i := 30) rfl)
theorem q931 : (.methodLink RX12 253 yX12_rankOf : Cond) ∈ wAll := in_wA15 _ (List.mem_of_getElem? (i := 31) rfl)
theorem q932 : (.instanceMethod yX12_rankOf : Cond) ∈ wAll := in_wA15 _ (List.mem_of_getElem? (i := 32) rfl)
theorem q933 : (.selects RX12 yX12_rankOf yX12_rankOf : Cond) ∈ wAll := in_wA15 _ (List.mem_of_getElem? (i := 33) rfl)
theorem q934 : (.code yX12_evens cX12_evens 6 none : Cond) ∈ wAll := in_wA15 _ (List.mem_of_getElem? (i := 34) rfl)
theorem q935 : (.methodLink RX12 256 yX12_evens : Cond) ∈ wAll := in_wA15 _ (List.mem_of_getElem? (i := 35) rfl)
theorem q936 : (.instanceMethod yX12_evens : Cond) ∈ wAll := in_wA15 _ (List.mem_of_getElem? (i := 36) rfl)
theorem q937 : (.selects RX12 yX12_evens yX12_evens : Cond) ∈ wAll := in_wA15 _ (List.mem_of_getElem? (i := 37) rfl)
theorem q938 : (.code yX12_evensAll cX12_evensAll 2 none : Cond) ∈ wAll := in_wA15 _ (List.mem_of_getElem? (i := 38) rfl)
theorem q939 : (.code yX12_changedOf cX12_changedOf 4 (some .int) : Cond) ∈ wAll := in_wA15 _ (List.mem_of_getElem? (i := 39) rfl)
theorem q940 : (.methodLink RX12 259 yX12_evensAll : Cond) ∈ wAll := in_wA15 _ (List.mem_of_getElem? (i := 40) rfl)
theorem q941 : (.instanceMethod yX12_evensAll : Cond) ∈ wAll := in_wA15 _ (List.mem_of_getElem? (i := 41) rfl)
theorem q942 : (.selects RX12 yX12_evensAll yX12_evensAll : Cond) ∈ wAll := in_wA15 _ (List.mem_of_getElem? (i := 42) rfl)
theorem q943 : (.methodLink RX12 262 yX12_changedOf : Cond) ∈ wAll := in_wA15 _ (List.mem_of_getElem? (i := 43) rfl)
theorem q944 : (.instanceMethod yX12_changedOf : Cond) ∈ wAll := in_wA15 _ (List.mem_of_getElem? (i := 44) rfl)
theorem q945 : (.selects RX12 yX12_changedOf yX12_changedOf : Cond) ∈ wAll := in_wA15 _ (List.mem_of_getElem? (i := 45) rfl)
theorem q946 : (.code yX12_takes cX12_takes 4 (some .int) : Cond) ∈ wAll := in_wA15 _ (List.mem_of_getElem? (i := 46) rfl)
theorem q947 : (.methodLink RX12 265 yX12_takes : Cond) ∈ wAll := in_wA15 _ (List.mem_of_getElem? (i := 47) rfl)
theorem q948 : (.instanceMethod yX12_takes : Cond) ∈ wAll := in_wA15 _ (List.mem_of_getElem? (i := 48) rfl)
theorem q949 : (.selects RX12 yX12_takes yX12_takes : Cond) ∈ wAll := in_wA15 _ (List.mem_of_getElem? (i := 49) rfl)
theorem q950 : (.code yX12_take cX12_take 1 (some .int) : Cond) ∈ wAll := in_wA15 _ (List.mem_of_getElem? (i := 50) rfl)
theorem q951 : (.code yX12_laysAside cX12_laysAside 2 none : Cond) ∈ wAll := in_wA15 _ (List.mem_of_getElem? (i := 51) rfl)
theorem q952 : (.code yX12_comesBack cX12_comesBack 2 none : Cond) ∈ wAll := in_wA15 _ (List.mem_of_getElem? (i := 52) rfl)
theorem q953 : (.code yX12_flickerBy cX12_flickerBy 4 (some .int) : Cond) ∈ wAll := in_wA15 _ (List.mem_of_getElem? (i := 53) rfl)
theorem q954 : (.constantLong RX12 268 (10) : Cond) ∈ wAll := in_wA15 _ (List.mem_of_getElem? (i := 54) rfl)
theorem q955 : (.methodLink RX12 270 yX12_laysAside : Cond) ∈ wAll := in_wA15 _ (List.mem_of_getElem? (i := 55) rfl)
theorem q956 : (.instanceMethod yX12_laysAside : Cond) ∈ wAll := in_wA15 _ (List.mem_of_getElem? (i := 56) rfl)
theorem q957 : (.selects RX12 yX12_laysAside yX12_laysAside : Cond) ∈ wAll := in_wA15 _ (List.mem_of_getElem? (i := 57) rfl)
theorem q958 : (.methodLink RX12 273 yX12_flickerBy : Cond) ∈ wAll := in_wA15 _ (List.mem_of_getElem? (i := 58) rfl)
theorem q959 : (.instanceMethod yX12_flickerBy : Cond) ∈ wAll := in_wA15 _ (List.mem_of_getElem? (i := 59) rfl)
theorem q960 : (.selects RX12 yX12_flickerBy yX12_flickerBy : Cond) ∈ wAll := in_wA16 _ (List.mem_of_getElem? (i := 0) rfl)
theorem q961 : (.methodLink RX12 277 yX12_comesBack : Cond) ∈ wAll := in_wA16 _ (List.mem_of_getElem? (i := 1) rfl)
theorem q962 : (.instanceMethod yX12_comesBack : Cond) ∈ wAll := in_wA16 _ (List.mem_of_getElem? (i := 2) rfl)
theorem q963 : (.selects RX12 yX12_comesBack yX12_comesBack : Cond) ∈ wAll := in_wA16 _ (List.mem_of_getElem? (i := 3) rfl)
theorem q964 : (.code yX12_rounds cX12_rounds 3 (some .int) : Cond) ∈ wAll := in_wA16 _ (List.mem_of_getElem? (i := 4) rfl)
theorem q965 : (.code yX12_settles cX12_settles 2 (some .int) : Cond) ∈ wAll := in_wA16 _ (List.mem_of_getElem? (i := 5) rfl)
theorem q966 : (.code yX12_key cX12_key 2 (some .int) : Cond) ∈ wAll := in_wA16 _ (List.mem_of_getElem? (i := 6) rfl)
theorem q967 : (.code yX12_laysParts cX12_laysParts 8 none : Cond) ∈ wAll := in_wA16 _ (List.mem_of_getElem? (i := 7) rfl)
theorem q968 : (.constant RX12 280 (100000000) : Cond) ∈ wAll := in_wA16 _ (List.mem_of_getElem? (i := 8) rfl)
theorem q969 : (.constantLong RX12 281 (8) : Cond) ∈ wAll := in_wA16 _ (List.mem_of_getElem? (i := 9) rfl)
theorem q970 : (.methodLink RX12 283 yX12_laysParts : Cond) ∈ wAll := in_wA16 _ (List.mem_of_getElem? (i := 10) rfl)
theorem q971 : (.instanceMethod yX12_laysParts : Cond) ∈ wAll := in_wA16 _ (List.mem_of_getElem? (i := 11) rfl)
theorem q972 : (.selects RX12 yX12_laysParts yX12_laysParts : Cond) ∈ wAll := in_wA16 _ (List.mem_of_getElem? (i := 12) rfl)
theorem q973 : (.code yX12_parted cX12_parted 6 (some .int) : Cond) ∈ wAll := in_wA16 _ (List.mem_of_getElem? (i := 13) rfl)
theorem q974 : (.code yX12_likeBy cX12_likeBy 8 (some .int) : Cond) ∈ wAll := in_wA16 _ (List.mem_of_getElem? (i := 14) rfl)
theorem q975 : (.methodLink RX12 286 yX12_likeBy : Cond) ∈ wAll := in_wA16 _ (List.mem_of_getElem? (i := 15) rfl)
theorem q976 : (.instanceMethod yX12_likeBy : Cond) ∈ wAll := in_wA16 _ (List.mem_of_getElem? (i := 16) rfl)
theorem q977 : (.selects RX12 yX12_likeBy yX12_likeBy : Cond) ∈ wAll := in_wA16 _ (List.mem_of_getElem? (i := 17) rfl)
theorem q978 : (.code yX12_shift cX12_shift 9 (some .int) : Cond) ∈ wAll := in_wA16 _ (List.mem_of_getElem? (i := 18) rfl)
theorem q979 : (.code yX12_shade cX12_shade 4 (some .int) : Cond) ∈ wAll := in_wA16 _ (List.mem_of_getElem? (i := 19) rfl)
theorem q980 : (.code yX12_countIn cX12_countIn 3 (some .int) : Cond) ∈ wAll := in_wA16 _ (List.mem_of_getElem? (i := 20) rfl)
theorem q981 : (.constantLong RX12 289 (4) : Cond) ∈ wAll := in_wA16 _ (List.mem_of_getElem? (i := 21) rfl)
theorem q982 : (.methodLink RX12 291 yX12_countIn : Cond) ∈ wAll := in_wA16 _ (List.mem_of_getElem? (i := 22) rfl)
theorem q983 : (.static yX12_countIn : Cond) ∈ wAll := in_wA16 _ (List.mem_of_getElem? (i := 23) rfl)
theorem q984 : (.code yX12_level cX12_level 4 (some .int) : Cond) ∈ wAll := in_wA16 _ (List.mem_of_getElem? (i := 24) rfl)
theorem q985 : (.code yX12_shadesIn cX12_shadesIn 4 (some .int) : Cond) ∈ wAll := in_wA16 _ (List.mem_of_getElem? (i := 25) rfl)
theorem q986 : (.methodLink RX12 294 yX12_shadesIn : Cond) ∈ wAll := in_wA16 _ (List.mem_of_getElem? (i := 26) rfl)
theorem q987 : (.static yX12_shadesIn : Cond) ∈ wAll := in_wA16 _ (List.mem_of_getElem? (i := 27) rfl)
theorem q988 : (.code yX12_frame cX12_frame 5 (some .int) : Cond) ∈ wAll := in_wA16 _ (List.mem_of_getElem? (i := 28) rfl)
theorem q989 : (.code yX12_apart cX12_apart 4 (some .int) : Cond) ∈ wAll := in_wA16 _ (List.mem_of_getElem? (i := 29) rfl)
theorem q990 : (.code yX12_scene cX12_scene 3 (some .int) : Cond) ∈ wAll := in_wA16 _ (List.mem_of_getElem? (i := 30) rfl)
theorem q991 : (.code yX12_rank cX12_rank 3 (some .int) : Cond) ∈ wAll := in_wA16 _ (List.mem_of_getElem? (i := 31) rfl)
theorem q992 : (.code yX12_inverse cX12_inverse 4 (some .int) : Cond) ∈ wAll := in_wA16 _ (List.mem_of_getElem? (i := 32) rfl)
theorem q993 : (.code yX12_flicker cX12_flicker 2 (some .int) : Cond) ∈ wAll := in_wA16 _ (List.mem_of_getElem? (i := 33) rfl)
theorem q994 : (.code yX12_steady cX12_steady 2 (some .int) : Cond) ∈ wAll := in_wA16 _ (List.mem_of_getElem? (i := 34) rfl)
theorem q995 : (.code yX12_bestRadius cX12_bestRadius 6 (some .int) : Cond) ∈ wAll := in_wA16 _ (List.mem_of_getElem? (i := 35) rfl)
theorem q996 : (.code yX12_leastStep cX12_leastStep 5 (some .int) : Cond) ∈ wAll := in_wA16 _ (List.mem_of_getElem? (i := 36) rfl)
theorem q997 : (.code yX12_isFlash cX12_isFlash 3 (some .boolean) : Cond) ∈ wAll := in_wA16 _ (List.mem_of_getElem? (i := 37) rfl)
theorem q998 : (.methodLink RX12 298 yX12_isFlash : Cond) ∈ wAll := in_wA16 _ (List.mem_of_getElem? (i := 38) rfl)
theorem q999 : (.instanceMethod yX12_isFlash : Cond) ∈ wAll := in_wA16 _ (List.mem_of_getElem? (i := 39) rfl)
theorem q1000 : (.selects RX12 yX12_isFlash yX12_isFlash : Cond) ∈ wAll := in_wA16 _ (List.mem_of_getElem? (i := 40) rfl)
theorem q1001 : (.code yX12_flash cX12_flash 5 (some .int) : Cond) ∈ wAll := in_wA16 _ (List.mem_of_getElem? (i := 41) rfl)
theorem q1002 : (.code yX12_period cX12_period 6 (some .int) : Cond) ∈ wAll := in_wA16 _ (List.mem_of_getElem? (i := 42) rfl)
theorem q1003 : (.code yX12_areLike cX12_areLike 4 (some .boolean) : Cond) ∈ wAll := in_wA16 _ (List.mem_of_getElem? (i := 43) rfl)
theorem q1004 : (.code yX12_firstLike cX12_firstLike 3 (some .int) : Cond) ∈ wAll := in_wA16 _ (List.mem_of_getElem? (i := 44) rfl)
theorem q1005 : (.methodLink RX12 301 yX12_areLike : Cond) ∈ wAll := in_wA16 _ (List.mem_of_getElem? (i := 45) rfl)
theorem q1006 : (.instanceMethod yX12_areLike : Cond) ∈ wAll := in_wA16 _ (List.mem_of_getElem? (i := 46) rfl)
theorem q1007 : (.selects RX12 yX12_areLike yX12_areLike : Cond) ∈ wAll := in_wA16 _ (List.mem_of_getElem? (i := 47) rfl)
theorem q1008 : (.methodLink RX12 304 yX12_firstLike : Cond) ∈ wAll := in_wA16 _ (List.mem_of_getElem? (i := 48) rfl)
theorem q1009 : (.instanceMethod yX12_firstLike : Cond) ∈ wAll := in_wA16 _ (List.mem_of_getElem? (i := 49) rfl)
theorem q1010 : (.selects RX12 yX12_firstLike yX12_firstLike : Cond) ∈ wAll := in_wA16 _ (List.mem_of_getElem? (i := 50) rfl)
theorem q1011 : (.code yX12_alike cX12_alike 4 (some .int) : Cond) ∈ wAll := in_wA16 _ (List.mem_of_getElem? (i := 51) rfl)
theorem q1012 : (.code yX12_nearest cX12_nearest 4 (some .int) : Cond) ∈ wAll := in_wA16 _ (List.mem_of_getElem? (i := 52) rfl)
theorem q1013 : (.code yX12_kinds cX12_kinds 7 (some .int) : Cond) ∈ wAll := in_wA16 _ (List.mem_of_getElem? (i := 53) rfl)
theorem q1014 : (.code yX12_costOf cX12_costOf 7 (some .int) : Cond) ∈ wAll := in_wA16 _ (List.mem_of_getElem? (i := 54) rfl)
theorem q1015 : (.code yX12_leastFrom cX12_leastFrom 5 (some .int) : Cond) ∈ wAll := in_wA16 _ (List.mem_of_getElem? (i := 55) rfl)
theorem q1016 : (.methodLink RX12 307 yX12_costOf : Cond) ∈ wAll := in_wA16 _ (List.mem_of_getElem? (i := 56) rfl)
theorem q1017 : (.instanceMethod yX12_costOf : Cond) ∈ wAll := in_wA16 _ (List.mem_of_getElem? (i := 57) rfl)
theorem q1018 : (.selects RX12 yX12_costOf yX12_costOf : Cond) ∈ wAll := in_wA16 _ (List.mem_of_getElem? (i := 58) rfl)
theorem q1019 : (.methodLink RX12 311 yX12_leastFrom : Cond) ∈ wAll := in_wA16 _ (List.mem_of_getElem? (i := 59) rfl)
theorem q1020 : (.instanceMethod yX12_leastFrom : Cond) ∈ wAll := in_wA17 _ (List.mem_of_getElem? (i := 0) rfl)
theorem q1021 : (.selects RX12 yX12_leastFrom yX12_leastFrom : Cond) ∈ wAll := in_wA17 _ (List.mem_of_getElem? (i := 1) rfl)
theorem q1022 : (.code yX12_fitted cX12_fitted 7 (some .int) : Cond) ∈ wAll := in_wA17 _ (List.mem_of_getElem? (i := 2) rfl)
theorem q1023 : (.code yX12_lost cX12_lost 6 (some .int) : Cond) ∈ wAll := in_wA17 _ (List.mem_of_getElem? (i := 3) rfl)
theorem q1024 : (.code yX12_setting cX12_setting 2 (some .int) : Cond) ∈ wAll := in_wA17 _ (List.mem_of_getElem? (i := 4) rfl)
theorem q1025 : (.code yX12_count cX12_count 2 (some .int) : Cond) ∈ wAll := in_wA17 _ (List.mem_of_getElem? (i := 5) rfl)
theorem q1026 : (.constantLong RX12 314 (13) : Cond) ∈ wAll := in_wA17 _ (List.mem_of_getElem? (i := 6) rfl)
theorem q1027 : (.code yJ9_abs_0f7a4 cJ9_abs_0f7a4 1 (some .int) : Cond) ∈ wAll := in_wA17 _ (List.mem_of_getElem? (i := 7) rfl)
theorem q1028 : (.code yJ9_max_7cf53 cJ9_max_7cf53 2 (some .int) : Cond) ∈ wAll := in_wA17 _ (List.mem_of_getElem? (i := 8) rfl)
theorem q1029 : (.code yJ9_min_7cf53 cJ9_min_7cf53 2 (some .int) : Cond) ∈ wAll := in_wA17 _ (List.mem_of_getElem? (i := 9) rfl)
theorem q1030 : (.classLink RL 13 "java/util/NoSuchElementException" : Cond) ∈ wAll := in_wA17 _ (List.mem_of_getElem? (i := 10) rfl)
theorem q1031 : (.methodLink RL 7 yX11_shade : Cond) ∈ wAll := in_wA17 _ (List.mem_of_getElem? (i := 11) rfl)
theorem q1032 : (.instanceMethod yX11_shade : Cond) ∈ wAll := in_wA17 _ (List.mem_of_getElem? (i := 12) rfl)
theorem q1033 : (.selects RX11 yX11_shade yX11_shade : Cond) ∈ wAll := in_wA17 _ (List.mem_of_getElem? (i := 13) rfl)
theorem q1034 : (.codeWith yL_shade cL_shade 6 (some .int) [(0, 12, 15, 13)] : Cond) ∈ wAll := in_wA17 _ (List.mem_of_getElem? (i := 14) rfl)
theorem q1035 : (.classLink RL 8 RX11 : Cond) ∈ wAll := in_wA17 _ (List.mem_of_getElem? (i := 15) rfl)
theorem q1036 : (.instantiable RX11 9 : Cond) ∈ wAll := in_wA17 _ (List.mem_of_getElem? (i := 16) rfl)
theorem q1037 : (.classLink RL 16 RX12 : Cond) ∈ wAll := in_wA17 _ (List.mem_of_getElem? (i := 17) rfl)
theorem q1038 : (.instantiable RX12 26 : Cond) ∈ wAll := in_wA17 _ (List.mem_of_getElem? (i := 18) rfl)
theorem q1039 : (.arrayClass .long : Cond) ∈ wAll := in_wA17 _ (List.mem_of_getElem? (i := 19) rfl)
theorem q1040 : (.methodLink RL 15 yX11_init : Cond) ∈ wAll := in_wA17 _ (List.mem_of_getElem? (i := 20) rfl)
theorem q1041 : (.instanceMethod yX11_init : Cond) ∈ wAll := in_wA17 _ (List.mem_of_getElem? (i := 21) rfl)
theorem q1042 : (.methodLink RL 18 yX12_init : Cond) ∈ wAll := in_wA17 _ (List.mem_of_getElem? (i := 22) rfl)
theorem q1043 : (.instanceMethod yX12_init : Cond) ∈ wAll := in_wA17 _ (List.mem_of_getElem? (i := 23) rfl)
theorem q1044 : (.methodLink RL 19 yX11_feed : Cond) ∈ wAll := in_wA17 _ (List.mem_of_getElem? (i := 24) rfl)
theorem q1045 : (.instanceMethod yX11_feed : Cond) ∈ wAll := in_wA17 _ (List.mem_of_getElem? (i := 25) rfl)
theorem q1046 : (.selects RX11 yX11_feed yX11_feed : Cond) ∈ wAll := in_wA17 _ (List.mem_of_getElem? (i := 26) rfl)
theorem q1047 : (.methodLink RL 23 yX12_feed : Cond) ∈ wAll := in_wA17 _ (List.mem_of_getElem? (i := 27) rfl)
theorem q1048 : (.instanceMethod yX12_feed : Cond) ∈ wAll := in_wA17 _ (List.mem_of_getElem? (i := 28) rfl)
theorem q1049 : (.selects RX12 yX12_feed yX12_feed : Cond) ∈ wAll := in_wA17 _ (List.mem_of_getElem? (i := 29) rfl)
theorem q1050 : (.methodLink RL 24 yX11_tell : Cond) ∈ wAll := in_wA17 _ (List.mem_of_getElem? (i := 30) rfl)
theorem q1051 : (.instanceMethod yX11_tell : Cond) ∈ wAll := in_wA17 _ (List.mem_of_getElem? (i := 31) rfl)
theorem q1052 : (.selects RX11 yX11_tell yX11_tell : Cond) ∈ wAll := in_wA17 _ (List.mem_of_getElem? (i := 32) rfl)
theorem q1053 : (.methodLink RL 28 yX12_tell : Cond) ∈ wAll := in_wA17 _ (List.mem_of_getElem? (i := 33) rfl)
theorem q1054 : (.instanceMethod yX12_tell : Cond) ∈ wAll := in_wA17 _ (List.mem_of_getElem? (i := 34) rfl)
theorem q1055 : (.selects RX12 yX12_tell yX12_tell : Cond) ∈ wAll := in_wA17 _ (List.mem_of_getElem? (i := 35) rfl)
theorem q1056 : (.methodLink RL 29 yX11_fault : Cond) ∈ wAll := in_wA17 _ (List.mem_of_getElem? (i := 36) rfl)
theorem q1057 : (.instanceMethod yX11_fault : Cond) ∈ wAll := in_wA17 _ (List.mem_of_getElem? (i := 37) rfl)
theorem q1058 : (.selects RX11 yX11_fault yX11_fault : Cond) ∈ wAll := in_wA17 _ (List.mem_of_getElem? (i := 38) rfl)
theorem q1059 : (.methodLink RL 32 yX12_fault : Cond) ∈ wAll := in_wA17 _ (List.mem_of_getElem? (i := 39) rfl)
theorem q1060 : (.instanceMethod yX12_fault : Cond) ∈ wAll := in_wA17 _ (List.mem_of_getElem? (i := 40) rfl)
theorem q1061 : (.selects RX12 yX12_fault yX12_fault : Cond) ∈ wAll := in_wA17 _ (List.mem_of_getElem? (i := 41) rfl)
theorem q1062 : (.methodLink RL 33 yX11_set : Cond) ∈ wAll := in_wA17 _ (List.mem_of_getElem? (i := 42) rfl)
theorem q1063 : (.instanceMethod yX11_set : Cond) ∈ wAll := in_wA17 _ (List.mem_of_getElem? (i := 43) rfl)
theorem q1064 : (.selects RX11 yX11_set yX11_set : Cond) ∈ wAll := in_wA17 _ (List.mem_of_getElem? (i := 44) rfl)
theorem q1065 : (.methodLink RL 37 yX12_set : Cond) ∈ wAll := in_wA17 _ (List.mem_of_getElem? (i := 45) rfl)
theorem q1066 : (.instanceMethod yX12_set : Cond) ∈ wAll := in_wA17 _ (List.mem_of_getElem? (i := 46) rfl)
theorem q1067 : (.selects RX12 yX12_set yX12_set : Cond) ∈ wAll := in_wA17 _ (List.mem_of_getElem? (i := 47) rfl)
theorem q1068 : (.methodLink RL 38 yX11_weight : Cond) ∈ wAll := in_wA17 _ (List.mem_of_getElem? (i := 48) rfl)
theorem q1069 : (.instanceMethod yX11_weight : Cond) ∈ wAll := in_wA17 _ (List.mem_of_getElem? (i := 49) rfl)
theorem q1070 : (.selects RX11 yX11_weight yX11_weight : Cond) ∈ wAll := in_wA17 _ (List.mem_of_getElem? (i := 50) rfl)
theorem q1071 : (.methodLink RL 41 yX12_weight : Cond) ∈ wAll := in_wA17 _ (List.mem_of_getElem? (i := 51) rfl)
theorem q1072 : (.instanceMethod yX12_weight : Cond) ∈ wAll := in_wA17 _ (List.mem_of_getElem? (i := 52) rfl)
theorem q1073 : (.selects RX12 yX12_weight yX12_weight : Cond) ∈ wAll := in_wA17 _ (List.mem_of_getElem? (i := 53) rfl)
theorem q1074 : (.methodLink RL 42 yX11_cut : Cond) ∈ wAll := in_wA17 _ (List.mem_of_getElem? (i := 54) rfl)
theorem q1075 : (.instanceMethod yX11_cut : Cond) ∈ wAll := in_wA17 _ (List.mem_of_getElem? (i := 55) rfl)
theorem q1076 : (.selects RX11 yX11_cut yX11_cut : Cond) ∈ wAll := in_wA17 _ (List.mem_of_getElem? (i := 56) rfl)
theorem q1077 : (.methodLink RL 45 yX12_cut : Cond) ∈ wAll := in_wA17 _ (List.mem_of_getElem? (i := 57) rfl)
theorem q1078 : (.instanceMethod yX12_cut : Cond) ∈ wAll := in_wA17 _ (List.mem_of_getElem? (i := 58) rfl)
theorem q1079 : (.selects RX12 yX12_cut yX12_cut : Cond) ∈ wAll := in_wA17 _ (List.mem_of_getElem? (i := 59) rfl)
theorem q1080 : (.methodLink RL 46 yX11_skip : Cond) ∈ wAll := in_wA18 _ (List.mem_of_getElem? (i := 0) rfl)
theorem q1081 : (.instanceMethod yX11_skip : Cond) ∈ wAll := in_wA18 _ (List.mem_of_getElem? (i := 1) rfl)
theorem q1082 : (.selects RX11 yX11_skip yX11_skip : Cond) ∈ wAll := in_wA18 _ (List.mem_of_getElem? (i := 2) rfl)
theorem q1083 : (.methodLink RL 49 yX12_skip : Cond) ∈ wAll := in_wA18 _ (List.mem_of_getElem? (i := 3) rfl)
theorem q1084 : (.instanceMethod yX12_skip : Cond) ∈ wAll := in_wA18 _ (List.mem_of_getElem? (i := 4) rfl)
theorem q1085 : (.selects RX12 yX12_skip yX12_skip : Cond) ∈ wAll := in_wA18 _ (List.mem_of_getElem? (i := 5) rfl)
theorem q1086 : (.methodLink RL 50 yX11_dot : Cond) ∈ wAll := in_wA18 _ (List.mem_of_getElem? (i := 6) rfl)
theorem q1087 : (.instanceMethod yX11_dot : Cond) ∈ wAll := in_wA18 _ (List.mem_of_getElem? (i := 7) rfl)
theorem q1088 : (.selects RX11 yX11_dot yX11_dot : Cond) ∈ wAll := in_wA18 _ (List.mem_of_getElem? (i := 8) rfl)
theorem q1089 : (.methodLink RL 54 yX12_dot : Cond) ∈ wAll := in_wA18 _ (List.mem_of_getElem? (i := 9) rfl)
theorem q1090 : (.instanceMethod yX12_dot : Cond) ∈ wAll := in_wA18 _ (List.mem_of_getElem? (i := 10) rfl)
theorem q1091 : (.selects RX12 yX12_dot yX12_dot : Cond) ∈ wAll := in_wA18 _ (List.mem_of_getElem? (i := 11) rfl)
theorem q1092 : (.methodLink RL 55 yX11_take : Cond) ∈ wAll := in_wA18 _ (List.mem_of_getElem? (i := 12) rfl)
theorem q1093 : (.instanceMethod yX11_take : Cond) ∈ wAll := in_wA18 _ (List.mem_of_getElem? (i := 13) rfl)
theorem q1094 : (.selects RX11 yX11_take yX11_take : Cond) ∈ wAll := in_wA18 _ (List.mem_of_getElem? (i := 14) rfl)
theorem q1095 : (.methodLink RL 59 yX12_take : Cond) ∈ wAll := in_wA18 _ (List.mem_of_getElem? (i := 15) rfl)
theorem q1096 : (.instanceMethod yX12_take : Cond) ∈ wAll := in_wA18 _ (List.mem_of_getElem? (i := 16) rfl)
theorem q1097 : (.selects RX12 yX12_take yX12_take : Cond) ∈ wAll := in_wA18 _ (List.mem_of_getElem? (i := 17) rfl)
theorem q1098 : (.methodLink RL 60 yX11_undo : Cond) ∈ wAll := in_wA18 _ (List.mem_of_getElem? (i := 18) rfl)
theorem q1099 : (.instanceMethod yX11_undo : Cond) ∈ wAll := in_wA18 _ (List.mem_of_getElem? (i := 19) rfl)
theorem q1100 : (.selects RX11 yX11_undo yX11_undo : Cond) ∈ wAll := in_wA18 _ (List.mem_of_getElem? (i := 20) rfl)
theorem q1101 : (.methodLink RL 63 yX12_undo : Cond) ∈ wAll := in_wA18 _ (List.mem_of_getElem? (i := 21) rfl)
theorem q1102 : (.instanceMethod yX12_undo : Cond) ∈ wAll := in_wA18 _ (List.mem_of_getElem? (i := 22) rfl)
theorem q1103 : (.selects RX12 yX12_undo yX12_undo : Cond) ∈ wAll := in_wA18 _ (List.mem_of_getElem? (i := 23) rfl)
theorem q1104 : (.methodLink RL 64 yL_shade : Cond) ∈ wAll := in_wA18 _ (List.mem_of_getElem? (i := 24) rfl)
theorem q1105 : (.static yL_shade : Cond) ∈ wAll := in_wA18 _ (List.mem_of_getElem? (i := 25) rfl)
theorem q1106 : (.initialized RL : Cond) ∈ wAll := in_wA18 _ (List.mem_of_getElem? (i := 26) rfl)
theorem q1107 : (.methodLink RL 69 yX12_shade : Cond) ∈ wAll := in_wA18 _ (List.mem_of_getElem? (i := 27) rfl)
theorem q1108 : (.instanceMethod yX12_shade : Cond) ∈ wAll := in_wA18 _ (List.mem_of_getElem? (i := 28) rfl)
theorem q1109 : (.selects RX12 yX12_shade yX12_shade : Cond) ∈ wAll := in_wA18 _ (List.mem_of_getElem? (i := 29) rfl)
theorem q1110 : (.methodLink RL 70 yX12_thrown : Cond) ∈ wAll := in_wA18 _ (List.mem_of_getElem? (i := 30) rfl)
theorem q1111 : (.instanceMethod yX12_thrown : Cond) ∈ wAll := in_wA18 _ (List.mem_of_getElem? (i := 31) rfl)
theorem q1112 : (.selects RX12 yX12_thrown yX12_thrown : Cond) ∈ wAll := in_wA18 _ (List.mem_of_getElem? (i := 32) rfl)
theorem q1113 : (.methodLink RL 73 yX11_level : Cond) ∈ wAll := in_wA18 _ (List.mem_of_getElem? (i := 33) rfl)
theorem q1114 : (.instanceMethod yX11_level : Cond) ∈ wAll := in_wA18 _ (List.mem_of_getElem? (i := 34) rfl)
theorem q1115 : (.selects RX11 yX11_level yX11_level : Cond) ∈ wAll := in_wA18 _ (List.mem_of_getElem? (i := 35) rfl)
theorem q1116 : (.methodLink RL 76 yX12_level : Cond) ∈ wAll := in_wA18 _ (List.mem_of_getElem? (i := 36) rfl)
theorem q1117 : (.instanceMethod yX12_level : Cond) ∈ wAll := in_wA18 _ (List.mem_of_getElem? (i := 37) rfl)
theorem q1118 : (.selects RX12 yX12_level yX12_level : Cond) ∈ wAll := in_wA18 _ (List.mem_of_getElem? (i := 38) rfl)
theorem q1119 : (.methodLink RL 77 yX11_frame : Cond) ∈ wAll := in_wA18 _ (List.mem_of_getElem? (i := 39) rfl)
theorem q1120 : (.instanceMethod yX11_frame : Cond) ∈ wAll := in_wA18 _ (List.mem_of_getElem? (i := 40) rfl)
theorem q1121 : (.selects RX11 yX11_frame yX11_frame : Cond) ∈ wAll := in_wA18 _ (List.mem_of_getElem? (i := 41) rfl)
theorem q1122 : (.methodLink RL 80 yX12_frame : Cond) ∈ wAll := in_wA18 _ (List.mem_of_getElem? (i := 42) rfl)
theorem q1123 : (.instanceMethod yX12_frame : Cond) ∈ wAll := in_wA18 _ (List.mem_of_getElem? (i := 43) rfl)
theorem q1124 : (.selects RX12 yX12_frame yX12_frame : Cond) ∈ wAll := in_wA18 _ (List.mem_of_getElem? (i := 44) rfl)
theorem q1125 : (.methodLink RL 81 yX11_apart : Cond) ∈ wAll := in_wA18 _ (List.mem_of_getElem? (i := 45) rfl)
theorem q1126 : (.instanceMethod yX11_apart : Cond) ∈ wAll := in_wA18 _ (List.mem_of_getElem? (i := 46) rfl)
theorem q1127 : (.selects RX11 yX11_apart yX11_apart : Cond) ∈ wAll := in_wA18 _ (List.mem_of_getElem? (i := 47) rfl)
theorem q1128 : (.methodLink RL 84 yX12_apart : Cond) ∈ wAll := in_wA18 _ (List.mem_of_getElem? (i := 48) rfl)
theorem q1129 : (.instanceMethod yX12_apart : Cond) ∈ wAll := in_wA18 _ (List.mem_of_getElem? (i := 49) rfl)
theorem q1130 : (.selects RX12 yX12_apart yX12_apart : Cond) ∈ wAll := in_wA18 _ (List.mem_of_getElem? (i := 50) rfl)
theorem q1131 : (.methodLink RL 85 yX11_scene : Cond) ∈ wAll := in_wA18 _ (List.mem_of_getElem? (i := 51) rfl)
theorem q1132 : (.instanceMethod yX11_scene : Cond) ∈ wAll := in_wA18 _ (List.mem_of_getElem? (i := 52) rfl)
theorem q1133 : (.selects RX11 yX11_scene yX11_scene : Cond) ∈ wAll := in_wA18 _ (List.mem_of_getElem? (i := 53) rfl)
theorem q1134 : (.methodLink RL 88 yX12_scene : Cond) ∈ wAll := in_wA18 _ (List.mem_of_getElem? (i := 54) rfl)
theorem q1135 : (.instanceMethod yX12_scene : Cond) ∈ wAll := in_wA18 _ (List.mem_of_getElem? (i := 55) rfl)
theorem q1136 : (.selects RX12 yX12_scene yX12_scene : Cond) ∈ wAll := in_wA18 _ (List.mem_of_getElem? (i := 56) rfl)
theorem q1137 : (.methodLink RL 89 yX11_rank : Cond) ∈ wAll := in_wA18 _ (List.mem_of_getElem? (i := 57) rfl)
theorem q1138 : (.instanceMethod yX11_rank : Cond) ∈ wAll := in_wA18 _ (List.mem_of_getElem? (i := 58) rfl)
theorem q1139 : (.selects RX11 yX11_rank yX11_rank : Cond) ∈ wAll := in_wA18 _ (List.mem_of_getElem? (i := 59) rfl)
theorem q1140 : (.methodLink RL 92 yX12_rank : Cond) ∈ wAll := in_wA19 _ (List.mem_of_getElem? (i := 0) rfl)
theorem q1141 : (.instanceMethod yX12_rank : Cond) ∈ wAll := in_wA19 _ (List.mem_of_getElem? (i := 1) rfl)
theorem q1142 : (.selects RX12 yX12_rank yX12_rank : Cond) ∈ wAll := in_wA19 _ (List.mem_of_getElem? (i := 2) rfl)
theorem q1143 : (.methodLink RL 93 yX11_inverse : Cond) ∈ wAll := in_wA19 _ (List.mem_of_getElem? (i := 3) rfl)
theorem q1144 : (.instanceMethod yX11_inverse : Cond) ∈ wAll := in_wA19 _ (List.mem_of_getElem? (i := 4) rfl)
theorem q1145 : (.selects RX11 yX11_inverse yX11_inverse : Cond) ∈ wAll := in_wA19 _ (List.mem_of_getElem? (i := 5) rfl)
theorem q1146 : (.methodLink RL 96 yX12_inverse : Cond) ∈ wAll := in_wA19 _ (List.mem_of_getElem? (i := 6) rfl)
theorem q1147 : (.instanceMethod yX12_inverse : Cond) ∈ wAll := in_wA19 _ (List.mem_of_getElem? (i := 7) rfl)
theorem q1148 : (.selects RX12 yX12_inverse yX12_inverse : Cond) ∈ wAll := in_wA19 _ (List.mem_of_getElem? (i := 8) rfl)
theorem q1149 : (.methodLink RL 97 yX11_flicker : Cond) ∈ wAll := in_wA19 _ (List.mem_of_getElem? (i := 9) rfl)
theorem q1150 : (.instanceMethod yX11_flicker : Cond) ∈ wAll := in_wA19 _ (List.mem_of_getElem? (i := 10) rfl)
theorem q1151 : (.selects RX11 yX11_flicker yX11_flicker : Cond) ∈ wAll := in_wA19 _ (List.mem_of_getElem? (i := 11) rfl)
theorem q1152 : (.methodLink RL 101 yX12_flicker : Cond) ∈ wAll := in_wA19 _ (List.mem_of_getElem? (i := 12) rfl)
theorem q1153 : (.instanceMethod yX12_flicker : Cond) ∈ wAll := in_wA19 _ (List.mem_of_getElem? (i := 13) rfl)
theorem q1154 : (.selects RX12 yX12_flicker yX12_flicker : Cond) ∈ wAll := in_wA19 _ (List.mem_of_getElem? (i := 14) rfl)
theorem q1155 : (.methodLink RL 102 yX11_steady : Cond) ∈ wAll := in_wA19 _ (List.mem_of_getElem? (i := 15) rfl)
theorem q1156 : (.instanceMethod yX11_steady : Cond) ∈ wAll := in_wA19 _ (List.mem_of_getElem? (i := 16) rfl)
theorem q1157 : (.selects RX11 yX11_steady yX11_steady : Cond) ∈ wAll := in_wA19 _ (List.mem_of_getElem? (i := 17) rfl)
theorem q1158 : (.methodLink RL 105 yX12_steady : Cond) ∈ wAll := in_wA19 _ (List.mem_of_getElem? (i := 18) rfl)
theorem q1159 : (.instanceMethod yX12_steady : Cond) ∈ wAll := in_wA19 _ (List.mem_of_getElem? (i := 19) rfl)
theorem q1160 : (.selects RX12 yX12_steady yX12_steady : Cond) ∈ wAll := in_wA19 _ (List.mem_of_getElem? (i := 20) rfl)
theorem q1161 : (.methodLink RL 106 yX11_bestRadius : Cond) ∈ wAll := in_wA19 _ (List.mem_of_getElem? (i := 21) rfl)
theorem q1162 : (.instanceMethod yX11_bestRadius : Cond) ∈ wAll := in_wA19 _ (List.mem_of_getElem? (i := 22) rfl)
theorem q1163 : (.selects RX11 yX11_bestRadius yX11_bestRadius : Cond) ∈ wAll := in_wA19 _ (List.mem_of_getElem? (i := 23) rfl)
theorem q1164 : (.methodLink RL 109 yX12_bestRadius : Cond) ∈ wAll := in_wA19 _ (List.mem_of_getElem? (i := 24) rfl)
theorem q1165 : (.instanceMethod yX12_bestRadius : Cond) ∈ wAll := in_wA19 _ (List.mem_of_getElem? (i := 25) rfl)
theorem q1166 : (.selects RX12 yX12_bestRadius yX12_bestRadius : Cond) ∈ wAll := in_wA19 _ (List.mem_of_getElem? (i := 26) rfl)
theorem q1167 : (.methodLink RL 110 yX11_leastStep : Cond) ∈ wAll := in_wA19 _ (List.mem_of_getElem? (i := 27) rfl)
theorem q1168 : (.instanceMethod yX11_leastStep : Cond) ∈ wAll := in_wA19 _ (List.mem_of_getElem? (i := 28) rfl)
theorem q1169 : (.selects RX11 yX11_leastStep yX11_leastStep : Cond) ∈ wAll := in_wA19 _ (List.mem_of_getElem? (i := 29) rfl)
theorem q1170 : (.methodLink RL 113 yX12_leastStep : Cond) ∈ wAll := in_wA19 _ (List.mem_of_getElem? (i := 30) rfl)
theorem q1171 : (.instanceMethod yX12_leastStep : Cond) ∈ wAll := in_wA19 _ (List.mem_of_getElem? (i := 31) rfl)
theorem q1172 : (.selects RX12 yX12_leastStep yX12_leastStep : Cond) ∈ wAll := in_wA19 _ (List.mem_of_getElem? (i := 32) rfl)
theorem q1173 : (.methodLink RL 114 yX11_flash : Cond) ∈ wAll := in_wA19 _ (List.mem_of_getElem? (i := 33) rfl)
theorem q1174 : (.instanceMethod yX11_flash : Cond) ∈ wAll := in_wA19 _ (List.mem_of_getElem? (i := 34) rfl)
theorem q1175 : (.selects RX11 yX11_flash yX11_flash : Cond) ∈ wAll := in_wA19 _ (List.mem_of_getElem? (i := 35) rfl)
theorem q1176 : (.methodLink RL 117 yX12_flash : Cond) ∈ wAll := in_wA19 _ (List.mem_of_getElem? (i := 36) rfl)
theorem q1177 : (.instanceMethod yX12_flash : Cond) ∈ wAll := in_wA19 _ (List.mem_of_getElem? (i := 37) rfl)
theorem q1178 : (.selects RX12 yX12_flash yX12_flash : Cond) ∈ wAll := in_wA19 _ (List.mem_of_getElem? (i := 38) rfl)
theorem q1179 : (.methodLink RL 118 yX11_period : Cond) ∈ wAll := in_wA19 _ (List.mem_of_getElem? (i := 39) rfl)
theorem q1180 : (.instanceMethod yX11_period : Cond) ∈ wAll := in_wA19 _ (List.mem_of_getElem? (i := 40) rfl)
theorem q1181 : (.selects RX11 yX11_period yX11_period : Cond) ∈ wAll := in_wA19 _ (List.mem_of_getElem? (i := 41) rfl)
theorem q1182 : (.methodLink RL 121 yX12_period : Cond) ∈ wAll := in_wA19 _ (List.mem_of_getElem? (i := 42) rfl)
theorem q1183 : (.instanceMethod yX12_period : Cond) ∈ wAll := in_wA19 _ (List.mem_of_getElem? (i := 43) rfl)
theorem q1184 : (.selects RX12 yX12_period yX12_period : Cond) ∈ wAll := in_wA19 _ (List.mem_of_getElem? (i := 44) rfl)
theorem q1185 : (.methodLink RL 122 yX11_rounds : Cond) ∈ wAll := in_wA19 _ (List.mem_of_getElem? (i := 45) rfl)
theorem q1186 : (.instanceMethod yX11_rounds : Cond) ∈ wAll := in_wA19 _ (List.mem_of_getElem? (i := 46) rfl)
theorem q1187 : (.selects RX11 yX11_rounds yX11_rounds : Cond) ∈ wAll := in_wA19 _ (List.mem_of_getElem? (i := 47) rfl)
theorem q1188 : (.methodLink RL 125 yX12_rounds : Cond) ∈ wAll := in_wA19 _ (List.mem_of_getElem? (i := 48) rfl)
theorem q1189 : (.instanceMethod yX12_rounds : Cond) ∈ wAll := in_wA19 _ (List.mem_of_getElem? (i := 49) rfl)
theorem q1190 : (.selects RX12 yX12_rounds yX12_rounds : Cond) ∈ wAll := in_wA19 _ (List.mem_of_getElem? (i := 50) rfl)
theorem q1191 : (.methodLink RL 126 yX11_settles : Cond) ∈ wAll := in_wA19 _ (List.mem_of_getElem? (i := 51) rfl)
theorem q1192 : (.instanceMethod yX11_settles : Cond) ∈ wAll := in_wA19 _ (List.mem_of_getElem? (i := 52) rfl)
theorem q1193 : (.selects RX11 yX11_settles yX11_settles : Cond) ∈ wAll := in_wA19 _ (List.mem_of_getElem? (i := 53) rfl)
theorem q1194 : (.methodLink RL 129 yX12_settles : Cond) ∈ wAll := in_wA19 _ (List.mem_of_getElem? (i := 54) rfl)
theorem q1195 : (.instanceMethod yX12_settles : Cond) ∈ wAll := in_wA19 _ (List.mem_of_getElem? (i := 55) rfl)
theorem q1196 : (.selects RX12 yX12_settles yX12_settles : Cond) ∈ wAll := in_wA19 _ (List.mem_of_getElem? (i := 56) rfl)
theorem q1197 : (.methodLink RL 130 yX11_key : Cond) ∈ wAll := in_wA19 _ (List.mem_of_getElem? (i := 57) rfl)
theorem q1198 : (.instanceMethod yX11_key : Cond) ∈ wAll := in_wA19 _ (List.mem_of_getElem? (i := 58) rfl)
theorem q1199 : (.selects RX11 yX11_key yX11_key : Cond) ∈ wAll := in_wA19 _ (List.mem_of_getElem? (i := 59) rfl)
theorem q1200 : (.methodLink RL 133 yX12_key : Cond) ∈ wAll := in_wA20 _ (List.mem_of_getElem? (i := 0) rfl)
theorem q1201 : (.instanceMethod yX12_key : Cond) ∈ wAll := in_wA20 _ (List.mem_of_getElem? (i := 1) rfl)
theorem q1202 : (.selects RX12 yX12_key yX12_key : Cond) ∈ wAll := in_wA20 _ (List.mem_of_getElem? (i := 2) rfl)
theorem q1203 : (.methodLink RL 134 yX11_parted : Cond) ∈ wAll := in_wA20 _ (List.mem_of_getElem? (i := 3) rfl)
theorem q1204 : (.instanceMethod yX11_parted : Cond) ∈ wAll := in_wA20 _ (List.mem_of_getElem? (i := 4) rfl)
theorem q1205 : (.selects RX11 yX11_parted yX11_parted : Cond) ∈ wAll := in_wA20 _ (List.mem_of_getElem? (i := 5) rfl)
theorem q1206 : (.methodLink RL 137 yX12_parted : Cond) ∈ wAll := in_wA20 _ (List.mem_of_getElem? (i := 6) rfl)
theorem q1207 : (.instanceMethod yX12_parted : Cond) ∈ wAll := in_wA20 _ (List.mem_of_getElem? (i := 7) rfl)
theorem q1208 : (.selects RX12 yX12_parted yX12_parted : Cond) ∈ wAll := in_wA20 _ (List.mem_of_getElem? (i := 8) rfl)
theorem q1209 : (.methodLink RL 138 yX11_shift : Cond) ∈ wAll := in_wA20 _ (List.mem_of_getElem? (i := 9) rfl)
theorem q1210 : (.instanceMethod yX11_shift : Cond) ∈ wAll := in_wA20 _ (List.mem_of_getElem? (i := 10) rfl)
theorem q1211 : (.selects RX11 yX11_shift yX11_shift : Cond) ∈ wAll := in_wA20 _ (List.mem_of_getElem? (i := 11) rfl)
theorem q1212 : (.methodLink RL 141 yX12_shift : Cond) ∈ wAll := in_wA20 _ (List.mem_of_getElem? (i := 12) rfl)
theorem q1213 : (.instanceMethod yX12_shift : Cond) ∈ wAll := in_wA20 _ (List.mem_of_getElem? (i := 13) rfl)
theorem q1214 : (.selects RX12 yX12_shift yX12_shift : Cond) ∈ wAll := in_wA20 _ (List.mem_of_getElem? (i := 14) rfl)
theorem q1215 : (.methodLink RL 142 yX11_alike : Cond) ∈ wAll := in_wA20 _ (List.mem_of_getElem? (i := 15) rfl)
theorem q1216 : (.instanceMethod yX11_alike : Cond) ∈ wAll := in_wA20 _ (List.mem_of_getElem? (i := 16) rfl)
theorem q1217 : (.selects RX11 yX11_alike yX11_alike : Cond) ∈ wAll := in_wA20 _ (List.mem_of_getElem? (i := 17) rfl)
theorem q1218 : (.methodLink RL 145 yX12_alike : Cond) ∈ wAll := in_wA20 _ (List.mem_of_getElem? (i := 18) rfl)
theorem q1219 : (.instanceMethod yX12_alike : Cond) ∈ wAll := in_wA20 _ (List.mem_of_getElem? (i := 19) rfl)
theorem q1220 : (.selects RX12 yX12_alike yX12_alike : Cond) ∈ wAll := in_wA20 _ (List.mem_of_getElem? (i := 20) rfl)
theorem q1221 : (.methodLink RL 146 yX11_nearest : Cond) ∈ wAll := in_wA20 _ (List.mem_of_getElem? (i := 21) rfl)
theorem q1222 : (.instanceMethod yX11_nearest : Cond) ∈ wAll := in_wA20 _ (List.mem_of_getElem? (i := 22) rfl)
theorem q1223 : (.selects RX11 yX11_nearest yX11_nearest : Cond) ∈ wAll := in_wA20 _ (List.mem_of_getElem? (i := 23) rfl)
theorem q1224 : (.methodLink RL 149 yX12_nearest : Cond) ∈ wAll := in_wA20 _ (List.mem_of_getElem? (i := 24) rfl)
theorem q1225 : (.instanceMethod yX12_nearest : Cond) ∈ wAll := in_wA20 _ (List.mem_of_getElem? (i := 25) rfl)
theorem q1226 : (.selects RX12 yX12_nearest yX12_nearest : Cond) ∈ wAll := in_wA20 _ (List.mem_of_getElem? (i := 26) rfl)
theorem q1227 : (.methodLink RL 150 yX11_kinds : Cond) ∈ wAll := in_wA20 _ (List.mem_of_getElem? (i := 27) rfl)
theorem q1228 : (.instanceMethod yX11_kinds : Cond) ∈ wAll := in_wA20 _ (List.mem_of_getElem? (i := 28) rfl)
theorem q1229 : (.selects RX11 yX11_kinds yX11_kinds : Cond) ∈ wAll := in_wA20 _ (List.mem_of_getElem? (i := 29) rfl)
theorem q1230 : (.methodLink RL 153 yX12_kinds : Cond) ∈ wAll := in_wA20 _ (List.mem_of_getElem? (i := 30) rfl)
theorem q1231 : (.instanceMethod yX12_kinds : Cond) ∈ wAll := in_wA20 _ (List.mem_of_getElem? (i := 31) rfl)
theorem q1232 : (.selects RX12 yX12_kinds yX12_kinds : Cond) ∈ wAll := in_wA20 _ (List.mem_of_getElem? (i := 32) rfl)
theorem q1233 : (.methodLink RL 154 yX11_fitted : Cond) ∈ wAll := in_wA20 _ (List.mem_of_getElem? (i := 33) rfl)
theorem q1234 : (.instanceMethod yX11_fitted : Cond) ∈ wAll := in_wA20 _ (List.mem_of_getElem? (i := 34) rfl)
theorem q1235 : (.selects RX11 yX11_fitted yX11_fitted : Cond) ∈ wAll := in_wA20 _ (List.mem_of_getElem? (i := 35) rfl)
theorem q1236 : (.methodLink RL 157 yX12_fitted : Cond) ∈ wAll := in_wA20 _ (List.mem_of_getElem? (i := 36) rfl)
theorem q1237 : (.instanceMethod yX12_fitted : Cond) ∈ wAll := in_wA20 _ (List.mem_of_getElem? (i := 37) rfl)
theorem q1238 : (.selects RX12 yX12_fitted yX12_fitted : Cond) ∈ wAll := in_wA20 _ (List.mem_of_getElem? (i := 38) rfl)
theorem q1239 : (.methodLink RL 158 yX11_lost : Cond) ∈ wAll := in_wA20 _ (List.mem_of_getElem? (i := 39) rfl)
theorem q1240 : (.instanceMethod yX11_lost : Cond) ∈ wAll := in_wA20 _ (List.mem_of_getElem? (i := 40) rfl)
theorem q1241 : (.selects RX11 yX11_lost yX11_lost : Cond) ∈ wAll := in_wA20 _ (List.mem_of_getElem? (i := 41) rfl)
theorem q1242 : (.methodLink RL 161 yX12_lost : Cond) ∈ wAll := in_wA20 _ (List.mem_of_getElem? (i := 42) rfl)
theorem q1243 : (.instanceMethod yX12_lost : Cond) ∈ wAll := in_wA20 _ (List.mem_of_getElem? (i := 43) rfl)
theorem q1244 : (.selects RX12 yX12_lost yX12_lost : Cond) ∈ wAll := in_wA20 _ (List.mem_of_getElem? (i := 44) rfl)
theorem q1245 : (.methodLink RL 162 yX11_setting : Cond) ∈ wAll := in_wA20 _ (List.mem_of_getElem? (i := 45) rfl)
theorem q1246 : (.instanceMethod yX11_setting : Cond) ∈ wAll := in_wA20 _ (List.mem_of_getElem? (i := 46) rfl)
theorem q1247 : (.selects RX11 yX11_setting yX11_setting : Cond) ∈ wAll := in_wA20 _ (List.mem_of_getElem? (i := 47) rfl)
theorem q1248 : (.methodLink RL 165 yX12_setting : Cond) ∈ wAll := in_wA20 _ (List.mem_of_getElem? (i := 48) rfl)
theorem q1249 : (.instanceMethod yX12_setting : Cond) ∈ wAll := in_wA20 _ (List.mem_of_getElem? (i := 49) rfl)
theorem q1250 : (.selects RX12 yX12_setting yX12_setting : Cond) ∈ wAll := in_wA20 _ (List.mem_of_getElem? (i := 50) rfl)
theorem q1251 : (.methodLink RL 166 yX11_count : Cond) ∈ wAll := in_wA20 _ (List.mem_of_getElem? (i := 51) rfl)
theorem q1252 : (.instanceMethod yX11_count : Cond) ∈ wAll := in_wA20 _ (List.mem_of_getElem? (i := 52) rfl)
theorem q1253 : (.selects RX11 yX11_count yX11_count : Cond) ∈ wAll := in_wA20 _ (List.mem_of_getElem? (i := 53) rfl)
theorem q1254 : (.methodLink RL 169 yX12_count : Cond) ∈ wAll := in_wA20 _ (List.mem_of_getElem? (i := 54) rfl)
theorem q1255 : (.instanceMethod yX12_count : Cond) ∈ wAll := in_wA20 _ (List.mem_of_getElem? (i := 55) rfl)
theorem q1256 : (.selects RX12 yX12_count yX12_count : Cond) ∈ wAll := in_wA20 _ (List.mem_of_getElem? (i := 56) rfl)
theorem gAll {c0 c1 : Cond} {L : List Cond} (h1 : ∀ w ∈ L, w ∈ wAll) (h2 : c1 ∈ wAll) : GoodIn (c0 :: wAll) (L ++ (c1 :: wAll)) := by
  intro w hw
  have hm : w ∈ wAll := (List.mem_append.mp hw).elim (h1 w) (fun h => (List.mem_cons.mp h).elim (fun e => by rw [e]; exact h2) id)
  exact ⟨List.mem_cons_of_mem _ hm, good_of_word (List.all_eq_true.mp wAll_g w hm)⟩
theorem gAllV {c0 : Cond} {own C : String} {idx maxL : Nat} {y : MethodName} {cc : ByteArray} {ret : Option FieldType} (h1 : Cond.methodLink own idx y ∈ wAll) (h2 : Cond.instanceMethod y ∈ wAll) (h3 : Cond.selects C y y ∈ wAll) (h4 : Cond.initialized C ∈ wAll) (h5 : Cond.code y cc maxL ret ∈ wAll) : GoodIn (c0 :: wAll) (wsV own idx C y (.code y cc maxL ret :: wAll)) :=
  gAll (fun w h => by
    rcases List.mem_cons.mp h with e | h
    · rw [e]; exact h1
    · rcases List.mem_cons.mp h with e | h
      · rw [e]; exact h2
      · rcases List.mem_cons.mp h with e | h
        · rw [e]; exact h3
        · rcases List.mem_cons.mp h with e | h
          · rw [e]; exact h4
          · exact absurd h List.not_mem_nil) h5
theorem gAllS {c0 : Cond} {own : String} {idx maxL : Nat} {y : MethodName} {cc : ByteArray} {ret : Option FieldType} (h1 : Cond.methodLink own idx y ∈ wAll) (h2 : Cond.static y ∈ wAll) (h4 : Cond.initialized y.cls ∈ wAll) (h5 : Cond.code y cc maxL ret ∈ wAll) : GoodIn (c0 :: wAll) (va_wsS own idx y (.code y cc maxL ret :: wAll)) :=
  gAll (fun w h => by
    rcases List.mem_cons.mp h with e | h
    · rw [e]; exact h1
    · rcases List.mem_cons.mp h with e | h
      · rw [e]; exact h2
      · rcases List.mem_cons.mp h with e | h
        · rw [e]; exact h4
        · exact absurd h List.not_mem_nil) h5
theorem gAllI {c0 c1 : Cond} (h5 : c1 ∈ wAll) : GoodIn (c0 :: wAll) (c1 :: wAll) := gAll (L := []) (fun _ h => absurd h List.not_mem_nil) h5
abbrev vX0_init : List Cond := .code yX0_init cX0_init 2 none :: wAll
abbrev vX0_keep : List Cond := .code yX0_keep cX0_keep 2 none :: wAll
abbrev vX0_dropOldest : List Cond := .code yX0_dropOldest cX0_dropOldest 3 none :: wAll
abbrev vX0_bringBack : List Cond := .code yX0_bringBack cX0_bringBack 2 none :: wAll
abbrev vX1_init : List Cond := .code yX1_init cX1_init 1 none :: wAll
abbrev vX1_forget : List Cond := .code yX1_forget cX1_forget 1 none :: wAll
abbrev vX1_forgetEvened : List Cond := .code yX1_forgetEvened cX1_forgetEvened 1 none :: wAll
abbrev vX1_look : List Cond := .code yX1_look cX1_look 2 none :: wAll
abbrev vX1_even : List Cond := .code yX1_even cX1_even 3 none :: wAll
abbrev vX1_aim : List Cond := .code yX1_aim cX1_aim 3 none :: wAll
abbrev vX1_aimByKey : List Cond := .code yX1_aimByKey cX1_aimByKey 4 none :: wAll
abbrev vX1_aimAt : List Cond := .code yX1_aimAt cX1_aimAt 3 none :: wAll
abbrev vX1_aimByWindow : List Cond := .code yX1_aimByWindow cX1_aimByWindow 7 none :: wAll
abbrev vX1_addWeighted : List Cond := .code yX1_addWeighted cX1_addWeighted 5 none :: wAll
abbrev vX1_windowStart : List Cond := .code yX1_windowStart cX1_windowStart 3 (some .int) :: wAll
abbrev vX1_windowLast : List Cond := .code yX1_windowLast cX1_windowLast 3 (some .int) :: wAll
abbrev vX1_windowSize : List Cond := .code yX1_windowSize cX1_windowSize 5 (some .int) :: wAll
abbrev vX1_makeTable : List Cond := .code yX1_makeTable cX1_makeTable 6 none :: wAll
abbrev vX1_passByTable : List Cond := .code yX1_passByTable cX1_passByTable 5 none :: wAll
abbrev vX1_spreadDots : List Cond := .code yX1_spreadDots cX1_spreadDots 7 none :: wAll
abbrev vX1_changedIn : List Cond := .code yX1_changedIn cX1_changedIn 6 (some .int) :: wAll
abbrev vX1_changedDots : List Cond := .code yX1_changedDots cX1_changedDots 4 (some .int) :: wAll
abbrev vX1_flickerOf : List Cond := .code yX1_flickerOf cX1_flickerOf 5 (some .int) :: wAll
abbrev vX1_flashes : List Cond := .code yX1_flashes cX1_flashes 6 (some .boolean) :: wAll
abbrev vX1_meetsAnother : List Cond := .code yX1_meetsAnother cX1_meetsAnother 4 (some .boolean) :: wAll
abbrev vX2_init : List Cond := .code yX2_init cX2_init 1 none :: wAll
abbrev vX2_clear : List Cond := .code yX2_clear cX2_clear 1 none :: wAll
abbrev vX2_copyFrom : List Cond := .code yX2_copyFrom cX2_copyFrom 2 none :: wAll
abbrev vX2_copyDots : List Cond := .code yX2_copyDots cX2_copyDots 2 none :: wAll
abbrev vX2_size : List Cond := .code yX2_size cX2_size 1 (some .int) :: wAll
abbrev vX2_hasFrame : List Cond := .code yX2_hasFrame cX2_hasFrame 2 (some .boolean) :: wAll
abbrev vX2_hasPlace : List Cond := .code yX2_hasPlace cX2_hasPlace 2 (some .boolean) :: wAll
abbrev vX2_allows : List Cond := .code yX2_allows cX2_allows 3 (some .boolean) :: wAll
abbrev vX2_marked : List Cond := .code yX2_marked cX2_marked 4 (some .int) :: wAll
abbrev vX2_firstLike : List Cond := .code yX2_firstLike cX2_firstLike 3 (some .int) :: wAll
abbrev vX2_sameDots : List Cond := .code yX2_sameDots cX2_sameDots 4 (some .boolean) :: wAll
abbrev vX2_keeps : List Cond := .code yX2_keeps cX2_keeps 2 (some .boolean) :: wAll
abbrev vX2_bounded : List Cond := .code yX2_bounded cX2_bounded 5 (some .int) :: wAll
abbrev vX3_init : List Cond := .code yX3_init cX3_init 1 none :: wAll
abbrev vX3_work : List Cond := .code yX3_work cX3_work 7 none :: wAll
abbrev vX3_addCosts : List Cond := .code yX3_addCosts cX3_addCosts 8 none :: wAll
abbrev vX3_costBy : List Cond := .code yX3_costBy cX3_costBy 3 (some .int) :: wAll
abbrev vX3_comesTo : List Cond := .code yX3_comesTo cX3_comesTo 4 (some .int) :: wAll
abbrev vX4_init : List Cond := .code yX4_init cX4_init 1 none :: wAll
abbrev vX4_work : List Cond := .code yX4_work cX4_work 6 none :: wAll
abbrev vX4_isShorter : List Cond := .code yX4_isShorter cX4_isShorter 3 (some .boolean) :: wAll
abbrev vX4_sameDots : List Cond := .code yX4_sameDots cX4_sameDots 9 (some .int) :: wAll
abbrev vX5_init : List Cond := .code yX5_init cX5_init 1 none :: wAll
abbrev vX5_work : List Cond := .code yX5_work cX5_work 5 none :: wAll
abbrev vX5_measureGaps : List Cond := .code yX5_measureGaps cX5_measureGaps 4 none :: wAll
abbrev vX5_addCosts : List Cond := .code yX5_addCosts cX5_addCosts 7 none :: wAll
abbrev vX5_leastOf : List Cond := .code yX5_leastOf cX5_leastOf 5 (some .int) :: wAll
abbrev vX5_costBy : List Cond := .code yX5_costBy cX5_costBy 4 (some .int) :: wAll
abbrev vX5_least : List Cond := .code yX5_least cX5_least 3 (some .int) :: wAll
abbrev vX5_start : List Cond := .code yX5_start cX5_start 7 (some .int) :: wAll
abbrev vX6_init : List Cond := .code yX6_init cX6_init 1 none :: wAll
abbrev vX6_read : List Cond := .code yX6_read cX6_read 4 none :: wAll
abbrev vX6_find : List Cond := .code yX6_find cX6_find 3 (some .int) :: wAll
abbrev vX6_addAcross : List Cond := .code yX6_addAcross cX6_addAcross 9 none :: wAll
abbrev vX6_addAround : List Cond := .code yX6_addAround cX6_addAround 6 none :: wAll
abbrev vX6_orderByShade : List Cond := .code yX6_orderByShade cX6_orderByShade 6 none :: wAll
abbrev vX6_orderWithinShades : List Cond := .code yX6_orderWithinShades cX6_orderWithinShades 7 none :: wAll
abbrev vX7_init : List Cond := .code yX7_init cX7_init 1 none :: wAll
abbrev vX7_putFour : List Cond := .code yX7_putFour cX7_putFour 3 none :: wAll
abbrev vX7_readText : List Cond := .code yX7_readText cX7_readText 3 none :: wAll
abbrev vX7_begin : List Cond := .code yX7_begin cX7_begin 3 none :: wAll
abbrev vX7_fail : List Cond := .code yX7_fail cX7_fail 3 none :: wAll
abbrev vX7_skipBlanks : List Cond := .code yX7_skipBlanks cX7_skipBlanks 1 none :: wAll
abbrev vX7_isAt : List Cond := .code yX7_isAt cX7_isAt 3 (some .boolean) :: wAll
abbrev vX7_readLine : List Cond := .code yX7_readLine cX7_readLine 3 none :: wAll
abbrev vX7_readWord : List Cond := .code yX7_readWord cX7_readWord 6 (some (.object "FlickerDesk$Word")) :: wAll
abbrev vX7_stands : List Cond := .code yX7_stands cX7_stands 4 (some .boolean) :: wAll
abbrev vX7_isOutOfPlace : List Cond := .code yX7_isOutOfPlace cX7_isOutOfPlace 2 (some .boolean) :: wAll
abbrev vX7_readNumbers : List Cond := .code yX7_readNumbers cX7_readNumbers 2 none :: wAll
abbrev vX7_readSize : List Cond := .code yX7_readSize cX7_readSize 1 none :: wAll
abbrev vX7_readWeight : List Cond := .code yX7_readWeight cX7_readWeight 2 none :: wAll
abbrev vX7_readMark : List Cond := .code yX7_readMark cX7_readMark 3 none :: wAll
abbrev vX7_readNumber : List Cond := .code yX7_readNumber cX7_readNumber 3 (some .boolean) :: wAll
abbrev vX7_readLineEnd : List Cond := .code yX7_readLineEnd cX7_readLineEnd 1 none :: wAll
abbrev vX7_readFrame : List Cond := .code yX7_readFrame cX7_readFrame 4 none :: wAll
abbrev vX7_endFrame : List Cond := .code yX7_endFrame cX7_endFrame 2 none :: wAll
abbrev vX7_readRun : List Cond := .code yX7_readRun cX7_readRun 6 (some .int) :: wAll
abbrev vX8_init : List Cond := .code yX8_init cX8_init 1 none :: wAll
abbrev vX8_find : List Cond := .code yX8_find cX8_find 4 none :: wAll
abbrev vX8_isFirst : List Cond := .code yX8_isFirst cX8_isFirst 4 (some .boolean) :: wAll
abbrev vX8_begins : List Cond := .code yX8_begins cX8_begins 2 (some .boolean) :: wAll
abbrev vX8_start : List Cond := .code yX8_start cX8_start 2 (some .int) :: wAll
abbrev vX8_last : List Cond := .code yX8_last cX8_last 2 (some .int) :: wAll
abbrev vX8_keyFrame : List Cond := .code yX8_keyFrame cX8_keyFrame 8 (some .int) :: wAll
abbrev vX9_init : List Cond := .code yX9_init cX9_init 1 none :: wAll
abbrev vX9_read : List Cond := .code yX9_read cX9_read 7 none :: wAll
abbrev vX9_number : List Cond := .code yX9_number cX9_number 4 (some .int) :: wAll
abbrev vX9_mean : List Cond := .code yX9_mean cX9_mean 4 (some .int) :: wAll
abbrev vX9_shades : List Cond := .code yX9_shades cX9_shades 4 (some .int) :: wAll
abbrev vX9_gap : List Cond := .code yX9_gap cX9_gap 6 (some .int) :: wAll
abbrev vX9_isNew : List Cond := .code yX9_isNew cX9_isNew 3 (some .boolean) :: wAll
abbrev vX11_init : List Cond := .code yX11_init cX11_init 1 none :: wAll
abbrev vX11_feed : List Cond := .code yX11_feed cX11_feed 6 (some .int) :: wAll
abbrev vX11_tell : List Cond := .code yX11_tell cX11_tell 2 (some .int) :: wAll
abbrev vX11_fault : List Cond := .code yX11_fault cX11_fault 2 (some .int) :: wAll
abbrev vX11_set : List Cond := .code yX11_set cX11_set 4 (some .int) :: wAll
abbrev vX11_weight : List Cond := .code yX11_weight cX11_weight 4 (some .int) :: wAll
abbrev vX11_cut : List Cond := .code yX11_cut cX11_cut 2 (some .int) :: wAll
abbrev vX11_skip : List Cond := .code yX11_skip cX11_skip 2 (some .int) :: wAll
abbrev vX11_dot : List Cond := .code yX11_dot cX11_dot 5 (some .int) :: wAll
abbrev vX11_take : List Cond := .code yX11_take cX11_take 3 (some .int) :: wAll
abbrev vX11_undo : List Cond := .code yX11_undo cX11_undo 1 (some .int) :: wAll
abbrev vX11_shade : List Cond := .code yX11_shade cX11_shade 5 (some .int) :: wAll
abbrev vX11_level : List Cond := .code yX11_level cX11_level 4 (some .int) :: wAll
abbrev vX11_frame : List Cond := .code yX11_frame cX11_frame 3 (some .int) :: wAll
abbrev vX11_apart : List Cond := .code yX11_apart cX11_apart 4 (some .int) :: wAll
abbrev vX11_scene : List Cond := .code yX11_scene cX11_scene 3 (some .int) :: wAll
abbrev vX11_rank : List Cond := .code yX11_rank cX11_rank 4 (some .int) :: wAll
abbrev vX11_inverse : List Cond := .code yX11_inverse cX11_inverse 5 (some .int) :: wAll
abbrev vX11_flicker : List Cond := .code yX11_flicker cX11_flicker 2 (some .int) :: wAll
abbrev vX11_steady : List Cond := .code yX11_steady cX11_steady 2 (some .int) :: wAll
abbrev vX11_bestRadius : List Cond := .code yX11_bestRadius cX11_bestRadius 5 (some .int) :: wAll
abbrev vX11_leastStep : List Cond := .code yX11_leastStep cX11_leastStep 3 (some .int) :: wAll
abbrev vX11_flash : List Cond := .code yX11_flash cX11_flash 6 (some .int) :: wAll
abbrev vX11_period : List Cond := .code yX11_period cX11_period 9 (some .int) :: wAll
abbrev vX11_rounds : List Cond := .code yX11_rounds cX11_rounds 3 (some .int) :: wAll
abbrev vX11_settles : List Cond := .code yX11_settles cX11_settles 2 (some .int) :: wAll
abbrev vX11_key : List Cond := .code yX11_key cX11_key 3 (some .int) :: wAll
abbrev vX11_parted : List Cond := .code yX11_parted cX11_parted 3 (some .int) :: wAll
abbrev vX11_shift : List Cond := .code yX11_shift cX11_shift 3 (some .int) :: wAll
abbrev vX11_alike : List Cond := .code yX11_alike cX11_alike 4 (some .int) :: wAll
abbrev vX11_nearest : List Cond := .code yX11_nearest cX11_nearest 7 (some .int) :: wAll
abbrev vX11_kinds : List Cond := .code yX11_kinds cX11_kinds 5 (some .int) :: wAll
abbrev vX11_fitted : List Cond := .code yX11_fitted cX11_fitted 4 (some .int) :: wAll
abbrev vX11_lost : List Cond := .code yX11_lost cX11_lost 5 (some .int) :: wAll
abbrev vX11_setting : List Cond := .code yX11_setting cX11_setting 2 (some .int) :: wAll
abbrev vX11_count : List Cond := .code yX11_count cX11_count 2 (some .int) :: wAll
abbrev vX11_weightCount : List Cond := .code yX11_weightCount cX11_weightCount 2 (some .int) :: wAll
abbrev vX11_isShade : List Cond := .code yX11_isShade cX11_isShade 1 (some .boolean) :: wAll
abbrev vX11_isSetting : List Cond := .code yX11_isSetting cX11_isSetting 1 (some .boolean) :: wAll
abbrev vX11_beginAct : List Cond := .code yX11_beginAct cX11_beginAct 1 none :: wAll
abbrev vX11_forgetDerived : List Cond := .code yX11_forgetDerived cX11_forgetDerived 1 none :: wAll
abbrev vX11_looked : List Cond := .code yX11_looked cX11_looked 1 (some (.object "FlickerDesk$Evening")) :: wAll
abbrev vX11_evened : List Cond := .code yX11_evened cX11_evened 1 (some (.object "FlickerDesk$Evening")) :: wAll
abbrev vX11_tally : List Cond := .code yX11_tally cX11_tally 2 (some (.object "FlickerDesk$Tally")) :: wAll
abbrev vX11_beginTrial : List Cond := .code yX11_beginTrial cX11_beginTrial 1 none :: wAll
abbrev vX11_trialFlicker : List Cond := .code yX11_trialFlicker cX11_trialFlicker 3 (some .int) :: wAll
abbrev vX11_takeInTrial : List Cond := .code yX11_takeInTrial cX11_takeInTrial 2 (some .int) :: wAll
abbrev vX12_thrown : List Cond := .code yX12_thrown cX12_thrown 1 (some .int) :: wAll
abbrev vX12_isIn : List Cond := .code yX12_isIn cX12_isIn 6 (some .boolean) :: wAll
abbrev vX12_init : List Cond := .code yX12_init cX12_init 1 none :: wAll
abbrev vX12_plain : List Cond := .code yX12_plain cX12_plain 2 none :: wAll
abbrev vX12_feed : List Cond := .code yX12_feed cX12_feed 8 (some .int) :: wAll
abbrev vX12_peek : List Cond := .code yX12_peek cX12_peek 1 (some .int) :: wAll
abbrev vX12_fails : List Cond := .code yX12_fails cX12_fails 3 none :: wAll
abbrev vX12_isLetter : List Cond := .code yX12_isLetter cX12_isLetter 1 (some .boolean) :: wAll
abbrev vX12_isDigit : List Cond := .code yX12_isDigit cX12_isDigit 1 (some .boolean) :: wAll
abbrev vX12_lettersHere : List Cond := .code yX12_lettersHere cX12_lettersHere 2 (some .int) :: wAll
abbrev vX12_wordHere : List Cond := .code yX12_wordHere cX12_wordHere 7 (some .int) :: wAll
abbrev vX12_numeral : List Cond := .code yX12_numeral cX12_numeral 4 (some .int) :: wAll
abbrev vX12_dots : List Cond := .code yX12_dots cX12_dots 1 (some .int) :: wAll
abbrev vX12_frameRead : List Cond := .code yX12_frameRead cX12_frameRead 7 none :: wAll
abbrev vX12_lineRead : List Cond := .code yX12_lineRead cX12_lineRead 5 none :: wAll
abbrev vX12_behind : List Cond := .code yX12_behind cX12_behind 2 none :: wAll
abbrev vX12_weightRead : List Cond := .code yX12_weightRead cX12_weightRead 3 none :: wAll
abbrev vX12_bitRead : List Cond := .code yX12_bitRead cX12_bitRead 3 none :: wAll
abbrev vX12_tell : List Cond := .code yX12_tell cX12_tell 3 (some .int) :: wAll
abbrev vX12_fault : List Cond := .code yX12_fault cX12_fault 2 (some .int) :: wAll
abbrev vX12_isFrame : List Cond := .code yX12_isFrame cX12_isFrame 2 (some .boolean) :: wAll
abbrev vX12_isPlace : List Cond := .code yX12_isPlace cX12_isPlace 2 (some .boolean) :: wAll
abbrev vX12_isShade : List Cond := .code yX12_isShade cX12_isShade 1 (some .boolean) :: wAll
abbrev vX12_remembers : List Cond := .code yX12_remembers cX12_remembers 2 none :: wAll
abbrev vX12_canSet : List Cond := .code yX12_canSet cX12_canSet 3 (some .boolean) :: wAll
abbrev vX12_set : List Cond := .code yX12_set cX12_set 4 (some .int) :: wAll
abbrev vX12_weight : List Cond := .code yX12_weight cX12_weight 4 (some .int) :: wAll
abbrev vX12_cut : List Cond := .code yX12_cut cX12_cut 2 (some .int) :: wAll
abbrev vX12_skip : List Cond := .code yX12_skip cX12_skip 2 (some .int) :: wAll
abbrev vX12_dot : List Cond := .code yX12_dot cX12_dot 5 (some .int) :: wAll
abbrev vX12_undo : List Cond := .code yX12_undo cX12_undo 2 (some .int) :: wAll
abbrev vX12_dotAt : List Cond := .code yX12_dotAt cX12_dotAt 3 (some .int) :: wAll
abbrev vX12_cumAt : List Cond := .code yX12_cumAt cX12_cumAt 3 (some .int) :: wAll
abbrev vX12_off : List Cond := .code yX12_off cX12_off 2 (some .int) :: wAll
abbrev vX12_apartBy : List Cond := .code yX12_apartBy cX12_apartBy 5 (some .int) :: wAll
abbrev vX12_lays : List Cond := .code yX12_lays cX12_lays 4 none :: wAll
abbrev vX12_scenes : List Cond := .code yX12_scenes cX12_scenes 3 (some .int) :: wAll
abbrev vX12_sceneOf : List Cond := .code yX12_sceneOf cX12_sceneOf 4 (some .int) :: wAll
abbrev vX12_isSkipped : List Cond := .code yX12_isSkipped cX12_isSkipped 2 (some .boolean) :: wAll
abbrev vX12_awayFrom : List Cond := .code yX12_awayFrom cX12_awayFrom 6 (some .int) :: wAll
abbrev vX12_midst : List Cond := .code yX12_midst cX12_midst 5 (some .int) :: wAll
abbrev vX12_firstOfScene : List Cond := .code yX12_firstOfScene cX12_firstOfScene 3 (some .int) :: wAll
abbrev vX12_keyOf : List Cond := .code yX12_keyOf cX12_keyOf 4 (some .int) :: wAll
abbrev vX12_laysTarget : List Cond := .code yX12_laysTarget cX12_laysTarget 6 none :: wAll
abbrev vX12_isKept : List Cond := .code yX12_isKept cX12_isKept 2 (some .boolean) :: wAll
abbrev vX12_boundedTo : List Cond := .code yX12_boundedTo cX12_boundedTo 5 (some .int) :: wAll
abbrev vX12_laysTable : List Cond := .code yX12_laysTable cX12_laysTable 3 none :: wAll
abbrev vX12_roundOf : List Cond := .code yX12_roundOf cX12_roundOf 8 (some .int) :: wAll
abbrev vX12_laysOrders : List Cond := .code yX12_laysOrders cX12_laysOrders 3 none :: wAll
abbrev vX12_rankOf : List Cond := .code yX12_rankOf cX12_rankOf 4 (some .int) :: wAll
abbrev vX12_evens : List Cond := .code yX12_evens cX12_evens 6 none :: wAll
abbrev vX12_evensAll : List Cond := .code yX12_evensAll cX12_evensAll 2 none :: wAll
abbrev vX12_changedOf : List Cond := .code yX12_changedOf cX12_changedOf 4 (some .int) :: wAll
abbrev vX12_takes : List Cond := .code yX12_takes cX12_takes 4 (some .int) :: wAll
abbrev vX12_take : List Cond := .code yX12_take cX12_take 1 (some .int) :: wAll
abbrev vX12_laysAside : List Cond := .code yX12_laysAside cX12_laysAside 2 none :: wAll
abbrev vX12_comesBack : List Cond := .code yX12_comesBack cX12_comesBack 2 none :: wAll
abbrev vX12_rounds : List Cond := .code yX12_rounds cX12_rounds 3 (some .int) :: wAll
abbrev vX12_settles : List Cond := .code yX12_settles cX12_settles 2 (some .int) :: wAll
abbrev vX12_key : List Cond := .code yX12_key cX12_key 2 (some .int) :: wAll
abbrev vX12_laysParts : List Cond := .code yX12_laysParts cX12_laysParts 8 none :: wAll
abbrev vX12_parted : List Cond := .code yX12_parted cX12_parted 6 (some .int) :: wAll
abbrev vX12_likeBy : List Cond := .code yX12_likeBy cX12_likeBy 8 (some .int) :: wAll
abbrev vX12_shift : List Cond := .code yX12_shift cX12_shift 9 (some .int) :: wAll
abbrev vX12_shade : List Cond := .code yX12_shade cX12_shade 4 (some .int) :: wAll
abbrev vX12_countIn : List Cond := .code yX12_countIn cX12_countIn 3 (some .int) :: wAll
abbrev vX12_level : List Cond := .code yX12_level cX12_level 4 (some .int) :: wAll
abbrev vX12_shadesIn : List Cond := .code yX12_shadesIn cX12_shadesIn 4 (some .int) :: wAll
abbrev vX12_frame : List Cond := .code yX12_frame cX12_frame 5 (some .int) :: wAll
abbrev vX12_apart : List Cond := .code yX12_apart cX12_apart 4 (some .int) :: wAll
abbrev vX12_scene : List Cond := .code yX12_scene cX12_scene 3 (some .int) :: wAll
abbrev vX12_rank : List Cond := .code yX12_rank cX12_rank 3 (some .int) :: wAll
abbrev vX12_inverse : List Cond := .code yX12_inverse cX12_inverse 4 (some .int) :: wAll
abbrev vX12_flickerBy : List Cond := .code yX12_flickerBy cX12_flickerBy 4 (some .int) :: wAll
abbrev vX12_flicker : List Cond := .code yX12_flicker cX12_flicker 2 (some .int) :: wAll
abbrev vX12_steady : List Cond := .code yX12_steady cX12_steady 2 (some .int) :: wAll
abbrev vX12_bestRadius : List Cond := .code yX12_bestRadius cX12_bestRadius 6 (some .int) :: wAll
abbrev vX12_leastStep : List Cond := .code yX12_leastStep cX12_leastStep 5 (some .int) :: wAll
abbrev vX12_isFlash : List Cond := .code yX12_isFlash cX12_isFlash 3 (some .boolean) :: wAll
abbrev vX12_flash : List Cond := .code yX12_flash cX12_flash 5 (some .int) :: wAll
abbrev vX12_period : List Cond := .code yX12_period cX12_period 6 (some .int) :: wAll
abbrev vX12_areLike : List Cond := .code yX12_areLike cX12_areLike 4 (some .boolean) :: wAll
abbrev vX12_firstLike : List Cond := .code yX12_firstLike cX12_firstLike 3 (some .int) :: wAll
abbrev vX12_alike : List Cond := .code yX12_alike cX12_alike 4 (some .int) :: wAll
abbrev vX12_nearest : List Cond := .code yX12_nearest cX12_nearest 4 (some .int) :: wAll
abbrev vX12_kinds : List Cond := .code yX12_kinds cX12_kinds 7 (some .int) :: wAll
abbrev vX12_costOf : List Cond := .code yX12_costOf cX12_costOf 7 (some .int) :: wAll
abbrev vX12_leastFrom : List Cond := .code yX12_leastFrom cX12_leastFrom 5 (some .int) :: wAll
abbrev vX12_fitted : List Cond := .code yX12_fitted cX12_fitted 7 (some .int) :: wAll
abbrev vX12_lost : List Cond := .code yX12_lost cX12_lost 6 (some .int) :: wAll
abbrev vX12_setting : List Cond := .code yX12_setting cX12_setting 2 (some .int) :: wAll
abbrev vX12_count : List Cond := .code yX12_count cX12_count 2 (some .int) :: wAll
abbrev vJ6_bitCount_0f7a4 : List Cond := .code yJ6_bitCount_0f7a4 cJ6_bitCount_0f7a4 1 (some .int) :: wAll
abbrev vJ9_abs_0f7a4 : List Cond := .code yJ9_abs_0f7a4 cJ9_abs_0f7a4 1 (some .int) :: wAll
abbrev vJ9_max_7cf53 : List Cond := .code yJ9_max_7cf53 cJ9_max_7cf53 2 (some .int) :: wAll
abbrev vJ9_min_7cf53 : List Cond := .code yJ9_min_7cf53 cJ9_min_7cf53 2 (some .int) :: wAll
abbrev vJ0_length_8abf5 : List Cond := .code yJ0_length_8abf5 cJ0_length_8abf5 1 (some .int) :: wAll
abbrev vJ0_charAt_5068e : List Cond := .code yJ0_charAt_5068e cJ0_charAt_5068e 2 (some .char) :: wAll
abbrev vJ0_coder_7d493 : List Cond := .code yJ0_coder_7d493 cJ0_coder_7d493 1 (some .byte) :: wAll
abbrev vJ0_isLatin1_aae02 : List Cond := .code yJ0_isLatin1_aae02 cJ0_isLatin1_aae02 1 (some .boolean) :: wAll
abbrev vJ0_checkIndex_df160 : List Cond := .code yJ0_checkIndex_df160 cJ0_checkIndex_df160 2 none :: wAll
abbrev vJ1_charAt_3b067 : List Cond := .code yJ1_charAt_3b067 cJ1_charAt_3b067 2 (some .char) :: wAll
abbrev vJ2_getChar_3b067 : List Cond := .code yJ2_getChar_3b067 cJ2_getChar_3b067 2 (some .char) :: wAll
abbrev vJ2_length_9d52b : List Cond := .code yJ2_length_9d52b cJ2_length_9d52b 1 (some .int) :: wAll
abbrev vJ2_charAt_3b067 : List Cond := .code yJ2_charAt_3b067 cJ2_charAt_3b067 2 (some .char) :: wAll
abbrev vJ2_checkIndex_2214a : List Cond := .code yJ2_checkIndex_2214a cJ2_checkIndex_2214a 2 none :: wAll
abbrev vJ7_fill_53178 : List Cond := .code yJ7_fill_53178 cJ7_fill_53178 4 none :: wAll
abbrev vJ3_checkIndex_8e157 : List Cond := .code yJ3_checkIndex_8e157 cJ3_checkIndex_8e157 3 (some .int) :: wAll
