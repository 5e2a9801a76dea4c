def prgL : List (List Ent × Nat) := [(kPR_feed, 6),
  (kPR_race, 3),
  (kPR_fault, 1),
  (kPR_told, 3),
  (kPR_shop, 3),
  (kPR_worth, 5),
  (kPR_doing, 5),
  (kPR_gain, 4),
  (kPR_unrest, 1),
  (kPR_rule, 7),
  (kPR_follow, 7),
  (kPR_judged, 2),
  (kPR_breaks, 1),
  (kPR_alone, 6),
  (kPR_best, 4),
  (kPR_answer, 3),
  (kPR_first, 2),
  (kPR_late, 1),
  (kPR_waste, 1),
  (kPR_harder, 1),
  (kPR_behind, 1),
  (kPR_leavers, 2),
  (kPR_joined, 4),
  (kPR_sold, 9),
  (kPR_offer, 2),
  (kPR_king, 9),
  (kPR_entry, 5),
  (kPR_edge, 1),
  (kPR_run, 3),
  (kPR_image, 2),
  (kPR_restore, 2),
  (kPR_count, 2),
  (kPR_needRace, 1),
  (kPR_needShop, 2),
  (kPR_needTwo, 3),
  (kPR_needState, 8),
  (kPR_needAlone, 5),
  (kPR_codeOf, 7),
  (kPR_settled, 1),
  (kPR_obeyed, 1),
  (kPR_weighOffer, 4),
  (kPR_allEarn, 9),
  (kPR_findEdge, 5),
  (kPR_stepsIn, 2),
  (kPR_doingIn, 2),
  (kPR_nextIn, 5),
  (kPR_stepsPlace, 3),
  (kMo_thrown, 1),
  (kMo_bad, 3),
  (kMo_in, 3),
  (kMo_feed, 8),
  (kMo_byteAt, 2),
  (kMo_blanks, 1),
  (kMo_wrong, 3),
  (kMo_isDigit, 1),
  (kMo_number, 5),
  (kMo_wordHere, 3),
  (kMo_word, 7),
  (kMo_isWord, 7),
  (kMo_skipWord, 1),
  (kMo_sign, 2),
  (kMo_must, 7),
  (kMo_opens, 2),
  (kMo_unit, 5),
  (kMo_product, 2),
  (kMo_sum, 4),
  (kMo_test, 4),
  (kMo_ands, 3),
  (kMo_ors, 3),
  (kMo_shopHere, 5),
  (kMo_clause, 1),
  (kMo_readAll, 2),
  (kMo_takes, 3),
  (kMo_race, 5),
  (kMo_tellsAgain, 1),
  (kMo_fault, 1),
  (kMo_told, 2),
  (kMo_shop, 3),
  (kMo_stepsOf, 2),
  (kMo_isIn, 2),
  (kMo_isOver, 5),
  (kMo_nextOf, 6),
  (kMo_holds, 7),
  (kMo_mayDo, 6),
  (kMo_chanceOf, 8),
  (kMo_costOf, 3),
  (kMo_inAfter, 4),
  (kMo_scale, 1),
  (kMo_share, 9),
  (kMo_hasFirst, 4),
  (kMo_comesTo, 3),
  (kMo_weight, 5),
  (kMo_weighs, 16),
  (kMo_digit, 2),
  (kMo_unitOf, 1),
  (kMo_mayAll, 3),
  (kMo_rows, 1),
  (kMo_settles, 20),
  (kMo_turned, 2),
  (kMo_isPlace, 3),
  (kMo_solve, 5),
  (kMo_placeOf, 7),
  (kMo_isState, 4),
  (kMo_worth, 5),
  (kMo_doing, 5),
  (kMo_gain, 4),
  (kMo_isWhole, 3),
  (kMo_unrest, 5),
  (kMo_nextPlace, 1),
  (kMo_rule, 6),
  (kMo_beginPlace, 1),
  (kMo_everybody, 1),
  (kMo_follow, 4),
  (kMo_follows, 6),
  (kMo_byRule, 6),
  (kMo_solveRules, 6),
  (kMo_judged, 2),
  (kMo_isBroken, 7),
  (kMo_breaks, 4),
  (kMo_findAlone, 9),
  (kMo_aloneBy, 8),
  (kMo_alone, 4),
  (kMo_best, 4),
  (kMo_othersWeight, 8),
  (kMo_answer, 9),
  (kMo_goesOn, 8),
  (kMo_isDone, 4),
  (kMo_blindBy, 19),
  (kMo_endsBy, 3),
  (kMo_runsThrough, 4),
  (kMo_flows, 14),
  (kMo_first, 2),
  (kMo_late, 1),
  (kMo_waste, 1),
  (kMo_isHarder, 6),
  (kMo_harder, 4),
  (kMo_behind, 3),
  (kMo_leavers, 5),
  (kMo_joined, 5),
  (kMo_sold, 6),
  (kMo_offer, 2),
  (kMo_king, 8),
  (kMo_entry, 6),
  (kMo_edge, 7),
  (kMo_run, 11),
  (kMo_image, 4),
  (kMo_restore, 4),
  (kMo_forgets, 1),
  (kMo_count, 6),
  (kBo_placeOf, 2),
  (kBo_rowAt, 3),
  (kBo_doingAt, 4),
  (kBo_gainAt, 3),
  (kBo_worthAt, 4),
  (kBo_settle, 4),
  (kBo_sumRows, 2),
  (kBo_sumFor, 6),
  (kBo_sumAt, 9),
  (kBo_keepLeastGain, 5),
  (kBo_keepWorths, 3),
  (kBo_obey, 5),
  (kBo_toldRow, 7),
  (kBo_statesThatBreak, 4),
  (kBo_isBroken, 9),
  (kBo_statesWithoutRest, 4),
  (kBo_statesOf, 4),
  (kBo_statesRunHarder, 4),
  (kBo_firstRunHarder, 3),
  (kBo_isRunHarder, 5),
  (kBo_statesLeftBy, 5),
  (kCo_walk, 5),
  (kCo_clearWalk, 2),
  (kCo_walkFrom, 13),
  (kCo_noteWinners, 5),
  (kCo_drive, 10),
  (kCo_bitsIn, 3),
  (kDe_copyFrom, 2),
  (kDe_clearRules, 2),
  (kDe_rulesNotRest, 3),
  (kDe_ruleAt, 4),
  (kDe_putRule, 5),
  (kDe_addPrize, 2),
  (kLe_holds, 4),
  (kLe_keep, 5),
  (kRa_clear, 2),
  (kRa_clearShop, 3),
  (kRa_copyFrom, 2),
  (kRa_costOf, 4),
  (kRa_chanceOf, 4),
  (kRa_scale, 2),
  (kRa_beginning, 1),
  (kRa_beginningOf, 4),
  (kRa_fits, 3),
  (kRa_isPlain, 3),
  (kRa_reaches, 5),
  (kRa_allows, 5),
  (kRa_partOf, 8),
  (kRa_joinShops, 6),
  (kRa_moveShop, 3),
  (kRe_takeIn, 3),
  (kRe_read, 3),
  (kRe_hasMore, 1),
  (kRe_readClause, 2),
  (kRe_readShop, 5),
  (kRe_beginTerms, 2),
  (kRe_readChoice, 3),
  (kRe_readBoth, 3),
  (kRe_readCheck, 4),
  (kRe_takeRelation, 1),
  (kRe_readSum, 3),
  (kRe_readProduct, 3),
  (kRe_readUnit, 3),
  (kRe_mayOpen, 3),
  (kRe_number, 6),
  (kRe_takeWord, 4),
  (kRe_takeSign, 2),
  (kRe_demandWord, 2),
  (kRe_demandSign, 2),
  (kRe_skipBlanks, 1),
  (kRe_refuse, 3),
  (kRe_signAt, 2),
  (kRe_isDigit, 1),
  (kRe_isLetter, 1),
  (kRe_workConditions, 5),
  (kTe_clear, 1),
  (kTe_isTold, 1),
  (kTe_put, 2),
  (kTe_holds, 7),
  (kTe_work, 3),
  (kTe_push, 2),
  (kTe_pop, 1),
  (kUn_bestAnswer, 5),
  (kUn_spreadCrowd, 4),
  (kUn_spreadFrom, 10),
  (kUn_winnersIn, 4),
  (kUn_paidAfter, 10),
  (kUn_findBests, 11),
  (kWe_open, 6),
  (kWe_openShop, 12),
  (kWe_openEnd, 8),
  (kWe_narrow, 4),
  (kWe_price, 5),
  (kWe_priceEnd, 4),
  (kWe_fold, 6),
  (kWe_foldAt, 19),
  (kWe_takeRow, 3),
  (kWe_weightOf, 5),
  (kWe_modesOf, 4),
  (kWe_chanceOf, 2),
  (kWe_canRow, 3),
  (kWe_costOfAll, 3),
  (kLa_race, 4),
  (kLa_told, 4),
  (kLa_shop, 5),
  (kLa_worth, 7),
  (kLa_doing, 7),
  (kLa_gain, 6),
  (kLa_unrest, 3),
  (kLa_rule, 7),
  (kLa_follow, 3),
  (kLa_judged, 4),
  (kLa_breaks, 3),
  (kLa_alone, 6),
  (kLa_best, 6),
  (kLa_answer, 5),
  (kLa_first, 4),
  (kLa_late, 3),
  (kLa_waste, 3),
  (kLa_harder, 3),
  (kLa_behind, 3),
  (kLa_leavers, 4),
  (kLa_joined, 5),
  (kLa_sold, 5),
  (kLa_offer, 4),
  (kLa_king, 4),
  (kLa_entry, 4),
  (kLa_edge, 3),
  (kLa_run, 5),
  (kLa_law, 8),
  (kJi_bitCount, 1),
  (kJm_max, 2),
  (kJm_maxJ, 4),
  (kJm_min, 2),
  (kJs_length, 1),
  (kJs_charAt, 2),
  (kJs_coder, 1),
  (kJs_isLatin1, 1),
  (kJl_charAt, 2)]
def prg : Prg := fun q => prgL[q]?
abbrev qPR_feed : Nat := 0
abbrev qPR_race : Nat := 1
abbrev qPR_fault : Nat := 2
abbrev qPR_told : Nat := 3
abbrev qPR_shop : Nat := 4
abbrev qPR_worth : Nat := 5
abbrev qPR_doing : Nat := 6
abbrev qPR_gain : Nat := 7
abbrev qPR_unrest : Nat := 8
abbrev qPR_rule : Nat := 9
abbrev qPR_follow : Nat := 10
abbrev qPR_judged : Nat := 11
abbrev qPR_breaks : Nat := 12
abbrev qPR_alone : Nat := 13
abbrev qPR_best : Nat := 14
abbrev qPR_answer : Nat := 15
abbrev qPR_first : Nat := 16
abbrev qPR_late : Nat := 17
abbrev qPR_waste : Nat := 18
abbrev qPR_harder : Nat := 19
abbrev qPR_behind : Nat := 20
abbrev qPR_leavers : Nat := 21
abbrev qPR_joined : Nat := 22
abbrev qPR_sold : Nat := 23
abbrev qPR_offer : Nat := 24
abbrev qPR_king : Nat := 25
abbrev qPR_entry : Nat := 26
abbrev qPR_edge : Nat := 27
abbrev qPR_run : Nat := 28
abbrev qPR_image : Nat := 29
abbrev qPR_restore : Nat := 30
abbrev qPR_count : Nat := 31
abbrev qPR_needRace : Nat := 32
abbrev qPR_needShop : Nat := 33
abbrev qPR_needTwo : Nat := 34
abbrev qPR_needState : Nat := 35
abbrev qPR_needAlone : Nat := 36
abbrev qPR_codeOf : Nat := 37
abbrev qPR_settled : Nat := 38
abbrev qPR_obeyed : Nat := 39
abbrev qPR_weighOffer : Nat := 40
abbrev qPR_allEarn : Nat := 41
abbrev qPR_findEdge : Nat := 42
abbrev qPR_stepsIn : Nat := 43
abbrev qPR_doingIn : Nat := 44
abbrev qPR_nextIn : Nat := 45
abbrev qPR_stepsPlace : Nat := 46
abbrev qMo_thrown : Nat := 47
abbrev qMo_bad : Nat := 48
abbrev qMo_in : Nat := 49
abbrev qMo_feed : Nat := 50
abbrev qMo_byteAt : Nat := 51
abbrev qMo_blanks : Nat := 52
abbrev qMo_wrong : Nat := 53
abbrev qMo_isDigit : Nat := 54
abbrev qMo_number : Nat := 55
abbrev qMo_wordHere : Nat := 56
abbrev qMo_word : Nat := 57
abbrev qMo_isWord : Nat := 58
abbrev qMo_skipWord : Nat := 59
abbrev qMo_sign : Nat := 60
abbrev qMo_must : Nat := 61
abbrev qMo_opens : Nat := 62
abbrev qMo_unit : Nat := 63
abbrev qMo_product : Nat := 64
abbrev qMo_sum : Nat := 65
abbrev qMo_test : Nat := 66
abbrev qMo_ands : Nat := 67
abbrev qMo_ors : Nat := 68
abbrev qMo_shopHere : Nat := 69
abbrev qMo_clause : Nat := 70
abbrev qMo_readAll : Nat := 71
abbrev qMo_takes : Nat := 72
abbrev qMo_race : Nat := 73
abbrev qMo_tellsAgain : Nat := 74
abbrev qMo_fault : Nat := 75
abbrev qMo_told : Nat := 76
abbrev qMo_shop : Nat := 77
abbrev qMo_stepsOf : Nat := 78
abbrev qMo_isIn : Nat := 79
abbrev qMo_isOver : Nat := 80
abbrev qMo_nextOf : Nat := 81
abbrev qMo_holds : Nat := 82
abbrev qMo_mayDo : Nat := 83
abbrev qMo_chanceOf : Nat := 84
abbrev qMo_costOf : Nat := 85
abbrev qMo_inAfter : Nat := 86
abbrev qMo_scale : Nat := 87
abbrev qMo_share : Nat := 88
abbrev qMo_hasFirst : Nat := 89
abbrev qMo_comesTo : Nat := 90
abbrev qMo_weight : Nat := 91
abbrev qMo_weighs : Nat := 92
abbrev qMo_digit : Nat := 93
abbrev qMo_unitOf : Nat := 94
abbrev qMo_mayAll : Nat := 95
abbrev qMo_rows : Nat := 96
abbrev qMo_settles : Nat := 97
abbrev qMo_turned : Nat := 98
abbrev qMo_isPlace : Nat := 99
abbrev qMo_solve : Nat := 100
abbrev qMo_placeOf : Nat := 101
abbrev qMo_isState : Nat := 102
abbrev qMo_worth : Nat := 103
abbrev qMo_doing : Nat := 104
abbrev qMo_gain : Nat := 105
abbrev qMo_isWhole : Nat := 106
abbrev qMo_unrest : Nat := 107
abbrev qMo_nextPlace : Nat := 108
abbrev qMo_rule : Nat := 109
abbrev qMo_beginPlace : Nat := 110
abbrev qMo_everybody : Nat := 111
abbrev qMo_follow : Nat := 112
abbrev qMo_follows : Nat := 113
abbrev qMo_byRule : Nat := 114
abbrev qMo_solveRules : Nat := 115
abbrev qMo_judged : Nat := 116
abbrev qMo_isBroken : Nat := 117
abbrev qMo_breaks : Nat := 118
abbrev qMo_findAlone : Nat := 119
abbrev qMo_aloneBy : Nat := 120
abbrev qMo_alone : Nat := 121
abbrev qMo_best : Nat := 122
abbrev qMo_othersWeight : Nat := 123
abbrev qMo_answer : Nat := 124
abbrev qMo_goesOn : Nat := 125
abbrev qMo_isDone : Nat := 126
abbrev qMo_blindBy : Nat := 127
abbrev qMo_endsBy : Nat := 128
abbrev qMo_runsThrough : Nat := 129
abbrev qMo_flows : Nat := 130
abbrev qMo_first : Nat := 131
abbrev qMo_late : Nat := 132
abbrev qMo_waste : Nat := 133
abbrev qMo_isHarder : Nat := 134
abbrev qMo_harder : Nat := 135
abbrev qMo_behind : Nat := 136
abbrev qMo_leavers : Nat := 137
abbrev qMo_joined : Nat := 138
abbrev qMo_sold : Nat := 139
abbrev qMo_offer : Nat := 140
abbrev qMo_king : Nat := 141
abbrev qMo_entry : Nat := 142
abbrev qMo_edge : Nat := 143
abbrev qMo_run : Nat := 144
abbrev qMo_image : Nat := 145
abbrev qMo_restore : Nat := 146
abbrev qMo_forgets : Nat := 147
abbrev qMo_count : Nat := 148
abbrev qBo_placeOf : Nat := 149
abbrev qBo_rowAt : Nat := 150
abbrev qBo_doingAt : Nat := 151
abbrev qBo_gainAt : Nat := 152
abbrev qBo_worthAt : Nat := 153
abbrev qBo_settle : Nat := 154
abbrev qBo_sumRows : Nat := 155
abbrev qBo_sumFor : Nat := 156
abbrev qBo_sumAt : Nat := 157
abbrev qBo_keepLeastGain : Nat := 158
abbrev qBo_keepWorths : Nat := 159
abbrev qBo_obey : Nat := 160
abbrev qBo_toldRow : Nat := 161
abbrev qBo_statesThatBreak : Nat := 162
abbrev qBo_isBroken : Nat := 163
abbrev qBo_statesWithoutRest : Nat := 164
abbrev qBo_statesOf : Nat := 165
abbrev qBo_statesRunHarder : Nat := 166
abbrev qBo_firstRunHarder : Nat := 167
abbrev qBo_isRunHarder : Nat := 168
abbrev qBo_statesLeftBy : Nat := 169
abbrev qCo_walk : Nat := 170
abbrev qCo_clearWalk : Nat := 171
abbrev qCo_walkFrom : Nat := 172
abbrev qCo_noteWinners : Nat := 173
abbrev qCo_drive : Nat := 174
abbrev qCo_bitsIn : Nat := 175
abbrev qDe_copyFrom : Nat := 176
abbrev qDe_clearRules : Nat := 177
abbrev qDe_rulesNotRest : Nat := 178
abbrev qDe_ruleAt : Nat := 179
abbrev qDe_putRule : Nat := 180
abbrev qDe_addPrize : Nat := 181
abbrev qLe_holds : Nat := 182
abbrev qLe_keep : Nat := 183
abbrev qRa_clear : Nat := 184
abbrev qRa_clearShop : Nat := 185
abbrev qRa_copyFrom : Nat := 186
abbrev qRa_costOf : Nat := 187
abbrev qRa_chanceOf : Nat := 188
abbrev qRa_scale : Nat := 189
abbrev qRa_beginning : Nat := 190
abbrev qRa_beginningOf : Nat := 191
abbrev qRa_fits : Nat := 192
abbrev qRa_isPlain : Nat := 193
abbrev qRa_reaches : Nat := 194
abbrev qRa_allows : Nat := 195
abbrev qRa_partOf : Nat := 196
abbrev qRa_joinShops : Nat := 197
abbrev qRa_moveShop : Nat := 198
abbrev qRe_takeIn : Nat := 199
abbrev qRe_read : Nat := 200
abbrev qRe_hasMore : Nat := 201
abbrev qRe_readClause : Nat := 202
abbrev qRe_readShop : Nat := 203
abbrev qRe_beginTerms : Nat := 204
abbrev qRe_readChoice : Nat := 205
abbrev qRe_readBoth : Nat := 206
abbrev qRe_readCheck : Nat := 207
abbrev qRe_takeRelation : Nat := 208
abbrev qRe_readSum : Nat := 209
abbrev qRe_readProduct : Nat := 210
abbrev qRe_readUnit : Nat := 211
abbrev qRe_mayOpen : Nat := 212
abbrev qRe_number : Nat := 213
abbrev qRe_takeWord : Nat := 214
abbrev qRe_takeSign : Nat := 215
abbrev qRe_demandWord : Nat := 216
abbrev qRe_demandSign : Nat := 217
abbrev qRe_skipBlanks : Nat := 218
abbrev qRe_refuse : Nat := 219
abbrev qRe_signAt : Nat := 220
abbrev qRe_isDigit : Nat := 221
abbrev qRe_isLetter : Nat := 222
abbrev qRe_workConditions : Nat := 223
abbrev qTe_clear : Nat := 224
abbrev qTe_isTold : Nat := 225
abbrev qTe_put : Nat := 226
abbrev qTe_holds : Nat := 227
abbrev qTe_work : Nat := 228
abbrev qTe_push : Nat := 229
abbrev qTe_pop : Nat := 230
abbrev qUn_bestAnswer : Nat := 231
abbrev qUn_spreadCrowd : Nat := 232
abbrev qUn_spreadFrom : Nat := 233
abbrev qUn_winnersIn : Nat := 234
abbrev qUn_paidAfter : Nat := 235
abbrev qUn_findBests : Nat := 236
abbrev qWe_open : Nat := 237
abbrev qWe_openShop : Nat := 238
abbrev qWe_openEnd : Nat := 239
abbrev qWe_narrow : Nat := 240
abbrev qWe_price : Nat := 241
abbrev qWe_priceEnd : Nat := 242
abbrev qWe_fold : Nat := 243
abbrev qWe_foldAt : Nat := 244
abbrev qWe_takeRow : Nat := 245
abbrev qWe_weightOf : Nat := 246
abbrev qWe_modesOf : Nat := 247
abbrev qWe_chanceOf : Nat := 248
abbrev qWe_canRow : Nat := 249
abbrev qWe_costOfAll : Nat := 250
abbrev qLa_race : Nat := 251
abbrev qLa_told : Nat := 252
abbrev qLa_shop : Nat := 253
abbrev qLa_worth : Nat := 254
abbrev qLa_doing : Nat := 255
abbrev qLa_gain : Nat := 256
abbrev qLa_unrest : Nat := 257
abbrev qLa_rule : Nat := 258
abbrev qLa_follow : Nat := 259
abbrev qLa_judged : Nat := 260
abbrev qLa_breaks : Nat := 261
abbrev qLa_alone : Nat := 262
abbrev qLa_best : Nat := 263
abbrev qLa_answer : Nat := 264
abbrev qLa_first : Nat := 265
abbrev qLa_late : Nat := 266
abbrev qLa_waste : Nat := 267
abbrev qLa_harder : Nat := 268
abbrev qLa_behind : Nat := 269
abbrev qLa_leavers : Nat := 270
abbrev qLa_joined : Nat := 271
abbrev qLa_sold : Nat := 272
abbrev qLa_offer : Nat := 273
abbrev qLa_king : Nat := 274
abbrev qLa_entry : Nat := 275
abbrev qLa_edge : Nat := 276
abbrev qLa_run : Nat := 277
abbrev qLa_law : Nat := 278
abbrev qJi_bitCount : Nat := 279
abbrev qJm_max : Nat := 280
abbrev qJm_maxJ : Nat := 281
abbrev qJm_min : Nat := 282
abbrev qJs_length : Nat := 283
abbrev qJs_charAt : Nat := 284
abbrev qJs_coder : Nat := 285
abbrev qJs_isLatin1 : Nat := 286
abbrev qJl_charAt : Nat := 287
