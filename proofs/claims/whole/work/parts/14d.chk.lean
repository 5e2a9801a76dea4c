set_option maxRecDepth 100000 in
set_option maxHeartbeats 4000000 in
theorem ck_Mo_aloneBy : chkM qMo_aloneBy = true := by decide +kernel
set_option maxRecDepth 100000 in
set_option maxHeartbeats 4000000 in
theorem ck_Mo_alone : chkM qMo_alone = true := by decide +kernel
set_option maxRecDepth 100000 in
set_option maxHeartbeats 4000000 in
theorem ck_Mo_best : chkM qMo_best = true := by decide +kernel
set_option maxRecDepth 100000 in
set_option maxHeartbeats 4000000 in
theorem ck_Mo_othersWeight : chkM qMo_othersWeight = true := by decide +kernel
set_option maxRecDepth 100000 in
set_option maxHeartbeats 4000000 in
theorem ck_Mo_answer : chkM qMo_answer = true := by decide +kernel
set_option maxRecDepth 100000 in
set_option maxHeartbeats 4000000 in
theorem ck_Mo_goesOn : chkM qMo_goesOn = true := by decide +kernel
set_option maxRecDepth 100000 in
set_option maxHeartbeats 4000000 in
theorem ck_Mo_isDone : chkM qMo_isDone = true := by decide +kernel
set_option maxRecDepth 100000 in
set_option maxHeartbeats 4000000 in
theorem ck_Mo_blindBy : chkM qMo_blindBy = true := by decide +kernel
set_option maxRecDepth 100000 in
set_option maxHeartbeats 4000000 in
theorem ck_Mo_endsBy : chkM qMo_endsBy = true := by decide +kernel
set_option maxRecDepth 100000 in
set_option maxHeartbeats 4000000 in
theorem ck_Mo_runsThrough : chkM qMo_runsThrough = true := by decide +kernel
set_option maxRecDepth 100000 in
set_option maxHeartbeats 4000000 in
theorem ck_Mo_flows : chkM qMo_flows = true := by decide +kernel
set_option maxRecDepth 100000 in
set_option maxHeartbeats 4000000 in
theorem ck_Mo_first : chkM qMo_first = true := by decide +kernel
set_option maxRecDepth 100000 in
set_option maxHeartbeats 4000000 in
theorem ck_Mo_late : chkM qMo_late = true := by decide +kernel
set_option maxRecDepth 100000 in
set_option maxHeartbeats 4000000 in
theorem ck_Mo_waste : chkM qMo_waste = true := by decide +kernel
set_option maxRecDepth 100000 in
set_option maxHeartbeats 4000000 in
theorem ck_Mo_isHarder : chkM qMo_isHarder = true := by decide +kernel
set_option maxRecDepth 100000 in
set_option maxHeartbeats 4000000 in
theorem ck_Mo_harder : chkM qMo_harder = true := by decide +kernel
set_option maxRecDepth 100000 in
set_option maxHeartbeats 4000000 in
theorem ck_Mo_behind : chkM qMo_behind = true := by decide +kernel
set_option maxRecDepth 100000 in
set_option maxHeartbeats 4000000 in
theorem ck_Mo_leavers : chkM qMo_leavers = true := by decide +kernel
set_option maxRecDepth 100000 in
set_option maxHeartbeats 4000000 in
theorem ck_Mo_joined : chkM qMo_joined = true := by decide +kernel
set_option maxRecDepth 100000 in
set_option maxHeartbeats 4000000 in
theorem ck_Mo_sold : chkM qMo_sold = true := by decide +kernel
set_option maxRecDepth 100000 in
set_option maxHeartbeats 4000000 in
theorem ck_Mo_offer : chkM qMo_offer = true := by decide +kernel
set_option maxRecDepth 100000 in
set_option maxHeartbeats 4000000 in
theorem ck_Mo_king : chkM qMo_king = true := by decide +kernel
set_option maxRecDepth 100000 in
set_option maxHeartbeats 4000000 in
theorem ck_Mo_entry : chkM qMo_entry = true := by decide +kernel
set_option maxRecDepth 100000 in
set_option maxHeartbeats 4000000 in
theorem ck_Mo_edge : chkM qMo_edge = true := by decide +kernel
set_option maxRecDepth 100000 in
set_option maxHeartbeats 4000000 in
theorem ck_Mo_run : chkM qMo_run = true := by decide +kernel
set_option maxRecDepth 100000 in
set_option maxHeartbeats 4000000 in
theorem ck_Mo_image : chkM qMo_image = true := by decide +kernel
set_option maxRecDepth 100000 in
set_option maxHeartbeats 4000000 in
theorem ck_Mo_restore : chkM qMo_restore = true := by decide +kernel
set_option maxRecDepth 100000 in
set_option maxHeartbeats 4000000 in
theorem ck_Mo_forgets : chkM qMo_forgets = true := by decide +kernel
set_option maxRecDepth 100000 in
set_option maxHeartbeats 4000000 in
theorem ck_Mo_count : chkM qMo_count = true := by decide +kernel
set_option maxRecDepth 100000 in
set_option maxHeartbeats 4000000 in
theorem ck_Bo_placeOf : chkM qBo_placeOf = true := by decide +kernel
set_option maxRecDepth 100000 in
set_option maxHeartbeats 4000000 in
theorem ck_Bo_rowAt : chkM qBo_rowAt = true := by decide +kernel
set_option maxRecDepth 100000 in
set_option maxHeartbeats 4000000 in
theorem ck_Bo_doingAt : chkM qBo_doingAt = true := by decide +kernel
set_option maxRecDepth 100000 in
set_option maxHeartbeats 4000000 in
theorem ck_Bo_gainAt : chkM qBo_gainAt = true := by decide +kernel
set_option maxRecDepth 100000 in
set_option maxHeartbeats 4000000 in
theorem ck_Bo_worthAt : chkM qBo_worthAt = true := by decide +kernel
set_option maxRecDepth 100000 in
set_option maxHeartbeats 4000000 in
theorem ck_Bo_settle : chkM qBo_settle = true := by decide +kernel
set_option maxRecDepth 100000 in
set_option maxHeartbeats 4000000 in
theorem ck_Bo_sumRows : chkM qBo_sumRows = true := by decide +kernel
set_option maxRecDepth 100000 in
set_option maxHeartbeats 4000000 in
theorem ck_Bo_sumFor : chkM qBo_sumFor = true := by decide +kernel
set_option maxRecDepth 100000 in
set_option maxHeartbeats 4000000 in
theorem ck_Bo_sumAt : chkM qBo_sumAt = true := by decide +kernel
set_option maxRecDepth 100000 in
set_option maxHeartbeats 4000000 in
theorem ck_Bo_keepLeastGain : chkM qBo_keepLeastGain = true := by decide +kernel
set_option maxRecDepth 100000 in
set_option maxHeartbeats 4000000 in
theorem ck_Bo_keepWorths : chkM qBo_keepWorths = true := by decide +kernel
set_option maxRecDepth 100000 in
set_option maxHeartbeats 4000000 in
theorem ck_Bo_obey : chkM qBo_obey = true := by decide +kernel
set_option maxRecDepth 100000 in
set_option maxHeartbeats 4000000 in
theorem ck_Bo_toldRow : chkM qBo_toldRow = true := by decide +kernel
set_option maxRecDepth 100000 in
set_option maxHeartbeats 4000000 in
theorem ck_Bo_statesThatBreak : chkM qBo_statesThatBreak = true := by decide +kernel
set_option maxRecDepth 100000 in
set_option maxHeartbeats 4000000 in
theorem ck_Bo_isBroken : chkM qBo_isBroken = true := by decide +kernel
set_option maxRecDepth 100000 in
set_option maxHeartbeats 4000000 in
theorem ck_Bo_statesWithoutRest : chkM qBo_statesWithoutRest = true := by decide +kernel
set_option maxRecDepth 100000 in
set_option maxHeartbeats 4000000 in
theorem ck_Bo_statesOf : chkM qBo_statesOf = true := by decide +kernel
set_option maxRecDepth 100000 in
set_option maxHeartbeats 4000000 in
theorem ck_Bo_statesRunHarder : chkM qBo_statesRunHarder = true := by decide +kernel
set_option maxRecDepth 100000 in
set_option maxHeartbeats 4000000 in
theorem ck_Bo_firstRunHarder : chkM qBo_firstRunHarder = true := by decide +kernel
set_option maxRecDepth 100000 in
set_option maxHeartbeats 4000000 in
theorem ck_Bo_isRunHarder : chkM qBo_isRunHarder = true := by decide +kernel
set_option maxRecDepth 100000 in
set_option maxHeartbeats 4000000 in
theorem ck_Bo_statesLeftBy : chkM qBo_statesLeftBy = true := by decide +kernel
set_option maxRecDepth 100000 in
set_option maxHeartbeats 4000000 in
theorem ck_Co_walk : chkM qCo_walk = true := by decide +kernel
set_option maxRecDepth 100000 in
set_option maxHeartbeats 4000000 in
theorem ck_Co_clearWalk : chkM qCo_clearWalk = true := by decide +kernel
set_option maxRecDepth 100000 in
set_option maxHeartbeats 4000000 in
theorem ck_Co_walkFrom : chkM qCo_walkFrom = true := by decide +kernel
set_option maxRecDepth 100000 in
set_option maxHeartbeats 4000000 in
theorem ck_Co_noteWinners : chkM qCo_noteWinners = true := by decide +kernel
set_option maxRecDepth 100000 in
set_option maxHeartbeats 4000000 in
theorem ck_Co_drive : chkM qCo_drive = true := by decide +kernel
set_option maxRecDepth 100000 in
set_option maxHeartbeats 4000000 in
theorem ck_Co_bitsIn : chkM qCo_bitsIn = true := by decide +kernel
set_option maxRecDepth 100000 in
set_option maxHeartbeats 4000000 in
theorem ck_De_copyFrom : chkM qDe_copyFrom = true := by decide +kernel
set_option maxRecDepth 100000 in
set_option maxHeartbeats 4000000 in
theorem ck_De_clearRules : chkM qDe_clearRules = true := by decide +kernel
set_option maxRecDepth 100000 in
set_option maxHeartbeats 4000000 in
theorem ck_De_rulesNotRest : chkM qDe_rulesNotRest = true := by decide +kernel
set_option maxRecDepth 100000 in
set_option maxHeartbeats 4000000 in
theorem ck_De_ruleAt : chkM qDe_ruleAt = true := by decide +kernel
