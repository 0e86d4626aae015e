/-! ===== the program: printed by a program of our own out of the tables and the decode rows ===== -/
def cnm : List String := [RX0, RX1, RX2, RX3, RX4, RX5, RX6, RX7, RX8, RX9, RX10, RX11, RX12, RL, RJ0, RJ1, RJ3, RJ6, RJ9, RJ7]
abbrev ME : Type := ByteArray × MethodName × Nat × Nat × Option Nat × Option FieldType × List (Nat × Nat × Nat × Nat) × List (Nat × Nat × Nat × Int) × Nat
def gm_0 : List ME := [
  (cX0_init, yX0_init, 1, 1, some 1, none, [], [], 0),
  (cX0_placeToCall, yX0_placeToCall, 10, 4, some 1, (some .int), [], [], 0),
  (cX0_setOut, yX0_setOut, 4, 4, some 1, none, [], [], 0),
  (cX0_seekOrder, yX0_seekOrder, 8, 4, some 1, none, [], [], 0),
  (cX0_visitOf, yX0_visitOf, 2, 2, some 1, (some .int), [], [], 0),
  (cX0_gather, yX0_gather, 3, 2, some 1, none, [], [], 0),
  (cX0_goRound, yX0_goRound, 6, 2, some 1, none, [], [], 0),
  (cX0_nextOrder, yX0_nextOrder, 5, 1, some 1, (some .boolean), [], [], 0),
  (cX0_swap, yX0_swap, 4, 3, some 1, none, [], [], 0),
  (cX1_init, yX1_init, 1, 1, some 2, none, [], [], 1),
  (cX1_look, yX1_look, 8, 4, some 2, none, [], [], 1),
  (cX1_seesRise, yX1_seesRise, 6, 5, some 2, (some .boolean), [], [], 1),
  (cX1_countCalls, yX1_countCalls, 5, 3, some 2, (some .int), [], [], 1),
  (cX1_isCalledInTime, yX1_isCalledInTime, 4, 4, some 2, (some .boolean), [], [], 1),
  (cX1_isInTime, yX1_isInTime, 3, 3, some 2, (some .boolean), [], [], 1),
  (cX1_oddsWith, yX1_oddsWith, 7, 4, some 2, (some .long), [], [], 1)]
def gm_1 : List ME := [
  (cX1_fearNow, yX1_fearNow, 5, 2, some 2, (some .long), [], [], 1),
  (cX1_fearWith, yX1_fearWith, 7, 3, some 2, (some .long), [], [], 1),
  (cX1_drawnBits, yX1_drawnBits, 8, 3, some 2, (some .int), [], [], 1),
  (cX2_init, yX2_init, 1, 1, some 3, none, [], [], 2),
  (cX2_takeFrom, yX2_takeFrom, 3, 2, some 3, none, [], [], 2),
  (cX2_addLog, yX2_addLog, 4, 4, some 3, none, [], [], 2),
  (cX2_logsMet, yX2_logsMet, 4, 2, some 3, (some .int), [], [], 2),
  (cX2_judged, yX2_judged, 3, 3, some 3, (some .int), [], [], 2),
  (cX3_init, yX3_init, 1, 1, some 4, none, [], [], 3),
  (cX3_runFrom, yX3_runFrom, 6, 5, some 4, none, [], [], 3),
  (cX3_runQuarter, yX3_runQuarter, 12, 5, some 4, none, [], [], 3),
  (cX3_released, yX3_released, 11, 4, none, (some .int), [], [], 3),
  (cX3_levelIn, yX3_levelIn, 3, 3, some 4, (some .int), [], [], 3),
  (cX3_riseIn, yX3_riseIn, 3, 3, some 4, (some .int), [], [], 3),
  (cX3_greatestRise, yX3_greatestRise, 5, 3, some 4, (some .int), [], [], 3),
  (cX3_fallsBeyond, yX3_fallsBeyond, 6, 3, some 4, (some .boolean), [], [], 3)]
def gm_2 : List ME := [
  (cX3_isWet, yX3_isWet, 4, 4, some 4, (some .boolean), [], [], 3),
  (cX3_firstWet, yX3_firstWet, 7, 5, some 4, (some .int), [], [], 3),
  (cX3_harmDone, yX3_harmDone, 4, 2, some 4, (some .int), [], [], 3),
  (cX4_init, yX4_init, 1, 1, some 5, none, [], [], 4),
  (cX4_takeFrom, yX4_takeFrom, 3, 2, some 5, none, [], [], 4),
  (cX4_tell, yX4_tell, 3, 2, some 5, none, [], [], 4),
  (cX4_tellLine, yX4_tellLine, 2, 2, some 5, none, [], [], 4),
  (cX4_tellLake, yX4_tellLake, 2, 2, some 5, none, [], [], 4),
  (cX4_tellRow, yX4_tellRow, 8, 4, some 5, none, [], [], 4),
  (cX4_tellGate, yX4_tellGate, 3, 2, some 5, none, [], [], 4),
  (cX4_tellReach, yX4_tellReach, 2, 2, some 5, none, [], [], 4),
  (cX4_tellPlace, yX4_tellPlace, 2, 2, some 5, none, [], [], 4),
  (cX4_firstLevel, yX4_firstLevel, 1, 1, some 5, (some .int), [], [], 4),
  (cX4_wholeInflow, yX4_wholeInflow, 3, 1, some 5, (some .int), [], [], 4),
  (cX4_flowOf, yX4_flowOf, 3, 3, some 5, (some .int), [], [], 4),
  (cX5_init, yX5_init, 1, 1, some 6, none, [], [], 5)]
def gm_3 : List ME := [
  (cX5_seek, yX5_seek, 7, 6, some 6, none, [], [], 5),
  (cX5_seekRow, yX5_seekRow, 6, 4, some 6, none, [], [], 5),
  (cX5_openFor, yX5_openFor, 5, 4, some 6, (some .int), [], [], 5),
  (cX6_init, yX6_init, 1, 1, some 7, none, [], [], 6),
  (cX6_takeFrom, yX6_takeFrom, 2, 2, some 7, none, [], [], 6),
  (cX6_addPerson, yX6_addPerson, 7, 7, some 7, none, [], [], 6),
  (cX6_addCall, yX6_addCall, 3, 3, some 7, none, [], [], 6),
  (cX6_callsOf, yX6_callsOf, 4, 2, some 7, (some .int), [], [], 6),
  (cX7_init, yX7_init, 6, 6, some 8, none, [], [], 7),
  (cX7_stepFor, yX7_stepFor, 7, 6, some 8, (some .int), [], [], 7),
  (cX7_holds, yX7_holds, 10, 6, some 8, (some .boolean), [], [], 7),
  (cX7_stepAhead, yX7_stepAhead, 4, 4, none, (some .int), [], [], 7),
  (cX7_partOf, yX7_partOf, 5, 5, none, (some .int), [], [], 7),
  (cX7_join, yX7_join, 3, 3, some 8, (some .int), [], [], 7),
  (cX7_joined, yX7_joined, 3, 3, none, (some .int), [], [], 7),
  (cX8_init, yX8_init, 1, 1, some 9, none, [], [], 8)]
def gm_4 : List ME := [
  (cX8_tell, yX8_tell, 4, 2, some 9, none, [], [], 8),
  (cX8_made, yX8_made, 1, 1, some 9, (some (.object "GorgeDay$Rule")), [], [], 8),
  (cX8_tellAny, yX8_tellAny, 6, 3, some 9, none, [], [], 8),
  (cX8_tellAtom, yX8_tellAtom, 4, 3, some 9, none, [], [], 8),
  (cJ7_copyOf_59c91, yJ7_copyOf_59c91, 3, 2, none, (some (.array .int)), [], [], 19),
  (cX8_tellSum, yX8_tellSum, 4, 2, some 9, none, [], [], 8),
  (cX8_put, yX8_put, 3, 3, some 9, none, [], [], 8),
  (cX9_init, yX9_init, 1, 1, some 10, none, [], [], 9),
  (cX9_addNumber, yX9_addNumber, 3, 2, some 10, none, [], [], 9),
  (cX9_rewind, yX9_rewind, 1, 1, some 10, none, [], [], 9),
  (cX9_isRight, yX9_isRight, 1, 1, some 10, (some .boolean), [], [], 9),
  (cX9_fail, yX9_fail, 1, 1, some 10, none, [], [], 9),
  (cX9_goOn, yX9_goOn, 1, 1, some 10, none, [], [], 9),
  (cX9_isNumber, yX9_isNumber, 1, 1, some 10, (some .boolean), [], [], 9),
  (cX9_isSign, yX9_isSign, 2, 2, some 10, (some .boolean), [], [], 9),
  (cX9_isWord, yX9_isWord, 3, 2, some 10, (some .boolean), [], [], 9)]
def gm_5 : List ME := [
  (cX9_takeWord, yX9_takeWord, 2, 2, some 10, (some .boolean), [], [], 9),
  (cX9_takeSign, yX9_takeSign, 2, 2, some 10, (some .boolean), [], [], 9),
  (cX9_takeNumber, yX9_takeNumber, 4, 3, some 10, (some .int), [], [], 9),
  (cX9_lineBegins, yX9_lineBegins, 2, 2, some 10, (some .boolean), [], [], 9),
  (cX10_init, yX10_init, 1, 1, some 11, none, [], [], 10),
  (cX10_tryGate, yX10_tryGate, 7, 3, some 11, none, [], [], 10),
  (cX10_commonestBar, yX10_commonestBar, 3, 1, some 11, (some .int), [], [], 10),
  (cX10_warningWave, yX10_warningWave, 12, 4, some 11, (some .int), [], [], 10),
  (cX10_firstOpen, yX10_firstOpen, 3, 2, some 11, (some .int), [], [], 10),
  (cX10_fearOf, yX10_fearOf, 2, 2, some 11, (some .long), [], [], 10),
  (cX10_mostRain, yX10_mostRain, 4, 3, some 11, (some .int), [], [], 10),
  (cX10_quickestClosing, yX10_quickestClosing, 6, 5, some 11, (some .int), [], [], 10),
  (cX10_obey, yX10_obey, 7, 3, some 11, none, [], [], 10),
  (cX11_init, yX11_init, 1, 1, some 12, none, [], [], 11),
  (cX11_feed, yX11_feed, 6, 6, some 12, (some .int), [], [], 11),
  (cX11_end, yX11_end, 2, 2, some 12, (some .boolean), [], [], 11)]
def gm_6 : List ME := [
  (cX11_gorge, yX11_gorge, 1, 1, some 12, (some .int), [], [], 11),
  (cX11_rule, yX11_rule, 1, 1, some 12, (some .int), [], [], 11),
  (cX11_fault, yX11_fault, 1, 1, some 12, (some .int), [], [], 11),
  (cX11_open, yX11_open, 1, 1, some 12, (some .int), [], [], 11),
  (cX11_copy, yX11_copy, 2, 2, some 12, (some .int), [], [], 11),
  (cX11_step, yX11_step, 6, 6, some 12, none, [], [], 11),
  (cX11_slow, yX11_slow, 6, 6, some 12, none, [], [], 11),
  (cX11_pulse, yX11_pulse, 7, 7, some 12, none, [], [], 11),
  (cX11_stepAt, yX11_stepAt, 4, 4, some 12, (some .int), [], [], 11),
  (cX11_water, yX11_water, 5, 4, some 12, (some .int), [], [], 11),
  (cX11_level, yX11_level, 3, 3, some 12, (some .int), [], [], 11),
  (cX11_depth, yX11_depth, 4, 4, some 12, (some .int), [], [], 11),
  (cX11_flow, yX11_flow, 5, 4, some 12, (some .int), [], [], 11),
  (cX11_most, yX11_most, 8, 5, some 12, (some .int), [], [], 11),
  (cX11_wet, yX11_wet, 4, 4, some 12, (some .boolean), [], [], 11),
  (cX11_harm, yX11_harm, 2, 2, some 12, (some .int), [], [], 11)]
def gm_7 : List ME := [
  (cX11_down, yX11_down, 4, 2, some 12, (some .int), [], [], 11),
  (cX11_latest, yX11_latest, 4, 3, some 12, (some .int), [], [], 11),
  (cX11_person, yX11_person, 7, 7, some 12, (some .int), [], [], 11),
  (cX11_call, yX11_call, 3, 3, some 12, (some .int), [], [], 11),
  (cX11_calls, yX11_calls, 2, 1, some 12, (some .int), [], [], 11),
  (cX11_caught, yX11_caught, 3, 3, some 12, (some .int), [], [], 11),
  (cX11_odds, yX11_odds, 3, 3, some 12, (some .long), [], [], 11),
  (cX11_fear, yX11_fear, 2, 2, some 12, (some .long), [], [], 11),
  (cX11_bounds, yX11_bounds, 4, 4, some 12, none, [], [], 11),
  (cX11_judge, yX11_judge, 2, 2, some 12, (some .int), [], [], 11),
  (cX11_best, yX11_best, 3, 3, some 12, (some .int), [], [], 11),
  (cX11_whom, yX11_whom, 3, 3, some 12, (some .int), [], [], 11),
  (cX11_warden, yX11_warden, 8, 7, some 12, (some .long), [], [], 11),
  (cX11_warns, yX11_warns, 3, 3, some 12, (some .int), [], [], 11),
  (cX11_bears, yX11_bears, 2, 2, some 12, (some .int), [], [], 11),
  (cX11_closing, yX11_closing, 4, 4, some 12, (some .int), [], [], 11)]
def gm_8 : List ME := [
  (cX11_turbine, yX11_turbine, 2, 2, some 12, none, [], [], 11),
  (cX11_power, yX11_power, 7, 2, some 12, (some .long), [], [], 11),
  (cX11_hours, yX11_hours, 8, 7, some 12, (some .long), [], [], 11),
  (cX11_follow, yX11_follow, 2, 2, some 12, (some .int), [], [], 11),
  (cX11_keeps, yX11_keeps, 2, 2, some 12, (some .int), [], [], 11),
  (cX11_log, yX11_log, 4, 4, some 12, (some .int), [], [], 11),
  (cX11_like, yX11_like, 2, 2, some 12, (some .int), [], [], 11),
  (cX11_likest, yX11_likest, 5, 1, some 12, (some .int), [], [], 11),
  (cX11_near, yX11_near, 8, 3, some 12, (some .int), [], [], 11),
  (cX11_play, yX11_play, 3, 3, some 12, (some .int), [], [], 11),
  (cX11_image, yX11_image, 1, 1, some 12, none, [], [], 11),
  (cX11_back, yX11_back, 1, 1, some 12, (some .boolean), [], [], 11),
  (cX11_count, yX11_count, 2, 2, some 12, (some .int), [], [], 11),
  (cX11_closeText, yX11_closeText, 1, 1, some 12, (some .boolean), [], [], 11),
  (cX11_countOpening, yX11_countOpening, 1, 1, some 12, (some .int), [], [], 11),
  (cX11_forget, yX11_forget, 2, 2, some 12, none, [], [], 11)]
def gm_9 : List ME := [
  (cX11_floodOf, yX11_floodOf, 2, 2, some 12, (some (.object "GorgeDay$Flood")), [], [], 11),
  (cX11_dangerOf, yX11_dangerOf, 2, 2, some 12, (some (.object "GorgeDay$Danger")), [], [], 11),
  (cX11_needOpening, yX11_needOpening, 2, 2, some 12, none, [], [], 11),
  (cX11_needGate, yX11_needGate, 2, 2, some 12, none, [], [], 11),
  (cX11_needReach, yX11_needReach, 2, 2, some 12, none, [], [], 11),
  (cX11_needPlace, yX11_needPlace, 2, 2, some 12, none, [], [], 11),
  (cX11_needPerson, yX11_needPerson, 2, 2, some 12, none, [], [], 11),
  (cX11_needRoomForOpening, yX11_needRoomForOpening, 1, 1, some 12, none, [], [], 11),
  (cX11_needQuarter, yX11_needQuarter, 1, 1, none, none, [], [], 11),
  (cX11_needIndex, yX11_needIndex, 2, 2, none, none, [], [], 11),
  (cX11_needArgument, yX11_needArgument, 1, 1, none, none, [], [], 11),
  (cX11_isStep, yX11_isStep, 1, 1, none, (some .boolean), [], [], 11),
  (cX11_copyRow, yX11_copyRow, 2, 2, none, none, [], [], 11),
  (cX11_share, yX11_share, 2, 2, none, (some .int), [], [], 11),
  (cX11_setSteps, yX11_setSteps, 6, 5, none, none, [], [], 11),
  (cX11_goStepwise, yX11_goStepwise, 7, 5, none, none, [], [], 11)]
def gm_10 : List ME := [
  (cX12_init, yX12_init, 1, 1, some 13, none, [], [], 12),
  (cX12_thrown, yX12_thrown, 1, 1, some 13, (some .int), [], [], 12),
  (cX12_isIn, yX12_isIn, 3, 3, none, (some .boolean), [], [], 12),
  (cX12_isQuarter, yX12_isQuarter, 1, 1, none, (some .boolean), [], [], 12),
  (cX12_isGate, yX12_isGate, 2, 2, some 13, (some .boolean), [], [], 12),
  (cX12_isReach, yX12_isReach, 2, 2, some 13, (some .boolean), [], [], 12),
  (cX12_isPlace, yX12_isPlace, 2, 2, some 13, (some .boolean), [], [], 12),
  (cX12_isOpening, yX12_isOpening, 2, 2, some 13, (some .boolean), [], [], 12),
  (cX12_isPerson, yX12_isPerson, 2, 2, some 13, (some .boolean), [], [], 12),
  (cX12_ofReach, yX12_ofReach, 3, 3, some 13, (some .int), [], [], 12),
  (cX12_ofPlace, yX12_ofPlace, 3, 3, some 13, (some .int), [], [], 12),
  (cX12_ofPerson, yX12_ofPerson, 3, 3, some 13, (some .int), [], [], 12),
  (cX12_feed, yX12_feed, 8, 6, some 13, (some .int), [], [], 12),
  (cX12_end, yX12_end, 2, 2, some 13, (some .boolean), [], [], 12),
  (cX12_letter, yX12_letter, 2, 2, some 13, (some .int), [], [], 12),
  (cX12_skip, yX12_skip, 1, 1, some 13, none, [], [], 12)]
def gm_11 : List ME := [
  (cX12_isSign, yX12_isSign, 2, 2, some 13, (some .boolean), [], [], 12),
  (cX12_isFigure, yX12_isFigure, 1, 1, some 13, (some .boolean), [], [], 12),
  (cX12_has, yX12_has, 4, 2, some 13, (some .boolean), [], [], 12),
  (cX12_wrong, yX12_wrong, 2, 2, some 13, none, [], [], 12),
  (cX12_figures, yX12_figures, 5, 3, some 13, (some .int), [], [], 12),
  (cX12_spans, yX12_spans, 7, 3, some 13, none, [], [], 12),
  (cX12_gateLine, yX12_gateLine, 4, 2, some 13, none, [], [], 12),
  (cX12_gorgeLine, yX12_gorgeLine, 3, 1, some 13, none, [], [], 12),
  (cX12_lines, yX12_lines, 4, 2, some 13, none, [], [], 12),
  (cX12_gorge, yX12_gorge, 2, 1, some 13, (some .int), [], [], 12),
  (cX12_part, yX12_part, 2, 1, some 13, (some .int), [], [], 12),
  (cX12_sum, yX12_sum, 2, 1, some 13, (some .int), [], [], 12),
  (cX12_plain, yX12_plain, 4, 1, some 13, (some .boolean), [], [], 12),
  (cX12_atom, yX12_atom, 4, 1, some 13, (some .boolean), [], [], 12),
  (cX12_every, yX12_every, 3, 1, some 13, (some .boolean), [], [], 12),
  (cX12_some, yX12_some, 3, 1, some 13, (some .boolean), [], [], 12)]
def gm_12 : List ME := [
  (cX12_ruleLine, yX12_ruleLine, 5, 1, some 13, none, [], [], 12),
  (cX12_rule, yX12_rule, 4, 1, some 13, (some .int), [], [], 12),
  (cX12_fault, yX12_fault, 1, 1, some 13, (some .int), [], [], 12),
  (cX12_firstLevel, yX12_firstLevel, 1, 1, some 13, (some .int), [], [], 12),
  (cX12_depthOf, yX12_depthOf, 3, 3, some 13, (some .int), [], [], 12),
  (cX12_flowOf, yX12_flowOf, 4, 3, some 13, (some .int), [], [], 12),
  (cX12_begins, yX12_begins, 2, 1, some 13, none, [], [], 12),
  (cX12_quarter, yX12_quarter, 9, 2, some 13, none, [], [], 12),
  (cX12_runs, yX12_runs, 2, 1, some 13, none, [], [], 12),
  (cX12_takes, yX12_takes, 3, 2, some 13, none, [], [], 12),
  (cX12_runsOf, yX12_runsOf, 2, 2, some 13, none, [], [], 12),
  (cX12_isWet, yX12_isWet, 3, 3, some 13, (some .boolean), [], [], 12),
  (cX12_rise, yX12_rise, 3, 3, some 13, (some .int), [], [], 12),
  (cX12_open, yX12_open, 2, 1, some 13, (some .int), [], [], 12),
  (cX12_copy, yX12_copy, 2, 2, some 13, (some .int), [], [], 12),
  (cX12_keeps0, yX12_keeps0, 2, 1, some 13, (some .int), [], [], 12)]
def gm_13 : List ME := [
  (cX12_cellOf, yX12_cellOf, 4, 4, some 13, (some .int), [], [], 12),
  (cX12_step, yX12_step, 7, 6, some 13, none, [], [], 12),
  (cX12_slow, yX12_slow, 8, 6, some 13, none, [], [], 12),
  (cX12_pulse, yX12_pulse, 8, 7, some 13, none, [], [], 12),
  (cX12_stepAt, yX12_stepAt, 4, 4, some 13, (some .int), [], [], 12),
  (cX12_water, yX12_water, 4, 4, some 13, (some .int), [], [], 12),
  (cX12_level, yX12_level, 3, 3, some 13, (some .int), [], [], 12),
  (cX12_depth, yX12_depth, 4, 4, some 13, (some .int), [], [], 12),
  (cX12_flow, yX12_flow, 4, 4, some 13, (some .int), [], [], 12),
  (cX12_most, yX12_most, 9, 5, some 13, (some .int), [], [], 12),
  (cX12_wet, yX12_wet, 4, 4, some 13, (some .boolean), [], [], 12),
  (cX12_firstWet, yX12_firstWet, 5, 4, some 13, (some .int), [], [], 12),
  (cX12_harmNow, yX12_harmNow, 3, 1, some 13, (some .int), [], [], 12),
  (cX12_harm, yX12_harm, 2, 2, some 13, (some .int), [], [], 12),
  (cX12_down, yX12_down, 3, 2, some 13, (some .int), [], [], 12),
  (cX12_latest, yX12_latest, 4, 3, some 13, (some .int), [], [], 12)]
def gm_14 : List ME := [
  (cX12_person, yX12_person, 8, 7, some 13, (some .int), [], [], 12),
  (cX12_callsOf, yX12_callsOf, 4, 2, some 13, (some .int), [], [], 12),
  (cX12_call, yX12_call, 3, 3, some 13, (some .int), [], [], 12),
  (cX12_calls, yX12_calls, 2, 1, some 13, (some .int), [], [], 12),
  (cX12_laysCalls, yX12_laysCalls, 2, 1, some 13, none, [], [], 12),
  (cX12_addCall, yX12_addCall, 3, 3, some 13, none, [], [], 12),
  (cX12_caughtNow, yX12_caughtNow, 4, 2, some 13, (some .int), [], [], 12),
  (cX12_isInTime, yX12_isInTime, 4, 4, some 13, (some .boolean), [], [], 12),
  (cX12_goes, yX12_goes, 4, 3, some 13, (some .boolean), [], [], 12),
  (cX12_oddsNow, yX12_oddsNow, 6, 2, some 13, (some .long), [], [], 12),
  (cX12_fearNow, yX12_fearNow, 4, 1, some 13, (some .long), [], [], 12),
  (cX12_caught, yX12_caught, 3, 3, some 13, (some .int), [], [], 12),
  (cX12_odds, yX12_odds, 3, 3, some 13, (some .long), [], [], 12),
  (cX12_fear, yX12_fear, 2, 2, some 13, (some .long), [], [], 12),
  (cX12_bounds, yX12_bounds, 4, 4, some 13, none, [], [], 12),
  (cX12_fallsTooMuch, yX12_fallsTooMuch, 3, 1, some 13, (some .boolean), [], [], 12)]
def gm_15 : List ME := [
  (cX12_judged, yX12_judged, 1, 1, some 13, (some .int), [], [], 12),
  (cX12_judge, yX12_judge, 2, 2, some 13, (some .int), [], [], 12),
  (cX12_best, yX12_best, 9, 3, some 13, (some .int), [], [], 12),
  (cX12_whom, yX12_whom, 10, 3, some 13, (some .int), [], [], 12),
  (cX12_wardens, yX12_wardens, 9, 5, some 13, (some .long), [], [], 12),
  (cX12_nextOrder, yX12_nextOrder, 7, 2, some 13, (some .boolean), [], [], 12),
  (cX12_warden, yX12_warden, 15, 7, some 13, (some .long), [], [], 12),
  (cX12_warns, yX12_warns, 11, 3, some 13, (some .int), [], [], 12),
  (cX12_bears, yX12_bears, 4, 2, some 13, (some .int), [], [], 12),
  (cX12_closing, yX12_closing, 7, 4, some 13, (some .int), [], [], 12),
  (cX12_turbine, yX12_turbine, 2, 2, some 13, none, [], [], 12),
  (cX12_power, yX12_power, 5, 2, some 13, (some .long), [], [], 12),
  (cX12_plans, yX12_plans, 13, 5, some 13, (some .long), [], [], 12),
  (cX12_worth, yX12_worth, 3, 3, some 13, (some .long), [], [], 12),
  (cX12_pieceFrom, yX12_pieceFrom, 8, 5, some 13, (some .long), [], [], 12),
  (cX12_hours, yX12_hours, 11, 7, some 13, (some .long), [], [], 12)]
def gm_16 : List ME := [
  (cX12_follows, yX12_follows, 5, 2, some 13, none, [], [], 12),
  (cX12_follow, yX12_follow, 2, 2, some 13, (some .int), [], [], 12),
  (cX12_keeps, yX12_keeps, 2, 2, some 13, (some .int), [], [], 12),
  (cX12_log, yX12_log, 5, 4, some 13, (some .int), [], [], 12),
  (cX12_likeOf, yX12_likeOf, 4, 2, some 13, (some .int), [], [], 12),
  (cX12_like, yX12_like, 2, 2, some 13, (some .int), [], [], 12),
  (cX12_likest, yX12_likest, 5, 1, some 13, (some .int), [], [], 12),
  (cX12_near, yX12_near, 8, 3, some 13, (some .int), [], [], 12),
  (cX12_play, yX12_play, 9, 3, some 13, (some .int), [], [], 12),
  (cX12_image, yX12_image, 2, 1, some 13, none, [], [], 12),
  (cX12_back, yX12_back, 2, 1, some 13, (some .boolean), [], [], 12),
  (cX12_count, yX12_count, 4, 2, some 13, (some .int), [], [], 12),
  (cL_gorge, yL_gorge, 3, 2, none, (some .int), [(0, 8, 11, 13), (0, 8, 14, 15)], [(0, 8, 1, 1), (0, 8, 2, 2)], 13),
  (cL_rule, yL_rule, 3, 2, none, (some .int), [(0, 8, 11, 13), (0, 8, 14, 15)], [(0, 8, 1, 1), (0, 8, 2, 2)], 13),
  (cL_open, yL_open, 3, 2, none, (some .int), [(0, 8, 11, 15)], [(0, 8, 2, 1)], 13),
  (cL_copy, yL_copy, 4, 3, none, (some .int), [(0, 9, 12, 27), (0, 9, 15, 15)], [(0, 9, 0, 1), (0, 9, 2, 2)], 13)]
def gm_17 : List ME := [
  (cL_step, yL_step, 7, 6, none, (some .int), [(0, 11, 14, 27), (0, 11, 18, 13)], [(0, 11, 0, 1), (0, 11, 1, 2)], 13),
  (cL_slow, yL_slow, 7, 6, none, (some .int), [(0, 11, 14, 27), (0, 11, 18, 13)], [(0, 11, 0, 1), (0, 11, 1, 2)], 13),
  (cL_pulse, yL_pulse, 8, 7, none, (some .int), [(0, 13, 16, 27), (0, 13, 20, 13)], [(0, 13, 0, 1), (0, 13, 1, 2)], 13),
  (cL_stepAt, yL_stepAt, 6, 5, none, (some .int), [(0, 12, 15, 27)], [(0, 12, 0, 1)], 13),
  (cL_water, yL_water, 6, 5, none, (some .int), [(0, 12, 15, 27)], [(0, 12, 0, 1)], 13),
  (cL_level, yL_level, 5, 4, none, (some .int), [(0, 10, 13, 27)], [(0, 10, 0, 1)], 13),
  (cL_depth, yL_depth, 6, 5, none, (some .int), [(0, 12, 15, 27)], [(0, 12, 0, 1)], 13),
  (cL_flow, yL_flow, 6, 5, none, (some .int), [(0, 12, 15, 27)], [(0, 12, 0, 1)], 13),
  (cL_most, yL_most, 7, 6, none, (some .int), [(0, 14, 17, 27)], [(0, 14, 0, 1)], 13),
  (cL_wet, yL_wet, 6, 5, none, (some .int), [(0, 19, 22, 27)], [(0, 19, 0, 1)], 13),
  (cL_harm, yL_harm, 4, 3, none, (some .int), [(0, 9, 12, 27)], [(0, 9, 0, 1)], 13),
  (cL_down, yL_down, 4, 3, none, (some .int), [(0, 9, 12, 27)], [(0, 9, 0, 1)], 13),
  (cL_latest, yL_latest, 5, 4, none, (some .int), [(0, 10, 13, 27)], [(0, 10, 0, 1)], 13),
  (cL_person, yL_person, 9, 8, none, (some .int), [(0, 18, 21, 27), (0, 18, 25, 13), (0, 18, 29, 15)], [(0, 18, 0, 1), (0, 18, 1, 2), (0, 18, 2, 3)], 13),
  (cL_call, yL_call, 5, 4, none, (some .int), [(0, 10, 13, 27), (0, 10, 17, 15)], [(0, 10, 0, 1), (0, 10, 2, 2)], 13),
  (cL_caught, yL_caught, 5, 4, none, (some .int), [(0, 10, 13, 27)], [(0, 10, 0, 1)], 13)]
def gm_18 : List ME := [
  (cL_odds, yL_odds, 5, 4, none, (some .int), [(0, 9, 12, 27)], [(0, 9, 0, 1)], 13),
  (cL_fear, yL_fear, 4, 3, none, (some .int), [(0, 8, 11, 27)], [(0, 8, 0, 1)], 13),
  (cL_bounds, yL_bounds, 5, 4, none, (some .int), [(0, 7, 10, 13)], [(0, 7, 1, 1)], 13),
  (cL_judge, yL_judge, 4, 3, none, (some .int), [(0, 9, 12, 27)], [(0, 9, 0, 1)], 13),
  (cL_best, yL_best, 5, 4, none, (some .int), [(0, 10, 13, 27)], [(0, 10, 0, 1)], 13),
  (cL_whom, yL_whom, 5, 4, none, (some .int), [(0, 10, 13, 27)], [(0, 10, 0, 1)], 13),
  (cL_warden, yL_warden, 9, 8, none, (some .int), [(0, 17, 20, 27), (0, 17, 24, 13)], [(0, 17, 0, 1), (0, 17, 1, 2)], 13),
  (cL_warns, yL_warns, 5, 4, none, (some .int), [(0, 10, 13, 27)], [(0, 10, 0, 1)], 13),
  (cL_bears, yL_bears, 4, 3, none, (some .int), [(0, 9, 12, 27)], [(0, 9, 0, 1)], 13),
  (cL_closing, yL_closing, 6, 5, none, (some .int), [(0, 12, 15, 27)], [(0, 12, 0, 1)], 13),
  (cL_turbine, yL_turbine, 3, 2, none, (some .int), [(0, 5, 8, 13)], [(0, 5, 1, 1)], 13),
  (cL_power, yL_power, 4, 3, none, (some .int), [(0, 8, 11, 27)], [(0, 8, 0, 1)], 13),
  (cL_hours, yL_hours, 9, 8, none, (some .int), [(0, 17, 20, 27), (0, 17, 24, 13)], [(0, 17, 0, 1), (0, 17, 1, 2)], 13),
  (cL_follow, yL_follow, 4, 3, none, (some .int), [(0, 9, 12, 27), (0, 9, 15, 15)], [(0, 9, 0, 1), (0, 9, 2, 2)], 13),
  (cL_keeps, yL_keeps, 4, 3, none, (some .int), [(0, 9, 12, 27)], [(0, 9, 0, 1)], 13),
  (cL_log, yL_log, 6, 5, none, (some .int), [(0, 12, 15, 27), (0, 12, 19, 15)], [(0, 12, 0, 1), (0, 12, 2, 2)], 13)]
def gm_19 : List ME := [
  (cL_like, yL_like, 4, 3, none, (some .int), [(0, 9, 12, 27)], [(0, 9, 0, 1)], 13),
  (cL_near, yL_near, 5, 4, none, (some .int), [(0, 10, 13, 27)], [(0, 10, 0, 1)], 13),
  (cL_play, yL_play, 5, 4, none, (some .int), [(0, 10, 13, 27)], [(0, 10, 0, 1)], 13),
  (cL_law, yL_law, 8, 1, none, (some .boolean), [], [], 13),
  (cJ0_length_8abf5, yJ0_length_8abf5, 1, 1, some 19, (some .int), [], [], 14),
  (cJ0_charAt_5068e, yJ0_charAt_5068e, 2, 2, some 19, (some .char), [], [], 14),
  (cJ0_coder_7d493, yJ0_coder_7d493, 1, 1, some 19, (some .byte), [], [], 14),
  (cJ0_isLatin1_aae02, yJ0_isLatin1_aae02, 1, 1, some 19, (some .boolean), [], [], 14),
  (cJ0_checkIndex_df160, yJ0_checkIndex_df160, 2, 2, none, none, [], [], 14),
  (cJ1_charAt_3b067, yJ1_charAt_3b067, 2, 2, none, (some .char), [], [], 15),
  (cJ3_checkIndex_8e157, yJ3_checkIndex_8e157, 3, 3, none, (some .int), [], [], 16),
  (cJ6_compare_7cf53, yJ6_compare_7cf53, 2, 2, none, (some .int), [], [], 17),
  (cJ6_bitCount_0f7a4, yJ6_bitCount_0f7a4, 1, 1, none, (some .int), [], [], 17),
  (cJ9_abs_0f7a4, yJ9_abs_0f7a4, 1, 1, none, (some .int), [], [], 18),
  (cJ9_max_7cf53, yJ9_max_7cf53, 2, 2, none, (some .int), [], [], 18),
  (cJ9_min_7cf53, yJ9_min_7cf53, 2, 2, none, (some .int), [], [], 18)]
def gm_20 : List ME := [
  (cJ9_min_f86c9, yJ9_min_f86c9, 4, 2, none, (some .long), [], [], 18),
  (cJ7_fill_53178, yJ7_fill_53178, 4, 2, none, none, [], [], 19)]
def gMeth : List (List ME) := [gm_0, gm_1, gm_2, gm_3, gm_4, gm_5, gm_6, gm_7, gm_8, gm_9, gm_10, gm_11, gm_12, gm_13, gm_14, gm_15, gm_16, gm_17, gm_18, gm_19, gm_20]
def g2 {α : Type} (l : List (List α)) (z : α) (k : Nat) : α := (l.getD (k / 16) []).getD (k % 16) z
def lk {α : Type} (l : List (Nat × α)) (k : Nat) : Option α := match l with
  | [] => none
  | (a, v) :: r => if a = k then some v else lk r k
def me0 : ME := (cX0_init, yX0_init, 1, 1, some 1, none, [], [], 0)
def gme (mt : Nat) : ME := g2 gMeth me0 mt
def fl_0 : List (Nat × Nat × Nat × Nat) := [(60, 4, 14, 0), (91, 4, 15, 10), (56, 2, 1, 10), (44, 2, 4, 10), (9, 0, 0, 1), (15, 0, 1, 0), (19, 0, 2, 10), (23, 0, 3, 10), (26, 0, 4, 10), (29, 0, 5, 0), (32, 0, 6, 0), (35, 0, 7, 0)]
def mh_0 : List (Nat × Nat × Nat) := [(3, 0, 7), (38, 321, 1), (50, 16, 0), (65, 55, 0), (71, 17, 0), (75, 5, 0), (79, 6, 0), (94, 317, 12), (83, 156, 4), (87, 7, 0), (99, 8, 0)]
def kn_0 : List (Nat × Int) := []
def cl_0 : List (Nat × Nat) := []
def fl_1 : List (Nat × Nat × Nat × Nat) := [(70, 4, 15, 10), (62, 4, 17, 10), (28, 6, 0, 0), (34, 6, 1, 10), (37, 6, 2, 10), (46, 6, 3, 10), (101, 6, 4, 10), (53, 6, 5, 10), (67, 6, 6, 10), (84, 6, 7, 0), (91, 6, 8, 10), (94, 6, 9, 10), (9, 1, 0, 10), (15, 1, 1, 10), (18, 1, 2, 10), (21, 1, 3, 10), (25, 1, 4, 10)]
def mh_1 : List (Nat × Nat × Nat) := [(3, 0, 7), (40, 32, 0), (49, 33, 0), (56, 318, 10), (73, 11, 0), (81, 29, 0), (77, 12, 0), (87, 13, 0), (97, 14, 0), (106, 15, 0)]
def kn_1 : List (Nat × Int) := [(104, 100), (110, 1103515245)]
def cl_1 : List (Nat × Nat) := []
def fl_2 : List (Nat × Nat × Nat × Nat) := [(97, 4, 2, 0), (90, 4, 3, 0), (9, 2, 0, 0), (18, 2, 1, 10), (22, 2, 2, 0), (27, 2, 3, 10), (33, 2, 4, 10), (37, 2, 5, 0), (40, 2, 6, 0), (44, 2, 7, 0), (47, 2, 8, 0), (50, 2, 9, 0), (55, 2, 10, 10), (59, 2, 11, 0), (62, 2, 12, 10), (66, 2, 13, 10), (69, 2, 14, 10)]
def mh_2 : List (Nat × Nat × Nat) := [(3, 0, 7), (17, 35, 5), (32, 51, 5), (84, 32, 0), (73, 36, 0), (77, 156, 4), (81, 52, 0), (93, 28, 0), (100, 10, 0), (106, 16, 0), (112, 31, 0), (116, 34, 0)]
def kn_2 : List (Nat × Int) := [(43, 99999), (110, 1000000)]
def cl_2 : List (Nat × Nat) := [(15, 4), (30, 6), (53, 7)]
def fl_3 : List (Nat × Nat × Nat × Nat) := [(72, 4, 0, 0), (33, 4, 1, 0), (43, 4, 4, 10), (75, 4, 5, 0), (46, 4, 8, 0), (61, 4, 9, 10), (55, 4, 10, 10), (52, 4, 11, 10), (49, 4, 12, 10), (58, 4, 13, 10), (96, 4, 14, 0), (90, 4, 15, 10), (93, 4, 16, 10), (103, 4, 18, 10), (9, 3, 0, 10), (15, 3, 1, 10), (18, 3, 2, 10), (23, 3, 3, 10), (26, 3, 4, 10)]
def mh_3 : List (Nat × Nat × Nat) := [(3, 0, 7), (29, 26, 0), (39, 27, 1), (68, 44, 0), (64, 157, 4), (78, 46, 0), (81, 320, 13), (87, 29, 0), (99, 33, 0)]
def kn_3 : List (Nat × Int) := []
def cl_3 : List (Nat × Nat) := []
def fl_4 : List (Nat × Nat × Nat × Nat) := [(9, 4, 0, 0), (15, 4, 1, 0), (18, 4, 2, 0), (21, 4, 3, 0), (26, 4, 4, 10), (29, 4, 5, 0), (32, 4, 6, 10), (36, 4, 7, 10), (39, 4, 8, 0), (42, 4, 9, 10), (45, 4, 10, 10), (48, 4, 11, 10), (51, 4, 12, 10), (54, 4, 13, 10), (57, 4, 14, 0), (60, 4, 15, 10), (63, 4, 16, 10), (66, 4, 17, 10), (69, 4, 18, 10)]
def mh_4 : List (Nat × Nat × Nat) := [(3, 0, 7), (135, 157, 4), (138, 319, 11), (72, 156, 4), (76, 83, 0), (82, 38, 0), (88, 80, 0), (92, 39, 0), (123, 82, 0), (97, 40, 0), (107, 41, 0), (128, 74, 0), (132, 77, 0), (112, 42, 0), (117, 43, 0), (120, 75, 0)]
def kn_4 : List (Nat × Int) := [(127, 999999)]
def cl_4 : List (Nat × Nat) := [(86, 2), (95, 4), (101, 6), (103, 8), (105, 10), (110, 12), (115, 14)]
def fl_5 : List (Nat × Nat × Nat × Nat) := [(9, 5, 0, 0), (15, 5, 1, 0), (18, 5, 2, 10), (22, 5, 3, 10)]
def mh_5 : List (Nat × Nat × Nat) := [(3, 0, 7), (25, 49, 0), (29, 50, 0), (33, 318, 10)]
def kn_5 : List (Nat × Int) := []
def cl_5 : List (Nat × Nat) := []
def fl_6 : List (Nat × Nat × Nat × Nat) := [(9, 6, 0, 0), (15, 6, 1, 10), (19, 6, 2, 10), (22, 6, 3, 10), (25, 6, 4, 10), (28, 6, 5, 10), (31, 6, 6, 10), (34, 6, 7, 0), (37, 6, 8, 10), (40, 6, 9, 10)]
def mh_6 : List (Nat × Nat × Nat) := [(3, 0, 7), (43, 156, 4)]
def kn_6 : List (Nat × Int) := []
def cl_6 : List (Nat × Nat) := []
def fl_7 : List (Nat × Nat × Nat × Nat) := [(58, 4, 2, 0), (61, 4, 4, 10), (47, 4, 5, 0), (65, 4, 8, 0), (71, 4, 14, 0), (68, 3, 4, 10), (15, 7, 0, 8), (19, 7, 1, 10), (22, 7, 2, 10), (25, 7, 3, 10), (28, 7, 4, 10), (11, 7, 5, 10)]
def mh_7 : List (Nat × Nat × Nat) := [(3, 0, 7), (31, 58, 0), (35, 61, 0), (78, 62, 1), (39, 59, 1), (43, 60, 1), (52, 28, 0), (74, 32, 0)]
def kn_7 : List (Nat × Int) := []
def cl_7 : List (Nat × Nat) := []
def fl_8 : List (Nat × Nat × Nat × Nat) := [(9, 8, 0, 0), (15, 8, 1, 10), (19, 8, 2, 10), (22, 8, 3, 10), (25, 8, 4, 0), (28, 8, 5, 10)]
def mh_8 : List (Nat × Nat × Nat) := [(3, 0, 7), (31, 83, 0), (39, 80, 0), (45, 75, 0), (48, 82, 0), (54, 66, 0), (69, 67, 0), (82, 79, 0), (85, 78, 0), (72, 70, 0), (89, 81, 0), (94, 69, 0), (60, 68, 1), (66, 56, 2)]
def kn_8 : List (Nat × Int) := [(109, 999999)]
def cl_8 : List (Nat × Nat) := [(37, 20), (43, 22), (52, 24), (80, 26), (92, 28), (98, 30), (100, 32), (102, 34), (104, 36), (106, 38), (108, 40), (76, 42), (78, 44), (58, 7)]
def fl_9 : List (Nat × Nat × Nat × Nat) := [(9, 9, 0, 10), (15, 9, 1, 0), (19, 9, 2, 0), (22, 9, 3, 0), (25, 9, 4, 0), (28, 9, 5, 0), (31, 9, 6, 0)]
def mh_9 : List (Nat × Nat × Nat) := [(3, 0, 7), (34, 76, 0), (46, 74, 0), (61, 81, 0), (54, 78, 0), (58, 75, 0), (50, 79, 0), (37, 308, 0), (42, 309, 0)]
def kn_9 : List (Nat × Int) := []
def cl_9 : List (Nat × Nat) := []
def fl_10 : List (Nat × Nat × Nat × Nat) := [(98, 4, 5, 0), (48, 4, 6, 10), (42, 2, 1, 10), (75, 2, 4, 10), (91, 2, 6, 0), (12, 10, 0, 10), (21, 10, 1, 10), (25, 10, 2, 10), (29, 10, 3, 0), (33, 10, 4, 10)]
def mh_10 : List (Nat × Nat × Nat) := [(3, 0, 7), (11, 24, 5), (20, 9, 5), (36, 321, 1), (51, 25, 0), (55, 23, 0), (59, 34, 0), (63, 156, 4), (67, 88, 0), (71, 89, 0), (79, 10, 0), (83, 16, 0), (87, 159, 4), (94, 31, 0), (101, 57, 0), (107, 26, 0)]
def kn_10 : List (Nat × Int) := []
def cl_10 : List (Nat × Nat) := [(9, 3), (18, 1)]
def fl_11 : List (Nat × Nat × Nat × Nat) := [(86, 9, 1, 0), (434, 9, 2, 0), (236, 4, 2, 0), (358, 4, 4, 10), (422, 4, 5, 0), (425, 4, 8, 0), (320, 4, 14, 0), (243, 4, 17, 10), (250, 6, 0, 0), (403, 6, 1, 10), (406, 6, 2, 10), (409, 6, 3, 10), (261, 6, 7, 0), (118, 2, 0, 0), (93, 2, 1, 10), (147, 2, 2, 0), (143, 2, 3, 10), (246, 2, 4, 10), (293, 2, 5, 0), (296, 2, 6, 0), (299, 2, 7, 0), (355, 2, 8, 0), (127, 2, 9, 0), (132, 2, 10, 10), (390, 2, 11, 0), (198, 3, 0, 10), (215, 3, 1, 10), (212, 3, 2, 10), (202, 3, 3, 10), (209, 3, 4, 10), (281, 1, 0, 10), (336, 0, 0, 1), (388, 10, 0, 10), (389, 10, 1, 10), (385, 10, 2, 10), (313, 10, 3, 0), (375, 5, 0, 0), (372, 5, 1, 0), (10, 11, 0, 10), (19, 11, 1, 10), (26, 11, 2, 10), (33, 11, 3, 10), (37, 11, 4, 10), (43, 11, 5, 10), (50, 11, 6, 10), (57, 11, 7, 10), (64, 11, 8, 10), (71, 11, 9, 10), (75, 11, 10, 0), (79, 11, 11, 3), (83, 11, 12, 0)]
def mh_11 : List (Nat × Nat × Nat) := [(1, 0, 7), (9, 71, 5), (18, 35, 5), (25, 63, 5), (32, 19, 5), (42, 24, 5), (49, 9, 5), (56, 0, 5), (63, 84, 5), (70, 47, 5), (89, 72, 0), (194, 144, 0), (437, 25, 0), (399, 22, 0), (419, 20, 0), (361, 319, 11), (454, 0, 6), (428, 44, 0), (431, 45, 0), (96, 36, 0), (100, 73, 0), (103, 37, 0), (107, 141, 0), (126, 64, 0), (136, 65, 0), (140, 151, 0), (150, 321, 1), (156, 142, 0), (160, 146, 0), (378, 153, 1), (163, 156, 1), (167, 147, 0), (170, 152, 1), (173, 155, 1), (177, 154, 1), (181, 158, 1), (185, 143, 0), (188, 159, 1), (460, 157, 1), (463, 315, 1), (191, 148, 0), (205, 28, 0), (218, 30, 0), (222, 29, 0), (225, 149, 0), (228, 32, 0), (232, 34, 0), (239, 33, 0), (257, 53, 0), (264, 55, 0), (270, 54, 0), (274, 150, 0), (277, 145, 0), (441, 10, 0), (284, 15, 0), (288, 16, 0), (302, 23, 0), (306, 85, 0), (310, 86, 0), (316, 1, 0), (323, 316, 1), (328, 2, 0), (332, 3, 0), (340, 4, 0), (343, 87, 0), (347, 90, 0), (351, 91, 0), (366, 46, 0), (369, 48, 0), (381, 92, 0), (395, 21, 0), (412, 318, 10), (415, 18, 0)]
def kn_11 : List (Nat × Int) := [(292, 99999)]
def cl_11 : List (Nat × Nat) := [(7, 9), (16, 4), (23, 8), (30, 2), (40, 3), (47, 1), (54, 0), (61, 10), (68, 5), (111, 101), (113, 16), (121, 102), (123, 18), (130, 46), (445, 48), (447, 100), (449, 50), (452, 52), (255, 54), (268, 56), (393, 58)]
def fl_12 : List (Nat × Nat × Nat × Nat) := [(64, 12, 0, 0), (7, 12, 1, 10), (13, 12, 2, 10), (342, 12, 3, 3), (16, 12, 4, 10), (19, 12, 5, 10), (71, 12, 6, 0), (74, 12, 7, 0), (80, 12, 8, 0), (77, 12, 9, 0), (22, 12, 10, 0), (136, 12, 11, 0), (155, 12, 12, 0), (214, 12, 13, 0), (217, 12, 14, 0), (26, 12, 15, 10), (29, 12, 16, 10), (32, 12, 17, 10), (35, 12, 18, 10), (38, 12, 19, 10), (226, 12, 20, 0), (41, 12, 21, 10), (44, 12, 22, 10), (272, 12, 23, 0), (47, 12, 24, 10), (50, 12, 25, 10), (53, 12, 26, 10), (56, 12, 27, 10), (60, 12, 28, 10)]
def mh_12 : List (Nat × Nat × Nat) := [(1, 0, 7), (67, 162, 1), (149, 184, 0), (87, 175, 0), (83, 174, 0), (100, 179, 0), (139, 192, 0), (113, 178, 0), (90, 308, 0), (96, 309, 0), (104, 180, 0), (198, 191, 0), (203, 190, 0), (195, 189, 0), (145, 176, 0), (192, 188, 0), (181, 166, 0), (184, 170, 0), (170, 196, 0), (220, 169, 0), (187, 187, 0), (176, 186, 0), (108, 177, 0), (158, 195, 0), (167, 165, 0), (173, 164, 0), (142, 183, 0), (120, 181, 0), (130, 182, 0), (240, 167, 0), (234, 201, 0), (243, 207, 0), (246, 163, 1), (249, 208, 0), (253, 202, 0), (237, 200, 0), (229, 198, 0), (232, 199, 0), (223, 197, 0), (256, 204, 0), (259, 203, 0), (266, 220, 0), (263, 219, 0), (269, 225, 0), (295, 168, 0), (281, 230, 0), (275, 171, 0), (298, 228, 0), (291, 233, 0), (284, 232, 0), (278, 231, 0), (301, 234, 0), (310, 240, 0), (307, 239, 0), (313, 229, 0), (318, 244, 0), (322, 245, 0), (332, 252, 0), (325, 253, 0), (329, 254, 0), (335, 256, 0), (338, 260, 0)]
def kn_12 : List (Nat × Int) := [(63, 99999), (117, 999999), (287, 100000000), (289, 100), (305, 1000000), (316, -1), (341, 1103515245)]
def cl_12 : List (Nat × Nat) := [(208, 60), (210, 62), (212, 64), (190, 66), (179, 68), (153, 70), (161, 72), (163, 74), (124, 76), (165, 78), (128, 80), (201, 82), (206, 84), (112, 86), (118, 88), (126, 90), (133, 92), (134, 94)]
def fl_13 : List (Nat × Nat × Nat × Nat) := []
def mh_13 : List (Nat × Nat × Nat) := [(149, 93, 2), (153, 94, 0), (158, 95, 0), (175, 98, 0), (238, 116, 0), (300, 135, 0), (310, 138, 0), (314, 139, 0), (319, 140, 0), (163, 268, 1), (7, 96, 0), (172, 269, 1), (17, 97, 0), (179, 270, 1), (20, 99, 0), (182, 271, 1), (23, 100, 0), (186, 272, 1), (29, 101, 0), (190, 273, 1), (33, 102, 0), (193, 274, 1), (36, 103, 0), (197, 275, 1), (40, 104, 0), (201, 276, 1), (44, 105, 0), (204, 277, 1), (47, 106, 0), (208, 278, 1), (51, 107, 0), (211, 279, 1), (54, 108, 0), (215, 280, 1), (58, 109, 0), (219, 281, 1), (62, 110, 0), (222, 282, 1), (66, 111, 0), (225, 283, 1), (69, 112, 0), (228, 284, 1), (72, 113, 0), (231, 285, 1), (75, 114, 0), (235, 286, 1), (79, 115, 0), (242, 287, 1), (82, 117, 0), (245, 288, 1), (85, 118, 0), (248, 289, 1), (89, 119, 0), (251, 290, 1), (93, 120, 0), (255, 291, 1), (97, 121, 0), (258, 292, 1), (100, 122, 0), (262, 293, 1), (104, 123, 0), (265, 294, 1), (107, 124, 0), (268, 295, 1), (111, 125, 0), (271, 296, 1), (114, 126, 0), (274, 297, 1), (117, 127, 0), (277, 298, 1), (120, 128, 0), (281, 299, 1), (124, 129, 0), (284, 300, 1), (127, 130, 0), (288, 301, 1), (131, 131, 0), (291, 302, 1), (134, 132, 0), (294, 303, 1), (137, 133, 0), (297, 304, 1), (140, 134, 0), (304, 305, 1), (143, 136, 0), (307, 306, 1), (146, 137, 0), (152, 160, 2), (169, 161, 0), (157, 172, 0), (162, 173, 0), (168, 185, 0), (174, 193, 0), (178, 194, 0), (181, 205, 0), (185, 206, 0), (189, 209, 0), (192, 210, 0), (196, 211, 0), (200, 212, 0), (203, 213, 0), (207, 214, 0), (210, 215, 0), (214, 216, 0), (218, 217, 0), (221, 218, 0), (224, 221, 0), (227, 222, 0), (230, 223, 0), (234, 224, 0), (237, 226, 0), (241, 227, 0), (244, 235, 0), (247, 236, 0), (250, 237, 0), (254, 238, 0), (257, 241, 0), (261, 242, 0), (264, 243, 0), (267, 246, 0), (270, 247, 0), (273, 248, 0), (276, 249, 0), (280, 250, 0), (283, 251, 0), (287, 255, 0), (290, 257, 0), (293, 258, 0), (296, 259, 0), (299, 261, 0), (303, 262, 0), (306, 263, 0), (309, 264, 0), (313, 265, 0), (318, 266, 0), (322, 267, 0)]
def kn_13 : List (Nat × Int) := []
def cl_13 : List (Nat × Nat) := [(8, 11), (13, 101), (15, 102), (27, 100), (150, 12)]
def fl_14 : List (Nat × Nat × Nat × Nat) := [(9, 18, 0, 2), (15, 18, 1, 0)]
def mh_14 : List (Nat × Nat × Nat) := [(335, 310, 0), (492, 311, 0), (495, 313, 1), (1059, 314, 1)]
def kn_14 : List (Nat × Int) := []
def cl_14 : List (Nat × Nat) := [(38, 0), (1053, 1)]
def fl_15 : List (Nat × Nat × Nat × Nat) := []
def mh_15 : List (Nat × Nat × Nat) := [(9, 312, 1)]
def kn_15 : List (Nat × Int) := []
def cl_15 : List (Nat × Nat) := []
def fl_16 : List (Nat × Nat × Nat × Nat) := []
def mh_16 : List (Nat × Nat × Nat) := []
def kn_16 : List (Nat × Int) := []
def cl_16 : List (Nat × Nat) := []
def fl_17 : List (Nat × Nat × Nat × Nat) := []
def mh_17 : List (Nat × Nat × Nat) := []
def kn_17 : List (Nat × Int) := [(265, 1431655765), (266, 858993459), (267, 252645135)]
def cl_17 : List (Nat × Nat) := []
def fl_18 : List (Nat × Nat × Nat × Nat) := []
def mh_18 : List (Nat × Nat × Nat) := []
def kn_18 : List (Nat × Int) := []
def cl_18 : List (Nat × Nat) := []
def fl_19 : List (Nat × Nat × Nat × Nat) := []
def mh_19 : List (Nat × Nat × Nat) := [(316, 0, 8), (304, 319, 11), (150, 0, 6)]
def kn_19 : List (Nat × Int) := []
def cl_19 : List (Nat × Nat) := []
def g_fl : List (List (Nat × Nat × Nat × Nat)) := [fl_0, fl_1, fl_2, fl_3, fl_4, fl_5, fl_6, fl_7, fl_8, fl_9, fl_10, fl_11, fl_12, fl_13, fl_14, fl_15, fl_16, fl_17, fl_18, fl_19]
def g_mh : List (List (Nat × Nat × Nat)) := [mh_0, mh_1, mh_2, mh_3, mh_4, mh_5, mh_6, mh_7, mh_8, mh_9, mh_10, mh_11, mh_12, mh_13, mh_14, mh_15, mh_16, mh_17, mh_18, mh_19]
def g_kn : List (List (Nat × Int)) := [kn_0, kn_1, kn_2, kn_3, kn_4, kn_5, kn_6, kn_7, kn_8, kn_9, kn_10, kn_11, kn_12, kn_13, kn_14, kn_15, kn_16, kn_17, kn_18, kn_19]
def g_cl : List (List (Nat × Nat)) := [cl_0, cl_1, cl_2, cl_3, cl_4, cl_5, cl_6, cl_7, cl_8, cl_9, cl_10, cl_11, cl_12, cl_13, cl_14, cl_15, cl_16, cl_17, cl_18, cl_19]
