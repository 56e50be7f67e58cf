theorem tb_0 {w : Cond} (h : w ∈ k2_sels lw_privs) : w ∈ lw_tbl := List.mem_append_left _ h
theorem tb_1 {w : Cond} (h : w ∈ tables_1_1) : w ∈ lw_tbl := List.mem_append_right _ (show w ∈ tables_1_1 ++ (tables_1_2 ++ (tables_1_3 ++ (tables_1_4 ++ (tables_1_5 ++ (tables_1_6 ++ tables_1_7))))) from List.mem_append_left _ h)
theorem tb_2 {w : Cond} (h : w ∈ tables_1_2) : w ∈ lw_tbl := List.mem_append_right _ (show w ∈ tables_1_1 ++ (tables_1_2 ++ (tables_1_3 ++ (tables_1_4 ++ (tables_1_5 ++ (tables_1_6 ++ tables_1_7))))) from List.mem_append_right _ (List.mem_append_left _ h))
theorem tb_3 {w : Cond} (h : w ∈ tables_1_3) : w ∈ lw_tbl := List.mem_append_right _ (show w ∈ tables_1_1 ++ (tables_1_2 ++ (tables_1_3 ++ (tables_1_4 ++ (tables_1_5 ++ (tables_1_6 ++ tables_1_7))))) from List.mem_append_right _ (List.mem_append_right _ (List.mem_append_left _ h)))
theorem tb_4 {w : Cond} (h : w ∈ tables_1_4) : w ∈ lw_tbl := List.mem_append_right _ (show w ∈ tables_1_1 ++ (tables_1_2 ++ (tables_1_3 ++ (tables_1_4 ++ (tables_1_5 ++ (tables_1_6 ++ tables_1_7))))) from List.mem_append_right _ (List.mem_append_right _ (List.mem_append_right _ (List.mem_append_left _ h))))
theorem tb_5 {w : Cond} (h : w ∈ tables_1_5) : w ∈ lw_tbl := List.mem_append_right _ (show w ∈ tables_1_1 ++ (tables_1_2 ++ (tables_1_3 ++ (tables_1_4 ++ (tables_1_5 ++ (tables_1_6 ++ tables_1_7))))) from List.mem_append_right _ (List.mem_append_right _ (List.mem_append_right _ (List.mem_append_right _ (List.mem_append_left _ h)))))
theorem tb_6 {w : Cond} (h : w ∈ tables_1_6) : w ∈ lw_tbl := List.mem_append_right _ (show w ∈ tables_1_1 ++ (tables_1_2 ++ (tables_1_3 ++ (tables_1_4 ++ (tables_1_5 ++ (tables_1_6 ++ tables_1_7))))) from List.mem_append_right _ (List.mem_append_right _ (List.mem_append_right _ (List.mem_append_right _ (List.mem_append_right _ (List.mem_append_left _ h))))))
theorem tb_7 {w : Cond} (h : w ∈ tables_1_7) : w ∈ lw_tbl := List.mem_append_right _ (show w ∈ tables_1_1 ++ (tables_1_2 ++ (tables_1_3 ++ (tables_1_4 ++ (tables_1_5 ++ (tables_1_6 ++ tables_1_7))))) from List.mem_append_right _ (List.mem_append_right _ (List.mem_append_right _ (List.mem_append_right _ (List.mem_append_right _ (List.mem_append_right _ (h)))))))
set_option maxRecDepth 20000 in
theorem inG_X0 : ∀ w ∈ u_ws RX0 TX0 12, w ∈ lw_good := fun w h => good_mem ((goodIn_r (big := lw_tbl) (u_ws RX0 TX0 12) [410, 412, 414, 416, 418, 420, 422, 424, 426, 428, 430, 432] (by decide +kernel) (by decide +kernel) w h).1) (List.all_eq_true.mp (show (u_ws RX0 TX0 12).all goodWord = true by decide +kernel) w h)
set_option maxRecDepth 20000 in
theorem inG_X1 : ∀ w ∈ u_ws RX1 TX1 4, w ∈ lw_good := fun w h => good_mem ((goodIn_r (big := lw_tbl) (u_ws RX1 TX1 4) [234, 236, 238, 240] (by decide +kernel) (by decide +kernel) w h).1) (List.all_eq_true.mp (show (u_ws RX1 TX1 4).all goodWord = true by decide +kernel) w h)
set_option maxRecDepth 20000 in
theorem inG_X2 : ∀ w ∈ u_ws RX2 TX2 10, w ∈ lw_good := fun w h => good_mem ((goodIn_r (big := lw_tbl) (u_ws RX2 TX2 10) [561, 563, 565, 567, 569, 571, 573, 575, 577, 579] (by decide +kernel) (by decide +kernel) w h).1) (List.all_eq_true.mp (show (u_ws RX2 TX2 10).all goodWord = true by decide +kernel) w h)
set_option maxRecDepth 20000 in
theorem inG_X3 : ∀ w ∈ u_ws RX3 TX3 20, w ∈ lw_good := fun w h => good_mem ((goodIn_r (big := lw_tbl) (u_ws RX3 TX3 20) [282, 284, 286, 288, 290, 292, 294, 296, 298, 300, 302, 304, 306, 308, 310, 312, 314, 316, 318, 320] (by decide +kernel) (by decide +kernel) w h).1) (List.all_eq_true.mp (show (u_ws RX3 TX3 20).all goodWord = true by decide +kernel) w h)
set_option maxRecDepth 20000 in
theorem inG_X4 : ∀ w ∈ u_ws RX4 TX4 10, w ∈ lw_good := fun w h => good_mem ((goodIn_r (big := lw_tbl) (u_ws RX4 TX4 10) [194, 196, 198, 200, 202, 204, 206, 208, 210, 212] (by decide +kernel) (by decide +kernel) w h).1) (List.all_eq_true.mp (show (u_ws RX4 TX4 10).all goodWord = true by decide +kernel) w h)
set_option maxRecDepth 20000 in
theorem inG_X5 : ∀ w ∈ u_ws RX5 TX5 18, w ∈ lw_good := fun w h => good_mem ((goodIn_r (big := lw_tbl) (u_ws RX5 TX5 18) [509, 511, 513, 515, 517, 519, 521, 523, 525, 527, 529, 531, 533, 535, 537, 539, 541, 543] (by decide +kernel) (by decide +kernel) w h).1) (List.all_eq_true.mp (show (u_ws RX5 TX5 18).all goodWord = true by decide +kernel) w h)
set_option maxRecDepth 20000 in
theorem inG_X6 : ∀ w ∈ u_ws RX6 TX6 3, w ∈ lw_good := fun w h => good_mem ((goodIn_r (big := lw_tbl) (u_ws RX6 TX6 3) [376, 378, 380] (by decide +kernel) (by decide +kernel) w h).1) (List.all_eq_true.mp (show (u_ws RX6 TX6 3).all goodWord = true by decide +kernel) w h)
set_option maxRecDepth 20000 in
theorem inG_X7 : ∀ w ∈ u_ws RX7 TX7 6, w ∈ lw_good := fun w h => good_mem ((goodIn_r (big := lw_tbl) (u_ws RX7 TX7 6) [453, 455, 457, 459, 461, 463] (by decide +kernel) (by decide +kernel) w h).1) (List.all_eq_true.mp (show (u_ws RX7 TX7 6).all goodWord = true by decide +kernel) w h)
set_option maxRecDepth 20000 in
theorem inG_X8 : ∀ w ∈ u_ws RX8 TX8 5, w ∈ lw_good := fun w h => good_mem ((goodIn_r (big := lw_tbl) (u_ws RX8 TX8 5) [350, 352, 354, 356, 358] (by decide +kernel) (by decide +kernel) w h).1) (List.all_eq_true.mp (show (u_ws RX8 TX8 5).all goodWord = true by decide +kernel) w h)
set_option maxRecDepth 20000 in
theorem inG_X10 : ∀ w ∈ u_ws RX10 TX10 12, w ∈ lw_good := fun w h => good_mem ((goodIn_r (big := lw_tbl) (u_ws RX10 TX10 12) [594, 596, 598, 600, 602, 604, 606, 608, 610, 612, 614, 616] (by decide +kernel) (by decide +kernel) w h).1) (List.all_eq_true.mp (show (u_ws RX10 TX10 12).all goodWord = true by decide +kernel) w h)
set_option maxRecDepth 20000 in
theorem inG_X11 : ∀ w ∈ u_ws RX11 TX11 48, w ∈ lw_good := fun w h => good_mem ((goodIn_r (big := lw_tbl) (u_ws RX11 TX11 48) [1365, 1367, 1369, 1371, 1373, 1375, 1377, 1379, 1381, 1383, 1385, 1387, 1389, 1391, 1393, 1395, 1397, 1399, 1401, 1403, 1405, 1407, 1409, 1411, 1413, 1415, 1417, 1419, 1421, 1423, 1425, 1427, 1429, 1431, 1433, 1435, 1437, 1439, 1441, 1443, 1445, 1447, 1449, 1451, 1453, 1455, 1457, 1459] (by decide +kernel) (by decide +kernel) w h).1) (List.all_eq_true.mp (show (u_ws RX11 TX11 48).all goodWord = true by decide +kernel) w h)
def m_X10_init : MT := (yX10_init, cX10_init, 2, none, 6, 177, 241, 30047)
def m_X4_init : MT := (yX4_init, cX4_init, 1, none, 5, 157, 5, 3228)
def m_X4_learn : MT := (yX4_learn, cX4_learn, 8, none, 4, 130, 0, 0)
def m_X4_pack : MT := (yX4_pack, cX4_pack, 3, some .long, 0, 0, 0, 0)
def m_X1_init : MT := (yX1_init, cX1_init, 1, none, 1, 20, 3, 12)
def m_X3_init : MT := (yX3_init, cX3_init, 1, none, 1, 20, 14, 4212)
def m_X8_init : MT := (yX8_init, cX8_init, 2, none, 1, 21, 3, 15)
def m_X10_at : MT := (yX10_at, cX10_at, 2, some .int, 0, 0, 0, 0)
def m_X2_init : MT := (yX2_init, cX2_init, 4, none, 2, 42, 29, 311)
def m_X6_init : MT := (yX6_init, cX6_init, 1, none, 1, 20, 1, 28)
def m_X0_init : MT := (yX0_init, cX0_init, 1, none, 1, 20, 2, 8)
def m_X7_init : MT := (yX7_init, cX7_init, 1, none, 1, 20, 2, 24)
def m_X5_init : MT := (yX5_init, cX5_init, 3, none, 1, 20, 1, 4)
def m_X10_feed : MT := (yX10_feed, cX10_feed, 5, some .int, 1, 22, 0, 0)
def m_X10_finding : MT := (yX10_finding, cX10_finding, 3, some .int, 0, 0, 0, 0)
def m_X4_length : MT := (yX4_length, cX4_length, 1, some .int, 0, 0, 0, 0)
def m_X4_append : MT := (yX4_append, cX4_append, 2, none, 0, 0, 0, 0)
def m_X10_read : MT := (yX10_read, cX10_read, 1, some .int, 7, 199, 0, 0)
def m_X4_compile : MT := (yX4_compile, cX4_compile, 4, some .int, 6, 176, 0, 0)
def m_X3_clear : MT := (yX3_clear, cX3_clear, 1, none, 0, 0, 0, 0)
def m_X4_split : MT := (yX4_split, cX4_split, 4, none, 5, 153, 0, 0)
def m_X4_isLetter : MT := (yX4_isLetter, cX4_isLetter, 1, some .boolean, 0, 0, 0, 0)
def m_X4_splitName : MT := (yX4_splitName, cX4_splitName, 5, some .int, 1, 24, 0, 0)
def m_X4_kindOf : MT := (yX4_kindOf, cX4_kindOf, 4, some .int, 0, 0, 0, 0)
def m_X4_addWord : MT := (yX4_addWord, cX4_addWord, 5, none, 0, 0, 0, 0)
def m_X4_isFigure : MT := (yX4_isFigure, cX4_isFigure, 1, some .boolean, 0, 0, 0, 0)
def m_X4_splitNumber : MT := (yX4_splitNumber, cX4_splitNumber, 4, some .int, 1, 24, 0, 0)
def m_X4_isBlank : MT := (yX4_isBlank, cX4_isBlank, 1, some .boolean, 0, 0, 0, 0)
def m_X4_splitSign : MT := (yX4_splitSign, cX4_splitSign, 4, none, 4, 130, 0, 0)
def m_X4_kind : MT := (yX4_kind, cX4_kind, 1, some .int, 0, 0, 0, 0)
def m_X4_refuse : MT := (yX4_refuse, cX4_refuse, 1, none, 0, 0, 0, 0)
def m_X4_take : MT := (yX4_take, cX4_take, 4, some .int, 1, 20, 0, 0)
def m_X3_openState : MT := (yX3_openState, cX3_openState, 3, none, 0, 0, 0, 0)
def m_X4_readRule : MT := (yX4_readRule, cX4_readRule, 5, none, 5, 120, 0, 0)
def m_X4_readSum : MT := (yX4_readSum, cX4_readSum, 5, none, 3, 70, 0, 0)
def m_X4_readTerm : MT := (yX4_readTerm, cX4_readTerm, 5, none, 2, 46, 0, 0)
def m_X3_addTerm : MT := (yX3_addTerm, cX3_addTerm, 5, none, 1, 22, 0, 0)
def m_X10_put : MT := (yX10_put, cX10_put, 3, none, 0, 0, 0, 0)
def m_X3_closeSum : MT := (yX3_closeSum, cX3_closeSum, 1, none, 1, 22, 0, 0)
def m_X3_addTest : MT := (yX3_addTest, cX3_addTest, 2, none, 1, 22, 0, 0)
def m_X4_readAct : MT := (yX4_readAct, cX4_readAct, 7, none, 4, 94, 0, 0)
def m_X3_addAct : MT := (yX3_addAct, cX3_addAct, 5, none, 0, 0, 0, 0)
def m_X3_closeRule : MT := (yX3_closeRule, cX3_closeRule, 1, none, 1, 22, 0, 0)
def m_X3_closeState : MT := (yX3_closeState, cX3_closeState, 1, none, 1, 22, 0, 0)
def m_X4_judgeNames : MT := (yX4_judgeNames, cX4_judgeNames, 6, none, 1, 23, 0, 0)
def m_X3_stateNamed : MT := (yX3_stateNamed, cX3_stateNamed, 4, some .int, 0, 0, 0, 0)
def m_X3_resolveGoes : MT := (yX3_resolveGoes, cX3_resolveGoes, 2, none, 1, 23, 0, 0)
def m_X4_empty : MT := (yX4_empty, cX4_empty, 1, none, 0, 0, 0, 0)
def m_X10_fault : MT := (yX10_fault, cX10_fault, 1, some .int, 0, 0, 0, 0)
def m_X10_program : MT := (yX10_program, cX10_program, 4, some .int, 1, 22, 0, 0)
def m_X10_isTeam : MT := (yX10_isTeam, cX10_isTeam, 1, some .boolean, 0, 0, 0, 0)
def m_X10_isMember : MT := (yX10_isMember, cX10_isMember, 1, some .boolean, 0, 0, 0, 0)
def m_X10_start : MT := (yX10_start, cX10_start, 6, some .int, 1, 22, 0, 0)
def m_X10_views : MT := (yX10_views, cX10_views, 6, some .int, 1, 22, 0, 0)
def m_X10_begin : MT := (yX10_begin, cX10_begin, 3, some .int, 6, 139, 0, 0)
def m_X2_open : MT := (yX2_open, cX2_open, 4, none, 5, 116, 0, 0)
def m_X7_clear : MT := (yX7_clear, cX7_clear, 2, none, 0, 0, 0, 0)
def m_X5_decide : MT := (yX5_decide, cX5_decide, 5, none, 0, 0, 0, 0)
def m_X2_kickOff : MT := (yX2_kickOff, cX2_kickOff, 3, none, 4, 94, 0, 0)
def m_X5_leave : MT := (yX5_leave, cX5_leave, 1, none, 0, 0, 0, 0)
def m_X5_join : MT := (yX5_join, cX5_join, 3, none, 1, 21, 0, 0)
def m_X5_seenX : MT := (yX5_seenX, cX5_seenX, 2, some .int, 0, 0, 0, 0)
def m_X5_seenY : MT := (yX5_seenY, cX5_seenY, 2, some .int, 0, 0, 0, 0)
def m_X2_putAtStart : MT := (yX2_putAtStart, cX2_putAtStart, 4, none, 3, 71, 0, 0)
def m_X2_freeCell : MT := (yX2_freeCell, cX2_freeCell, 8, some .int, 2, 44, 0, 0)
def m_X2_robotIn : MT := (yX2_robotIn, cX2_robotIn, 4, some .int, 0, 0, 0, 0)
def m_X10_distance : MT := (yX10_distance, cX10_distance, 4, some .int, 1, 21, 0, 0)
def m_X0_go : MT := (yX0_go, cX0_go, 3, none, 0, 0, 0, 0)
def m_X2_putBall : MT := (yX2_putBall, cX2_putBall, 2, none, 3, 71, 0, 0)
def m_X0_lie : MT := (yX0_lie, cX0_lie, 3, none, 1, 23, 0, 0)
def m_X0_free : MT := (yX0_free, cX0_free, 4, none, 0, 0, 0, 0)
def m_X0_forget : MT := (yX0_forget, cX0_forget, 2, none, 2, 43, 0, 0)
def m_X0_remember : MT := (yX0_remember, cX0_remember, 2, none, 1, 22, 0, 0)
def m_X5_see : MT := (yX5_see, cX5_see, 3, none, 0, 0, 0, 0)
def m_X10_tick : MT := (yX10_tick, cX10_tick, 2, some .int, 7, 180, 0, 0)
def m_X2_play : MT := (yX2_play, cX2_play, 6, some .int, 6, 155, 0, 0)
def m_X2_think : MT := (yX2_think, cX2_think, 3, none, 5, 133, 0, 0)
def m_X5_isLost : MT := (yX5_isLost, cX5_isLost, 2, some .boolean, 0, 0, 0, 0)
def m_X0_pastX : MT := (yX0_pastX, cX0_pastX, 2, some .int, 1, 21, 0, 0)
def m_X0_pastY : MT := (yX0_pastY, cX0_pastY, 2, some .int, 1, 21, 0, 0)
def m_X2_sense : MT := (yX2_sense, cX2_sense, 8, none, 2, 44, 0, 0)
def m_X2_holding : MT := (yX2_holding, cX2_holding, 2, some .int, 0, 0, 0, 0)
def m_X6_run : MT := (yX6_run, cX6_run, 6, some .boolean, 4, 108, 0, 0)
def m_X6_allHold : MT := (yX6_allHold, cX6_allHold, 11, some .boolean, 2, 51, 0, 0)
def m_X6_work : MT := (yX6_work, cX6_work, 11, some .int, 1, 21, 0, 0)
def m_X6_doActs : MT := (yX6_doActs, cX6_doActs, 10, some .boolean, 3, 79, 0, 0)
def m_X6_command : MT := (yX6_command, cX6_command, 9, none, 2, 51, 0, 0)
def m_X10_cut : MT := (yX10_cut, cX10_cut, 3, some .int, 1, 21, 0, 0)
def m_X2_doCommand : MT := (yX2_doCommand, cX2_doCommand, 3, none, 3, 73, 0, 0)
def m_X2_move : MT := (yX2_move, cX2_move, 7, none, 2, 47, 0, 0)
def m_X0_hold : MT := (yX0_hold, cX0_hold, 5, none, 1, 23, 0, 0)
def m_X2_roll : MT := (yX2_roll, cX2_roll, 6, some .int, 3, 70, 0, 0)
def m_X2_arrive : MT := (yX2_arrive, cX2_arrive, 4, none, 2, 47, 0, 0)
def m_X2_applyLaws : MT := (yX2_applyLaws, cX2_applyLaws, 2, some .int, 5, 118, 0, 0)
def m_X7_addGoal : MT := (yX7_addGoal, cX7_addGoal, 3, none, 1, 22, 0, 0)
def m_X0_hasSlept : MT := (yX0_hasSlept, cX0_hasSlept, 2, some .boolean, 0, 0, 0, 0)
def m_X2_giveToFoe : MT := (yX2_giveToFoe, cX2_giveToFoe, 5, none, 2, 47, 0, 0)
def m_X2_thinsCrowd : MT := (yX2_thinsCrowd, cX2_thinsCrowd, 5, some .boolean, 4, 94, 0, 0)
def m_X7_addLaw : MT := (yX7_addLaw, cX7_addLaw, 2, none, 1, 22, 0, 0)
def m_X10_ball : MT := (yX10_ball, cX10_ball, 2, some .int, 1, 22, 0, 0)
def m_X0_shown : MT := (yX0_shown, cX0_shown, 2, some .int, 0, 0, 0, 0)
def m_X10_robot : MT := (yX10_robot, cX10_robot, 3, some .int, 2, 42, 0, 0)
def m_X5_shown : MT := (yX5_shown, cX5_shown, 2, some .int, 1, 21, 0, 0)
def m_X10_score : MT := (yX10_score, cX10_score, 2, some .int, 2, 42, 0, 0)
def m_X7_shown : MT := (yX7_shown, cX7_shown, 2, some .int, 1, 21, 0, 0)
def m_X10_goal : MT := (yX10_goal, cX10_goal, 2, some .int, 2, 42, 0, 0)
def m_X7_listed : MT := (yX7_listed, cX7_listed, 1, some .int, 1, 21, 0, 0)
def m_X7_goalAt : MT := (yX7_goalAt, cX7_goalAt, 2, some .int, 1, 21, 0, 0)
def m_X10_keep : MT := (yX10_keep, cX10_keep, 2, some .int, 3, 83, 0, 0)
def m_X10_isPlace : MT := (yX10_isPlace, cX10_isPlace, 1, some .boolean, 0, 0, 0, 0)
def m_X2_copy : MT := (yX2_copy, cX2_copy, 3, none, 2, 61, 0, 0)
def m_X0_copy : MT := (yX0_copy, cX0_copy, 2, none, 1, 40, 0, 0)
def m_X7_copy : MT := (yX7_copy, cX7_copy, 2, none, 1, 40, 0, 0)
def m_X5_copy : MT := (yX5_copy, cX5_copy, 2, none, 1, 40, 0, 0)
def m_X10_back : MT := (yX10_back, cX10_back, 2, some .int, 3, 83, 0, 0)
def m_X10_differ : MT := (yX10_differ, cX10_differ, 2, some .int, 3, 67, 0, 0)
def m_X2_difference : MT := (yX2_difference, cX2_difference, 4, some .int, 2, 44, 0, 0)
def m_X0_isLike : MT := (yX0_isLike, cX0_isLike, 4, some .boolean, 1, 21, 0, 0)
def m_X5_isLike : MT := (yX5_isLike, cX5_isLike, 4, some .boolean, 1, 21, 0, 0)
def m_X10_league : MT := (yX10_league, cX10_league, 7, some .int, 7, 180, 0, 0)
def m_X1_clear : MT := (yX1_clear, cX1_clear, 3, none, 1, 22, 0, 0)
def m_X1_has : MT := (yX1_has, cX1_has, 2, some .boolean, 0, 0, 0, 0)
def m_X1_enter : MT := (yX1_enter, cX1_enter, 5, none, 2, 46, 0, 0)
def m_X1_enterFor : MT := (yX1_enterFor, cX1_enterFor, 5, none, 1, 22, 0, 0)
def m_X10_table : MT := (yX10_table, cX10_table, 3, some .int, 2, 43, 0, 0)
def m_X1_shown : MT := (yX1_shown, cX1_shown, 3, some .int, 1, 21, 0, 0)
def m_X10_order : MT := (yX10_order, cX10_order, 3, some .int, 3, 70, 0, 0)
def m_X1_teamAt : MT := (yX1_teamAt, cX1_teamAt, 5, some .int, 2, 46, 0, 0)
def m_X1_isAhead : MT := (yX1_isAhead, cX1_isAhead, 6, some .boolean, 1, 21, 0, 0)
def m_X10_tell : MT := (yX10_tell, cX10_tell, 2, some .int, 1, 22, 0, 0)
def m_X10_check : MT := (yX10_check, cX10_check, 4, some .int, 2, 42, 0, 0)
def m_X10_count : MT := (yX10_count, cX10_count, 2, some .int, 1, 22, 0, 0)
def m_X10_found : MT := (yX10_found, cX10_found, 2, some .int, 1, 22, 0, 0)
def m_X11_feed : MT := (yX11_feed, cX11_feed, 5, some .int, 1, 21, 0, 0)
def m_X11_finding : MT := (yX11_finding, cX11_finding, 2, some .int, 0, 0, 0, 0)
def m_X11_read : MT := (yX11_read, cX11_read, 2, some .int, 10, 212, 0, 0)
def m_X11_word : MT := (yX11_word, cX11_word, 2, none, 2, 42, 0, 0)
def m_X11_at : MT := (yX11_at, cX11_at, 2, some .int, 0, 0, 0, 0)
def m_X11_isLetter : MT := (yX11_isLetter, cX11_isLetter, 1, some .boolean, 0, 0, 0, 0)
def m_X11_letters : MT := (yX11_letters, cX11_letters, 1, none, 1, 22, 0, 0)
def m_X11_findWord : MT := (yX11_findWord, cX11_findWord, 3, none, 0, 0, 0, 0)
def m_X11_isFigure : MT := (yX11_isFigure, cX11_isFigure, 1, some .boolean, 0, 0, 0, 0)
def m_X11_figures : MT := (yX11_figures, cX11_figures, 1, none, 1, 21, 0, 0)
def m_X11_isSign : MT := (yX11_isSign, cX11_isSign, 1, some .boolean, 0, 0, 0, 0)
def m_X11_state : MT := (yX11_state, cX11_state, 3, some .boolean, 9, 190, 0, 0)
def m_X11_wrong : MT := (yX11_wrong, cX11_wrong, 1, some .boolean, 0, 0, 0, 0)
def m_X11_keepWord : MT := (yX11_keepWord, cX11_keepWord, 1, some .boolean, 3, 63, 0, 0)
def m_X11_name : MT := (yX11_name, cX11_name, 2, some .boolean, 4, 83, 0, 0)
def m_X11_is : MT := (yX11_is, cX11_is, 2, some .boolean, 4, 83, 0, 0)
def m_X11_rule : MT := (yX11_rule, cX11_rule, 3, some .boolean, 8, 168, 0, 0)
def m_X11_test : MT := (yX11_test, cX11_test, 1, some .boolean, 7, 146, 0, 0)
def m_X11_sum : MT := (yX11_sum, cX11_sum, 2, some .boolean, 6, 125, 0, 0)
def m_X11_product : MT := (yX11_product, cX11_product, 2, some .boolean, 5, 104, 0, 0)
def m_X11_term : MT := (yX11_term, cX11_term, 2, some .boolean, 4, 83, 0, 0)
def m_X11_act : MT := (yX11_act, cX11_act, 3, some .boolean, 7, 146, 0, 0)
def m_X11_findNames : MT := (yX11_findNames, cX11_findNames, 5, none, 0, 0, 0, 0)
def m_X11_fault : MT := (yX11_fault, cX11_fault, 1, some .int, 0, 0, 0, 0)
def m_X11_init : MT := (yX11_init, cX11_init, 3, none, 1, 20, 26, 14646)
def m_X11_program : MT := (yX11_program, cX11_program, 4, some .int, 2, 42, 0, 0)
def m_X11_isTeam : MT := (yX11_isTeam, cX11_isTeam, 1, some .boolean, 1, 22, 0, 0)
def m_X11_in : MT := (yX11_in, cX11_in, 3, some .boolean, 0, 0, 0, 0)
def m_X11_start : MT := (yX11_start, cX11_start, 5, some .int, 2, 42, 0, 0)
def m_X11_views : MT := (yX11_views, cX11_views, 4, some .int, 2, 42, 0, 0)
def m_X11_begin : MT := (yX11_begin, cX11_begin, 3, some .int, 6, 142, 0, 0)
def m_X11_beginMatch : MT := (yX11_beginMatch, cX11_beginMatch, 4, none, 5, 119, 0, 0)
def m_X11_kickOff : MT := (yX11_kickOff, cX11_kickOff, 6, none, 4, 94, 0, 0)
def m_X11_set : MT := (yX11_set, cX11_set, 4, none, 0, 0, 0, 0)
def m_X11_putAtStart : MT := (yX11_putAtStart, cX11_putAtStart, 3, none, 3, 72, 0, 0)
def m_X11_of : MT := (yX11_of, cX11_of, 3, some .int, 0, 0, 0, 0)
def m_X11_findPut : MT := (yX11_findPut, cX11_findPut, 7, none, 2, 46, 0, 0)
def m_X11_robotAt : MT := (yX11_robotAt, cX11_robotAt, 5, some .int, 1, 22, 0, 0)
def m_X11_distance : MT := (yX11_distance, cX11_distance, 4, some .int, 1, 21, 0, 0)
def m_X11_lay : MT := (yX11_lay, cX11_lay, 1, none, 3, 72, 0, 0)
def m_X11_stopBall : MT := (yX11_stopBall, cX11_stopBall, 1, none, 0, 0, 0, 0)
def m_X11_tick : MT := (yX11_tick, cX11_tick, 4, some .int, 10, 223, 0, 0)
def m_X11_isMatch : MT := (yX11_isMatch, cX11_isMatch, 1, some .boolean, 0, 0, 0, 0)
def m_X11_tickOnce : MT := (yX11_tickOnce, cX11_tickOnce, 3, some .int, 9, 201, 0, 0)
def m_X11_run : MT := (yX11_run, cX11_run, 2, none, 8, 180, 0, 0)
def m_X11_see : MT := (yX11_see, cX11_see, 5, none, 1, 23, 0, 0)
def m_X11_goes : MT := (yX11_goes, cX11_goes, 6, none, 1, 23, 0, 0)
def m_X11_sign : MT := (yX11_sign, cX11_sign, 1, some .int, 0, 0, 0, 0)
def m_X11_runRules : MT := (yX11_runRules, cX11_runRules, 3, none, 7, 158, 0, 0)
def m_X11_here : MT := (yX11_here, cX11_here, 1, some .int, 0, 0, 0, 0)
def m_X11_testHolds : MT := (yX11_testHolds, cX11_testHolds, 4, some .boolean, 6, 134, 0, 0)
def m_X11_step : MT := (yX11_step, cX11_step, 1, none, 0, 0, 0, 0)
def m_X11_sumOf : MT := (yX11_sumOf, cX11_sumOf, 4, some .int, 5, 111, 0, 0)
def m_X11_productOf : MT := (yX11_productOf, cX11_productOf, 2, some .int, 4, 90, 0, 0)
def m_X11_termOf : MT := (yX11_termOf, cX11_termOf, 4, some .int, 3, 67, 0, 0)
def m_X11_sensor : MT := (yX11_sensor, cX11_sensor, 4, some .int, 2, 44, 0, 0)
def m_X11_seenX : MT := (yX11_seenX, cX11_seenX, 2, some .int, 0, 0, 0, 0)
def m_X11_seenY : MT := (yX11_seenY, cX11_seenY, 2, some .int, 0, 0, 0, 0)
def m_X11_otherRobot : MT := (yX11_otherRobot, cX11_otherRobot, 5, some .int, 1, 22, 0, 0)
def m_X11_actEnds : MT := (yX11_actEnds, cX11_actEnds, 5, some .boolean, 6, 134, 0, 0)
def m_X11_doCommand : MT := (yX11_doCommand, cX11_doCommand, 8, none, 2, 46, 0, 0)
def m_X11_hold : MT := (yX11_hold, cX11_hold, 2, none, 1, 22, 0, 0)
def m_X11_roll : MT := (yX11_roll, cX11_roll, 7, some .int, 2, 46, 0, 0)
def m_X11_law : MT := (yX11_law, cX11_law, 3, some .int, 6, 141, 0, 0)
def m_X11_scored : MT := (yX11_scored, cX11_scored, 3, none, 5, 119, 0, 0)
def m_X11_sleeps : MT := (yX11_sleeps, cX11_sleeps, 2, some .int, 0, 0, 0, 0)
def m_X11_nearestFoe : MT := (yX11_nearestFoe, cX11_nearestFoe, 5, some .int, 2, 44, 0, 0)
def m_X11_crowded : MT := (yX11_crowded, cX11_crowded, 6, some .int, 1, 22, 0, 0)
def m_X11_ball : MT := (yX11_ball, cX11_ball, 2, some .int, 1, 23, 0, 0)
def m_X11_ballOf : MT := (yX11_ballOf, cX11_ballOf, 4, some .int, 0, 0, 0, 0)
def m_X11_robot : MT := (yX11_robot, cX11_robot, 3, some .int, 1, 22, 0, 0)
def m_X11_score : MT := (yX11_score, cX11_score, 2, some .int, 1, 22, 0, 0)
def m_X11_goal : MT := (yX11_goal, cX11_goal, 2, some .int, 1, 22, 0, 0)
def m_X11_keep : MT := (yX11_keep, cX11_keep, 3, some .int, 1, 22, 0, 0)
def m_X11_back : MT := (yX11_back, cX11_back, 3, some .int, 1, 22, 0, 0)
def m_X11_differ : MT := (yX11_differ, cX11_differ, 5, some .int, 1, 24, 0, 0)
def m_X11_robotIn : MT := (yX11_robotIn, cX11_robotIn, 5, some .int, 0, 0, 0, 0)
def m_X11_league : MT := (yX11_league, cX11_league, 8, some .int, 11, 248, 0, 0)
def m_X11_playOne : MT := (yX11_playOne, cX11_playOne, 6, none, 10, 223, 0, 0)
def m_X11_table : MT := (yX11_table, cX11_table, 3, some .int, 2, 42, 0, 0)
def m_X11_hasPlayed : MT := (yX11_hasPlayed, cX11_hasPlayed, 2, some .boolean, 0, 0, 0, 0)
def m_X11_order : MT := (yX11_order, cX11_order, 5, some .int, 1, 22, 0, 0)
def m_X11_isAhead : MT := (yX11_isAhead, cX11_isAhead, 3, some .boolean, 0, 0, 0, 0)
def m_X11_tell : MT := (yX11_tell, cX11_tell, 2, some .int, 1, 21, 0, 0)
def m_X11_check : MT := (yX11_check, cX11_check, 3, some .int, 1, 21, 0, 0)
def m_X11_count : MT := (yX11_count, cX11_count, 2, some .int, 1, 21, 0, 0)
def m_X11_found : MT := (yX11_found, cX11_found, 2, some .int, 1, 22, 0, 0)
theorem fl_X10_9 : FL RX10 9 9 0 2 true := ⟨RX10, TX10, 12, tyX10, rfl, inG_X10, tyX10_ok, nmX10, by decide, rfl, rfl, rfl, ⟨fun v => by cases v <;> exact ⟨rfl, rfl⟩, rfl⟩, rfl, good_mem (tb_3 (List.mem_of_getElem? (i := 10) (rfl : tables_1_3[10]? = some (Cond.fieldLink RX10 9 (TX10 0).1 (TX10 0).2.1 (TX10 0).2.2.1)))) (by decide +kernel)⟩
theorem fl_X10_16 : FL RX10 16 9 1 2 true := ⟨RX10, TX10, 12, tyX10, rfl, inG_X10, tyX10_ok, nmX10, by decide, rfl, rfl, rfl, ⟨fun v => by cases v <;> exact ⟨rfl, rfl⟩, rfl⟩, rfl, good_mem (tb_3 (List.mem_of_getElem? (i := 11) (rfl : tables_1_3[11]? = some (Cond.fieldLink RX10 16 (TX10 1).1 (TX10 1).2.1 (TX10 1).2.2.1)))) (by decide +kernel)⟩
theorem fl_X10_22 : FL RX10 22 9 2 2 true := ⟨RX10, TX10, 12, tyX10, rfl, inG_X10, tyX10_ok, nmX10, by decide, rfl, rfl, rfl, ⟨fun v => by cases v <;> exact ⟨rfl, rfl⟩, rfl⟩, rfl, good_mem (tb_3 (List.mem_of_getElem? (i := 12) (rfl : tables_1_3[12]? = some (Cond.fieldLink RX10 22 (TX10 2).1 (TX10 2).2.1 (TX10 2).2.2.1)))) (by decide +kernel)⟩
theorem fl_X10_28 : FL RX10 28 9 3 2 true := ⟨RX10, TX10, 12, tyX10, rfl, inG_X10, tyX10_ok, nmX10, by decide, rfl, rfl, rfl, ⟨fun v => by cases v <;> exact ⟨rfl, rfl⟩, rfl⟩, rfl, good_mem (tb_3 (List.mem_of_getElem? (i := 13) (rfl : tables_1_3[13]? = some (Cond.fieldLink RX10 28 (TX10 3).1 (TX10 3).2.1 (TX10 3).2.2.1)))) (by decide +kernel)⟩
theorem fl_X10_34 : FL RX10 34 9 6 2 true := ⟨RX10, TX10, 12, tyX10, rfl, inG_X10, tyX10_ok, nmX10, by decide, rfl, rfl, rfl, ⟨fun v => by cases v <;> exact ⟨rfl, rfl⟩, rfl⟩, rfl, good_mem (tb_3 (List.mem_of_getElem? (i := 16) (rfl : tables_1_3[16]? = some (Cond.fieldLink RX10 34 (TX10 6).1 (TX10 6).2.1 (TX10 6).2.2.1)))) (by decide +kernel)⟩
theorem fl_X10_41 : FL RX10 41 9 7 2 true := ⟨RX10, TX10, 12, tyX10, rfl, inG_X10, tyX10_ok, nmX10, by decide, rfl, rfl, rfl, ⟨fun v => by cases v <;> exact ⟨rfl, rfl⟩, rfl⟩, rfl, good_mem (tb_3 (List.mem_of_getElem? (i := 17) (rfl : tables_1_3[17]? = some (Cond.fieldLink RX10 41 (TX10 7).1 (TX10 7).2.1 (TX10 7).2.2.1)))) (by decide +kernel)⟩
theorem fl_X10_45 : FL RX10 45 9 8 2 true := ⟨RX10, TX10, 12, tyX10, rfl, inG_X10, tyX10_ok, nmX10, by decide, rfl, rfl, rfl, ⟨fun v => by cases v <;> exact ⟨rfl, rfl⟩, rfl⟩, rfl, good_mem (tb_3 (List.mem_of_getElem? (i := 18) (rfl : tables_1_3[18]? = some (Cond.fieldLink RX10 45 (TX10 8).1 (TX10 8).2.1 (TX10 8).2.2.1)))) (by decide +kernel)⟩
theorem fl_X10_48 : FL RX10 48 9 9 0 false := ⟨RX10, TX10, 12, tyX10, rfl, inG_X10, tyX10_ok, nmX10, by decide, rfl, rfl, rfl, rfl, rfl, good_mem (tb_3 (List.mem_of_getElem? (i := 19) (rfl : tables_1_3[19]? = some (Cond.fieldLink RX10 48 (TX10 9).1 (TX10 9).2.1 (TX10 9).2.2.1)))) (by decide +kernel)⟩
theorem fl_X10_52 : FL RX10 52 9 10 0 false := ⟨RX10, TX10, 12, tyX10, rfl, inG_X10, tyX10_ok, nmX10, by decide, rfl, rfl, rfl, rfl, rfl, good_mem (tb_3 (List.mem_of_getElem? (i := 20) (rfl : tables_1_3[20]? = some (Cond.fieldLink RX10 52 (TX10 10).1 (TX10 10).2.1 (TX10 10).2.2.1)))) (by decide +kernel)⟩
theorem fl_X10_55 : FL RX10 55 9 11 0 false := ⟨RX10, TX10, 12, tyX10, rfl, inG_X10, tyX10_ok, nmX10, by decide, rfl, rfl, rfl, rfl, rfl, good_mem (tb_3 (List.mem_of_getElem? (i := 21) (rfl : tables_1_3[21]? = some (Cond.fieldLink RX10 55 (TX10 11).1 (TX10 11).2.1 (TX10 11).2.2.1)))) (by decide +kernel)⟩
theorem fl_X10_63 : FL RX10 63 9 4 2 true := ⟨RX10, TX10, 12, tyX10, rfl, inG_X10, tyX10_ok, nmX10, by decide, rfl, rfl, rfl, ⟨fun v => by cases v <;> exact ⟨rfl, rfl⟩, rfl⟩, rfl, good_mem (tb_3 (List.mem_of_getElem? (i := 14) (rfl : tables_1_3[14]? = some (Cond.fieldLink RX10 63 (TX10 4).1 (TX10 4).2.1 (TX10 4).2.2.1)))) (by decide +kernel)⟩
theorem fl_X10_67 : FL RX10 67 9 5 2 true := ⟨RX10, TX10, 12, tyX10, rfl, inG_X10, tyX10_ok, nmX10, by decide, rfl, rfl, rfl, ⟨fun v => by cases v <;> exact ⟨rfl, rfl⟩, rfl⟩, rfl, good_mem (tb_3 (List.mem_of_getElem? (i := 15) (rfl : tables_1_3[15]? = some (Cond.fieldLink RX10 67 (TX10 5).1 (TX10 5).2.1 (TX10 5).2.2.1)))) (by decide +kernel)⟩
theorem fl_X4_9 : FL RX4 9 4 0 2 true := ⟨RX4, TX4, 10, tyX4, rfl, inG_X4, tyX4_ok, nmX4, by decide, rfl, rfl, rfl, ⟨fun v => by cases v <;> exact ⟨rfl, rfl⟩, rfl⟩, rfl, good_mem (tb_1 (List.mem_of_getElem? (i := 92) (rfl : tables_1_1[92]? = some (Cond.fieldLink RX4 9 (TX4 0).1 (TX4 0).2.1 (TX4 0).2.2.1)))) (by decide +kernel)⟩
theorem fl_X4_17 : FL RX4 17 4 1 2 true := ⟨RX4, TX4, 10, tyX4, rfl, inG_X4, tyX4_ok, nmX4, by decide, rfl, rfl, rfl, ⟨fun v => by cases v <;> exact ⟨rfl, rfl⟩, rfl⟩, rfl, good_mem (tb_1 (List.mem_of_getElem? (i := 93) (rfl : tables_1_1[93]? = some (Cond.fieldLink RX4 17 (TX4 1).1 (TX4 1).2.1 (TX4 1).2.2.1)))) (by decide +kernel)⟩
theorem fl_X4_21 : FL RX4 21 4 2 2 true := ⟨RX4, TX4, 10, tyX4, rfl, inG_X4, tyX4_ok, nmX4, by decide, rfl, rfl, rfl, ⟨fun v => by cases v <;> exact ⟨rfl, rfl⟩, rfl⟩, rfl, good_mem (tb_1 (List.mem_of_getElem? (i := 94) (rfl : tables_1_1[94]? = some (Cond.fieldLink RX4 21 (TX4 2).1 (TX4 2).2.1 (TX4 2).2.2.1)))) (by decide +kernel)⟩
theorem fl_X4_24 : FL RX4 24 4 3 2 true := ⟨RX4, TX4, 10, tyX4, rfl, inG_X4, tyX4_ok, nmX4, by decide, rfl, rfl, rfl, ⟨fun v => by cases v <;> exact ⟨rfl, rfl⟩, rfl⟩, rfl, good_mem (tb_1 (List.mem_of_getElem? (i := 95) (rfl : tables_1_1[95]? = some (Cond.fieldLink RX4 24 (TX4 3).1 (TX4 3).2.1 (TX4 3).2.2.1)))) (by decide +kernel)⟩
theorem fl_X4_27 : FL RX4 27 4 4 2 true := ⟨RX4, TX4, 10, tyX4, rfl, inG_X4, tyX4_ok, nmX4, by decide, rfl, rfl, rfl, ⟨fun v => by cases v <;> exact ⟨rfl, rfl⟩, rfl⟩, rfl, good_mem (tb_1 (List.mem_of_getElem? (i := 96) (rfl : tables_1_1[96]? = some (Cond.fieldLink RX4 27 (TX4 4).1 (TX4 4).2.1 (TX4 4).2.2.1)))) (by decide +kernel)⟩
theorem fl_X4_30 : FL RX4 30 4 5 0 false := ⟨RX4, TX4, 10, tyX4, rfl, inG_X4, tyX4_ok, nmX4, by decide, rfl, rfl, rfl, rfl, rfl, good_mem (tb_1 (List.mem_of_getElem? (i := 97) (rfl : tables_1_1[97]? = some (Cond.fieldLink RX4 30 (TX4 5).1 (TX4 5).2.1 (TX4 5).2.2.1)))) (by decide +kernel)⟩
theorem fl_X4_34 : FL RX4 34 4 6 0 false := ⟨RX4, TX4, 10, tyX4, rfl, inG_X4, tyX4_ok, nmX4, by decide, rfl, rfl, rfl, rfl, rfl, good_mem (tb_1 (List.mem_of_getElem? (i := 98) (rfl : tables_1_1[98]? = some (Cond.fieldLink RX4 34 (TX4 6).1 (TX4 6).2.1 (TX4 6).2.2.1)))) (by decide +kernel)⟩
theorem fl_X4_37 : FL RX4 37 4 7 0 false := ⟨RX4, TX4, 10, tyX4, rfl, inG_X4, tyX4_ok, nmX4, by decide, rfl, rfl, rfl, rfl, rfl, good_mem (tb_1 (List.mem_of_getElem? (i := 99) (rfl : tables_1_1[99]? = some (Cond.fieldLink RX4 37 (TX4 7).1 (TX4 7).2.1 (TX4 7).2.2.1)))) (by decide +kernel)⟩
theorem fl_X4_40 : FL RX4 40 4 8 1 false := ⟨RX4, TX4, 10, tyX4, rfl, inG_X4, tyX4_ok, nmX4, by decide, rfl, rfl, rfl, rfl, rfl, good_mem (tb_1 (List.mem_of_getElem? (i := 100) (rfl : tables_1_1[100]? = some (Cond.fieldLink RX4 40 (TX4 8).1 (TX4 8).2.1 (TX4 8).2.2.1)))) (by decide +kernel)⟩
theorem fl_X4_44 : FL RX4 44 4 9 0 false := ⟨RX4, TX4, 10, tyX4, rfl, inG_X4, tyX4_ok, nmX4, by decide, rfl, rfl, rfl, rfl, rfl, good_mem (tb_1 (List.mem_of_getElem? (i := 101) (rfl : tables_1_1[101]? = some (Cond.fieldLink RX4 44 (TX4 9).1 (TX4 9).2.1 (TX4 9).2.2.1)))) (by decide +kernel)⟩
theorem fl_X1_9 : FL RX1 9 1 0 0 false := ⟨RX1, TX1, 4, tyX1, rfl, inG_X1, tyX1_ok, nmX1, by decide, rfl, rfl, rfl, rfl, rfl, good_mem (tb_1 (List.mem_of_getElem? (i := 138) (rfl : tables_1_1[138]? = some (Cond.fieldLink RX1 9 (TX1 0).1 (TX1 0).2.1 (TX1 0).2.2.1)))) (by decide +kernel)⟩
theorem fl_X1_15 : FL RX1 15 1 1 2 true := ⟨RX1, TX1, 4, tyX1, rfl, inG_X1, tyX1_ok, nmX1, by decide, rfl, rfl, rfl, ⟨fun v => by cases v <;> exact ⟨rfl, rfl⟩, rfl⟩, rfl, good_mem (tb_1 (List.mem_of_getElem? (i := 139) (rfl : tables_1_1[139]? = some (Cond.fieldLink RX1 15 (TX1 1).1 (TX1 1).2.1 (TX1 1).2.2.1)))) (by decide +kernel)⟩
theorem fl_X1_19 : FL RX1 19 1 2 2 true := ⟨RX1, TX1, 4, tyX1, rfl, inG_X1, tyX1_ok, nmX1, by decide, rfl, rfl, rfl, ⟨fun v => by cases v <;> exact ⟨rfl, rfl⟩, rfl⟩, rfl, good_mem (tb_1 (List.mem_of_getElem? (i := 140) (rfl : tables_1_1[140]? = some (Cond.fieldLink RX1 19 (TX1 2).1 (TX1 2).2.1 (TX1 2).2.2.1)))) (by decide +kernel)⟩
theorem fl_X1_22 : FL RX1 22 1 3 2 true := ⟨RX1, TX1, 4, tyX1, rfl, inG_X1, tyX1_ok, nmX1, by decide, rfl, rfl, rfl, ⟨fun v => by cases v <;> exact ⟨rfl, rfl⟩, rfl⟩, rfl, good_mem (tb_1 (List.mem_of_getElem? (i := 141) (rfl : tables_1_1[141]? = some (Cond.fieldLink RX1 22 (TX1 3).1 (TX1 3).2.1 (TX1 3).2.2.1)))) (by decide +kernel)⟩
theorem fl_X3_9 : FL RX3 9 3 0 0 false := ⟨RX3, TX3, 20, tyX3, rfl, inG_X3, tyX3_ok, nmX3, by decide, rfl, rfl, rfl, rfl, rfl, good_mem (tb_1 (List.mem_of_getElem? (i := 156) (rfl : tables_1_1[156]? = some (Cond.fieldLink RX3 9 (TX3 0).1 (TX3 0).2.1 (TX3 0).2.2.1)))) (by decide +kernel)⟩
theorem fl_X3_15 : FL RX3 15 3 1 2 true := ⟨RX3, TX3, 20, tyX3, rfl, inG_X3, tyX3_ok, nmX3, by decide, rfl, rfl, rfl, ⟨fun v => by cases v <;> exact ⟨rfl, rfl⟩, rfl⟩, rfl, good_mem (tb_1 (List.mem_of_getElem? (i := 158) (rfl : tables_1_1[158]? = some (Cond.fieldLink RX3 15 (TX3 1).1 (TX3 1).2.1 (TX3 1).2.2.1)))) (by decide +kernel)⟩
theorem fl_X3_19 : FL RX3 19 3 2 2 true := ⟨RX3, TX3, 20, tyX3, rfl, inG_X3, tyX3_ok, nmX3, by decide, rfl, rfl, rfl, ⟨fun v => by cases v <;> exact ⟨rfl, rfl⟩, rfl⟩, rfl, good_mem (tb_1 (List.mem_of_getElem? (i := 159) (rfl : tables_1_1[159]? = some (Cond.fieldLink RX3 19 (TX3 2).1 (TX3 2).2.1 (TX3 2).2.2.1)))) (by decide +kernel)⟩
theorem fl_X3_23 : FL RX3 23 3 3 0 false := ⟨RX3, TX3, 20, tyX3, rfl, inG_X3, tyX3_ok, nmX3, by decide, rfl, rfl, rfl, rfl, rfl, good_mem (tb_1 (List.mem_of_getElem? (i := 161) (rfl : tables_1_1[161]? = some (Cond.fieldLink RX3 23 (TX3 3).1 (TX3 3).2.1 (TX3 3).2.2.1)))) (by decide +kernel)⟩
theorem fl_X3_26 : FL RX3 26 3 4 2 true := ⟨RX3, TX3, 20, tyX3, rfl, inG_X3, tyX3_ok, nmX3, by decide, rfl, rfl, rfl, ⟨fun v => by cases v <;> exact ⟨rfl, rfl⟩, rfl⟩, rfl, good_mem (tb_1 (List.mem_of_getElem? (i := 162) (rfl : tables_1_1[162]? = some (Cond.fieldLink RX3 26 (TX3 4).1 (TX3 4).2.1 (TX3 4).2.2.1)))) (by decide +kernel)⟩
theorem fl_X3_29 : FL RX3 29 3 5 2 true := ⟨RX3, TX3, 20, tyX3, rfl, inG_X3, tyX3_ok, nmX3, by decide, rfl, rfl, rfl, ⟨fun v => by cases v <;> exact ⟨rfl, rfl⟩, rfl⟩, rfl, good_mem (tb_1 (List.mem_of_getElem? (i := 164) (rfl : tables_1_1[164]? = some (Cond.fieldLink RX3 29 (TX3 5).1 (TX3 5).2.1 (TX3 5).2.2.1)))) (by decide +kernel)⟩
theorem fl_X3_32 : FL RX3 32 3 6 0 false := ⟨RX3, TX3, 20, tyX3, rfl, inG_X3, tyX3_ok, nmX3, by decide, rfl, rfl, rfl, rfl, rfl, good_mem (tb_1 (List.mem_of_getElem? (i := 166) (rfl : tables_1_1[166]? = some (Cond.fieldLink RX3 32 (TX3 6).1 (TX3 6).2.1 (TX3 6).2.2.1)))) (by decide +kernel)⟩
theorem fl_X3_35 : FL RX3 35 3 7 2 true := ⟨RX3, TX3, 20, tyX3, rfl, inG_X3, tyX3_ok, nmX3, by decide, rfl, rfl, rfl, ⟨fun v => by cases v <;> exact ⟨rfl, rfl⟩, rfl⟩, rfl, good_mem (tb_1 (List.mem_of_getElem? (i := 167) (rfl : tables_1_1[167]? = some (Cond.fieldLink RX3 35 (TX3 7).1 (TX3 7).2.1 (TX3 7).2.2.1)))) (by decide +kernel)⟩
theorem fl_X3_38 : FL RX3 38 3 8 2 true := ⟨RX3, TX3, 20, tyX3, rfl, inG_X3, tyX3_ok, nmX3, by decide, rfl, rfl, rfl, ⟨fun v => by cases v <;> exact ⟨rfl, rfl⟩, rfl⟩, rfl, good_mem (tb_1 (List.mem_of_getElem? (i := 169) (rfl : tables_1_1[169]? = some (Cond.fieldLink RX3 38 (TX3 8).1 (TX3 8).2.1 (TX3 8).2.2.1)))) (by decide +kernel)⟩
theorem fl_X3_41 : FL RX3 41 3 9 0 false := ⟨RX3, TX3, 20, tyX3, rfl, inG_X3, tyX3_ok, nmX3, by decide, rfl, rfl, rfl, rfl, rfl, good_mem (tb_1 (List.mem_of_getElem? (i := 171) (rfl : tables_1_1[171]? = some (Cond.fieldLink RX3 41 (TX3 9).1 (TX3 9).2.1 (TX3 9).2.2.1)))) (by decide +kernel)⟩
theorem fl_X3_44 : FL RX3 44 3 10 2 true := ⟨RX3, TX3, 20, tyX3, rfl, inG_X3, tyX3_ok, nmX3, by decide, rfl, rfl, rfl, ⟨fun v => by cases v <;> exact ⟨rfl, rfl⟩, rfl⟩, rfl, good_mem (tb_1 (List.mem_of_getElem? (i := 172) (rfl : tables_1_1[172]? = some (Cond.fieldLink RX3 44 (TX3 10).1 (TX3 10).2.1 (TX3 10).2.2.1)))) (by decide +kernel)⟩
theorem fl_X3_47 : FL RX3 47 3 11 2 true := ⟨RX3, TX3, 20, tyX3, rfl, inG_X3, tyX3_ok, nmX3, by decide, rfl, rfl, rfl, ⟨fun v => by cases v <;> exact ⟨rfl, rfl⟩, rfl⟩, rfl, good_mem (tb_1 (List.mem_of_getElem? (i := 174) (rfl : tables_1_1[174]? = some (Cond.fieldLink RX3 47 (TX3 11).1 (TX3 11).2.1 (TX3 11).2.2.1)))) (by decide +kernel)⟩
theorem fl_X3_50 : FL RX3 50 3 12 2 true := ⟨RX3, TX3, 20, tyX3, rfl, inG_X3, tyX3_ok, nmX3, by decide, rfl, rfl, rfl, ⟨fun v => by cases v <;> exact ⟨rfl, rfl⟩, rfl⟩, rfl, good_mem (tb_1 (List.mem_of_getElem? (i := 176) (rfl : tables_1_1[176]? = some (Cond.fieldLink RX3 50 (TX3 12).1 (TX3 12).2.1 (TX3 12).2.2.1)))) (by decide +kernel)⟩
theorem fl_X3_53 : FL RX3 53 3 13 0 false := ⟨RX3, TX3, 20, tyX3, rfl, inG_X3, tyX3_ok, nmX3, by decide, rfl, rfl, rfl, rfl, rfl, good_mem (tb_1 (List.mem_of_getElem? (i := 178) (rfl : tables_1_1[178]? = some (Cond.fieldLink RX3 53 (TX3 13).1 (TX3 13).2.1 (TX3 13).2.2.1)))) (by decide +kernel)⟩
theorem fl_X3_56 : FL RX3 56 3 14 2 true := ⟨RX3, TX3, 20, tyX3, rfl, inG_X3, tyX3_ok, nmX3, by decide, rfl, rfl, rfl, ⟨fun v => by cases v <;> exact ⟨rfl, rfl⟩, rfl⟩, rfl, good_mem (tb_1 (List.mem_of_getElem? (i := 179) (rfl : tables_1_1[179]? = some (Cond.fieldLink RX3 56 (TX3 14).1 (TX3 14).2.1 (TX3 14).2.2.1)))) (by decide +kernel)⟩
theorem fl_X3_59 : FL RX3 59 3 15 0 false := ⟨RX3, TX3, 20, tyX3, rfl, inG_X3, tyX3_ok, nmX3, by decide, rfl, rfl, rfl, rfl, rfl, good_mem (tb_1 (List.mem_of_getElem? (i := 181) (rfl : tables_1_1[181]? = some (Cond.fieldLink RX3 59 (TX3 15).1 (TX3 15).2.1 (TX3 15).2.2.1)))) (by decide +kernel)⟩
theorem fl_X3_62 : FL RX3 62 3 16 2 true := ⟨RX3, TX3, 20, tyX3, rfl, inG_X3, tyX3_ok, nmX3, by decide, rfl, rfl, rfl, ⟨fun v => by cases v <;> exact ⟨rfl, rfl⟩, rfl⟩, rfl, good_mem (tb_1 (List.mem_of_getElem? (i := 182) (rfl : tables_1_1[182]? = some (Cond.fieldLink RX3 62 (TX3 16).1 (TX3 16).2.1 (TX3 16).2.2.1)))) (by decide +kernel)⟩
theorem fl_X3_65 : FL RX3 65 3 17 2 true := ⟨RX3, TX3, 20, tyX3, rfl, inG_X3, tyX3_ok, nmX3, by decide, rfl, rfl, rfl, ⟨fun v => by cases v <;> exact ⟨rfl, rfl⟩, rfl⟩, rfl, good_mem (tb_1 (List.mem_of_getElem? (i := 184) (rfl : tables_1_1[184]? = some (Cond.fieldLink RX3 65 (TX3 17).1 (TX3 17).2.1 (TX3 17).2.2.1)))) (by decide +kernel)⟩
theorem fl_X3_68 : FL RX3 68 3 18 2 true := ⟨RX3, TX3, 20, tyX3, rfl, inG_X3, tyX3_ok, nmX3, by decide, rfl, rfl, rfl, ⟨fun v => by cases v <;> exact ⟨rfl, rfl⟩, rfl⟩, rfl, good_mem (tb_1 (List.mem_of_getElem? (i := 186) (rfl : tables_1_1[186]? = some (Cond.fieldLink RX3 68 (TX3 18).1 (TX3 18).2.1 (TX3 18).2.2.1)))) (by decide +kernel)⟩
theorem fl_X3_71 : FL RX3 71 3 19 2 true := ⟨RX3, TX3, 20, tyX3, rfl, inG_X3, tyX3_ok, nmX3, by decide, rfl, rfl, rfl, ⟨fun v => by cases v <;> exact ⟨rfl, rfl⟩, rfl⟩, rfl, good_mem (tb_1 (List.mem_of_getElem? (i := 188) (rfl : tables_1_1[188]? = some (Cond.fieldLink RX3 71 (TX3 19).1 (TX3 19).2.1 (TX3 19).2.2.1)))) (by decide +kernel)⟩
theorem fl_X8_9 : FL RX8 9 8 0 2 true := ⟨RX8, TX8, 5, tyX8, rfl, inG_X8, tyX8_ok, nmX8, by decide, rfl, rfl, rfl, ⟨fun v => by cases v <;> exact ⟨rfl, rfl⟩, rfl⟩, rfl, good_mem (tb_2 (List.mem_of_getElem? (i := 3) (rfl : tables_1_2[3]? = some (Cond.fieldLink RX8 9 (TX8 0).1 (TX8 0).2.1 (TX8 0).2.2.1)))) (by decide +kernel)⟩
theorem fl_X8_15 : FL RX8 15 8 1 2 true := ⟨RX8, TX8, 5, tyX8, rfl, inG_X8, tyX8_ok, nmX8, by decide, rfl, rfl, rfl, ⟨fun v => by cases v <;> exact ⟨rfl, rfl⟩, rfl⟩, rfl, good_mem (tb_2 (List.mem_of_getElem? (i := 6) (rfl : tables_1_2[6]? = some (Cond.fieldLink RX8 15 (TX8 1).1 (TX8 1).2.1 (TX8 1).2.2.1)))) (by decide +kernel)⟩
theorem fl_X8_18 : FL RX8 18 8 2 2 true := ⟨RX8, TX8, 5, tyX8, rfl, inG_X8, tyX8_ok, nmX8, by decide, rfl, rfl, rfl, ⟨fun v => by cases v <;> exact ⟨rfl, rfl⟩, rfl⟩, rfl, good_mem (tb_2 (List.mem_of_getElem? (i := 9) (rfl : tables_1_2[9]? = some (Cond.fieldLink RX8 18 (TX8 2).1 (TX8 2).2.1 (TX8 2).2.2.1)))) (by decide +kernel)⟩
theorem fl_X8_21 : FL RX8 21 8 3 0 false := ⟨RX8, TX8, 5, tyX8, rfl, inG_X8, tyX8_ok, nmX8, by decide, rfl, rfl, rfl, rfl, rfl, good_mem (tb_2 (List.mem_of_getElem? (i := 12) (rfl : tables_1_2[12]? = some (Cond.fieldLink RX8 21 (TX8 3).1 (TX8 3).2.1 (TX8 3).2.2.1)))) (by decide +kernel)⟩
theorem fl_X8_25 : FL RX8 25 8 4 0 false := ⟨RX8, TX8, 5, tyX8, rfl, inG_X8, tyX8_ok, nmX8, by decide, rfl, rfl, rfl, rfl, rfl, good_mem (tb_2 (List.mem_of_getElem? (i := 15) (rfl : tables_1_2[15]? = some (Cond.fieldLink RX8 25 (TX8 4).1 (TX8 4).2.1 (TX8 4).2.2.1)))) (by decide +kernel)⟩
theorem fl_X2_12 : FL RX2 12 2 2 2 true := ⟨RX2, TX2, 10, tyX2, rfl, inG_X2, tyX2_ok, nmX2, by decide, rfl, rfl, rfl, ⟨fun v => by cases v <;> exact ⟨rfl, rfl⟩, rfl⟩, rfl, good_mem (tb_2 (List.mem_of_getElem? (i := 216) (rfl : tables_1_2[216]? = some (Cond.fieldLink RX2 12 (TX2 2).1 (TX2 2).2.1 (TX2 2).2.2.1)))) (by decide +kernel)⟩
theorem fl_X2_20 : FL RX2 20 2 3 2 true := ⟨RX2, TX2, 10, tyX2, rfl, inG_X2, tyX2_ok, nmX2, by decide, rfl, rfl, rfl, ⟨fun v => by cases v <;> exact ⟨rfl, rfl⟩, rfl⟩, rfl, good_mem (tb_2 (List.mem_of_getElem? (i := 217) (rfl : tables_1_2[217]? = some (Cond.fieldLink RX2 20 (TX2 3).1 (TX2 3).2.1 (TX2 3).2.2.1)))) (by decide +kernel)⟩
theorem fl_X2_27 : FL RX2 27 2 4 2 true := ⟨RX2, TX2, 10, tyX2, rfl, inG_X2, tyX2_ok, nmX2, by decide, rfl, rfl, rfl, ⟨fun v => by cases v <;> exact ⟨rfl, rfl⟩, rfl⟩, rfl, good_mem (tb_2 (List.mem_of_getElem? (i := 219) (rfl : tables_1_2[219]? = some (Cond.fieldLink RX2 27 (TX2 4).1 (TX2 4).2.1 (TX2 4).2.2.1)))) (by decide +kernel)⟩
theorem fl_X2_34 : FL RX2 34 2 5 2 true := ⟨RX2, TX2, 10, tyX2, rfl, inG_X2, tyX2_ok, nmX2, by decide, rfl, rfl, rfl, ⟨fun v => by cases v <;> exact ⟨rfl, rfl⟩, rfl⟩, rfl, good_mem (tb_2 (List.mem_of_getElem? (i := 221) (rfl : tables_1_2[221]? = some (Cond.fieldLink RX2 34 (TX2 5).1 (TX2 5).2.1 (TX2 5).2.2.1)))) (by decide +kernel)⟩
theorem fl_X2_38 : FL RX2 38 2 6 3 false := ⟨RX2, TX2, 10, tyX2, rfl, inG_X2, tyX2_ok, nmX2, by decide, rfl, rfl, rfl, rfl, rfl, good_mem (tb_2 (List.mem_of_getElem? (i := 223) (rfl : tables_1_2[223]? = some (Cond.fieldLink RX2 38 (TX2 6).1 (TX2 6).2.1 (TX2 6).2.2.1)))) (by decide +kernel)⟩
theorem fl_X2_42 : FL RX2 42 2 7 0 false := ⟨RX2, TX2, 10, tyX2, rfl, inG_X2, tyX2_ok, nmX2, by decide, rfl, rfl, rfl, rfl, rfl, good_mem (tb_2 (List.mem_of_getElem? (i := 225) (rfl : tables_1_2[225]? = some (Cond.fieldLink RX2 42 (TX2 7).1 (TX2 7).2.1 (TX2 7).2.2.1)))) (by decide +kernel)⟩
theorem fl_X2_46 : FL RX2 46 2 8 0 false := ⟨RX2, TX2, 10, tyX2, rfl, inG_X2, tyX2_ok, nmX2, by decide, rfl, rfl, rfl, rfl, rfl, good_mem (tb_2 (List.mem_of_getElem? (i := 227) (rfl : tables_1_2[227]? = some (Cond.fieldLink RX2 46 (TX2 8).1 (TX2 8).2.1 (TX2 8).2.2.1)))) (by decide +kernel)⟩
theorem fl_X2_49 : FL RX2 49 2 9 0 false := ⟨RX2, TX2, 10, tyX2, rfl, inG_X2, tyX2_ok, nmX2, by decide, rfl, rfl, rfl, rfl, rfl, good_mem (tb_2 (List.mem_of_getElem? (i := 228) (rfl : tables_1_2[228]? = some (Cond.fieldLink RX2 49 (TX2 9).1 (TX2 9).2.1 (TX2 9).2.2.1)))) (by decide +kernel)⟩
theorem fl_X2_52 : FL RX2 52 2 0 2 true := ⟨RX2, TX2, 10, tyX2, rfl, inG_X2, tyX2_ok, nmX2, by decide, rfl, rfl, rfl, ⟨fun v => by cases v <;> exact ⟨rfl, rfl⟩, rfl⟩, rfl, good_mem (tb_2 (List.mem_of_getElem? (i := 214) (rfl : tables_1_2[214]? = some (Cond.fieldLink RX2 52 (TX2 0).1 (TX2 0).2.1 (TX2 0).2.2.1)))) (by decide +kernel)⟩
theorem fl_X2_56 : FL RX2 56 2 1 2 true := ⟨RX2, TX2, 10, tyX2, rfl, inG_X2, tyX2_ok, nmX2, by decide, rfl, rfl, rfl, ⟨fun v => by cases v <;> exact ⟨rfl, rfl⟩, rfl⟩, rfl, good_mem (tb_2 (List.mem_of_getElem? (i := 215) (rfl : tables_1_2[215]? = some (Cond.fieldLink RX2 56 (TX2 1).1 (TX2 1).2.1 (TX2 1).2.2.1)))) (by decide +kernel)⟩
theorem fl_X6_11 : FL RX6 11 6 0 2 true := ⟨RX6, TX6, 3, tyX6, rfl, inG_X6, tyX6_ok, nmX6, by decide, rfl, rfl, rfl, ⟨fun v => by cases v <;> exact ⟨rfl, rfl⟩, rfl⟩, rfl, good_mem (tb_2 (List.mem_of_getElem? (i := 40) (rfl : tables_1_2[40]? = some (Cond.fieldLink RX6 11 (TX6 0).1 (TX6 0).2.1 (TX6 0).2.2.1)))) (by decide +kernel)⟩
theorem fl_X6_15 : FL RX6 15 6 1 0 false := ⟨RX6, TX6, 3, tyX6, rfl, inG_X6, tyX6_ok, nmX6, by decide, rfl, rfl, rfl, rfl, rfl, good_mem (tb_2 (List.mem_of_getElem? (i := 42) (rfl : tables_1_2[42]? = some (Cond.fieldLink RX6 15 (TX6 1).1 (TX6 1).2.1 (TX6 1).2.2.1)))) (by decide +kernel)⟩
theorem fl_X6_19 : FL RX6 19 6 2 0 false := ⟨RX6, TX6, 3, tyX6, rfl, inG_X6, tyX6_ok, nmX6, by decide, rfl, rfl, rfl, rfl, rfl, good_mem (tb_2 (List.mem_of_getElem? (i := 43) (rfl : tables_1_2[43]? = some (Cond.fieldLink RX6 19 (TX6 2).1 (TX6 2).2.1 (TX6 2).2.2.1)))) (by decide +kernel)⟩
theorem fl_X0_7 : FL RX0 7 0 0 0 false := ⟨RX0, TX0, 12, tyX0, rfl, inG_X0, tyX0_ok, nmX0, by decide, rfl, rfl, rfl, rfl, rfl, good_mem (tb_2 (List.mem_of_getElem? (i := 59) (rfl : tables_1_2[59]? = some (Cond.fieldLink RX0 7 (TX0 0).1 (TX0 0).2.1 (TX0 0).2.2.1)))) (by decide +kernel)⟩
theorem fl_X0_13 : FL RX0 13 0 1 0 false := ⟨RX0, TX0, 12, tyX0, rfl, inG_X0, tyX0_ok, nmX0, by decide, rfl, rfl, rfl, rfl, rfl, good_mem (tb_2 (List.mem_of_getElem? (i := 61) (rfl : tables_1_2[61]? = some (Cond.fieldLink RX0 13 (TX0 1).1 (TX0 1).2.1 (TX0 1).2.2.1)))) (by decide +kernel)⟩
theorem fl_X0_16 : FL RX0 16 0 2 0 false := ⟨RX0, TX0, 12, tyX0, rfl, inG_X0, tyX0_ok, nmX0, by decide, rfl, rfl, rfl, rfl, rfl, good_mem (tb_2 (List.mem_of_getElem? (i := 63) (rfl : tables_1_2[63]? = some (Cond.fieldLink RX0 16 (TX0 2).1 (TX0 2).2.1 (TX0 2).2.2.1)))) (by decide +kernel)⟩
theorem fl_X0_19 : FL RX0 19 0 3 0 false := ⟨RX0, TX0, 12, tyX0, rfl, inG_X0, tyX0_ok, nmX0, by decide, rfl, rfl, rfl, rfl, rfl, good_mem (tb_2 (List.mem_of_getElem? (i := 65) (rfl : tables_1_2[65]? = some (Cond.fieldLink RX0 19 (TX0 3).1 (TX0 3).2.1 (TX0 3).2.2.1)))) (by decide +kernel)⟩
theorem fl_X0_22 : FL RX0 22 0 4 0 false := ⟨RX0, TX0, 12, tyX0, rfl, inG_X0, tyX0_ok, nmX0, by decide, rfl, rfl, rfl, rfl, rfl, good_mem (tb_2 (List.mem_of_getElem? (i := 67) (rfl : tables_1_2[67]? = some (Cond.fieldLink RX0 22 (TX0 4).1 (TX0 4).2.1 (TX0 4).2.2.1)))) (by decide +kernel)⟩
theorem fl_X0_25 : FL RX0 25 0 5 0 false := ⟨RX0, TX0, 12, tyX0, rfl, inG_X0, tyX0_ok, nmX0, by decide, rfl, rfl, rfl, rfl, rfl, good_mem (tb_2 (List.mem_of_getElem? (i := 69) (rfl : tables_1_2[69]? = some (Cond.fieldLink RX0 25 (TX0 5).1 (TX0 5).2.1 (TX0 5).2.2.1)))) (by decide +kernel)⟩
theorem fl_X0_28 : FL RX0 28 0 6 0 false := ⟨RX0, TX0, 12, tyX0, rfl, inG_X0, tyX0_ok, nmX0, by decide, rfl, rfl, rfl, rfl, rfl, good_mem (tb_2 (List.mem_of_getElem? (i := 71) (rfl : tables_1_2[71]? = some (Cond.fieldLink RX0 28 (TX0 6).1 (TX0 6).2.1 (TX0 6).2.2.1)))) (by decide +kernel)⟩
theorem fl_X0_31 : FL RX0 31 0 7 0 false := ⟨RX0, TX0, 12, tyX0, rfl, inG_X0, tyX0_ok, nmX0, by decide, rfl, rfl, rfl, rfl, rfl, good_mem (tb_2 (List.mem_of_getElem? (i := 73) (rfl : tables_1_2[73]? = some (Cond.fieldLink RX0 31 (TX0 7).1 (TX0 7).2.1 (TX0 7).2.2.1)))) (by decide +kernel)⟩
theorem fl_X0_34 : FL RX0 34 0 8 0 false := ⟨RX0, TX0, 12, tyX0, rfl, inG_X0, tyX0_ok, nmX0, by decide, rfl, rfl, rfl, rfl, rfl, good_mem (tb_2 (List.mem_of_getElem? (i := 74) (rfl : tables_1_2[74]? = some (Cond.fieldLink RX0 34 (TX0 8).1 (TX0 8).2.1 (TX0 8).2.2.1)))) (by decide +kernel)⟩
theorem fl_X0_37 : FL RX0 37 0 9 0 false := ⟨RX0, TX0, 12, tyX0, rfl, inG_X0, tyX0_ok, nmX0, by decide, rfl, rfl, rfl, rfl, rfl, good_mem (tb_2 (List.mem_of_getElem? (i := 75) (rfl : tables_1_2[75]? = some (Cond.fieldLink RX0 37 (TX0 9).1 (TX0 9).2.1 (TX0 9).2.2.1)))) (by decide +kernel)⟩
theorem fl_X0_40 : FL RX0 40 0 10 2 true := ⟨RX0, TX0, 12, tyX0, rfl, inG_X0, tyX0_ok, nmX0, by decide, rfl, rfl, rfl, ⟨fun v => by cases v <;> exact ⟨rfl, rfl⟩, rfl⟩, rfl, good_mem (tb_2 (List.mem_of_getElem? (i := 76) (rfl : tables_1_2[76]? = some (Cond.fieldLink RX0 40 (TX0 10).1 (TX0 10).2.1 (TX0 10).2.2.1)))) (by decide +kernel)⟩
theorem fl_X0_44 : FL RX0 44 0 11 2 true := ⟨RX0, TX0, 12, tyX0, rfl, inG_X0, tyX0_ok, nmX0, by decide, rfl, rfl, rfl, ⟨fun v => by cases v <;> exact ⟨rfl, rfl⟩, rfl⟩, rfl, good_mem (tb_2 (List.mem_of_getElem? (i := 77) (rfl : tables_1_2[77]? = some (Cond.fieldLink RX0 44 (TX0 11).1 (TX0 11).2.1 (TX0 11).2.2.1)))) (by decide +kernel)⟩
theorem fl_X7_7 : FL RX7 7 7 0 0 false := ⟨RX7, TX7, 6, tyX7, rfl, inG_X7, tyX7_ok, nmX7, by decide, rfl, rfl, rfl, rfl, rfl, good_mem (tb_2 (List.mem_of_getElem? (i := 109) (rfl : tables_1_2[109]? = some (Cond.fieldLink RX7 7 (TX7 0).1 (TX7 0).2.1 (TX7 0).2.2.1)))) (by decide +kernel)⟩
theorem fl_X7_13 : FL RX7 13 7 1 0 false := ⟨RX7, TX7, 6, tyX7, rfl, inG_X7, tyX7_ok, nmX7, by decide, rfl, rfl, rfl, rfl, rfl, good_mem (tb_2 (List.mem_of_getElem? (i := 112) (rfl : tables_1_2[112]? = some (Cond.fieldLink RX7 13 (TX7 1).1 (TX7 1).2.1 (TX7 1).2.2.1)))) (by decide +kernel)⟩
theorem fl_X7_16 : FL RX7 16 7 2 0 false := ⟨RX7, TX7, 6, tyX7, rfl, inG_X7, tyX7_ok, nmX7, by decide, rfl, rfl, rfl, rfl, rfl, good_mem (tb_2 (List.mem_of_getElem? (i := 115) (rfl : tables_1_2[115]? = some (Cond.fieldLink RX7 16 (TX7 2).1 (TX7 2).2.1 (TX7 2).2.2.1)))) (by decide +kernel)⟩
theorem fl_X7_19 : FL RX7 19 7 3 0 false := ⟨RX7, TX7, 6, tyX7, rfl, inG_X7, tyX7_ok, nmX7, by decide, rfl, rfl, rfl, rfl, rfl, good_mem (tb_2 (List.mem_of_getElem? (i := 117) (rfl : tables_1_2[117]? = some (Cond.fieldLink RX7 19 (TX7 3).1 (TX7 3).2.1 (TX7 3).2.2.1)))) (by decide +kernel)⟩
theorem fl_X7_22 : FL RX7 22 7 4 2 true := ⟨RX7, TX7, 6, tyX7, rfl, inG_X7, tyX7_ok, nmX7, by decide, rfl, rfl, rfl, ⟨fun v => by cases v <;> exact ⟨rfl, rfl⟩, rfl⟩, rfl, good_mem (tb_2 (List.mem_of_getElem? (i := 119) (rfl : tables_1_2[119]? = some (Cond.fieldLink RX7 22 (TX7 4).1 (TX7 4).2.1 (TX7 4).2.2.1)))) (by decide +kernel)⟩
theorem fl_X7_26 : FL RX7 26 7 5 2 true := ⟨RX7, TX7, 6, tyX7, rfl, inG_X7, tyX7_ok, nmX7, by decide, rfl, rfl, rfl, ⟨fun v => by cases v <;> exact ⟨rfl, rfl⟩, rfl⟩, rfl, good_mem (tb_2 (List.mem_of_getElem? (i := 120) (rfl : tables_1_2[120]? = some (Cond.fieldLink RX7 26 (TX7 5).1 (TX7 5).2.1 (TX7 5).2.2.1)))) (by decide +kernel)⟩
theorem fl_X5_11 : FL RX5 11 5 2 0 false := ⟨RX5, TX5, 18, tyX5, rfl, inG_X5, tyX5_ok, nmX5, by decide, rfl, rfl, rfl, rfl, rfl, good_mem (tb_2 (List.mem_of_getElem? (i := 143) (rfl : tables_1_2[143]? = some (Cond.fieldLink RX5 11 (TX5 2).1 (TX5 2).2.1 (TX5 2).2.2.1)))) (by decide +kernel)⟩
theorem fl_X5_15 : FL RX5 15 5 3 0 false := ⟨RX5, TX5, 18, tyX5, rfl, inG_X5, tyX5_ok, nmX5, by decide, rfl, rfl, rfl, rfl, rfl, good_mem (tb_2 (List.mem_of_getElem? (i := 146) (rfl : tables_1_2[146]? = some (Cond.fieldLink RX5 15 (TX5 3).1 (TX5 3).2.1 (TX5 3).2.2.1)))) (by decide +kernel)⟩
theorem fl_X5_18 : FL RX5 18 5 4 0 false := ⟨RX5, TX5, 18, tyX5, rfl, inG_X5, tyX5_ok, nmX5, by decide, rfl, rfl, rfl, rfl, rfl, good_mem (tb_2 (List.mem_of_getElem? (i := 149) (rfl : tables_1_2[149]? = some (Cond.fieldLink RX5 18 (TX5 4).1 (TX5 4).2.1 (TX5 4).2.2.1)))) (by decide +kernel)⟩
theorem fl_X5_21 : FL RX5 21 5 5 0 false := ⟨RX5, TX5, 18, tyX5, rfl, inG_X5, tyX5_ok, nmX5, by decide, rfl, rfl, rfl, rfl, rfl, good_mem (tb_2 (List.mem_of_getElem? (i := 151) (rfl : tables_1_2[151]? = some (Cond.fieldLink RX5 21 (TX5 5).1 (TX5 5).2.1 (TX5 5).2.2.1)))) (by decide +kernel)⟩
theorem fl_X5_24 : FL RX5 24 5 6 0 false := ⟨RX5, TX5, 18, tyX5, rfl, inG_X5, tyX5_ok, nmX5, by decide, rfl, rfl, rfl, rfl, rfl, good_mem (tb_2 (List.mem_of_getElem? (i := 153) (rfl : tables_1_2[153]? = some (Cond.fieldLink RX5 24 (TX5 6).1 (TX5 6).2.1 (TX5 6).2.2.1)))) (by decide +kernel)⟩
theorem fl_X5_27 : FL RX5 27 5 7 0 false := ⟨RX5, TX5, 18, tyX5, rfl, inG_X5, tyX5_ok, nmX5, by decide, rfl, rfl, rfl, rfl, rfl, good_mem (tb_2 (List.mem_of_getElem? (i := 155) (rfl : tables_1_2[155]? = some (Cond.fieldLink RX5 27 (TX5 7).1 (TX5 7).2.1 (TX5 7).2.2.1)))) (by decide +kernel)⟩
theorem fl_X5_30 : FL RX5 30 5 8 3 false := ⟨RX5, TX5, 18, tyX5, rfl, inG_X5, tyX5_ok, nmX5, by decide, rfl, rfl, rfl, rfl, rfl, good_mem (tb_2 (List.mem_of_getElem? (i := 157) (rfl : tables_1_2[157]? = some (Cond.fieldLink RX5 30 (TX5 8).1 (TX5 8).2.1 (TX5 8).2.2.1)))) (by decide +kernel)⟩
theorem fl_X5_34 : FL RX5 34 5 9 2 true := ⟨RX5, TX5, 18, tyX5, rfl, inG_X5, tyX5_ok, nmX5, by decide, rfl, rfl, rfl, ⟨fun v => by cases v <;> exact ⟨rfl, rfl⟩, rfl⟩, rfl, good_mem (tb_2 (List.mem_of_getElem? (i := 160) (rfl : tables_1_2[160]? = some (Cond.fieldLink RX5 34 (TX5 9).1 (TX5 9).2.1 (TX5 9).2.2.1)))) (by decide +kernel)⟩
theorem fl_X5_38 : FL RX5 38 5 10 0 false := ⟨RX5, TX5, 18, tyX5, rfl, inG_X5, tyX5_ok, nmX5, by decide, rfl, rfl, rfl, rfl, rfl, good_mem (tb_2 (List.mem_of_getElem? (i := 162) (rfl : tables_1_2[162]? = some (Cond.fieldLink RX5 38 (TX5 10).1 (TX5 10).2.1 (TX5 10).2.2.1)))) (by decide +kernel)⟩
theorem fl_X5_41 : FL RX5 41 5 11 0 false := ⟨RX5, TX5, 18, tyX5, rfl, inG_X5, tyX5_ok, nmX5, by decide, rfl, rfl, rfl, rfl, rfl, good_mem (tb_2 (List.mem_of_getElem? (i := 164) (rfl : tables_1_2[164]? = some (Cond.fieldLink RX5 41 (TX5 11).1 (TX5 11).2.1 (TX5 11).2.2.1)))) (by decide +kernel)⟩
theorem fl_X5_44 : FL RX5 44 5 12 0 false := ⟨RX5, TX5, 18, tyX5, rfl, inG_X5, tyX5_ok, nmX5, by decide, rfl, rfl, rfl, rfl, rfl, good_mem (tb_2 (List.mem_of_getElem? (i := 166) (rfl : tables_1_2[166]? = some (Cond.fieldLink RX5 44 (TX5 12).1 (TX5 12).2.1 (TX5 12).2.2.1)))) (by decide +kernel)⟩
theorem fl_X5_47 : FL RX5 47 5 13 0 false := ⟨RX5, TX5, 18, tyX5, rfl, inG_X5, tyX5_ok, nmX5, by decide, rfl, rfl, rfl, rfl, rfl, good_mem (tb_2 (List.mem_of_getElem? (i := 168) (rfl : tables_1_2[168]? = some (Cond.fieldLink RX5 47 (TX5 13).1 (TX5 13).2.1 (TX5 13).2.2.1)))) (by decide +kernel)⟩
theorem fl_X5_50 : FL RX5 50 5 14 0 false := ⟨RX5, TX5, 18, tyX5, rfl, inG_X5, tyX5_ok, nmX5, by decide, rfl, rfl, rfl, rfl, rfl, good_mem (tb_2 (List.mem_of_getElem? (i := 169) (rfl : tables_1_2[169]? = some (Cond.fieldLink RX5 50 (TX5 14).1 (TX5 14).2.1 (TX5 14).2.2.1)))) (by decide +kernel)⟩
theorem fl_X5_53 : FL RX5 53 5 15 0 false := ⟨RX5, TX5, 18, tyX5, rfl, inG_X5, tyX5_ok, nmX5, by decide, rfl, rfl, rfl, rfl, rfl, good_mem (tb_2 (List.mem_of_getElem? (i := 171) (rfl : tables_1_2[171]? = some (Cond.fieldLink RX5 53 (TX5 15).1 (TX5 15).2.1 (TX5 15).2.2.1)))) (by decide +kernel)⟩
theorem fl_X5_56 : FL RX5 56 5 16 0 false := ⟨RX5, TX5, 18, tyX5, rfl, inG_X5, tyX5_ok, nmX5, by decide, rfl, rfl, rfl, rfl, rfl, good_mem (tb_2 (List.mem_of_getElem? (i := 173) (rfl : tables_1_2[173]? = some (Cond.fieldLink RX5 56 (TX5 16).1 (TX5 16).2.1 (TX5 16).2.2.1)))) (by decide +kernel)⟩
theorem fl_X5_59 : FL RX5 59 5 17 0 false := ⟨RX5, TX5, 18, tyX5, rfl, inG_X5, tyX5_ok, nmX5, by decide, rfl, rfl, rfl, rfl, rfl, good_mem (tb_2 (List.mem_of_getElem? (i := 175) (rfl : tables_1_2[175]? = some (Cond.fieldLink RX5 59 (TX5 17).1 (TX5 17).2.1 (TX5 17).2.2.1)))) (by decide +kernel)⟩
theorem fl_X5_62 : FL RX5 62 5 0 0 true := ⟨RX5, TX5, 18, tyX5, rfl, inG_X5, tyX5_ok, nmX5, by decide, rfl, rfl, rfl, rfl, rfl, good_mem (tb_2 (List.mem_of_getElem? (i := 139) (rfl : tables_1_2[139]? = some (Cond.fieldLink RX5 62 (TX5 0).1 (TX5 0).2.1 (TX5 0).2.2.1)))) (by decide +kernel)⟩
theorem fl_X5_65 : FL RX5 65 5 1 3 true := ⟨RX5, TX5, 18, tyX5, rfl, inG_X5, tyX5_ok, nmX5, by decide, rfl, rfl, rfl, rfl, rfl, good_mem (tb_2 (List.mem_of_getElem? (i := 141) (rfl : tables_1_2[141]? = some (Cond.fieldLink RX5 65 (TX5 1).1 (TX5 1).2.1 (TX5 1).2.2.1)))) (by decide +kernel)⟩
theorem fl_X10_96 : FL RX10 96 8 0 2 true := ⟨RX8, TX8, 5, tyX8, rfl, inG_X8, tyX8_ok, nmX8, by decide, rfl, rfl, rfl, ⟨fun v => by cases v <;> exact ⟨rfl, rfl⟩, rfl⟩, rfl, good_mem (tb_2 (List.mem_of_getElem? (i := 4) (rfl : tables_1_2[4]? = some (Cond.fieldLink RX10 96 (TX8 0).1 (TX8 0).2.1 (TX8 0).2.2.1)))) (by decide +kernel)⟩
theorem fl_X10_99 : FL RX10 99 8 1 2 true := ⟨RX8, TX8, 5, tyX8, rfl, inG_X8, tyX8_ok, nmX8, by decide, rfl, rfl, rfl, ⟨fun v => by cases v <;> exact ⟨rfl, rfl⟩, rfl⟩, rfl, good_mem (tb_2 (List.mem_of_getElem? (i := 7) (rfl : tables_1_2[7]? = some (Cond.fieldLink RX10 99 (TX8 1).1 (TX8 1).2.1 (TX8 1).2.2.1)))) (by decide +kernel)⟩
theorem fl_X10_102 : FL RX10 102 8 2 2 true := ⟨RX8, TX8, 5, tyX8, rfl, inG_X8, tyX8_ok, nmX8, by decide, rfl, rfl, rfl, ⟨fun v => by cases v <;> exact ⟨rfl, rfl⟩, rfl⟩, rfl, good_mem (tb_2 (List.mem_of_getElem? (i := 10) (rfl : tables_1_2[10]? = some (Cond.fieldLink RX10 102 (TX8 2).1 (TX8 2).2.1 (TX8 2).2.2.1)))) (by decide +kernel)⟩
theorem fl_X10_105 : FL RX10 105 8 3 0 false := ⟨RX8, TX8, 5, tyX8, rfl, inG_X8, tyX8_ok, nmX8, by decide, rfl, rfl, rfl, rfl, rfl, good_mem (tb_2 (List.mem_of_getElem? (i := 13) (rfl : tables_1_2[13]? = some (Cond.fieldLink RX10 105 (TX8 3).1 (TX8 3).2.1 (TX8 3).2.2.1)))) (by decide +kernel)⟩
theorem fl_X10_108 : FL RX10 108 8 4 0 false := ⟨RX8, TX8, 5, tyX8, rfl, inG_X8, tyX8_ok, nmX8, by decide, rfl, rfl, rfl, rfl, rfl, good_mem (tb_2 (List.mem_of_getElem? (i := 16) (rfl : tables_1_2[16]? = some (Cond.fieldLink RX10 108 (TX8 4).1 (TX8 4).2.1 (TX8 4).2.2.1)))) (by decide +kernel)⟩
theorem fl_X2_110 : FL RX2 110 0 0 0 false := ⟨RX0, TX0, 12, tyX0, rfl, inG_X0, tyX0_ok, nmX0, by decide, rfl, rfl, rfl, rfl, rfl, good_mem (tb_2 (List.mem_of_getElem? (i := 60) (rfl : tables_1_2[60]? = some (Cond.fieldLink RX2 110 (TX0 0).1 (TX0 0).2.1 (TX0 0).2.2.1)))) (by decide +kernel)⟩
theorem fl_X2_113 : FL RX2 113 0 1 0 false := ⟨RX0, TX0, 12, tyX0, rfl, inG_X0, tyX0_ok, nmX0, by decide, rfl, rfl, rfl, rfl, rfl, good_mem (tb_2 (List.mem_of_getElem? (i := 62) (rfl : tables_1_2[62]? = some (Cond.fieldLink RX2 113 (TX0 1).1 (TX0 1).2.1 (TX0 1).2.2.1)))) (by decide +kernel)⟩
theorem fl_X5_68 : FL RX5 68 8 0 2 true := ⟨RX8, TX8, 5, tyX8, rfl, inG_X8, tyX8_ok, nmX8, by decide, rfl, rfl, rfl, ⟨fun v => by cases v <;> exact ⟨rfl, rfl⟩, rfl⟩, rfl, good_mem (tb_2 (List.mem_of_getElem? (i := 5) (rfl : tables_1_2[5]? = some (Cond.fieldLink RX5 68 (TX8 0).1 (TX8 0).2.1 (TX8 0).2.2.1)))) (by decide +kernel)⟩
theorem fl_X5_76 : FL RX5 76 8 1 2 true := ⟨RX8, TX8, 5, tyX8, rfl, inG_X8, tyX8_ok, nmX8, by decide, rfl, rfl, rfl, ⟨fun v => by cases v <;> exact ⟨rfl, rfl⟩, rfl⟩, rfl, good_mem (tb_2 (List.mem_of_getElem? (i := 8) (rfl : tables_1_2[8]? = some (Cond.fieldLink RX5 76 (TX8 1).1 (TX8 1).2.1 (TX8 1).2.2.1)))) (by decide +kernel)⟩
theorem fl_X5_82 : FL RX5 82 8 2 2 true := ⟨RX8, TX8, 5, tyX8, rfl, inG_X8, tyX8_ok, nmX8, by decide, rfl, rfl, rfl, ⟨fun v => by cases v <;> exact ⟨rfl, rfl⟩, rfl⟩, rfl, good_mem (tb_2 (List.mem_of_getElem? (i := 11) (rfl : tables_1_2[11]? = some (Cond.fieldLink RX5 82 (TX8 2).1 (TX8 2).2.1 (TX8 2).2.2.1)))) (by decide +kernel)⟩
theorem fl_X5_87 : FL RX5 87 8 3 0 false := ⟨RX8, TX8, 5, tyX8, rfl, inG_X8, tyX8_ok, nmX8, by decide, rfl, rfl, rfl, rfl, rfl, good_mem (tb_2 (List.mem_of_getElem? (i := 14) (rfl : tables_1_2[14]? = some (Cond.fieldLink RX5 87 (TX8 3).1 (TX8 3).2.1 (TX8 3).2.2.1)))) (by decide +kernel)⟩
theorem fl_X5_88 : FL RX5 88 8 4 0 false := ⟨RX8, TX8, 5, tyX8, rfl, inG_X8, tyX8_ok, nmX8, by decide, rfl, rfl, rfl, rfl, rfl, good_mem (tb_2 (List.mem_of_getElem? (i := 17) (rfl : tables_1_2[17]? = some (Cond.fieldLink RX5 88 (TX8 4).1 (TX8 4).2.1 (TX8 4).2.2.1)))) (by decide +kernel)⟩
theorem fl_X2_120 : FL RX2 120 5 4 0 false := ⟨RX5, TX5, 18, tyX5, rfl, inG_X5, tyX5_ok, nmX5, by decide, rfl, rfl, rfl, rfl, rfl, good_mem (tb_2 (List.mem_of_getElem? (i := 150) (rfl : tables_1_2[150]? = some (Cond.fieldLink RX2 120 (TX5 4).1 (TX5 4).2.1 (TX5 4).2.2.1)))) (by decide +kernel)⟩
theorem fl_X2_123 : FL RX2 123 5 5 0 false := ⟨RX5, TX5, 18, tyX5, rfl, inG_X5, tyX5_ok, nmX5, by decide, rfl, rfl, rfl, rfl, rfl, good_mem (tb_2 (List.mem_of_getElem? (i := 152) (rfl : tables_1_2[152]? = some (Cond.fieldLink RX2 123 (TX5 5).1 (TX5 5).2.1 (TX5 5).2.2.1)))) (by decide +kernel)⟩
theorem fl_X2_130 : FL RX2 130 5 2 0 false := ⟨RX5, TX5, 18, tyX5, rfl, inG_X5, tyX5_ok, nmX5, by decide, rfl, rfl, rfl, rfl, rfl, good_mem (tb_2 (List.mem_of_getElem? (i := 144) (rfl : tables_1_2[144]? = some (Cond.fieldLink RX2 130 (TX5 2).1 (TX5 2).2.1 (TX5 2).2.2.1)))) (by decide +kernel)⟩
theorem fl_X2_131 : FL RX2 131 5 3 0 false := ⟨RX5, TX5, 18, tyX5, rfl, inG_X5, tyX5_ok, nmX5, by decide, rfl, rfl, rfl, rfl, rfl, good_mem (tb_2 (List.mem_of_getElem? (i := 147) (rfl : tables_1_2[147]? = some (Cond.fieldLink RX2 131 (TX5 3).1 (TX5 3).2.1 (TX5 3).2.2.1)))) (by decide +kernel)⟩
theorem fl_X2_132 : FL RX2 132 0 2 0 false := ⟨RX0, TX0, 12, tyX0, rfl, inG_X0, tyX0_ok, nmX0, by decide, rfl, rfl, rfl, rfl, rfl, good_mem (tb_2 (List.mem_of_getElem? (i := 64) (rfl : tables_1_2[64]? = some (Cond.fieldLink RX2 132 (TX0 2).1 (TX0 2).2.1 (TX0 2).2.2.1)))) (by decide +kernel)⟩
theorem fl_X10_115 : FL RX10 115 2 6 3 false := ⟨RX2, TX2, 10, tyX2, rfl, inG_X2, tyX2_ok, nmX2, by decide, rfl, rfl, rfl, rfl, rfl, good_mem (tb_2 (List.mem_of_getElem? (i := 224) (rfl : tables_1_2[224]? = some (Cond.fieldLink RX10 115 (TX2 6).1 (TX2 6).2.1 (TX2 6).2.2.1)))) (by decide +kernel)⟩
theorem fl_X2_152 : FL RX2 152 5 12 0 false := ⟨RX5, TX5, 18, tyX5, rfl, inG_X5, tyX5_ok, nmX5, by decide, rfl, rfl, rfl, rfl, rfl, good_mem (tb_2 (List.mem_of_getElem? (i := 167) (rfl : tables_1_2[167]? = some (Cond.fieldLink RX2 152 (TX5 12).1 (TX5 12).2.1 (TX5 12).2.2.1)))) (by decide +kernel)⟩
theorem fl_X2_161 : FL RX2 161 5 6 0 false := ⟨RX5, TX5, 18, tyX5, rfl, inG_X5, tyX5_ok, nmX5, by decide, rfl, rfl, rfl, rfl, rfl, good_mem (tb_2 (List.mem_of_getElem? (i := 154) (rfl : tables_1_2[154]? = some (Cond.fieldLink RX2 161 (TX5 6).1 (TX5 6).2.1 (TX5 6).2.2.1)))) (by decide +kernel)⟩
theorem fl_X2_164 : FL RX2 164 5 8 3 false := ⟨RX5, TX5, 18, tyX5, rfl, inG_X5, tyX5_ok, nmX5, by decide, rfl, rfl, rfl, rfl, rfl, good_mem (tb_2 (List.mem_of_getElem? (i := 159) (rfl : tables_1_2[159]? = some (Cond.fieldLink RX2 164 (TX5 8).1 (TX5 8).2.1 (TX5 8).2.2.1)))) (by decide +kernel)⟩
theorem fl_X2_175 : FL RX2 175 7 3 0 false := ⟨RX7, TX7, 6, tyX7, rfl, inG_X7, tyX7_ok, nmX7, by decide, rfl, rfl, rfl, rfl, rfl, good_mem (tb_2 (List.mem_of_getElem? (i := 118) (rfl : tables_1_2[118]? = some (Cond.fieldLink RX2 175 (TX7 3).1 (TX7 3).2.1 (TX7 3).2.2.1)))) (by decide +kernel)⟩
theorem fl_X2_178 : FL RX2 178 6 0 2 true := ⟨RX6, TX6, 3, tyX6, rfl, inG_X6, tyX6_ok, nmX6, by decide, rfl, rfl, rfl, ⟨fun v => by cases v <;> exact ⟨rfl, rfl⟩, rfl⟩, rfl, good_mem (tb_2 (List.mem_of_getElem? (i := 41) (rfl : tables_1_2[41]? = some (Cond.fieldLink RX2 178 (TX6 0).1 (TX6 0).2.1 (TX6 0).2.2.1)))) (by decide +kernel)⟩
theorem fl_X2_182 : FL RX2 182 5 10 0 false := ⟨RX5, TX5, 18, tyX5, rfl, inG_X5, tyX5_ok, nmX5, by decide, rfl, rfl, rfl, rfl, rfl, good_mem (tb_2 (List.mem_of_getElem? (i := 163) (rfl : tables_1_2[163]? = some (Cond.fieldLink RX2 182 (TX5 10).1 (TX5 10).2.1 (TX5 10).2.2.1)))) (by decide +kernel)⟩
theorem fl_X2_192 : FL RX2 192 5 11 0 false := ⟨RX5, TX5, 18, tyX5, rfl, inG_X5, tyX5_ok, nmX5, by decide, rfl, rfl, rfl, rfl, rfl, good_mem (tb_2 (List.mem_of_getElem? (i := 165) (rfl : tables_1_2[165]? = some (Cond.fieldLink RX2 192 (TX5 11).1 (TX5 11).2.1 (TX5 11).2.2.1)))) (by decide +kernel)⟩
theorem fl_X2_201 : FL RX2 201 7 0 0 false := ⟨RX7, TX7, 6, tyX7, rfl, inG_X7, tyX7_ok, nmX7, by decide, rfl, rfl, rfl, rfl, rfl, good_mem (tb_2 (List.mem_of_getElem? (i := 110) (rfl : tables_1_2[110]? = some (Cond.fieldLink RX2 201 (TX7 0).1 (TX7 0).2.1 (TX7 0).2.2.1)))) (by decide +kernel)⟩
theorem fl_X2_204 : FL RX2 204 7 1 0 false := ⟨RX7, TX7, 6, tyX7, rfl, inG_X7, tyX7_ok, nmX7, by decide, rfl, rfl, rfl, rfl, rfl, good_mem (tb_2 (List.mem_of_getElem? (i := 113) (rfl : tables_1_2[113]? = some (Cond.fieldLink RX2 204 (TX7 1).1 (TX7 1).2.1 (TX7 1).2.2.1)))) (by decide +kernel)⟩
theorem fl_X2_207 : FL RX2 207 5 1 3 true := ⟨RX5, TX5, 18, tyX5, rfl, inG_X5, tyX5_ok, nmX5, by decide, rfl, rfl, rfl, rfl, rfl, good_mem (tb_2 (List.mem_of_getElem? (i := 142) (rfl : tables_1_2[142]? = some (Cond.fieldLink RX2 207 (TX5 1).1 (TX5 1).2.1 (TX5 1).2.2.1)))) (by decide +kernel)⟩
theorem fl_X2_210 : FL RX2 210 5 0 0 true := ⟨RX5, TX5, 18, tyX5, rfl, inG_X5, tyX5_ok, nmX5, by decide, rfl, rfl, rfl, rfl, rfl, good_mem (tb_2 (List.mem_of_getElem? (i := 140) (rfl : tables_1_2[140]? = some (Cond.fieldLink RX2 210 (TX5 0).1 (TX5 0).2.1 (TX5 0).2.2.1)))) (by decide +kernel)⟩
theorem fl_X6_22 : FL RX6 22 5 7 0 false := ⟨RX5, TX5, 18, tyX5, rfl, inG_X5, tyX5_ok, nmX5, by decide, rfl, rfl, rfl, rfl, rfl, good_mem (tb_2 (List.mem_of_getElem? (i := 156) (rfl : tables_1_2[156]? = some (Cond.fieldLink RX6 22 (TX5 7).1 (TX5 7).2.1 (TX5 7).2.2.1)))) (by decide +kernel)⟩
theorem fl_X6_27 : FL RX6 27 3 2 2 true := ⟨RX3, TX3, 20, tyX3, rfl, inG_X3, tyX3_ok, nmX3, by decide, rfl, rfl, rfl, ⟨fun v => by cases v <;> exact ⟨rfl, rfl⟩, rfl⟩, rfl, good_mem (tb_1 (List.mem_of_getElem? (i := 160) (rfl : tables_1_1[160]? = some (Cond.fieldLink RX6 27 (TX3 2).1 (TX3 2).2.1 (TX3 2).2.2.1)))) (by decide +kernel)⟩
theorem fl_X6_36 : FL RX6 36 5 9 2 true := ⟨RX5, TX5, 18, tyX5, rfl, inG_X5, tyX5_ok, nmX5, by decide, rfl, rfl, rfl, ⟨fun v => by cases v <;> exact ⟨rfl, rfl⟩, rfl⟩, rfl, good_mem (tb_2 (List.mem_of_getElem? (i := 161) (rfl : tables_1_2[161]? = some (Cond.fieldLink RX6 36 (TX5 9).1 (TX5 9).2.1 (TX5 9).2.2.1)))) (by decide +kernel)⟩
theorem fl_X6_51 : FL RX6 51 5 8 3 false := ⟨RX5, TX5, 18, tyX5, rfl, inG_X5, tyX5_ok, nmX5, by decide, rfl, rfl, rfl, rfl, rfl, good_mem (tb_2 (List.mem_of_getElem? (i := 158) (rfl : tables_1_2[158]? = some (Cond.fieldLink RX6 51 (TX5 8).1 (TX5 8).2.1 (TX5 8).2.2.1)))) (by decide +kernel)⟩
theorem fl_X6_55 : FL RX6 55 3 4 2 true := ⟨RX3, TX3, 20, tyX3, rfl, inG_X3, tyX3_ok, nmX3, by decide, rfl, rfl, rfl, ⟨fun v => by cases v <;> exact ⟨rfl, rfl⟩, rfl⟩, rfl, good_mem (tb_1 (List.mem_of_getElem? (i := 163) (rfl : tables_1_1[163]? = some (Cond.fieldLink RX6 55 (TX3 4).1 (TX3 4).2.1 (TX3 4).2.2.1)))) (by decide +kernel)⟩
theorem fl_X6_58 : FL RX6 58 3 8 2 true := ⟨RX3, TX3, 20, tyX3, rfl, inG_X3, tyX3_ok, nmX3, by decide, rfl, rfl, rfl, ⟨fun v => by cases v <;> exact ⟨rfl, rfl⟩, rfl⟩, rfl, good_mem (tb_1 (List.mem_of_getElem? (i := 170) (rfl : tables_1_1[170]? = some (Cond.fieldLink RX6 58 (TX3 8).1 (TX3 8).2.1 (TX3 8).2.2.1)))) (by decide +kernel)⟩
theorem fl_X6_65 : FL RX6 65 3 7 2 true := ⟨RX3, TX3, 20, tyX3, rfl, inG_X3, tyX3_ok, nmX3, by decide, rfl, rfl, rfl, ⟨fun v => by cases v <;> exact ⟨rfl, rfl⟩, rfl⟩, rfl, good_mem (tb_1 (List.mem_of_getElem? (i := 168) (rfl : tables_1_1[168]? = some (Cond.fieldLink RX6 65 (TX3 7).1 (TX3 7).2.1 (TX3 7).2.2.1)))) (by decide +kernel)⟩
theorem fl_X6_108 : FL RX6 108 3 14 2 true := ⟨RX3, TX3, 20, tyX3, rfl, inG_X3, tyX3_ok, nmX3, by decide, rfl, rfl, rfl, ⟨fun v => by cases v <;> exact ⟨rfl, rfl⟩, rfl⟩, rfl, good_mem (tb_1 (List.mem_of_getElem? (i := 180) (rfl : tables_1_1[180]? = some (Cond.fieldLink RX6 108 (TX3 14).1 (TX3 14).2.1 (TX3 14).2.2.1)))) (by decide +kernel)⟩
theorem fl_X6_111 : FL RX6 111 3 18 2 true := ⟨RX3, TX3, 20, tyX3, rfl, inG_X3, tyX3_ok, nmX3, by decide, rfl, rfl, rfl, ⟨fun v => by cases v <;> exact ⟨rfl, rfl⟩, rfl⟩, rfl, good_mem (tb_1 (List.mem_of_getElem? (i := 187) (rfl : tables_1_1[187]? = some (Cond.fieldLink RX6 111 (TX3 18).1 (TX3 18).2.1 (TX3 18).2.2.1)))) (by decide +kernel)⟩
theorem fl_X6_114 : FL RX6 114 3 19 2 true := ⟨RX3, TX3, 20, tyX3, rfl, inG_X3, tyX3_ok, nmX3, by decide, rfl, rfl, rfl, ⟨fun v => by cases v <;> exact ⟨rfl, rfl⟩, rfl⟩, rfl, good_mem (tb_1 (List.mem_of_getElem? (i := 189) (rfl : tables_1_1[189]? = some (Cond.fieldLink RX6 114 (TX3 19).1 (TX3 19).2.1 (TX3 19).2.2.1)))) (by decide +kernel)⟩
theorem fl_X6_117 : FL RX6 117 3 17 2 true := ⟨RX3, TX3, 20, tyX3, rfl, inG_X3, tyX3_ok, nmX3, by decide, rfl, rfl, rfl, ⟨fun v => by cases v <;> exact ⟨rfl, rfl⟩, rfl⟩, rfl, good_mem (tb_1 (List.mem_of_getElem? (i := 185) (rfl : tables_1_1[185]? = some (Cond.fieldLink RX6 117 (TX3 17).1 (TX3 17).2.1 (TX3 17).2.2.1)))) (by decide +kernel)⟩
theorem fl_X6_120 : FL RX6 120 3 16 2 true := ⟨RX3, TX3, 20, tyX3, rfl, inG_X3, tyX3_ok, nmX3, by decide, rfl, rfl, rfl, ⟨fun v => by cases v <;> exact ⟨rfl, rfl⟩, rfl⟩, rfl, good_mem (tb_1 (List.mem_of_getElem? (i := 183) (rfl : tables_1_1[183]? = some (Cond.fieldLink RX6 120 (TX3 16).1 (TX3 16).2.1 (TX3 16).2.2.1)))) (by decide +kernel)⟩
theorem fl_X6_70 : FL RX6 70 3 5 2 true := ⟨RX3, TX3, 20, tyX3, rfl, inG_X3, tyX3_ok, nmX3, by decide, rfl, rfl, rfl, ⟨fun v => by cases v <;> exact ⟨rfl, rfl⟩, rfl⟩, rfl, good_mem (tb_1 (List.mem_of_getElem? (i := 165) (rfl : tables_1_1[165]? = some (Cond.fieldLink RX6 70 (TX3 5).1 (TX3 5).2.1 (TX3 5).2.2.1)))) (by decide +kernel)⟩
theorem fl_X6_73 : FL RX6 73 3 11 2 true := ⟨RX3, TX3, 20, tyX3, rfl, inG_X3, tyX3_ok, nmX3, by decide, rfl, rfl, rfl, ⟨fun v => by cases v <;> exact ⟨rfl, rfl⟩, rfl⟩, rfl, good_mem (tb_1 (List.mem_of_getElem? (i := 175) (rfl : tables_1_1[175]? = some (Cond.fieldLink RX6 73 (TX3 11).1 (TX3 11).2.1 (TX3 11).2.2.1)))) (by decide +kernel)⟩
theorem fl_X6_77 : FL RX6 77 3 10 2 true := ⟨RX3, TX3, 20, tyX3, rfl, inG_X3, tyX3_ok, nmX3, by decide, rfl, rfl, rfl, ⟨fun v => by cases v <;> exact ⟨rfl, rfl⟩, rfl⟩, rfl, good_mem (tb_1 (List.mem_of_getElem? (i := 173) (rfl : tables_1_1[173]? = some (Cond.fieldLink RX6 77 (TX3 10).1 (TX3 10).2.1 (TX3 10).2.2.1)))) (by decide +kernel)⟩
theorem fl_X6_80 : FL RX6 80 3 12 2 true := ⟨RX3, TX3, 20, tyX3, rfl, inG_X3, tyX3_ok, nmX3, by decide, rfl, rfl, rfl, ⟨fun v => by cases v <;> exact ⟨rfl, rfl⟩, rfl⟩, rfl, good_mem (tb_1 (List.mem_of_getElem? (i := 177) (rfl : tables_1_1[177]? = some (Cond.fieldLink RX6 80 (TX3 12).1 (TX3 12).2.1 (TX3 12).2.2.1)))) (by decide +kernel)⟩
theorem fl_X6_91 : FL RX6 91 5 2 0 false := ⟨RX5, TX5, 18, tyX5, rfl, inG_X5, tyX5_ok, nmX5, by decide, rfl, rfl, rfl, rfl, rfl, good_mem (tb_2 (List.mem_of_getElem? (i := 145) (rfl : tables_1_2[145]? = some (Cond.fieldLink RX6 91 (TX5 2).1 (TX5 2).2.1 (TX5 2).2.2.1)))) (by decide +kernel)⟩
theorem fl_X6_98 : FL RX6 98 5 3 0 false := ⟨RX5, TX5, 18, tyX5, rfl, inG_X5, tyX5_ok, nmX5, by decide, rfl, rfl, rfl, rfl, rfl, good_mem (tb_2 (List.mem_of_getElem? (i := 148) (rfl : tables_1_2[148]? = some (Cond.fieldLink RX6 98 (TX5 3).1 (TX5 3).2.1 (TX5 3).2.2.1)))) (by decide +kernel)⟩
theorem fl_X2_213 : FL RX2 213 5 15 0 false := ⟨RX5, TX5, 18, tyX5, rfl, inG_X5, tyX5_ok, nmX5, by decide, rfl, rfl, rfl, rfl, rfl, good_mem (tb_2 (List.mem_of_getElem? (i := 172) (rfl : tables_1_2[172]? = some (Cond.fieldLink RX2 213 (TX5 15).1 (TX5 15).2.1 (TX5 15).2.2.1)))) (by decide +kernel)⟩
theorem fl_X2_216 : FL RX2 216 5 16 0 false := ⟨RX5, TX5, 18, tyX5, rfl, inG_X5, tyX5_ok, nmX5, by decide, rfl, rfl, rfl, rfl, rfl, good_mem (tb_2 (List.mem_of_getElem? (i := 174) (rfl : tables_1_2[174]? = some (Cond.fieldLink RX2 216 (TX5 16).1 (TX5 16).2.1 (TX5 16).2.2.1)))) (by decide +kernel)⟩
theorem fl_X2_219 : FL RX2 219 5 14 0 false := ⟨RX5, TX5, 18, tyX5, rfl, inG_X5, tyX5_ok, nmX5, by decide, rfl, rfl, rfl, rfl, rfl, good_mem (tb_2 (List.mem_of_getElem? (i := 170) (rfl : tables_1_2[170]? = some (Cond.fieldLink RX2 219 (TX5 14).1 (TX5 14).2.1 (TX5 14).2.2.1)))) (by decide +kernel)⟩
theorem fl_X2_225 : FL RX2 225 5 17 0 false := ⟨RX5, TX5, 18, tyX5, rfl, inG_X5, tyX5_ok, nmX5, by decide, rfl, rfl, rfl, rfl, rfl, good_mem (tb_2 (List.mem_of_getElem? (i := 176) (rfl : tables_1_2[176]? = some (Cond.fieldLink RX2 225 (TX5 17).1 (TX5 17).2.1 (TX5 17).2.2.1)))) (by decide +kernel)⟩
theorem fl_X2_232 : FL RX2 232 0 3 0 false := ⟨RX0, TX0, 12, tyX0, rfl, inG_X0, tyX0_ok, nmX0, by decide, rfl, rfl, rfl, rfl, rfl, good_mem (tb_2 (List.mem_of_getElem? (i := 66) (rfl : tables_1_2[66]? = some (Cond.fieldLink RX2 232 (TX0 3).1 (TX0 3).2.1 (TX0 3).2.2.1)))) (by decide +kernel)⟩
theorem fl_X2_238 : FL RX2 238 7 2 0 false := ⟨RX7, TX7, 6, tyX7, rfl, inG_X7, tyX7_ok, nmX7, by decide, rfl, rfl, rfl, rfl, rfl, good_mem (tb_2 (List.mem_of_getElem? (i := 116) (rfl : tables_1_2[116]? = some (Cond.fieldLink RX2 238 (TX7 2).1 (TX7 2).2.1 (TX7 2).2.2.1)))) (by decide +kernel)⟩
theorem fl_X2_241 : FL RX2 241 0 4 0 false := ⟨RX0, TX0, 12, tyX0, rfl, inG_X0, tyX0_ok, nmX0, by decide, rfl, rfl, rfl, rfl, rfl, good_mem (tb_2 (List.mem_of_getElem? (i := 68) (rfl : tables_1_2[68]? = some (Cond.fieldLink RX2 241 (TX0 4).1 (TX0 4).2.1 (TX0 4).2.2.1)))) (by decide +kernel)⟩
theorem fl_X2_242 : FL RX2 242 0 5 0 false := ⟨RX0, TX0, 12, tyX0, rfl, inG_X0, tyX0_ok, nmX0, by decide, rfl, rfl, rfl, rfl, rfl, good_mem (tb_2 (List.mem_of_getElem? (i := 70) (rfl : tables_1_2[70]? = some (Cond.fieldLink RX2 242 (TX0 5).1 (TX0 5).2.1 (TX0 5).2.2.1)))) (by decide +kernel)⟩
theorem fl_X2_243 : FL RX2 243 0 6 0 false := ⟨RX0, TX0, 12, tyX0, rfl, inG_X0, tyX0_ok, nmX0, by decide, rfl, rfl, rfl, rfl, rfl, good_mem (tb_2 (List.mem_of_getElem? (i := 72) (rfl : tables_1_2[72]? = some (Cond.fieldLink RX2 243 (TX0 6).1 (TX0 6).2.1 (TX0 6).2.2.1)))) (by decide +kernel)⟩
theorem fl_X10_124 : FL RX10 124 2 4 2 true := ⟨RX2, TX2, 10, tyX2, rfl, inG_X2, tyX2_ok, nmX2, by decide, rfl, rfl, rfl, ⟨fun v => by cases v <;> exact ⟨rfl, rfl⟩, rfl⟩, rfl, good_mem (tb_2 (List.mem_of_getElem? (i := 220) (rfl : tables_1_2[220]? = some (Cond.fieldLink RX10 124 (TX2 4).1 (TX2 4).2.1 (TX2 4).2.2.1)))) (by decide +kernel)⟩
theorem fl_X10_131 : FL RX10 131 2 3 2 true := ⟨RX2, TX2, 10, tyX2, rfl, inG_X2, tyX2_ok, nmX2, by decide, rfl, rfl, rfl, ⟨fun v => by cases v <;> exact ⟨rfl, rfl⟩, rfl⟩, rfl, good_mem (tb_2 (List.mem_of_getElem? (i := 218) (rfl : tables_1_2[218]? = some (Cond.fieldLink RX10 131 (TX2 3).1 (TX2 3).2.1 (TX2 3).2.2.1)))) (by decide +kernel)⟩
theorem fl_X10_140 : FL RX10 140 2 7 0 false := ⟨RX2, TX2, 10, tyX2, rfl, inG_X2, tyX2_ok, nmX2, by decide, rfl, rfl, rfl, rfl, rfl, good_mem (tb_2 (List.mem_of_getElem? (i := 226) (rfl : tables_1_2[226]? = some (Cond.fieldLink RX10 140 (TX2 7).1 (TX2 7).2.1 (TX2 7).2.2.1)))) (by decide +kernel)⟩
theorem fl_X10_143 : FL RX10 143 2 5 2 true := ⟨RX2, TX2, 10, tyX2, rfl, inG_X2, tyX2_ok, nmX2, by decide, rfl, rfl, rfl, ⟨fun v => by cases v <;> exact ⟨rfl, rfl⟩, rfl⟩, rfl, good_mem (tb_2 (List.mem_of_getElem? (i := 222) (rfl : tables_1_2[222]? = some (Cond.fieldLink RX10 143 (TX2 5).1 (TX2 5).2.1 (TX2 5).2.2.1)))) (by decide +kernel)⟩
theorem fl_X10_176 : FL RX10 176 7 0 0 false := ⟨RX7, TX7, 6, tyX7, rfl, inG_X7, tyX7_ok, nmX7, by decide, rfl, rfl, rfl, rfl, rfl, good_mem (tb_2 (List.mem_of_getElem? (i := 111) (rfl : tables_1_2[111]? = some (Cond.fieldLink RX10 176 (TX7 0).1 (TX7 0).2.1 (TX7 0).2.2.1)))) (by decide +kernel)⟩
theorem fl_X10_179 : FL RX10 179 7 1 0 false := ⟨RX7, TX7, 6, tyX7, rfl, inG_X7, tyX7_ok, nmX7, by decide, rfl, rfl, rfl, rfl, rfl, good_mem (tb_2 (List.mem_of_getElem? (i := 114) (rfl : tables_1_2[114]? = some (Cond.fieldLink RX10 179 (TX7 1).1 (TX7 1).2.1 (TX7 1).2.2.1)))) (by decide +kernel)⟩
theorem fl_X10_196 : FL RX10 196 3 0 0 false := ⟨RX3, TX3, 20, tyX3, rfl, inG_X3, tyX3_ok, nmX3, by decide, rfl, rfl, rfl, rfl, rfl, good_mem (tb_1 (List.mem_of_getElem? (i := 157) (rfl : tables_1_1[157]? = some (Cond.fieldLink RX10 196 (TX3 0).1 (TX3 0).2.1 (TX3 0).2.2.1)))) (by decide +kernel)⟩
theorem fl_X11_1 : FL RX11 1 10 1 0 false := ⟨RX11, TX11, 48, tyX11, rfl, inG_X11, tyX11_ok, nmX11, by decide, rfl, rfl, rfl, rfl, rfl, good_mem (tb_6 (List.mem_of_getElem? (i := 26) (rfl : tables_1_6[26]? = some (Cond.fieldLink RX11 1 (TX11 1).1 (TX11 1).2.1 (TX11 1).2.2.1)))) (by decide +kernel)⟩
theorem fl_X11_7 : FL RX11 7 10 0 2 true := ⟨RX11, TX11, 48, tyX11, rfl, inG_X11, tyX11_ok, nmX11, by decide, rfl, rfl, rfl, ⟨fun v => by cases v <;> exact ⟨rfl, rfl⟩, rfl⟩, rfl, good_mem (tb_6 (List.mem_of_getElem? (i := 25) (rfl : tables_1_6[25]? = some (Cond.fieldLink RX11 7 (TX11 0).1 (TX11 0).2.1 (TX11 0).2.2.1)))) (by decide +kernel)⟩
theorem fl_X11_189 : FL RX11 189 10 21 2 true := ⟨RX11, TX11, 48, tyX11, rfl, inG_X11, tyX11_ok, nmX11, by decide, rfl, rfl, rfl, ⟨fun v => by cases v <;> exact ⟨rfl, rfl⟩, rfl⟩, rfl, good_mem (tb_6 (List.mem_of_getElem? (i := 46) (rfl : tables_1_6[46]? = some (Cond.fieldLink RX11 189 (TX11 21).1 (TX11 21).2.1 (TX11 21).2.2.1)))) (by decide +kernel)⟩
theorem fl_X11_99 : FL RX11 99 10 2 0 false := ⟨RX11, TX11, 48, tyX11, rfl, inG_X11, tyX11_ok, nmX11, by decide, rfl, rfl, rfl, rfl, rfl, good_mem (tb_6 (List.mem_of_getElem? (i := 27) (rfl : tables_1_6[27]? = some (Cond.fieldLink RX11 99 (TX11 2).1 (TX11 2).2.1 (TX11 2).2.2.1)))) (by decide +kernel)⟩
theorem fl_X11_105 : FL RX11 105 10 8 0 false := ⟨RX11, TX11, 48, tyX11, rfl, inG_X11, tyX11_ok, nmX11, by decide, rfl, rfl, rfl, rfl, rfl, good_mem (tb_6 (List.mem_of_getElem? (i := 33) (rfl : tables_1_6[33]? = some (Cond.fieldLink RX11 105 (TX11 8).1 (TX11 8).2.1 (TX11 8).2.2.1)))) (by decide +kernel)⟩
theorem fl_X11_108 : FL RX11 108 10 11 0 false := ⟨RX11, TX11, 48, tyX11, rfl, inG_X11, tyX11_ok, nmX11, by decide, rfl, rfl, rfl, rfl, rfl, good_mem (tb_6 (List.mem_of_getElem? (i := 36) (rfl : tables_1_6[36]? = some (Cond.fieldLink RX11 108 (TX11 11).1 (TX11 11).2.1 (TX11 11).2.2.1)))) (by decide +kernel)⟩
theorem fl_X11_128 : FL RX11 128 10 15 0 false := ⟨RX11, TX11, 48, tyX11, rfl, inG_X11, tyX11_ok, nmX11, by decide, rfl, rfl, rfl, rfl, rfl, good_mem (tb_6 (List.mem_of_getElem? (i := 40) (rfl : tables_1_6[40]? = some (Cond.fieldLink RX11 128 (TX11 15).1 (TX11 15).2.1 (TX11 15).2.2.1)))) (by decide +kernel)⟩
theorem fl_X11_166 : FL RX11 166 10 12 2 true := ⟨RX11, TX11, 48, tyX11, rfl, inG_X11, tyX11_ok, nmX11, by decide, rfl, rfl, rfl, ⟨fun v => by cases v <;> exact ⟨rfl, rfl⟩, rfl⟩, rfl, good_mem (tb_6 (List.mem_of_getElem? (i := 37) (rfl : tables_1_6[37]? = some (Cond.fieldLink RX11 166 (TX11 12).1 (TX11 12).2.1 (TX11 12).2.2.1)))) (by decide +kernel)⟩
theorem fl_X11_11 : FL RX11 11 10 4 0 false := ⟨RX11, TX11, 48, tyX11, rfl, inG_X11, tyX11_ok, nmX11, by decide, rfl, rfl, rfl, rfl, rfl, good_mem (tb_6 (List.mem_of_getElem? (i := 29) (rfl : tables_1_6[29]? = some (Cond.fieldLink RX11 11 (TX11 4).1 (TX11 4).2.1 (TX11 4).2.2.1)))) (by decide +kernel)⟩
theorem fl_X11_28 : FL RX11 28 10 5 0 false := ⟨RX11, TX11, 48, tyX11, rfl, inG_X11, tyX11_ok, nmX11, by decide, rfl, rfl, rfl, rfl, rfl, good_mem (tb_6 (List.mem_of_getElem? (i := 30) (rfl : tables_1_6[30]? = some (Cond.fieldLink RX11 28 (TX11 5).1 (TX11 5).2.1 (TX11 5).2.2.1)))) (by decide +kernel)⟩
theorem fl_X11_18 : FL RX11 18 10 3 0 false := ⟨RX11, TX11, 48, tyX11, rfl, inG_X11, tyX11_ok, nmX11, by decide, rfl, rfl, rfl, rfl, rfl, good_mem (tb_6 (List.mem_of_getElem? (i := 28) (rfl : tables_1_6[28]? = some (Cond.fieldLink RX11 18 (TX11 3).1 (TX11 3).2.1 (TX11 3).2.2.1)))) (by decide +kernel)⟩
theorem fl_X11_21 : FL RX11 21 10 6 0 false := ⟨RX11, TX11, 48, tyX11, rfl, inG_X11, tyX11_ok, nmX11, by decide, rfl, rfl, rfl, rfl, rfl, good_mem (tb_6 (List.mem_of_getElem? (i := 31) (rfl : tables_1_6[31]? = some (Cond.fieldLink RX11 21 (TX11 6).1 (TX11 6).2.1 (TX11 6).2.2.1)))) (by decide +kernel)⟩
theorem fl_X11_24 : FL RX11 24 10 7 1 false := ⟨RX11, TX11, 48, tyX11, rfl, inG_X11, tyX11_ok, nmX11, by decide, rfl, rfl, rfl, rfl, rfl, good_mem (tb_6 (List.mem_of_getElem? (i := 32) (rfl : tables_1_6[32]? = some (Cond.fieldLink RX11 24 (TX11 7).1 (TX11 7).2.1 (TX11 7).2.2.1)))) (by decide +kernel)⟩
theorem fl_X11_169 : FL RX11 169 10 14 2 true := ⟨RX11, TX11, 48, tyX11, rfl, inG_X11, tyX11_ok, nmX11, by decide, rfl, rfl, rfl, ⟨fun v => by cases v <;> exact ⟨rfl, rfl⟩, rfl⟩, rfl, good_mem (tb_6 (List.mem_of_getElem? (i := 39) (rfl : tables_1_6[39]? = some (Cond.fieldLink RX11 169 (TX11 14).1 (TX11 14).2.1 (TX11 14).2.2.1)))) (by decide +kernel)⟩
theorem fl_X11_172 : FL RX11 172 10 13 2 true := ⟨RX11, TX11, 48, tyX11, rfl, inG_X11, tyX11_ok, nmX11, by decide, rfl, rfl, rfl, ⟨fun v => by cases v <;> exact ⟨rfl, rfl⟩, rfl⟩, rfl, good_mem (tb_6 (List.mem_of_getElem? (i := 38) (rfl : tables_1_6[38]? = some (Cond.fieldLink RX11 172 (TX11 13).1 (TX11 13).2.1 (TX11 13).2.2.1)))) (by decide +kernel)⟩
theorem fl_X11_102 : FL RX11 102 10 9 2 true := ⟨RX11, TX11, 48, tyX11, rfl, inG_X11, tyX11_ok, nmX11, by decide, rfl, rfl, rfl, ⟨fun v => by cases v <;> exact ⟨rfl, rfl⟩, rfl⟩, rfl, good_mem (tb_6 (List.mem_of_getElem? (i := 34) (rfl : tables_1_6[34]? = some (Cond.fieldLink RX11 102 (TX11 9).1 (TX11 9).2.1 (TX11 9).2.2.1)))) (by decide +kernel)⟩
theorem fl_X11_111 : FL RX11 111 10 10 2 true := ⟨RX11, TX11, 48, tyX11, rfl, inG_X11, tyX11_ok, nmX11, by decide, rfl, rfl, rfl, ⟨fun v => by cases v <;> exact ⟨rfl, rfl⟩, rfl⟩, rfl, good_mem (tb_6 (List.mem_of_getElem? (i := 35) (rfl : tables_1_6[35]? = some (Cond.fieldLink RX11 111 (TX11 10).1 (TX11 10).2.1 (TX11 10).2.2.1)))) (by decide +kernel)⟩
theorem fl_X11_124 : FL RX11 124 10 16 2 true := ⟨RX11, TX11, 48, tyX11, rfl, inG_X11, tyX11_ok, nmX11, by decide, rfl, rfl, rfl, ⟨fun v => by cases v <;> exact ⟨rfl, rfl⟩, rfl⟩, rfl, good_mem (tb_6 (List.mem_of_getElem? (i := 41) (rfl : tables_1_6[41]? = some (Cond.fieldLink RX11 124 (TX11 16).1 (TX11 16).2.1 (TX11 16).2.2.1)))) (by decide +kernel)⟩
theorem fl_X11_131 : FL RX11 131 10 17 2 true := ⟨RX11, TX11, 48, tyX11, rfl, inG_X11, tyX11_ok, nmX11, by decide, rfl, rfl, rfl, ⟨fun v => by cases v <;> exact ⟨rfl, rfl⟩, rfl⟩, rfl, good_mem (tb_6 (List.mem_of_getElem? (i := 42) (rfl : tables_1_6[42]? = some (Cond.fieldLink RX11 131 (TX11 17).1 (TX11 17).2.1 (TX11 17).2.2.1)))) (by decide +kernel)⟩
theorem fl_X11_134 : FL RX11 134 10 18 2 true := ⟨RX11, TX11, 48, tyX11, rfl, inG_X11, tyX11_ok, nmX11, by decide, rfl, rfl, rfl, ⟨fun v => by cases v <;> exact ⟨rfl, rfl⟩, rfl⟩, rfl, good_mem (tb_6 (List.mem_of_getElem? (i := 43) (rfl : tables_1_6[43]? = some (Cond.fieldLink RX11 134 (TX11 18).1 (TX11 18).2.1 (TX11 18).2.2.1)))) (by decide +kernel)⟩
theorem fl_X11_137 : FL RX11 137 10 19 2 true := ⟨RX11, TX11, 48, tyX11, rfl, inG_X11, tyX11_ok, nmX11, by decide, rfl, rfl, rfl, ⟨fun v => by cases v <;> exact ⟨rfl, rfl⟩, rfl⟩, rfl, good_mem (tb_6 (List.mem_of_getElem? (i := 44) (rfl : tables_1_6[44]? = some (Cond.fieldLink RX11 137 (TX11 19).1 (TX11 19).2.1 (TX11 19).2.2.1)))) (by decide +kernel)⟩
theorem fl_X11_141 : FL RX11 141 10 20 0 false := ⟨RX11, TX11, 48, tyX11, rfl, inG_X11, tyX11_ok, nmX11, by decide, rfl, rfl, rfl, rfl, rfl, good_mem (tb_6 (List.mem_of_getElem? (i := 45) (rfl : tables_1_6[45]? = some (Cond.fieldLink RX11 141 (TX11 20).1 (TX11 20).2.1 (TX11 20).2.2.1)))) (by decide +kernel)⟩
theorem fl_X11_197 : FL RX11 197 10 22 2 true := ⟨RX11, TX11, 48, tyX11, rfl, inG_X11, tyX11_ok, nmX11, by decide, rfl, rfl, rfl, ⟨fun v => by cases v <;> exact ⟨rfl, rfl⟩, rfl⟩, rfl, good_mem (tb_6 (List.mem_of_getElem? (i := 47) (rfl : tables_1_6[47]? = some (Cond.fieldLink RX11 197 (TX11 22).1 (TX11 22).2.1 (TX11 22).2.2.1)))) (by decide +kernel)⟩
theorem fl_X11_200 : FL RX11 200 10 23 2 true := ⟨RX11, TX11, 48, tyX11, rfl, inG_X11, tyX11_ok, nmX11, by decide, rfl, rfl, rfl, ⟨fun v => by cases v <;> exact ⟨rfl, rfl⟩, rfl⟩, rfl, good_mem (tb_6 (List.mem_of_getElem? (i := 48) (rfl : tables_1_6[48]? = some (Cond.fieldLink RX11 200 (TX11 23).1 (TX11 23).2.1 (TX11 23).2.2.1)))) (by decide +kernel)⟩
theorem fl_X11_203 : FL RX11 203 10 24 2 true := ⟨RX11, TX11, 48, tyX11, rfl, inG_X11, tyX11_ok, nmX11, by decide, rfl, rfl, rfl, ⟨fun v => by cases v <;> exact ⟨rfl, rfl⟩, rfl⟩, rfl, good_mem (tb_6 (List.mem_of_getElem? (i := 49) (rfl : tables_1_6[49]? = some (Cond.fieldLink RX11 203 (TX11 24).1 (TX11 24).2.1 (TX11 24).2.2.1)))) (by decide +kernel)⟩
theorem fl_X11_206 : FL RX11 206 10 25 2 true := ⟨RX11, TX11, 48, tyX11, rfl, inG_X11, tyX11_ok, nmX11, by decide, rfl, rfl, rfl, ⟨fun v => by cases v <;> exact ⟨rfl, rfl⟩, rfl⟩, rfl, good_mem (tb_6 (List.mem_of_getElem? (i := 50) (rfl : tables_1_6[50]? = some (Cond.fieldLink RX11 206 (TX11 25).1 (TX11 25).2.1 (TX11 25).2.2.1)))) (by decide +kernel)⟩
theorem fl_X11_209 : FL RX11 209 10 26 2 true := ⟨RX11, TX11, 48, tyX11, rfl, inG_X11, tyX11_ok, nmX11, by decide, rfl, rfl, rfl, ⟨fun v => by cases v <;> exact ⟨rfl, rfl⟩, rfl⟩, rfl, good_mem (tb_6 (List.mem_of_getElem? (i := 51) (rfl : tables_1_6[51]? = some (Cond.fieldLink RX11 209 (TX11 26).1 (TX11 26).2.1 (TX11 26).2.2.1)))) (by decide +kernel)⟩
theorem fl_X11_212 : FL RX11 212 10 27 2 false := ⟨RX11, TX11, 48, tyX11, rfl, inG_X11, tyX11_ok, nmX11, by decide, rfl, rfl, rfl, ⟨fun v => by cases v <;> exact ⟨rfl, rfl⟩, rfl⟩, rfl, good_mem (tb_6 (List.mem_of_getElem? (i := 52) (rfl : tables_1_6[52]? = some (Cond.fieldLink RX11 212 (TX11 27).1 (TX11 27).2.1 (TX11 27).2.2.1)))) (by decide +kernel)⟩
theorem fl_X11_215 : FL RX11 215 10 28 2 false := ⟨RX11, TX11, 48, tyX11, rfl, inG_X11, tyX11_ok, nmX11, by decide, rfl, rfl, rfl, ⟨fun v => by cases v <;> exact ⟨rfl, rfl⟩, rfl⟩, rfl, good_mem (tb_6 (List.mem_of_getElem? (i := 53) (rfl : tables_1_6[53]? = some (Cond.fieldLink RX11 215 (TX11 28).1 (TX11 28).2.1 (TX11 28).2.2.1)))) (by decide +kernel)⟩
theorem fl_X11_218 : FL RX11 218 10 29 2 true := ⟨RX11, TX11, 48, tyX11, rfl, inG_X11, tyX11_ok, nmX11, by decide, rfl, rfl, rfl, ⟨fun v => by cases v <;> exact ⟨rfl, rfl⟩, rfl⟩, rfl, good_mem (tb_6 (List.mem_of_getElem? (i := 54) (rfl : tables_1_6[54]? = some (Cond.fieldLink RX11 218 (TX11 29).1 (TX11 29).2.1 (TX11 29).2.2.1)))) (by decide +kernel)⟩
theorem fl_X11_221 : FL RX11 221 10 30 0 false := ⟨RX11, TX11, 48, tyX11, rfl, inG_X11, tyX11_ok, nmX11, by decide, rfl, rfl, rfl, rfl, rfl, good_mem (tb_6 (List.mem_of_getElem? (i := 55) (rfl : tables_1_6[55]? = some (Cond.fieldLink RX11 221 (TX11 30).1 (TX11 30).2.1 (TX11 30).2.2.1)))) (by decide +kernel)⟩
theorem fl_X11_224 : FL RX11 224 10 38 2 true := ⟨RX11, TX11, 48, tyX11, rfl, inG_X11, tyX11_ok, nmX11, by decide, rfl, rfl, rfl, ⟨fun v => by cases v <;> exact ⟨rfl, rfl⟩, rfl⟩, rfl, good_mem (tb_6 (List.mem_of_getElem? (i := 63) (rfl : tables_1_6[63]? = some (Cond.fieldLink RX11 224 (TX11 38).1 (TX11 38).2.1 (TX11 38).2.2.1)))) (by decide +kernel)⟩
theorem fl_X11_227 : FL RX11 227 10 39 2 true := ⟨RX11, TX11, 48, tyX11, rfl, inG_X11, tyX11_ok, nmX11, by decide, rfl, rfl, rfl, ⟨fun v => by cases v <;> exact ⟨rfl, rfl⟩, rfl⟩, rfl, good_mem (tb_6 (List.mem_of_getElem? (i := 64) (rfl : tables_1_6[64]? = some (Cond.fieldLink RX11 227 (TX11 39).1 (TX11 39).2.1 (TX11 39).2.2.1)))) (by decide +kernel)⟩
theorem fl_X11_230 : FL RX11 230 10 40 2 true := ⟨RX11, TX11, 48, tyX11, rfl, inG_X11, tyX11_ok, nmX11, by decide, rfl, rfl, rfl, ⟨fun v => by cases v <;> exact ⟨rfl, rfl⟩, rfl⟩, rfl, good_mem (tb_6 (List.mem_of_getElem? (i := 65) (rfl : tables_1_6[65]? = some (Cond.fieldLink RX11 230 (TX11 40).1 (TX11 40).2.1 (TX11 40).2.2.1)))) (by decide +kernel)⟩
theorem fl_X11_233 : FL RX11 233 10 43 2 true := ⟨RX11, TX11, 48, tyX11, rfl, inG_X11, tyX11_ok, nmX11, by decide, rfl, rfl, rfl, ⟨fun v => by cases v <;> exact ⟨rfl, rfl⟩, rfl⟩, rfl, good_mem (tb_6 (List.mem_of_getElem? (i := 68) (rfl : tables_1_6[68]? = some (Cond.fieldLink RX11 233 (TX11 43).1 (TX11 43).2.1 (TX11 43).2.2.1)))) (by decide +kernel)⟩
theorem fl_X11_236 : FL RX11 236 10 44 2 true := ⟨RX11, TX11, 48, tyX11, rfl, inG_X11, tyX11_ok, nmX11, by decide, rfl, rfl, rfl, ⟨fun v => by cases v <;> exact ⟨rfl, rfl⟩, rfl⟩, rfl, good_mem (tb_6 (List.mem_of_getElem? (i := 69) (rfl : tables_1_6[69]? = some (Cond.fieldLink RX11 236 (TX11 44).1 (TX11 44).2.1 (TX11 44).2.2.1)))) (by decide +kernel)⟩
theorem fl_X11_239 : FL RX11 239 10 45 2 true := ⟨RX11, TX11, 48, tyX11, rfl, inG_X11, tyX11_ok, nmX11, by decide, rfl, rfl, rfl, ⟨fun v => by cases v <;> exact ⟨rfl, rfl⟩, rfl⟩, rfl, good_mem (tb_6 (List.mem_of_getElem? (i := 70) (rfl : tables_1_6[70]? = some (Cond.fieldLink RX11 239 (TX11 45).1 (TX11 45).2.1 (TX11 45).2.2.1)))) (by decide +kernel)⟩
theorem fl_X11_242 : FL RX11 242 10 47 2 true := ⟨RX11, TX11, 48, tyX11, rfl, inG_X11, tyX11_ok, nmX11, by decide, rfl, rfl, rfl, ⟨fun v => by cases v <;> exact ⟨rfl, rfl⟩, rfl⟩, rfl, good_mem (tb_6 (List.mem_of_getElem? (i := 72) (rfl : tables_1_6[72]? = some (Cond.fieldLink RX11 242 (TX11 47).1 (TX11 47).2.1 (TX11 47).2.2.1)))) (by decide +kernel)⟩
theorem fl_X11_264 : FL RX11 264 10 31 0 false := ⟨RX11, TX11, 48, tyX11, rfl, inG_X11, tyX11_ok, nmX11, by decide, rfl, rfl, rfl, rfl, rfl, good_mem (tb_6 (List.mem_of_getElem? (i := 56) (rfl : tables_1_6[56]? = some (Cond.fieldLink RX11 264 (TX11 31).1 (TX11 31).2.1 (TX11 31).2.2.1)))) (by decide +kernel)⟩
theorem fl_X11_267 : FL RX11 267 10 32 0 false := ⟨RX11, TX11, 48, tyX11, rfl, inG_X11, tyX11_ok, nmX11, by decide, rfl, rfl, rfl, rfl, rfl, good_mem (tb_6 (List.mem_of_getElem? (i := 57) (rfl : tables_1_6[57]? = some (Cond.fieldLink RX11 267 (TX11 32).1 (TX11 32).2.1 (TX11 32).2.2.1)))) (by decide +kernel)⟩
theorem fl_X11_315 : FL RX11 315 10 33 0 false := ⟨RX11, TX11, 48, tyX11, rfl, inG_X11, tyX11_ok, nmX11, by decide, rfl, rfl, rfl, rfl, rfl, good_mem (tb_6 (List.mem_of_getElem? (i := 58) (rfl : tables_1_6[58]? = some (Cond.fieldLink RX11 315 (TX11 33).1 (TX11 33).2.1 (TX11 33).2.2.1)))) (by decide +kernel)⟩
theorem fl_X11_309 : FL RX11 309 10 34 0 false := ⟨RX11, TX11, 48, tyX11, rfl, inG_X11, tyX11_ok, nmX11, by decide, rfl, rfl, rfl, rfl, rfl, good_mem (tb_6 (List.mem_of_getElem? (i := 59) (rfl : tables_1_6[59]? = some (Cond.fieldLink RX11 309 (TX11 34).1 (TX11 34).2.1 (TX11 34).2.2.1)))) (by decide +kernel)⟩
theorem fl_X11_312 : FL RX11 312 10 35 0 false := ⟨RX11, TX11, 48, tyX11, rfl, inG_X11, tyX11_ok, nmX11, by decide, rfl, rfl, rfl, rfl, rfl, good_mem (tb_6 (List.mem_of_getElem? (i := 60) (rfl : tables_1_6[60]? = some (Cond.fieldLink RX11 312 (TX11 35).1 (TX11 35).2.1 (TX11 35).2.2.1)))) (by decide +kernel)⟩
theorem fl_X11_302 : FL RX11 302 10 36 0 false := ⟨RX11, TX11, 48, tyX11, rfl, inG_X11, tyX11_ok, nmX11, by decide, rfl, rfl, rfl, rfl, rfl, good_mem (tb_6 (List.mem_of_getElem? (i := 61) (rfl : tables_1_6[61]? = some (Cond.fieldLink RX11 302 (TX11 36).1 (TX11 36).2.1 (TX11 36).2.2.1)))) (by decide +kernel)⟩
theorem fl_X11_305 : FL RX11 305 10 37 3 false := ⟨RX11, TX11, 48, tyX11, rfl, inG_X11, tyX11_ok, nmX11, by decide, rfl, rfl, rfl, rfl, rfl, good_mem (tb_6 (List.mem_of_getElem? (i := 62) (rfl : tables_1_6[62]? = some (Cond.fieldLink RX11 305 (TX11 37).1 (TX11 37).2.1 (TX11 37).2.2.1)))) (by decide +kernel)⟩
theorem fl_X11_348 : FL RX11 348 10 41 0 false := ⟨RX11, TX11, 48, tyX11, rfl, inG_X11, tyX11_ok, nmX11, by decide, rfl, rfl, rfl, rfl, rfl, good_mem (tb_6 (List.mem_of_getElem? (i := 66) (rfl : tables_1_6[66]? = some (Cond.fieldLink RX11 348 (TX11 41).1 (TX11 41).2.1 (TX11 41).2.2.1)))) (by decide +kernel)⟩
theorem fl_X11_408 : FL RX11 408 10 42 0 false := ⟨RX11, TX11, 48, tyX11, rfl, inG_X11, tyX11_ok, nmX11, by decide, rfl, rfl, rfl, rfl, rfl, good_mem (tb_6 (List.mem_of_getElem? (i := 67) (rfl : tables_1_6[67]? = some (Cond.fieldLink RX11 408 (TX11 42).1 (TX11 42).2.1 (TX11 42).2.2.1)))) (by decide +kernel)⟩
theorem fl_X11_421 : FL RX11 421 10 46 0 false := ⟨RX11, TX11, 48, tyX11, rfl, inG_X11, tyX11_ok, nmX11, by decide, rfl, rfl, rfl, rfl, rfl, good_mem (tb_6 (List.mem_of_getElem? (i := 71) (rfl : tables_1_6[71]? = some (Cond.fieldLink RX11 421 (TX11 46).1 (TX11 46).2.1 (TX11 46).2.2.1)))) (by decide +kernel)⟩
