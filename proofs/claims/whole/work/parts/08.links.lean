theorem tt1 {w : Cond} (h : w ∈ tables_1_1) : w ∈ lw_tbl := List.mem_append_right _ (List.mem_append_left _ h)
theorem tt2 {w : Cond} (h : w ∈ tables_1_2) : w ∈ lw_tbl := List.mem_append_right _ (List.mem_append_right _ (List.mem_append_left _ h))
theorem tt3 {w : Cond} (h : w ∈ tables_1_3) : w ∈ lw_tbl := List.mem_append_right _ (List.mem_append_right _ (List.mem_append_right _ (List.mem_append_left _ h)))
theorem tt4 {w : Cond} (h : w ∈ tables_1_4) : w ∈ lw_tbl := List.mem_append_right _ (List.mem_append_right _ (List.mem_append_right _ (List.mem_append_right _ (List.mem_append_left _ h))))
theorem tt5 {w : Cond} (h : w ∈ tables_1_5) : w ∈ lw_tbl := List.mem_append_right _ (List.mem_append_right _ (List.mem_append_right _ (List.mem_append_right _ (List.mem_append_right _ (List.mem_append_left _ h)))))
theorem tt6 {w : Cond} (h : w ∈ tables_1_6) : w ∈ lw_tbl := List.mem_append_right _ (List.mem_append_right _ (List.mem_append_right _ (List.mem_append_right _ (List.mem_append_right _ (List.mem_append_right _ (List.mem_append_left _ h))))))
theorem tt7 {w : Cond} (h : w ∈ tables_1_7) : w ∈ lw_tbl := List.mem_append_right _ (List.mem_append_right _ (List.mem_append_right _ (List.mem_append_right _ (List.mem_append_right _ (List.mem_append_right _ (List.mem_append_right _ (List.mem_append_left _ h)))))))
theorem tt8 {w : Cond} (h : w ∈ tables_1_8) : w ∈ lw_tbl := List.mem_append_right _ (List.mem_append_right _ (List.mem_append_right _ (List.mem_append_right _ (List.mem_append_right _ (List.mem_append_right _ (List.mem_append_right _ (List.mem_append_right _ (h))))))))
theorem tp1 {q : MethodName × Nat} (h : q ∈ lw_privs_1) : Cond.selects q.1.cls q.1 q.1 ∈ lw_tbl := List.mem_append_left _ (List.mem_map.mpr ⟨q, List.mem_append_left _ h, rfl⟩)
theorem tp2 {q : MethodName × Nat} (h : q ∈ lw_privs_2) : Cond.selects q.1.cls q.1 q.1 ∈ lw_tbl := List.mem_append_left _ (List.mem_map.mpr ⟨q, List.mem_append_right _ (List.mem_append_left _ h), rfl⟩)
theorem tp3 {q : MethodName × Nat} (h : q ∈ lw_privs_3) : Cond.selects q.1.cls q.1 q.1 ∈ lw_tbl := List.mem_append_left _ (List.mem_map.mpr ⟨q, List.mem_append_right _ (List.mem_append_right _ (List.mem_append_left _ h)), rfl⟩)
theorem tp4 {q : MethodName × Nat} (h : q ∈ lw_privs_4) : Cond.selects q.1.cls q.1 q.1 ∈ lw_tbl := List.mem_append_left _ (List.mem_map.mpr ⟨q, List.mem_append_right _ (List.mem_append_right _ (List.mem_append_right _ (List.mem_append_left _ h))), rfl⟩)
theorem tp5 {q : MethodName × Nat} (h : q ∈ lw_privs_5) : Cond.selects q.1.cls q.1 q.1 ∈ lw_tbl := List.mem_append_left _ (List.mem_map.mpr ⟨q, List.mem_append_right _ (List.mem_append_right _ (List.mem_append_right _ (List.mem_append_right _ (List.mem_append_left _ h)))), rfl⟩)
theorem tp6 {q : MethodName × Nat} (h : q ∈ lw_privs_6) : Cond.selects q.1.cls q.1 q.1 ∈ lw_tbl := List.mem_append_left _ (List.mem_map.mpr ⟨q, List.mem_append_right _ (List.mem_append_right _ (List.mem_append_right _ (List.mem_append_right _ (List.mem_append_right _ (List.mem_append_left _ h))))), rfl⟩)
theorem tp7 {q : MethodName × Nat} (h : q ∈ lw_privs_7) : Cond.selects q.1.cls q.1 q.1 ∈ lw_tbl := List.mem_append_left _ (List.mem_map.mpr ⟨q, List.mem_append_right _ (List.mem_append_right _ (List.mem_append_right _ (List.mem_append_right _ (List.mem_append_right _ (List.mem_append_right _ (h)))))), rfl⟩)
abbrev M_ac_init : MD := (yX0_init, cX0_init, 3, none, RX0)
abbrev M_ac_dayOfAll : MD := (yX0_dayOfAll, cX0_dayOfAll, 5, some .int, RX0)
abbrev M_ac_highestNeed : MD := (yX0_highestNeed, cX0_highestNeed, 6, some .int, RX0)
abbrev M_ac_fewestPairs : MD := (yX0_fewestPairs, cX0_fewestPairs, 6, some .int, RX0)
abbrev M_ac_nextPair : MD := (yX0_nextPair, cX0_nextPair, 5, some .int, RX0)
abbrev M_ac_doesIt : MD := (yX0_doesIt, cX0_doesIt, 4, some .boolean, RX0)
abbrev M_ac_pairsAlone : MD := (yX0_pairsAlone, cX0_pairsAlone, 6, some .int, RX0)
abbrev M_ac_one : MD := (yX0_one, cX0_one, 2, some .int, RX0)
abbrev M_ac_other : MD := (yX0_other, cX0_other, 2, some .int, RX0)
abbrev M_ac_isInOrder : MD := (yX0_isInOrder, cX0_isInOrder, 2, some .boolean, RX0)
abbrev M_ac_turn : MD := (yX0_turn, cX0_turn, 3, none, RX0)
abbrev M_ac_tellPair : MD := (yX0_tellPair, cX0_tellPair, 2, none, RX0)
abbrev M_he_init : MD := (yX1_init, cX1_init, 2, none, RX1)
abbrev M_he_learn : MD := (yX1_learn, cX1_learn, 3, none, RX1)
abbrev M_he_needAll : MD := (yX1_needAll, cX1_needAll, 3, none, RX1)
abbrev M_he_turnPair : MD := (yX1_turnPair, cX1_turnPair, 5, none, RX1)
abbrev M_he_addLoud : MD := (yX1_addLoud, cX1_addLoud, 4, none, RX1)
abbrev M_he_raiseBar : MD := (yX1_raiseBar, cX1_raiseBar, 5, none, RX1)
abbrev M_he_next : MD := (yX1_next, cX1_next, 7, some .int, RX1)
abbrev M_he_highest : MD := (yX1_highest, cX1_highest, 2, some .int, RX1)
abbrev M_he_after : MD := (yX1_after, cX1_after, 4, some .int, RX1)
abbrev M_he_later : MD := (yX1_later, cX1_later, 6, some .int, RX1)
abbrev M_he_dayOf : MD := (yX1_dayOf, cX1_dayOf, 7, some .int, RX1)
abbrev M_me_init : MD := (yX2_init, cX2_init, 1, none, RX2)
abbrev M_me_begin : MD := (yX2_begin, cX2_begin, 2, none, RX2)
abbrev M_me_recall : MD := (yX2_recall, cX2_recall, 4, some .int, RX2)
abbrev M_me_note : MD := (yX2_note, cX2_note, 4, none, RX2)
abbrev M_ob_init : MD := (yX3_init, cX3_init, 5, none, RX3)
abbrev M_ob_follow : MD := (yX3_follow, cX3_follow, 4, none, RX3)
abbrev M_ob_goRound : MD := (yX3_goRound, cX3_goRound, 3, none, RX3)
abbrev M_ob_isFirmAs : MD := (yX3_isFirmAs, cX3_isFirmAs, 3, some .boolean, RX3)
abbrev M_ob_answer : MD := (yX3_answer, cX3_answer, 3, some .int, RX3)
abbrev M_ob_leadHere : MD := (yX3_leadHere, cX3_leadHere, 6, some .int, RX3)
abbrev M_ob_meetWith : MD := (yX3_meetWith, cX3_meetWith, 8, some .int, RX3)
abbrev M_ob_withoutPast : MD := (yX3_withoutPast, cX3_withoutPast, 5, some .int, RX3)
abbrev M_ob_comeAgain : MD := (yX3_comeAgain, cX3_comeAgain, 8, some .int, RX3)
abbrev M_ob_walkMarking : MD := (yX3_walkMarking, cX3_walkMarking, 6, some .int, RX3)
abbrev M_ob_roundOf : MD := (yX3_roundOf, cX3_roundOf, 4, some .int, RX3)
abbrev M_ob_leadTo : MD := (yX3_leadTo, cX3_leadTo, 6, some .int, RX3)
abbrev M_rw_init : MD := (yX4_init, cX4_init, 1, none, RX4)
abbrev M_rw_clear : MD := (yX4_clear, cX4_clear, 1, none, RX4)
abbrev M_rw_add : MD := (yX4_add, cX4_add, 3, none, RX4)
abbrev M_rw_only : MD := (yX4_only, cX4_only, 3, none, RX4)
abbrev M_ru_init : MD := (yX5_init, cX5_init, 1, none, RX5)
abbrev M_ru_isTold : MD := (yX5_isTold, cX5_isTold, 1, some .boolean, RX5)
abbrev M_ru_clear : MD := (yX5_clear, cX5_clear, 1, none, RX5)
abbrev M_ru_add : MD := (yX5_add, cX5_add, 2, none, RX5)
abbrev M_ru_value : MD := (yX5_value, cX5_value, 5, some .int, RX5)
abbrev M_ru_push : MD := (yX5_push, cX5_push, 2, none, RX5)
abbrev M_ru_pop : MD := (yX5_pop, cX5_pop, 1, some .int, RX5)
abbrev M_ru_reckon : MD := (yX5_reckon, cX5_reckon, 3, some .int, RX5)
abbrev M_rr_init : MD := (yX6_init, cX6_init, 2, none, RX6)
abbrev M_rr_read : MD := (yX6_read, cX6_read, 5, some .int, RX6)
abbrev M_rr_readExpression : MD := (yX6_readExpression, cX6_readExpression, 3, some .boolean, RX6)
abbrev M_rr_readSum : MD := (yX6_readSum, cX6_readSum, 3, some .boolean, RX6)
abbrev M_rr_readProduct : MD := (yX6_readProduct, cX6_readProduct, 3, some .boolean, RX6)
abbrev M_rr_readSigned : MD := (yX6_readSigned, cX6_readSigned, 3, some .boolean, RX6)
abbrev M_rr_readThing : MD := (yX6_readThing, cX6_readThing, 2, some .boolean, RX6)
abbrev M_rr_number : MD := (yX6_number, cX6_number, 3, some .int, RX6)
abbrev M_rr_isOneOf : MD := (yX6_isOneOf, cX6_isOneOf, 2, some .boolean, RX6)
abbrev M_sh_init : MD := (yX7_init, cX7_init, 6, none, RX7)
abbrev M_sh_learn : MD := (yX7_learn, cX7_learn, 2, none, RX7)
abbrev M_sh_rate : MD := (yX7_rate, cX7_rate, 4, some .int, RX7)
abbrev M_sh_open : MD := (yX7_open, cX7_open, 3, some .int, RX7)
abbrev M_sh_pick : MD := (yX7_pick, cX7_pick, 8, some .int, RX7)
abbrev M_sh_trade : MD := (yX7_trade, cX7_trade, 4, some .int, RX7)
abbrev M_sh_serve : MD := (yX7_serve, cX7_serve, 4, some .int, RX7)
abbrev M_sh_playBoth : MD := (yX7_playBoth, cX7_playBoth, 7, some .int, RX7)
abbrev M_sh_bestForOne : MD := (yX7_bestForOne, cX7_bestForOne, 7, some .int, RX7)
abbrev M_sh_bestForZero : MD := (yX7_bestForZero, cX7_bestForZero, 8, some .int, RX7)
abbrev M_sh_playRule : MD := (yX7_playRule, cX7_playRule, 8, some .int, RX7)
abbrev M_sh_bestAgainstRule : MD := (yX7_bestAgainstRule, cX7_bestAgainstRule, 7, some .int, RX7)
abbrev M_sh_behindReply : MD := (yX7_behindReply, cX7_behindReply, 5, some .int, RX7)
abbrev M_st_init : MD := (yX8_init, cX8_init, 1, none, RX8)
abbrev M_st_now : MD := (yX8_now, cX8_now, 1, some .int, RX8)
abbrev M_st_everybody : MD := (yX8_everybody, cX8_everybody, 1, some .int, RX8)
abbrev M_st_has : MD := (yX8_has, cX8_has, 2, some .boolean, RX8)
abbrev M_st_hasAll : MD := (yX8_hasAll, cX8_hasAll, 2, some .boolean, RX8)
abbrev M_st_isFirm : MD := (yX8_isFirm, cX8_isFirm, 2, some .boolean, RX8)
abbrev M_st_openToTalk : MD := (yX8_openToTalk, cX8_openToTalk, 1, some .int, RX8)
abbrev M_st_priceOf : MD := (yX8_priceOf, cX8_priceOf, 4, some .int, RX8)
abbrev M_st_sumHeard : MD := (yX8_sumHeard, cX8_sumHeard, 5, some .int, RX8)
abbrev M_st_allOf : MD := (yX8_allOf, cX8_allOf, 2, some .int, RX8)
abbrev M_st_loudnessOf : MD := (yX8_loudnessOf, cX8_loudnessOf, 4, some .int, RX8)
abbrev M_st_heardByOne : MD := (yX8_heardByOne, cX8_heardByOne, 4, some .int, RX8)
abbrev M_st_heardByAny : MD := (yX8_heardByAny, cX8_heardByAny, 4, some .int, RX8)
abbrev M_st_hearersOfAny : MD := (yX8_hearersOfAny, cX8_hearersOfAny, 4, some .int, RX8)
abbrev M_st_pairs : MD := (yX8_pairs, cX8_pairs, 4, some .int, RX8)
abbrev M_st_isPair : MD := (yX8_isPair, cX8_isPair, 3, some .boolean, RX8)
abbrev M_st_partOf : MD := (yX8_partOf, cX8_partOf, 4, some .int, RX8)
abbrev M_st_passOn : MD := (yX8_passOn, cX8_passOn, 8, some .int, RX8)
abbrev M_st_fallOf : MD := (yX8_fallOf, cX8_fallOf, 9, some .long, RX8)
abbrev M_st_putNeed : MD := (yX8_putNeed, cX8_putNeed, 3, none, RX8)
abbrev M_st_putLoud : MD := (yX8_putLoud, cX8_putLoud, 4, none, RX8)
abbrev M_st_passDay : MD := (yX8_passDay, cX8_passDay, 2, none, RX8)
abbrev M_st_welcome : MD := (yX8_welcome, cX8_welcome, 5, none, RX8)
abbrev M_st_takeDays : MD := (yX8_takeDays, cX8_takeDays, 3, none, RX8)
abbrev M_sr_init : MD := (yX9_init, cX9_init, 2, none, RX9)
abbrev M_sr_read : MD := (yX9_read, cX9_read, 4, some .int, RX9)
abbrev M_sr_readLines : MD := (yX9_readLines, cX9_readLines, 3, some .int, RX9)
abbrev M_sr_readLine : MD := (yX9_readLine, cX9_readLine, 1, some .boolean, RX9)
abbrev M_sr_readPerson : MD := (yX9_readPerson, cX9_readPerson, 5, some .boolean, RX9)
abbrev M_sr_readAcquaintance : MD := (yX9_readAcquaintance, cX9_readAcquaintance, 5, some .boolean, RX9)
abbrev M_sr_someoneBut : MD := (yX9_someoneBut, cX9_someoneBut, 3, some .int, RX9)
abbrev M_sr_number : MD := (yX9_number, cX9_number, 3, some .int, RX9)
abbrev M_sr_digit : MD := (yX9_digit, cX9_digit, 1, some .int, RX9)
abbrev M_sr_isNext : MD := (yX9_isNext, cX9_isNext, 2, some .boolean, RX9)
abbrev M_sr_take : MD := (yX9_take, cX9_take, 2, some .boolean, RX9)
abbrev M_ta_init : MD := (yX10_init, cX10_init, 5, none, RX10)
abbrev M_ta_atOnce : MD := (yX10_atOnce, cX10_atOnce, 9, some .int, RX10)
abbrev M_ta_dayByDay : MD := (yX10_dayByDay, cX10_dayByDay, 3, some .int, RX10)
abbrev M_ta_wholePlan : MD := (yX10_wholePlan, cX10_wholePlan, 7, some .int, RX10)
abbrev M_ta_seek : MD := (yX10_seek, cX10_seek, 5, some .boolean, RX10)
abbrev M_ta_leastSum : MD := (yX10_leastSum, cX10_leastSum, 7, some .int, RX10)
abbrev M_ta_leastSumWith : MD := (yX10_leastSumWith, cX10_leastSumWith, 4, some .int, RX10)
abbrev M_ta_whomFirst : MD := (yX10_whomFirst, cX10_whomFirst, 6, some .int, RX10)
abbrev M_ta_keepFrom : MD := (yX10_keepFrom, cX10_keepFrom, 3, some .int, RX10)
abbrev M_ta_lost : MD := (yX10_lost, cX10_lost, 3, some .int, RX10)
abbrev M_ta_greatestHolding : MD := (yX10_greatestHolding, cX10_greatestHolding, 3, some .int, RX10)
abbrev M_ta_smallestHolding : MD := (yX10_smallestHolding, cX10_smallestHolding, 7, some .int, RX10)
abbrev M_ta_holdApart : MD := (yX10_holdApart, cX10_holdApart, 4, some .int, RX10)
abbrev M_x_init : MD := (yX11_init, cX11_init, 1, none, RX11)
abbrev M_x_sign : MD := (yX11_sign, cX11_sign, 3, some .int, RX11)
abbrev M_x_end : MD := (yX11_end, cX11_end, 2, some .boolean, RX11)
abbrev M_x_street : MD := (yX11_street, cX11_street, 2, some .int, RX11)
abbrev M_x_person : MD := (yX11_person, cX11_person, 3, some .int, RX11)
abbrev M_x_set : MD := (yX11_set, cX11_set, 5, some .int, RX11)
abbrev M_x_hears : MD := (yX11_hears, cX11_hears, 3, some .int, RX11)
abbrev M_x_sheet : MD := (yX11_sheet, cX11_sheet, 9, some .int, RX11)
abbrev M_x_entry : MD := (yX11_entry, cX11_entry, 3, some .int, RX11)
abbrev M_x_alike : MD := (yX11_alike, cX11_alike, 3, some .int, RX11)
abbrev M_x_areTwo : MD := (yX11_areTwo, cX11_areTwo, 3, some .boolean, RX11)
abbrev M_x_state : MD := (yX11_state, cX11_state, 2, some .int, RX11)
abbrev M_x_go : MD := (yX11_go, cX11_go, 3, some .int, RX11)
abbrev M_x_talk : MD := (yX11_talk, cX11_talk, 2, some .int, RX11)
abbrev M_x_behind : MD := (yX11_behind, cX11_behind, 2, some .int, RX11)
abbrev M_x_rest : MD := (yX11_rest, cX11_rest, 1, some .int, RX11)
abbrev M_x_fall : MD := (yX11_fall, cX11_fall, 2, some .long, RX11)
abbrev M_x_falls : MD := (yX11_falls, cX11_falls, 6, some .long, RX11)
abbrev M_x_swings : MD := (yX11_swings, cX11_swings, 1, some .int, RX11)
abbrev M_x_otherwise : MD := (yX11_otherwise, cX11_otherwise, 4, some .int, RX11)
abbrev M_x_onebyone : MD := (yX11_onebyone, cX11_onebyone, 7, some .int, RX11)
abbrev M_x_level : MD := (yX11_level, cX11_level, 2, some .int, RX11)
abbrev M_x_hops : MD := (yX11_hops, cX11_hops, 3, some .int, RX11)
abbrev M_x_part : MD := (yX11_part, cX11_part, 5, some .int, RX11)
abbrev M_x_isTalkDay : MD := (yX11_isTalkDay, cX11_isTalkDay, 1, some .boolean, RX11)
abbrev M_x_ahead : MD := (yX11_ahead, cX11_ahead, 2, some .int, RX11)
abbrev M_x_twins : MD := (yX11_twins, cX11_twins, 2, some .int, RX11)
abbrev M_x_first : MD := (yX11_first, cX11_first, 1, some .int, RX11)
abbrev M_x_last : MD := (yX11_last, cX11_last, 1, some .int, RX11)
abbrev M_x_fates : MD := (yX11_fates, cX11_fates, 2, some .int, RX11)
abbrev M_x_fewest : MD := (yX11_fewest, cX11_fewest, 3, some .int, RX11)
abbrev M_x_cheapest : MD := (yX11_cheapest, cX11_cheapest, 3, some .int, RX11)
abbrev M_x_daily : MD := (yX11_daily, cX11_daily, 3, some .int, RX11)
abbrev M_x_plan : MD := (yX11_plan, cX11_plan, 3, some .int, RX11)
abbrev M_x_isDaily : MD := (yX11_isDaily, cX11_isDaily, 3, some .boolean, RX11)
abbrev M_x_guard : MD := (yX11_guard, cX11_guard, 2, some .int, RX11)
abbrev M_x_holds : MD := (yX11_holds, cX11_holds, 2, some .int, RX11)
abbrev M_x_shield : MD := (yX11_shield, cX11_shield, 3, some .int, RX11)
abbrev M_x_bound : MD := (yX11_bound, cX11_bound, 1, some .int, RX11)
abbrev M_x_rule : MD := (yX11_rule, cX11_rule, 3, some .int, RX11)
abbrev M_x_rates : MD := (yX11_rates, cX11_rates, 3, some .int, RX11)
abbrev M_x_picks : MD := (yX11_picks, cX11_picks, 2, some .int, RX11)
abbrev M_x_market : MD := (yX11_market, cX11_market, 2, some .int, RX11)
abbrev M_x_game : MD := (yX11_game, cX11_game, 2, some .int, RX11)
abbrev M_x_against : MD := (yX11_against, cX11_against, 2, some .int, RX11)
abbrev M_x_isShop : MD := (yX11_isShop, cX11_isShop, 1, some .boolean, RX11)
abbrev M_x_change : MD := (yX11_change, cX11_change, 2, some .int, RX11)
abbrev M_x_single : MD := (yX11_single, cX11_single, 2, some .int, RX11)
abbrev M_x_meet : MD := (yX11_meet, cX11_meet, 5, some .int, RX11)
abbrev M_x_keep : MD := (yX11_keep, cX11_keep, 2, some .boolean, RX11)
abbrev M_x_again : MD := (yX11_again, cX11_again, 2, some .boolean, RX11)
abbrev M_x_count : MD := (yX11_count, cX11_count, 2, some .int, RX11)
abbrev M_x_row : MD := (yX11_row, cX11_row, 2, some .long, RX11)
abbrev M_m_init : MD := (yX12_init, cX12_init, 1, none, RX12)
abbrev M_m_thrown : MD := (yX12_thrown, cX12_thrown, 1, some .int, RX12)
abbrev M_m_in : MD := (yX12_in, cX12_in, 3, some .boolean, RX12)
abbrev M_m_has : MD := (yX12_has, cX12_has, 2, some .boolean, RX12)
abbrev M_m_lost : MD := (yX12_lost, cX12_lost, 1, some .int, RX12)
abbrev M_m_tell : MD := (yX12_tell, cX12_tell, 3, none, RX12)
abbrev M_m_isOne : MD := (yX12_isOne, cX12_isOne, 2, some .boolean, RX12)
abbrev M_m_everybody : MD := (yX12_everybody, cX12_everybody, 1, some .int, RX12)
abbrev M_m_areSome : MD := (yX12_areSome, cX12_areSome, 2, some .boolean, RX12)
abbrev M_m_now : MD := (yX12_now, cX12_now, 1, some .int, RX12)
abbrev M_m_sign : MD := (yX12_sign, cX12_sign, 3, some .int, RX12)
abbrev M_m_end : MD := (yX12_end, cX12_end, 2, some .boolean, RX12)
abbrev M_m_begin : MD := (yX12_begin, cX12_begin, 4, none, RX12)
abbrev M_m_here : MD := (yX12_here, cX12_here, 1, some .int, RX12)
abbrev M_m_fine : MD := (yX12_fine, cX12_fine, 1, some .boolean, RX12)
abbrev M_m_fault : MD := (yX12_fault, cX12_fault, 2, none, RX12)
abbrev M_m_passes : MD := (yX12_passes, cX12_passes, 2, some .boolean, RX12)
abbrev M_m_need : MD := (yX12_need, cX12_need, 2, none, RX12)
abbrev M_m_number : MD := (yX12_number, cX12_number, 6, some .int, RX12)
abbrev M_m_street : MD := (yX12_street, cX12_street, 10, some .int, RX12)
abbrev M_m_readMeeting : MD := (yX12_readMeeting, cX12_readMeeting, 7, none, RX12)
abbrev M_m_allOf : MD := (yX12_allOf, cX12_allOf, 4, some .int, RX12)
abbrev M_m_heardBy : MD := (yX12_heardBy, cX12_heardBy, 4, some .int, RX12)
abbrev M_m_person : MD := (yX12_person, cX12_person, 3, some .int, RX12)
abbrev M_m_set : MD := (yX12_set, cX12_set, 5, some .int, RX12)
abbrev M_m_hears : MD := (yX12_hears, cX12_hears, 3, some .int, RX12)
abbrev M_m_sheet : MD := (yX12_sheet, cX12_sheet, 9, some .int, RX12)
abbrev M_m_alike : MD := (yX12_alike, cX12_alike, 3, some .int, RX12)
abbrev M_m_isMoved : MD := (yX12_isMoved, cX12_isMoved, 2, some .boolean, RX12)
abbrev M_m_wouldBelieve : MD := (yX12_wouldBelieve, cX12_wouldBelieve, 5, some .boolean, RX12)
abbrev M_m_next : MD := (yX12_next, cX12_next, 4, some .int, RX12)
abbrev M_m_state : MD := (yX12_state, cX12_state, 2, some .int, RX12)
abbrev M_m_go : MD := (yX12_go, cX12_go, 3, some .int, RX12)
abbrev M_m_priceOf : MD := (yX12_priceOf, cX12_priceOf, 4, some .int, RX12)
abbrev M_m_open : MD := (yX12_open, cX12_open, 1, some .int, RX12)
abbrev M_m_talk : MD := (yX12_talk, cX12_talk, 2, some .int, RX12)
abbrev M_m_behind : MD := (yX12_behind, cX12_behind, 2, some .int, RX12)
abbrev M_m_findRest : MD := (yX12_findRest, cX12_findRest, 4, none, RX12)
abbrev M_m_rest : MD := (yX12_rest, cX12_rest, 3, some .int, RX12)
abbrev M_m_fallOf : MD := (yX12_fallOf, cX12_fallOf, 9, some .long, RX12)
abbrev M_m_fall : MD := (yX12_fall, cX12_fall, 2, some .long, RX12)
abbrev M_m_falls : MD := (yX12_falls, cX12_falls, 4, some .long, RX12)
abbrev M_m_swings : MD := (yX12_swings, cX12_swings, 4, some .int, RX12)
abbrev M_m_after : MD := (yX12_after, cX12_after, 5, some .int, RX12)
abbrev M_m_otherwise : MD := (yX12_otherwise, cX12_otherwise, 3, some .int, RX12)
abbrev M_m_onebyone : MD := (yX12_onebyone, cX12_onebyone, 7, some .int, RX12)
abbrev M_m_dayOf : MD := (yX12_dayOf, cX12_dayOf, 6, some .int, RX12)
abbrev M_m_level : MD := (yX12_level, cX12_level, 6, some .int, RX12)
abbrev M_m_hops : MD := (yX12_hops, cX12_hops, 6, some .int, RX12)
abbrev M_m_partOf : MD := (yX12_partOf, cX12_partOf, 6, some .int, RX12)
abbrev M_m_part : MD := (yX12_part, cX12_part, 5, some .int, RX12)
abbrev M_m_isFirmAs : MD := (yX12_isFirmAs, cX12_isFirmAs, 3, some .boolean, RX12)
abbrev M_m_ahead : MD := (yX12_ahead, cX12_ahead, 5, some .int, RX12)
abbrev M_m_twins : MD := (yX12_twins, cX12_twins, 8, some .int, RX12)
abbrev M_m_first : MD := (yX12_first, cX12_first, 4, some .int, RX12)
abbrev M_m_last : MD := (yX12_last, cX12_last, 7, some .int, RX12)
abbrev M_m_fates : MD := (yX12_fates, cX12_fates, 8, some .int, RX12)
abbrev M_m_isDays : MD := (yX12_isDays, cX12_isDays, 2, some .boolean, RX12)
abbrev M_m_findTalked : MD := (yX12_findTalked, cX12_findTalked, 6, some .int, RX12)
abbrev M_m_isLess : MD := (yX12_isLess, cX12_isLess, 4, some .boolean, RX12)
abbrev M_m_fewest : MD := (yX12_fewest, cX12_fewest, 4, some .int, RX12)
abbrev M_m_cheapest : MD := (yX12_cheapest, cX12_cheapest, 4, some .int, RX12)
abbrev M_m_sumOf : MD := (yX12_sumOf, cX12_sumOf, 8, some .int, RX12)
abbrev M_m_canTalk : MD := (yX12_canTalk, cX12_canTalk, 3, some .boolean, RX12)
abbrev M_m_sumBy : MD := (yX12_sumBy, cX12_sumBy, 6, some .int, RX12)
abbrev M_m_whoFirst : MD := (yX12_whoFirst, cX12_whoFirst, 6, some .int, RX12)
abbrev M_m_daily : MD := (yX12_daily, cX12_daily, 4, some .int, RX12)
abbrev M_m_plan : MD := (yX12_plan, cX12_plan, 8, some .int, RX12)
abbrev M_m_everAll : MD := (yX12_everAll, cX12_everAll, 6, some .boolean, RX12)
abbrev M_m_guard : MD := (yX12_guard, cX12_guard, 6, some .int, RX12)
abbrev M_m_holding : MD := (yX12_holding, cX12_holding, 7, some .int, RX12)
abbrev M_m_holds : MD := (yX12_holds, cX12_holds, 2, some .int, RX12)
abbrev M_m_shieldOf : MD := (yX12_shieldOf, cX12_shieldOf, 5, some .int, RX12)
abbrev M_m_shield : MD := (yX12_shield, cX12_shield, 3, some .int, RX12)
abbrev M_m_bound : MD := (yX12_bound, cX12_bound, 4, some .int, RX12)
abbrev M_m_held : MD := (yX12_held, cX12_held, 3, some .int, RX12)
abbrev M_m_sum : MD := (yX12_sum, cX12_sum, 5, some .int, RX12)
abbrev M_m_product : MD := (yX12_product, cX12_product, 5, some .int, RX12)
abbrev M_m_thing : MD := (yX12_thing, cX12_thing, 4, some .int, RX12)
abbrev M_m_letter : MD := (yX12_letter, cX12_letter, 4, some .int, RX12)
abbrev M_m_rule : MD := (yX12_rule, cX12_rule, 4, some .int, RX12)
abbrev M_m_rateOf : MD := (yX12_rateOf, cX12_rateOf, 4, some .int, RX12)
abbrev M_m_rates : MD := (yX12_rates, cX12_rates, 3, some .int, RX12)
abbrev M_m_canWin : MD := (yX12_canWin, cX12_canWin, 4, some .boolean, RX12)
abbrev M_m_pick : MD := (yX12_pick, cX12_pick, 7, some .int, RX12)
abbrev M_m_picks : MD := (yX12_picks, cX12_picks, 2, some .int, RX12)
abbrev M_m_won : MD := (yX12_won, cX12_won, 2, some .int, RX12)
abbrev M_m_market : MD := (yX12_market, cX12_market, 10, some .int, RX12)
abbrev M_m_game : MD := (yX12_game, cX12_game, 7, some .int, RX12)
abbrev M_m_answered : MD := (yX12_answered, cX12_answered, 6, some .int, RX12)
abbrev M_m_playOut : MD := (yX12_playOut, cX12_playOut, 5, some .int, RX12)
abbrev M_m_game_ : MD := (yX12_game_, cX12_game_, 2, some .int, RX12)
abbrev M_m_against : MD := (yX12_against, cX12_against, 2, some .int, RX12)
abbrev M_m_changePair : MD := (yX12_changePair, cX12_changePair, 5, none, RX12)
abbrev M_m_changeBack : MD := (yX12_changeBack, cX12_changeBack, 4, none, RX12)
abbrev M_m_isSo : MD := (yX12_isSo, cX12_isSo, 2, some .boolean, RX12)
abbrev M_m_isSoBy : MD := (yX12_isSoBy, cX12_isSoBy, 6, some .boolean, RX12)
abbrev M_m_change : MD := (yX12_change, cX12_change, 4, some .int, RX12)
abbrev M_m_isSoWithTwo : MD := (yX12_isSoWithTwo, cX12_isSoWithTwo, 7, some .boolean, RX12)
abbrev M_m_single : MD := (yX12_single, cX12_single, 6, some .int, RX12)
abbrev M_m_meet : MD := (yX12_meet, cX12_meet, 5, some .int, RX12)
abbrev M_m_keep : MD := (yX12_keep, cX12_keep, 4, some .boolean, RX12)
abbrev M_m_again : MD := (yX12_again, cX12_again, 4, some .boolean, RX12)
abbrev M_m_count : MD := (yX12_count, cX12_count, 5, some .int, RX12)
abbrev M_m_row : MD := (yX12_row, cX12_row, 2, some .long, RX12)
abbrev M_jd_isValidCodePoint : MD := (yJ11_isValidCodePoint_9a6ad, cJ11_isValidCodePoint_9a6ad, 2, some .boolean, RJ11)
abbrev M_jd_highSurrogate : MD := (yJ11_highSurrogate_5068e, cJ11_highSurrogate_5068e, 1, some .char, RJ11)
abbrev M_jd_lowSurrogate : MD := (yJ11_lowSurrogate_5068e, cJ11_lowSurrogate_5068e, 1, some .char, RJ11)
abbrev M_jd_lowestOneBit : MD := (yJ6_lowestOneBit_0f7a4, cJ6_lowestOneBit_0f7a4, 1, some .int, RJ6)
abbrev M_jd_numberOfTrailingZeros : MD := (yJ6_numberOfTrailingZeros_0f7a4, cJ6_numberOfTrailingZeros_0f7a4, 2, some .int, RJ6)
abbrev M_jd_bitCount : MD := (yJ6_bitCount_0f7a4, cJ6_bitCount_0f7a4, 1, some .int, RJ6)
abbrev M_jd_max : MD := (yJ9_max_7cf53, cJ9_max_7cf53, 2, some .int, RJ9)
abbrev M_jd_min : MD := (yJ9_min_7cf53, cJ9_min_7cf53, 2, some .int, RJ9)
abbrev M_jd_length_J0_8abf5 : MD := (yJ0_length_8abf5, cJ0_length_8abf5, 1, some .int, RJ0)
abbrev M_jd_indexOf_J0_0f7a4 : MD := (yJ0_indexOf_0f7a4, cJ0_indexOf_0f7a4, 2, some .int, RJ0)
abbrev M_jd_indexOf_J0_7cf53 : MD := (yJ0_indexOf_7cf53, cJ0_indexOf_7cf53, 3, some .int, RJ0)
abbrev M_jd_coder : MD := (yJ0_coder_7d493, cJ0_coder_7d493, 1, some .byte, RJ0)
abbrev M_jd_isLatin1_J0_aae02 : MD := (yJ0_isLatin1_aae02, cJ0_isLatin1_aae02, 1, some .boolean, RJ0)
abbrev M_jd_checkBoundsBeginEnd_J0_23922 : MD := (yJ0_checkBoundsBeginEnd_23922, cJ0_checkBoundsBeginEnd_23922, 3, none, RJ0)
abbrev M_jd_canEncode_J1_9a6ad : MD := (yJ1_canEncode_9a6ad, cJ1_canEncode_9a6ad, 1, some .boolean, RJ1)
abbrev M_jd_indexOf_J1_4cfef : MD := (yJ1_indexOf_4cfef, cJ1_indexOf_4cfef, 4, some .int, RJ1)
abbrev M_jd_indexOfChar_J1_4cfef : MD := (yJ1_indexOfChar_4cfef, cJ1_indexOfChar_4cfef, 6, some .int, RJ1)
abbrev M_jd_getChar : MD := (yJ2_getChar_3b067, cJ2_getChar_3b067, 2, some .char, RJ2)
abbrev M_jd_length_J2_9d52b : MD := (yJ2_length_9d52b, cJ2_length_9d52b, 1, some .int, RJ2)
abbrev M_jd_indexOf_J2_4cfef : MD := (yJ2_indexOf_4cfef, cJ2_indexOf_4cfef, 4, some .int, RJ2)
abbrev M_jd_indexOfChar_J2_4cfef : MD := (yJ2_indexOfChar_4cfef, cJ2_indexOfChar_4cfef, 4, some .int, RJ2)
abbrev M_jd_indexOfCharUnsafe : MD := (yJ2_indexOfCharUnsafe_4cfef, cJ2_indexOfCharUnsafe_4cfef, 5, some .int, RJ2)
abbrev M_jd_indexOfSupplementary : MD := (yJ2_indexOfSupplementary_4cfef, cJ2_indexOfSupplementary_4cfef, 7, some .int, RJ2)
abbrev M_jd_checkBoundsBeginEnd_J2_d044e : MD := (yJ2_checkBoundsBeginEnd_d044e, cJ2_checkBoundsBeginEnd_d044e, 3, none, RJ2)
abbrev M_jd_fill : MD := (yJ7_fill_53178, cJ7_fill_53178, 4, none, RJ7)
abbrev M_jd_checkFromToIndex : MD := (yJ3_checkFromToIndex_8c36e, cJ3_checkFromToIndex_8c36e, 4, some .int, RJ3)
abbrev M_lw_person : MD := (yL_person, cL_person, 5, some .int, RL)
abbrev M_lw_rates : MD := (yL_rates, cL_rates, 5, some .int, RL)
abbrev M_lw_row : MD := (yL_row, cL_row, 4, some .int, RL)
abbrev M_lw_law : MD := (yL_law, cL_law, 8, some .boolean, RL)
theorem kw0 : Cond.laysFinal RX0 "MoreThanHalf$Acquaintances" "street" "LMoreThanHalf$Street;" ∈ tbG := mG (tt2 (List.mem_of_getElem? (i := 109) rfl)) rfl
theorem kw1 : Cond.laysFinal RX0 "MoreThanHalf$Acquaintances" "told" "LMoreThanHalf$Row;" ∈ tbG := mG (tt2 (List.mem_of_getElem? (i := 111) rfl)) rfl
theorem kw2 : Cond.laysFinal RX0 "MoreThanHalf$Acquaintances" "trial" "LMoreThanHalf$Hearing;" ∈ tbG := mG (tt2 (List.mem_of_getElem? (i := 113) rfl)) rfl
theorem inX0 : ∀ w ∈ u_ws RX0 TX0 3, w ∈ tbG := by
  intro w hw
  obtain ⟨k, hk, rfl⟩ := List.mem_map.mp hw
  match k, List.mem_range.mp hk with
  | 0, _ => exact kw0
  | 1, _ => exact kw1
  | 2, _ => exact kw2
theorem kw3 : Cond.laysFinal RX1 "MoreThanHalf$Hearing" "street" "LMoreThanHalf$Street;" ∈ tbG := mG (tt1 (List.mem_of_getElem? (i := 201) rfl)) rfl
theorem kw4 : Cond.laysFinal RX1 "MoreThanHalf$Hearing" "low" "[J" ∈ tbG := mG (tt1 (List.mem_of_getElem? (i := 203) rfl)) rfl
theorem kw5 : Cond.laysFinal RX1 "MoreThanHalf$Hearing" "high" "[J" ∈ tbG := mG (tt1 (List.mem_of_getElem? (i := 205) rfl)) rfl
theorem kw6 : Cond.laysFinal RX1 "MoreThanHalf$Hearing" "all" "[I" ∈ tbG := mG (tt1 (List.mem_of_getElem? (i := 207) rfl)) rfl
theorem kw7 : Cond.laysFinal RX1 "MoreThanHalf$Hearing" "need" "[I" ∈ tbG := mG (tt1 (List.mem_of_getElem? (i := 209) rfl)) rfl
theorem kw8 : Cond.lays RX1 "MoreThanHalf$Hearing" "lowBar" "J" ∈ tbG := mG (tt1 (List.mem_of_getElem? (i := 211) rfl)) rfl
theorem kw9 : Cond.lays RX1 "MoreThanHalf$Hearing" "highBar" "J" ∈ tbG := mG (tt1 (List.mem_of_getElem? (i := 213) rfl)) rfl
theorem kw10 : Cond.lays RX1 "MoreThanHalf$Hearing" "moving" "I" ∈ tbG := mG (tt1 (List.mem_of_getElem? (i := 215) rfl)) rfl
theorem kw11 : Cond.lays RX1 "MoreThanHalf$Hearing" "known" "[I" ∈ tbG := mG (tt1 (List.mem_of_getElem? (i := 217) rfl)) rfl
theorem kw12 : Cond.lays RX1 "MoreThanHalf$Hearing" "version" "I" ∈ tbG := mG (tt1 (List.mem_of_getElem? (i := 219) rfl)) rfl
theorem inX1 : ∀ w ∈ u_ws RX1 TX1 10, w ∈ tbG := by
  intro w hw
  obtain ⟨k, hk, rfl⟩ := List.mem_map.mp hw
  match k, List.mem_range.mp hk with
  | 0, _ => exact kw3
  | 1, _ => exact kw4
  | 2, _ => exact kw5
  | 3, _ => exact kw6
  | 4, _ => exact kw7
  | 5, _ => exact kw8
  | 6, _ => exact kw9
  | 7, _ => exact kw10
  | 8, _ => exact kw11
  | 9, _ => exact kw12
theorem kw13 : Cond.lays RX2 "MoreThanHalf$Memo" "cells" "[I" ∈ tbG := mG (tt1 (List.mem_of_getElem? (i := 231) rfl)) rfl
theorem kw14 : Cond.lays RX2 "MoreThanHalf$Memo" "size" "I" ∈ tbG := mG (tt1 (List.mem_of_getElem? (i := 233) rfl)) rfl
theorem kw15 : Cond.lays RX2 "MoreThanHalf$Memo" "stamp" "I" ∈ tbG := mG (tt1 (List.mem_of_getElem? (i := 235) rfl)) rfl
theorem inX2 : ∀ w ∈ u_ws RX2 TX2 3, w ∈ tbG := by
  intro w hw
  obtain ⟨k, hk, rfl⟩ := List.mem_map.mp hw
  match k, List.mem_range.mp hk with
  | 0, _ => exact kw13
  | 1, _ => exact kw14
  | 2, _ => exact kw15
theorem kw16 : Cond.laysFinal RX3 "MoreThanHalf$Orbits" "street" "LMoreThanHalf$Street;" ∈ tbG := mG (tt2 (List.mem_of_getElem? (i := 20) rfl)) rfl
theorem kw17 : Cond.laysFinal RX3 "MoreThanHalf$Orbits" "hearing" "LMoreThanHalf$Hearing;" ∈ tbG := mG (tt2 (List.mem_of_getElem? (i := 22) rfl)) rfl
theorem kw18 : Cond.laysFinal RX3 "MoreThanHalf$Orbits" "memo" "LMoreThanHalf$Memo;" ∈ tbG := mG (tt2 (List.mem_of_getElem? (i := 24) rfl)) rfl
theorem kw19 : Cond.laysFinal RX3 "MoreThanHalf$Orbits" "told" "LMoreThanHalf$Row;" ∈ tbG := mG (tt2 (List.mem_of_getElem? (i := 26) rfl)) rfl
theorem kw20 : Cond.lays RX3 "MoreThanHalf$Orbits" "till" "I" ∈ tbG := mG (tt2 (List.mem_of_getElem? (i := 28) rfl)) rfl
theorem kw21 : Cond.lays RX3 "MoreThanHalf$Orbits" "period" "I" ∈ tbG := mG (tt2 (List.mem_of_getElem? (i := 30) rfl)) rfl
theorem kw22 : Cond.lays RX3 "MoreThanHalf$Orbits" "entry" "I" ∈ tbG := mG (tt2 (List.mem_of_getElem? (i := 32) rfl)) rfl
theorem kw23 : Cond.lays RX3 "MoreThanHalf$Orbits" "least" "I" ∈ tbG := mG (tt2 (List.mem_of_getElem? (i := 34) rfl)) rfl
theorem kw24 : Cond.lays RX3 "MoreThanHalf$Orbits" "always" "I" ∈ tbG := mG (tt2 (List.mem_of_getElem? (i := 36) rfl)) rfl
theorem kw25 : Cond.lays RX3 "MoreThanHalf$Orbits" "ever" "I" ∈ tbG := mG (tt2 (List.mem_of_getElem? (i := 38) rfl)) rfl
theorem inX3 : ∀ w ∈ u_ws RX3 TX3 10, w ∈ tbG := by
  intro w hw
  obtain ⟨k, hk, rfl⟩ := List.mem_map.mp hw
  match k, List.mem_range.mp hk with
  | 0, _ => exact kw16
  | 1, _ => exact kw17
  | 2, _ => exact kw18
  | 3, _ => exact kw19
  | 4, _ => exact kw20
  | 5, _ => exact kw21
  | 6, _ => exact kw22
  | 7, _ => exact kw23
  | 8, _ => exact kw24
  | 9, _ => exact kw25
theorem kw26 : Cond.laysFinal RX4 "MoreThanHalf$Row" "numbers" "[J" ∈ tbG := mG (tt1 (List.mem_of_getElem? (i := 45) rfl)) rfl
theorem kw27 : Cond.lays RX4 "MoreThanHalf$Row" "size" "I" ∈ tbG := mG (tt1 (List.mem_of_getElem? (i := 47) rfl)) rfl
theorem inX4 : ∀ w ∈ u_ws RX4 TX4 2, w ∈ tbG := by
  intro w hw
  obtain ⟨k, hk, rfl⟩ := List.mem_map.mp hw
  match k, List.mem_range.mp hk with
  | 0, _ => exact kw26
  | 1, _ => exact kw27
theorem kw28 : Cond.laysFinal RX5 "MoreThanHalf$Rule" "codes" "[I" ∈ tbG := mG (tt1 (List.mem_of_getElem? (i := 123) rfl)) rfl
theorem kw29 : Cond.laysFinal RX5 "MoreThanHalf$Rule" "stack" "[I" ∈ tbG := mG (tt1 (List.mem_of_getElem? (i := 125) rfl)) rfl
theorem kw30 : Cond.lays RX5 "MoreThanHalf$Rule" "size" "I" ∈ tbG := mG (tt1 (List.mem_of_getElem? (i := 127) rfl)) rfl
theorem kw31 : Cond.lays RX5 "MoreThanHalf$Rule" "top" "I" ∈ tbG := mG (tt1 (List.mem_of_getElem? (i := 129) rfl)) rfl
theorem inX5 : ∀ w ∈ u_ws RX5 TX5 4, w ∈ tbG := by
  intro w hw
  obtain ⟨k, hk, rfl⟩ := List.mem_map.mp hw
  match k, List.mem_range.mp hk with
  | 0, _ => exact kw28
  | 1, _ => exact kw29
  | 2, _ => exact kw30
  | 3, _ => exact kw31
theorem kw32 : Cond.laysFinal RX6 "MoreThanHalf$RuleReader" "rules" "[LMoreThanHalf$Rule;" ∈ tbG := mG (tt1 (List.mem_of_getElem? (i := 174) rfl)) rfl
theorem kw33 : Cond.lays RX6 "MoreThanHalf$RuleReader" "spare" "LMoreThanHalf$Rule;" ∈ tbG := mG (tt1 (List.mem_of_getElem? (i := 176) rfl)) rfl
theorem kw34 : Cond.lays RX6 "MoreThanHalf$RuleReader" "text" "[I" ∈ tbG := mG (tt1 (List.mem_of_getElem? (i := 178) rfl)) rfl
theorem kw35 : Cond.lays RX6 "MoreThanHalf$RuleReader" "limit" "I" ∈ tbG := mG (tt1 (List.mem_of_getElem? (i := 180) rfl)) rfl
theorem kw36 : Cond.lays RX6 "MoreThanHalf$RuleReader" "at" "I" ∈ tbG := mG (tt1 (List.mem_of_getElem? (i := 182) rfl)) rfl
theorem inX6 : ∀ w ∈ u_ws RX6 TX6 5, w ∈ tbG := by
  intro w hw
  obtain ⟨k, hk, rfl⟩ := List.mem_map.mp hw
  match k, List.mem_range.mp hk with
  | 0, _ => exact kw32
  | 1, _ => exact kw33
  | 2, _ => exact kw34
  | 3, _ => exact kw35
  | 4, _ => exact kw36
theorem kw37 : Cond.laysFinal RX7 "MoreThanHalf$Shops" "street" "LMoreThanHalf$Street;" ∈ tbG := mG (tt2 (List.mem_of_getElem? (i := 83) rfl)) rfl
theorem kw38 : Cond.laysFinal RX7 "MoreThanHalf$Shops" "hearing" "LMoreThanHalf$Hearing;" ∈ tbG := mG (tt2 (List.mem_of_getElem? (i := 85) rfl)) rfl
theorem kw39 : Cond.laysFinal RX7 "MoreThanHalf$Shops" "memo" "LMoreThanHalf$Memo;" ∈ tbG := mG (tt2 (List.mem_of_getElem? (i := 87) rfl)) rfl
theorem kw40 : Cond.laysFinal RX7 "MoreThanHalf$Shops" "rules" "[LMoreThanHalf$Rule;" ∈ tbG := mG (tt2 (List.mem_of_getElem? (i := 89) rfl)) rfl
theorem kw41 : Cond.laysFinal RX7 "MoreThanHalf$Shops" "told" "LMoreThanHalf$Row;" ∈ tbG := mG (tt2 (List.mem_of_getElem? (i := 91) rfl)) rfl
theorem kw42 : Cond.laysFinal RX7 "MoreThanHalf$Shops" "facts" "[[I" ∈ tbG := mG (tt2 (List.mem_of_getElem? (i := 93) rfl)) rfl
theorem kw43 : Cond.laysFinal RX7 "MoreThanHalf$Shops" "paid" "[I" ∈ tbG := mG (tt2 (List.mem_of_getElem? (i := 95) rfl)) rfl
theorem inX7 : ∀ w ∈ u_ws RX7 TX7 7, w ∈ tbG := by
  intro w hw
  obtain ⟨k, hk, rfl⟩ := List.mem_map.mp hw
  match k, List.mem_range.mp hk with
  | 0, _ => exact kw37
  | 1, _ => exact kw38
  | 2, _ => exact kw39
  | 3, _ => exact kw40
  | 4, _ => exact kw41
  | 5, _ => exact kw42
  | 6, _ => exact kw43
theorem kw44 : Cond.laysFinal RX8 "MoreThanHalf$Street" "need" "[I" ∈ tbG := mG (tt1 (List.mem_of_getElem? (i := 92) rfl)) rfl
theorem kw45 : Cond.laysFinal RX8 "MoreThanHalf$Street" "price" "[I" ∈ tbG := mG (tt1 (List.mem_of_getElem? (i := 94) rfl)) rfl
theorem kw46 : Cond.laysFinal RX8 "MoreThanHalf$Street" "loud" "[[I" ∈ tbG := mG (tt1 (List.mem_of_getElem? (i := 96) rfl)) rfl
theorem kw47 : Cond.laysFinal RX8 "MoreThanHalf$Street" "states" "[I" ∈ tbG := mG (tt1 (List.mem_of_getElem? (i := 98) rfl)) rfl
theorem kw48 : Cond.laysFinal RX8 "MoreThanHalf$Street" "nearer" "[I" ∈ tbG := mG (tt1 (List.mem_of_getElem? (i := 100) rfl)) rfl
theorem kw49 : Cond.lays RX8 "MoreThanHalf$Street" "people" "I" ∈ tbG := mG (tt1 (List.mem_of_getElem? (i := 102) rfl)) rfl
theorem kw50 : Cond.lays RX8 "MoreThanHalf$Street" "firm" "I" ∈ tbG := mG (tt1 (List.mem_of_getElem? (i := 104) rfl)) rfl
theorem kw51 : Cond.lays RX8 "MoreThanHalf$Street" "days" "I" ∈ tbG := mG (tt1 (List.mem_of_getElem? (i := 106) rfl)) rfl
theorem kw52 : Cond.lays RX8 "MoreThanHalf$Street" "version" "I" ∈ tbG := mG (tt1 (List.mem_of_getElem? (i := 108) rfl)) rfl
theorem inX8 : ∀ w ∈ u_ws RX8 TX8 9, w ∈ tbG := by
  intro w hw
  obtain ⟨k, hk, rfl⟩ := List.mem_map.mp hw
  match k, List.mem_range.mp hk with
  | 0, _ => exact kw44
  | 1, _ => exact kw45
  | 2, _ => exact kw46
  | 3, _ => exact kw47
  | 4, _ => exact kw48
  | 5, _ => exact kw49
  | 6, _ => exact kw50
  | 7, _ => exact kw51
  | 8, _ => exact kw52
theorem kw53 : Cond.laysFinal RX9 "MoreThanHalf$StreetReader" "street" "LMoreThanHalf$Street;" ∈ tbG := mG (tt1 (List.mem_of_getElem? (i := 146) rfl)) rfl
theorem kw54 : Cond.lays RX9 "MoreThanHalf$StreetReader" "text" "[I" ∈ tbG := mG (tt1 (List.mem_of_getElem? (i := 148) rfl)) rfl
theorem kw55 : Cond.lays RX9 "MoreThanHalf$StreetReader" "length" "I" ∈ tbG := mG (tt1 (List.mem_of_getElem? (i := 150) rfl)) rfl
theorem kw56 : Cond.lays RX9 "MoreThanHalf$StreetReader" "limit" "I" ∈ tbG := mG (tt1 (List.mem_of_getElem? (i := 152) rfl)) rfl
theorem kw57 : Cond.lays RX9 "MoreThanHalf$StreetReader" "at" "I" ∈ tbG := mG (tt1 (List.mem_of_getElem? (i := 154) rfl)) rfl
theorem kw58 : Cond.lays RX9 "MoreThanHalf$StreetReader" "there" "I" ∈ tbG := mG (tt1 (List.mem_of_getElem? (i := 156) rfl)) rfl
theorem kw59 : Cond.lays RX9 "MoreThanHalf$StreetReader" "telling" "Z" ∈ tbG := mG (tt1 (List.mem_of_getElem? (i := 158) rfl)) rfl
theorem inX9 : ∀ w ∈ u_ws RX9 TX9 7, w ∈ tbG := by
  intro w hw
  obtain ⟨k, hk, rfl⟩ := List.mem_map.mp hw
  match k, List.mem_range.mp hk with
  | 0, _ => exact kw53
  | 1, _ => exact kw54
  | 2, _ => exact kw55
  | 3, _ => exact kw56
  | 4, _ => exact kw57
  | 5, _ => exact kw58
  | 6, _ => exact kw59
theorem kw60 : Cond.laysFinal RX10 "MoreThanHalf$Talking" "street" "LMoreThanHalf$Street;" ∈ tbG := mG (tt2 (List.mem_of_getElem? (i := 54) rfl)) rfl
theorem kw61 : Cond.laysFinal RX10 "MoreThanHalf$Talking" "hearing" "LMoreThanHalf$Hearing;" ∈ tbG := mG (tt2 (List.mem_of_getElem? (i := 56) rfl)) rfl
theorem kw62 : Cond.laysFinal RX10 "MoreThanHalf$Talking" "memo" "LMoreThanHalf$Memo;" ∈ tbG := mG (tt2 (List.mem_of_getElem? (i := 58) rfl)) rfl
theorem kw63 : Cond.laysFinal RX10 "MoreThanHalf$Talking" "told" "LMoreThanHalf$Row;" ∈ tbG := mG (tt2 (List.mem_of_getElem? (i := 60) rfl)) rfl
theorem kw64 : Cond.lays RX10 "MoreThanHalf$Talking" "wanted" "I" ∈ tbG := mG (tt2 (List.mem_of_getElem? (i := 62) rfl)) rfl
theorem kw65 : Cond.lays RX10 "MoreThanHalf$Talking" "sum" "I" ∈ tbG := mG (tt2 (List.mem_of_getElem? (i := 64) rfl)) rfl
theorem kw66 : Cond.lays RX10 "MoreThanHalf$Talking" "soonest" "I" ∈ tbG := mG (tt2 (List.mem_of_getElem? (i := 66) rfl)) rfl
theorem inX10 : ∀ w ∈ u_ws RX10 TX10 7, w ∈ tbG := by
  intro w hw
  obtain ⟨k, hk, rfl⟩ := List.mem_map.mp hw
  match k, List.mem_range.mp hk with
  | 0, _ => exact kw60
  | 1, _ => exact kw61
  | 2, _ => exact kw62
  | 3, _ => exact kw63
  | 4, _ => exact kw64
  | 5, _ => exact kw65
  | 6, _ => exact kw66
theorem kw67 : Cond.laysFinal RX11 "MoreThanHalf" "text" "[I" ∈ tbG := mG (tt2 (List.mem_of_getElem? (i := 131) rfl)) rfl
theorem kw68 : Cond.lays RX11 "MoreThanHalf" "signs" "I" ∈ tbG := mG (tt2 (List.mem_of_getElem? (i := 133) rfl)) rfl
theorem kw69 : Cond.laysFinal RX11 "MoreThanHalf" "told" "LMoreThanHalf$Row;" ∈ tbG := mG (tt2 (List.mem_of_getElem? (i := 135) rfl)) rfl
theorem kw70 : Cond.laysFinal RX11 "MoreThanHalf" "street" "LMoreThanHalf$Street;" ∈ tbG := mG (tt2 (List.mem_of_getElem? (i := 137) rfl)) rfl
theorem kw71 : Cond.laysFinal RX11 "MoreThanHalf" "kept" "[LMoreThanHalf$Street;" ∈ tbG := mG (tt2 (List.mem_of_getElem? (i := 139) rfl)) rfl
theorem kw72 : Cond.laysFinal RX11 "MoreThanHalf" "isKept" "[Z" ∈ tbG := mG (tt2 (List.mem_of_getElem? (i := 141) rfl)) rfl
theorem kw73 : Cond.laysFinal RX11 "MoreThanHalf" "rules" "[LMoreThanHalf$Rule;" ∈ tbG := mG (tt2 (List.mem_of_getElem? (i := 143) rfl)) rfl
theorem kw74 : Cond.laysFinal RX11 "MoreThanHalf" "streetReader" "LMoreThanHalf$StreetReader;" ∈ tbG := mG (tt2 (List.mem_of_getElem? (i := 145) rfl)) rfl
theorem kw75 : Cond.laysFinal RX11 "MoreThanHalf" "ruleReader" "LMoreThanHalf$RuleReader;" ∈ tbG := mG (tt2 (List.mem_of_getElem? (i := 147) rfl)) rfl
theorem kw76 : Cond.laysFinal RX11 "MoreThanHalf" "hearing" "LMoreThanHalf$Hearing;" ∈ tbG := mG (tt2 (List.mem_of_getElem? (i := 149) rfl)) rfl
theorem kw77 : Cond.laysFinal RX11 "MoreThanHalf" "memo" "LMoreThanHalf$Memo;" ∈ tbG := mG (tt2 (List.mem_of_getElem? (i := 151) rfl)) rfl
theorem kw78 : Cond.laysFinal RX11 "MoreThanHalf" "orbits" "LMoreThanHalf$Orbits;" ∈ tbG := mG (tt2 (List.mem_of_getElem? (i := 153) rfl)) rfl
theorem kw79 : Cond.laysFinal RX11 "MoreThanHalf" "talking" "LMoreThanHalf$Talking;" ∈ tbG := mG (tt2 (List.mem_of_getElem? (i := 155) rfl)) rfl
theorem kw80 : Cond.laysFinal RX11 "MoreThanHalf" "shops" "LMoreThanHalf$Shops;" ∈ tbG := mG (tt2 (List.mem_of_getElem? (i := 157) rfl)) rfl
theorem kw81 : Cond.laysFinal RX11 "MoreThanHalf" "acquaintances" "LMoreThanHalf$Acquaintances;" ∈ tbG := mG (tt2 (List.mem_of_getElem? (i := 159) rfl)) rfl
theorem inX11 : ∀ w ∈ u_ws RX11 TX11 15, w ∈ tbG := by
  intro w hw
  obtain ⟨k, hk, rfl⟩ := List.mem_map.mp hw
  match k, List.mem_range.mp hk with
  | 0, _ => exact kw67
  | 1, _ => exact kw68
  | 2, _ => exact kw69
  | 3, _ => exact kw70
  | 4, _ => exact kw71
  | 5, _ => exact kw72
  | 6, _ => exact kw73
  | 7, _ => exact kw74
  | 8, _ => exact kw75
  | 9, _ => exact kw76
  | 10, _ => exact kw77
  | 11, _ => exact kw78
  | 12, _ => exact kw79
  | 13, _ => exact kw80
  | 14, _ => exact kw81
theorem kw82 : Cond.lays RX12 "MoreThanHalfModel" "people" "I" ∈ tbG := mG (tt6 (List.mem_of_getElem? (i := 154) rfl)) rfl
theorem kw83 : Cond.laysFinal RX12 "MoreThanHalfModel" "need" "[I" ∈ tbG := mG (tt6 (List.mem_of_getElem? (i := 156) rfl)) rfl
theorem kw84 : Cond.laysFinal RX12 "MoreThanHalfModel" "price" "[I" ∈ tbG := mG (tt6 (List.mem_of_getElem? (i := 158) rfl)) rfl
theorem kw85 : Cond.lays RX12 "MoreThanHalfModel" "firm" "I" ∈ tbG := mG (tt6 (List.mem_of_getElem? (i := 160) rfl)) rfl
theorem kw86 : Cond.laysFinal RX12 "MoreThanHalfModel" "loud" "[I" ∈ tbG := mG (tt6 (List.mem_of_getElem? (i := 162) rfl)) rfl
theorem kw87 : Cond.laysFinal RX12 "MoreThanHalfModel" "states" "[I" ∈ tbG := mG (tt6 (List.mem_of_getElem? (i := 164) rfl)) rfl
theorem kw88 : Cond.lays RX12 "MoreThanHalfModel" "days" "I" ∈ tbG := mG (tt6 (List.mem_of_getElem? (i := 166) rfl)) rfl
theorem kw89 : Cond.laysFinal RX12 "MoreThanHalfModel" "text" "[B" ∈ tbG := mG (tt6 (List.mem_of_getElem? (i := 168) rfl)) rfl
theorem kw90 : Cond.lays RX12 "MoreThanHalfModel" "typed" "I" ∈ tbG := mG (tt6 (List.mem_of_getElem? (i := 170) rfl)) rfl
theorem kw91 : Cond.laysFinal RX12 "MoreThanHalfModel" "row" "[J" ∈ tbG := mG (tt6 (List.mem_of_getElem? (i := 172) rfl)) rfl
theorem kw92 : Cond.lays RX12 "MoreThanHalfModel" "rowMany" "I" ∈ tbG := mG (tt6 (List.mem_of_getElem? (i := 174) rfl)) rfl
theorem kw93 : Cond.lays RX12 "MoreThanHalfModel" "thrown" "I" ∈ tbG := mG (tt6 (List.mem_of_getElem? (i := 176) rfl)) rfl
theorem kw94 : Cond.lays RX12 "MoreThanHalfModel" "read" "[B" ∈ tbG := mG (tt6 (List.mem_of_getElem? (i := 178) rfl)) rfl
theorem kw95 : Cond.lays RX12 "MoreThanHalfModel" "size" "I" ∈ tbG := mG (tt6 (List.mem_of_getElem? (i := 180) rfl)) rfl
theorem kw96 : Cond.lays RX12 "MoreThanHalfModel" "top" "I" ∈ tbG := mG (tt6 (List.mem_of_getElem? (i := 182) rfl)) rfl
theorem kw97 : Cond.lays RX12 "MoreThanHalfModel" "at" "I" ∈ tbG := mG (tt6 (List.mem_of_getElem? (i := 184) rfl)) rfl
theorem kw98 : Cond.lays RX12 "MoreThanHalfModel" "wrong" "I" ∈ tbG := mG (tt6 (List.mem_of_getElem? (i := 186) rfl)) rfl
theorem kw99 : Cond.laysFinal RX12 "MoreThanHalfModel" "line" "[I" ∈ tbG := mG (tt6 (List.mem_of_getElem? (i := 188) rfl)) rfl
theorem kw100 : Cond.laysFinal RX12 "MoreThanHalfModel" "cameOn" "[I" ∈ tbG := mG (tt6 (List.mem_of_getElem? (i := 190) rfl)) rfl
theorem kw101 : Cond.laysFinal RX12 "MoreThanHalfModel" "cameIn" "[I" ∈ tbG := mG (tt6 (List.mem_of_getElem? (i := 192) rfl)) rfl
theorem kw102 : Cond.lays RX12 "MoreThanHalfModel" "question" "I" ∈ tbG := mG (tt6 (List.mem_of_getElem? (i := 194) rfl)) rfl
theorem kw103 : Cond.lays RX12 "MoreThanHalfModel" "restIn" "I" ∈ tbG := mG (tt6 (List.mem_of_getElem? (i := 196) rfl)) rfl
theorem kw104 : Cond.lays RX12 "MoreThanHalfModel" "restRound" "I" ∈ tbG := mG (tt6 (List.mem_of_getElem? (i := 198) rfl)) rfl
theorem kw105 : Cond.lays RX12 "MoreThanHalfModel" "restState" "I" ∈ tbG := mG (tt6 (List.mem_of_getElem? (i := 200) rfl)) rfl
theorem kw106 : Cond.laysFinal RX12 "MoreThanHalfModel" "needWas" "[I" ∈ tbG := mG (tt6 (List.mem_of_getElem? (i := 202) rfl)) rfl
theorem kw107 : Cond.laysFinal RX12 "MoreThanHalfModel" "far" "[I" ∈ tbG := mG (tt6 (List.mem_of_getElem? (i := 204) rfl)) rfl
theorem kw108 : Cond.laysFinal RX12 "MoreThanHalfModel" "isLast" "[Z" ∈ tbG := mG (tt6 (List.mem_of_getElem? (i := 206) rfl)) rfl
theorem kw109 : Cond.laysFinal RX12 "MoreThanHalfModel" "sums" "[I" ∈ tbG := mG (tt6 (List.mem_of_getElem? (i := 208) rfl)) rfl
theorem kw110 : Cond.laysFinal RX12 "MoreThanHalfModel" "sumsIn" "[I" ∈ tbG := mG (tt6 (List.mem_of_getElem? (i := 210) rfl)) rfl
theorem kw111 : Cond.laysFinal RX12 "MoreThanHalfModel" "rules" "[[B" ∈ tbG := mG (tt6 (List.mem_of_getElem? (i := 212) rfl)) rfl
theorem kw112 : Cond.laysFinal RX12 "MoreThanHalfModel" "ruleSize" "[I" ∈ tbG := mG (tt6 (List.mem_of_getElem? (i := 214) rfl)) rfl
theorem kw113 : Cond.lays RX12 "MoreThanHalfModel" "askedShop" "I" ∈ tbG := mG (tt6 (List.mem_of_getElem? (i := 216) rfl)) rfl
theorem kw114 : Cond.lays RX12 "MoreThanHalfModel" "askedOne" "I" ∈ tbG := mG (tt6 (List.mem_of_getElem? (i := 218) rfl)) rfl
theorem kw115 : Cond.lays RX12 "MoreThanHalfModel" "askedState" "I" ∈ tbG := mG (tt6 (List.mem_of_getElem? (i := 220) rfl)) rfl
theorem kw116 : Cond.laysFinal RX12 "MoreThanHalfModel" "loudWas" "[I" ∈ tbG := mG (tt6 (List.mem_of_getElem? (i := 222) rfl)) rfl
theorem kw117 : Cond.lays RX12 "MoreThanHalfModel" "peopleTold" "I" ∈ tbG := mG (tt6 (List.mem_of_getElem? (i := 224) rfl)) rfl
theorem kw118 : Cond.laysFinal RX12 "MoreThanHalfModel" "kept" "[I" ∈ tbG := mG (tt6 (List.mem_of_getElem? (i := 226) rfl)) rfl
theorem kw119 : Cond.laysFinal RX12 "MoreThanHalfModel" "isKept" "[Z" ∈ tbG := mG (tt6 (List.mem_of_getElem? (i := 228) rfl)) rfl
theorem kw120 : Cond.laysFinal RX12 "MoreThanHalfModel" "keptTold" "[I" ∈ tbG := mG (tt6 (List.mem_of_getElem? (i := 230) rfl)) rfl
theorem inX12 : ∀ w ∈ u_ws RX12 TX12 39, w ∈ tbG := by
  intro w hw
  obtain ⟨k, hk, rfl⟩ := List.mem_map.mp hw
  match k, List.mem_range.mp hk with
  | 0, _ => exact kw82
  | 1, _ => exact kw83
  | 2, _ => exact kw84
  | 3, _ => exact kw85
  | 4, _ => exact kw86
  | 5, _ => exact kw87
  | 6, _ => exact kw88
  | 7, _ => exact kw89
  | 8, _ => exact kw90
  | 9, _ => exact kw91
  | 10, _ => exact kw92
  | 11, _ => exact kw93
  | 12, _ => exact kw94
  | 13, _ => exact kw95
  | 14, _ => exact kw96
  | 15, _ => exact kw97
  | 16, _ => exact kw98
  | 17, _ => exact kw99
  | 18, _ => exact kw100
  | 19, _ => exact kw101
  | 20, _ => exact kw102
  | 21, _ => exact kw103
  | 22, _ => exact kw104
  | 23, _ => exact kw105
  | 24, _ => exact kw106
  | 25, _ => exact kw107
  | 26, _ => exact kw108
  | 27, _ => exact kw109
  | 28, _ => exact kw110
  | 29, _ => exact kw111
  | 30, _ => exact kw112
  | 31, _ => exact kw113
  | 32, _ => exact kw114
  | 33, _ => exact kw115
  | 34, _ => exact kw116
  | 35, _ => exact kw117
  | 36, _ => exact kw118
  | 37, _ => exact kw119
  | 38, _ => exact kw120
  | n + 39, h => exact absurd h (Nat.not_lt.mpr (Nat.le_add_left _ _))
theorem kw121 : Cond.fieldLink RX0 9 "MoreThanHalf$Acquaintances" "street" "LMoreThanHalf$Street;" ∈ tbG := mG (tt2 (List.mem_of_getElem? (i := 106) rfl)) rfl
theorem fl_X0_9 : FL RX0 9 0 0 (RX0, TX0, 3) := ⟨inX0, rfl, by decide, kw121⟩
theorem kw122 : Cond.fieldLink RX0 15 "MoreThanHalf$Acquaintances" "told" "LMoreThanHalf$Row;" ∈ tbG := mG (tt2 (List.mem_of_getElem? (i := 107) rfl)) rfl
theorem fl_X0_15 : FL RX0 15 0 1 (RX0, TX0, 3) := ⟨inX0, rfl, by decide, kw122⟩
theorem kw123 : Cond.fieldLink RX0 24 "MoreThanHalf$Acquaintances" "trial" "LMoreThanHalf$Hearing;" ∈ tbG := mG (tt2 (List.mem_of_getElem? (i := 108) rfl)) rfl
theorem fl_X0_24 : FL RX0 24 0 2 (RX0, TX0, 3) := ⟨inX0, rfl, by decide, kw123⟩
theorem fl_X0_60 : FN RX0 60 8 5 (RX8, TX8, 9) "MoreThanHalf" := ⟨inX8, rfl, by decide, List.mem_filter.mpr ⟨tt1 (List.mem_of_getElem? (i := 79) rfl), rfl⟩⟩
theorem kw124 : Cond.fieldLink RX1 11 "MoreThanHalf$Hearing" "low" "[J" ∈ tbG := mG (tt1 (List.mem_of_getElem? (i := 192) rfl)) rfl
theorem fl_X1_11 : FL RX1 11 1 1 (RX1, TX1, 10) := ⟨inX1, rfl, by decide, kw124⟩
theorem kw125 : Cond.fieldLink RX1 15 "MoreThanHalf$Hearing" "high" "[J" ∈ tbG := mG (tt1 (List.mem_of_getElem? (i := 193) rfl)) rfl
theorem fl_X1_15 : FL RX1 15 1 2 (RX1, TX1, 10) := ⟨inX1, rfl, by decide, kw125⟩
theorem kw126 : Cond.fieldLink RX1 18 "MoreThanHalf$Hearing" "all" "[I" ∈ tbG := mG (tt1 (List.mem_of_getElem? (i := 194) rfl)) rfl
theorem fl_X1_18 : FL RX1 18 1 3 (RX1, TX1, 10) := ⟨inX1, rfl, by decide, kw126⟩
theorem kw127 : Cond.fieldLink RX1 22 "MoreThanHalf$Hearing" "need" "[I" ∈ tbG := mG (tt1 (List.mem_of_getElem? (i := 195) rfl)) rfl
theorem fl_X1_22 : FL RX1 22 1 4 (RX1, TX1, 10) := ⟨inX1, rfl, by decide, kw127⟩
theorem kw128 : Cond.fieldLink RX1 25 "MoreThanHalf$Hearing" "known" "[I" ∈ tbG := mG (tt1 (List.mem_of_getElem? (i := 199) rfl)) rfl
theorem fl_X1_25 : FL RX1 25 1 8 (RX1, TX1, 10) := ⟨inX1, rfl, by decide, kw128⟩
theorem kw129 : Cond.fieldLink RX1 28 "MoreThanHalf$Hearing" "street" "LMoreThanHalf$Street;" ∈ tbG := mG (tt1 (List.mem_of_getElem? (i := 191) rfl)) rfl
theorem fl_X1_28 : FL RX1 28 1 0 (RX1, TX1, 10) := ⟨inX1, rfl, by decide, kw129⟩
theorem kw130 : Cond.fieldLink RX1 32 "MoreThanHalf$Hearing" "moving" "I" ∈ tbG := mG (tt1 (List.mem_of_getElem? (i := 198) rfl)) rfl
theorem fl_X1_32 : FL RX1 32 1 7 (RX1, TX1, 10) := ⟨inX1, rfl, by decide, kw130⟩
theorem kw131 : Cond.fieldLink RX1 36 "MoreThanHalf$Hearing" "lowBar" "J" ∈ tbG := mG (tt1 (List.mem_of_getElem? (i := 196) rfl)) rfl
theorem fl_X1_36 : FL RX1 36 1 5 (RX1, TX1, 10) := ⟨inX1, rfl, by decide, kw131⟩
theorem kw132 : Cond.fieldLink RX1 40 "MoreThanHalf$Hearing" "highBar" "J" ∈ tbG := mG (tt1 (List.mem_of_getElem? (i := 197) rfl)) rfl
theorem fl_X1_40 : FL RX1 40 1 6 (RX1, TX1, 10) := ⟨inX1, rfl, by decide, kw132⟩
theorem fl_X1_43 : FN RX1 43 8 5 (RX8, TX8, 9) "MoreThanHalf" := ⟨inX8, rfl, by decide, List.mem_filter.mpr ⟨tt1 (List.mem_of_getElem? (i := 76) rfl), rfl⟩⟩
theorem fl_X1_48 : FN RX1 48 8 0 (RX8, TX8, 9) "MoreThanHalf" := ⟨inX8, rfl, by decide, List.mem_filter.mpr ⟨tt1 (List.mem_of_getElem? (i := 62) rfl), rfl⟩⟩
theorem fl_X1_49 : FN RX1 49 8 2 (RX8, TX8, 9) "MoreThanHalf" := ⟨inX8, rfl, by decide, List.mem_filter.mpr ⟨tt1 (List.mem_of_getElem? (i := 69) rfl), rfl⟩⟩
theorem fl_X1_61 : FN RX1 61 8 8 (RX8, TX8, 9) "MoreThanHalf" := ⟨inX8, rfl, by decide, List.mem_filter.mpr ⟨tt1 (List.mem_of_getElem? (i := 91) rfl), rfl⟩⟩
theorem kw133 : Cond.fieldLink RX1 64 "MoreThanHalf$Hearing" "version" "I" ∈ tbG := mG (tt1 (List.mem_of_getElem? (i := 200) rfl)) rfl
theorem fl_X1_64 : FL RX1 64 1 9 (RX1, TX1, 10) := ⟨inX1, rfl, by decide, kw133⟩
theorem fl_X1_73 : FN RX1 73 8 6 (RX8, TX8, 9) "MoreThanHalf" := ⟨inX8, rfl, by decide, List.mem_filter.mpr ⟨tt1 (List.mem_of_getElem? (i := 87) rfl), rfl⟩⟩
theorem kw134 : Cond.fieldLink RX10 9 "MoreThanHalf$Talking" "street" "LMoreThanHalf$Street;" ∈ tbG := mG (tt2 (List.mem_of_getElem? (i := 47) rfl)) rfl
theorem fl_X10_9 : FL RX10 9 10 0 (RX10, TX10, 7) := ⟨inX10, rfl, by decide, kw134⟩
theorem kw135 : Cond.fieldLink RX10 15 "MoreThanHalf$Talking" "hearing" "LMoreThanHalf$Hearing;" ∈ tbG := mG (tt2 (List.mem_of_getElem? (i := 48) rfl)) rfl
theorem fl_X10_15 : FL RX10 15 10 1 (RX10, TX10, 7) := ⟨inX10, rfl, by decide, kw135⟩
theorem kw136 : Cond.fieldLink RX10 19 "MoreThanHalf$Talking" "memo" "LMoreThanHalf$Memo;" ∈ tbG := mG (tt2 (List.mem_of_getElem? (i := 49) rfl)) rfl
theorem fl_X10_19 : FL RX10 19 10 2 (RX10, TX10, 7) := ⟨inX10, rfl, by decide, kw136⟩
theorem kw137 : Cond.fieldLink RX10 23 "MoreThanHalf$Talking" "told" "LMoreThanHalf$Row;" ∈ tbG := mG (tt2 (List.mem_of_getElem? (i := 50) rfl)) rfl
theorem fl_X10_23 : FL RX10 23 10 3 (RX10, TX10, 7) := ⟨inX10, rfl, by decide, kw137⟩
theorem kw138 : Cond.fieldLink RX10 64 "MoreThanHalf$Talking" "soonest" "I" ∈ tbG := mG (tt2 (List.mem_of_getElem? (i := 53) rfl)) rfl
theorem fl_X10_64 : FL RX10 64 10 6 (RX10, TX10, 7) := ⟨inX10, rfl, by decide, kw138⟩
theorem kw139 : Cond.fieldLink RX10 70 "MoreThanHalf$Talking" "sum" "I" ∈ tbG := mG (tt2 (List.mem_of_getElem? (i := 52) rfl)) rfl
theorem fl_X10_70 : FL RX10 70 10 5 (RX10, TX10, 7) := ⟨inX10, rfl, by decide, kw139⟩
theorem fl_X10_82 : FN RX10 82 8 1 (RX8, TX8, 9) "MoreThanHalf" := ⟨inX8, rfl, by decide, List.mem_filter.mpr ⟨tt1 (List.mem_of_getElem? (i := 66) rfl), rfl⟩⟩
theorem kw140 : Cond.fieldLink RX10 89 "MoreThanHalf$Talking" "wanted" "I" ∈ tbG := mG (tt2 (List.mem_of_getElem? (i := 51) rfl)) rfl
theorem fl_X10_89 : FL RX10 89 10 4 (RX10, TX10, 7) := ⟨inX10, rfl, by decide, kw140⟩
theorem fl_X10_92 : FN RX10 92 8 5 (RX8, TX8, 9) "MoreThanHalf" := ⟨inX8, rfl, by decide, List.mem_filter.mpr ⟨tt1 (List.mem_of_getElem? (i := 80) rfl), rfl⟩⟩
theorem fl_X10_108 : FN RX10 108 8 6 (RX8, TX8, 9) "MoreThanHalf" := ⟨inX8, rfl, by decide, List.mem_filter.mpr ⟨tt1 (List.mem_of_getElem? (i := 86) rfl), rfl⟩⟩
theorem kw141 : Cond.fieldLink RX11 9 "MoreThanHalf" "text" "[I" ∈ tbG := mG (tt2 (List.mem_of_getElem? (i := 116) rfl)) rfl
theorem fl_X11_9 : FL RX11 9 11 0 (RX11, TX11, 15) := ⟨inX11, rfl, by decide, kw141⟩
theorem kw142 : Cond.fieldLink RX11 16 "MoreThanHalf" "told" "LMoreThanHalf$Row;" ∈ tbG := mG (tt2 (List.mem_of_getElem? (i := 118) rfl)) rfl
theorem fl_X11_16 : FL RX11 16 11 2 (RX11, TX11, 15) := ⟨inX11, rfl, by decide, kw142⟩
theorem kw143 : Cond.fieldLink RX11 23 "MoreThanHalf" "street" "LMoreThanHalf$Street;" ∈ tbG := mG (tt2 (List.mem_of_getElem? (i := 119) rfl)) rfl
theorem fl_X11_23 : FL RX11 23 11 3 (RX11, TX11, 15) := ⟨inX11, rfl, by decide, kw143⟩
theorem kw144 : Cond.fieldLink RX11 27 "MoreThanHalf" "kept" "[LMoreThanHalf$Street;" ∈ tbG := mG (tt2 (List.mem_of_getElem? (i := 120) rfl)) rfl
theorem fl_X11_27 : FL RX11 27 11 4 (RX11, TX11, 15) := ⟨inX11, rfl, by decide, kw144⟩
theorem kw145 : Cond.fieldLink RX11 31 "MoreThanHalf" "isKept" "[Z" ∈ tbG := mG (tt2 (List.mem_of_getElem? (i := 121) rfl)) rfl
theorem fl_X11_31 : FL RX11 31 11 5 (RX11, TX11, 15) := ⟨inX11, rfl, by decide, kw145⟩
theorem kw146 : Cond.fieldLink RX11 38 "MoreThanHalf" "rules" "[LMoreThanHalf$Rule;" ∈ tbG := mG (tt2 (List.mem_of_getElem? (i := 122) rfl)) rfl
theorem fl_X11_38 : FL RX11 38 11 6 (RX11, TX11, 15) := ⟨inX11, rfl, by decide, kw146⟩
theorem kw147 : Cond.fieldLink RX11 47 "MoreThanHalf" "streetReader" "LMoreThanHalf$StreetReader;" ∈ tbG := mG (tt2 (List.mem_of_getElem? (i := 123) rfl)) rfl
theorem fl_X11_47 : FL RX11 47 11 7 (RX11, TX11, 15) := ⟨inX11, rfl, by decide, kw147⟩
theorem kw148 : Cond.fieldLink RX11 56 "MoreThanHalf" "ruleReader" "LMoreThanHalf$RuleReader;" ∈ tbG := mG (tt2 (List.mem_of_getElem? (i := 124) rfl)) rfl
theorem fl_X11_56 : FL RX11 56 11 8 (RX11, TX11, 15) := ⟨inX11, rfl, by decide, kw148⟩
theorem kw149 : Cond.fieldLink RX11 63 "MoreThanHalf" "hearing" "LMoreThanHalf$Hearing;" ∈ tbG := mG (tt2 (List.mem_of_getElem? (i := 125) rfl)) rfl
theorem fl_X11_63 : FL RX11 63 11 9 (RX11, TX11, 15) := ⟨inX11, rfl, by decide, kw149⟩
theorem kw150 : Cond.fieldLink RX11 70 "MoreThanHalf" "memo" "LMoreThanHalf$Memo;" ∈ tbG := mG (tt2 (List.mem_of_getElem? (i := 126) rfl)) rfl
theorem fl_X11_70 : FL RX11 70 11 10 (RX11, TX11, 15) := ⟨inX11, rfl, by decide, kw150⟩
theorem kw151 : Cond.fieldLink RX11 79 "MoreThanHalf" "orbits" "LMoreThanHalf$Orbits;" ∈ tbG := mG (tt2 (List.mem_of_getElem? (i := 127) rfl)) rfl
theorem fl_X11_79 : FL RX11 79 11 11 (RX11, TX11, 15) := ⟨inX11, rfl, by decide, kw151⟩
theorem kw152 : Cond.fieldLink RX11 86 "MoreThanHalf" "talking" "LMoreThanHalf$Talking;" ∈ tbG := mG (tt2 (List.mem_of_getElem? (i := 128) rfl)) rfl
theorem fl_X11_86 : FL RX11 86 11 12 (RX11, TX11, 15) := ⟨inX11, rfl, by decide, kw152⟩
theorem kw153 : Cond.fieldLink RX11 95 "MoreThanHalf" "shops" "LMoreThanHalf$Shops;" ∈ tbG := mG (tt2 (List.mem_of_getElem? (i := 129) rfl)) rfl
theorem fl_X11_95 : FL RX11 95 11 13 (RX11, TX11, 15) := ⟨inX11, rfl, by decide, kw153⟩
theorem kw154 : Cond.fieldLink RX11 104 "MoreThanHalf" "acquaintances" "LMoreThanHalf$Acquaintances;" ∈ tbG := mG (tt2 (List.mem_of_getElem? (i := 130) rfl)) rfl
theorem fl_X11_104 : FL RX11 104 11 14 (RX11, TX11, 15) := ⟨inX11, rfl, by decide, kw154⟩
theorem kw155 : Cond.fieldLink RX11 108 "MoreThanHalf" "signs" "I" ∈ tbG := mG (tt2 (List.mem_of_getElem? (i := 117) rfl)) rfl
theorem fl_X11_108 : FL RX11 108 11 1 (RX11, TX11, 15) := ⟨inX11, rfl, by decide, kw155⟩
theorem fl_X11_127 : FN RX11 127 8 0 (RX8, TX8, 9) "MoreThanHalf" := ⟨inX8, rfl, by decide, List.mem_filter.mpr ⟨tt1 (List.mem_of_getElem? (i := 63) rfl), rfl⟩⟩
theorem fl_X11_130 : FN RX11 130 8 1 (RX8, TX8, 9) "MoreThanHalf" := ⟨inX8, rfl, by decide, List.mem_filter.mpr ⟨tt1 (List.mem_of_getElem? (i := 67) rfl), rfl⟩⟩
theorem fl_X11_133 : FN RX11 133 8 6 (RX8, TX8, 9) "MoreThanHalf" := ⟨inX8, rfl, by decide, List.mem_filter.mpr ⟨tt1 (List.mem_of_getElem? (i := 84) rfl), rfl⟩⟩
theorem fl_X11_151 : FN RX11 151 8 2 (RX8, TX8, 9) "MoreThanHalf" := ⟨inX8, rfl, by decide, List.mem_filter.mpr ⟨tt1 (List.mem_of_getElem? (i := 70) rfl), rfl⟩⟩
theorem fl_X11_155 : FN RX11 155 8 5 (RX8, TX8, 9) "MoreThanHalf" := ⟨inX8, rfl, by decide, List.mem_filter.mpr ⟨tt1 (List.mem_of_getElem? (i := 81) rfl), rfl⟩⟩
theorem fl_X11_170 : FN RX11 170 8 7 (RX8, TX8, 9) "MoreThanHalf" := ⟨inX8, rfl, by decide, List.mem_filter.mpr ⟨tt1 (List.mem_of_getElem? (i := 89) rfl), rfl⟩⟩
theorem fl_X11_173 : FN RX11 173 8 3 (RX8, TX8, 9) "MoreThanHalf" := ⟨inX8, rfl, by decide, List.mem_filter.mpr ⟨tt1 (List.mem_of_getElem? (i := 72) rfl), rfl⟩⟩
theorem fl_X11_195 : FN RX11 195 3 5 (RX3, TX3, 10) "MoreThanHalf" := ⟨inX3, rfl, by decide, List.mem_filter.mpr ⟨tt2 (List.mem_of_getElem? (i := 11) rfl), rfl⟩⟩
theorem fl_X11_202 : FN RX11 202 3 6 (RX3, TX3, 10) "MoreThanHalf" := ⟨inX3, rfl, by decide, List.mem_filter.mpr ⟨tt2 (List.mem_of_getElem? (i := 13) rfl), rfl⟩⟩
theorem fl_X11_207 : FN RX11 207 3 7 (RX3, TX3, 10) "MoreThanHalf" := ⟨inX3, rfl, by decide, List.mem_filter.mpr ⟨tt2 (List.mem_of_getElem? (i := 15) rfl), rfl⟩⟩
theorem fl_X11_210 : FN RX11 210 3 4 (RX3, TX3, 10) "MoreThanHalf" := ⟨inX3, rfl, by decide, List.mem_filter.mpr ⟨tt2 (List.mem_of_getElem? (i := 9) rfl), rfl⟩⟩
theorem fl_X11_219 : FN RX11 219 3 8 (RX3, TX3, 10) "MoreThanHalf" := ⟨inX3, rfl, by decide, List.mem_filter.mpr ⟨tt2 (List.mem_of_getElem? (i := 17) rfl), rfl⟩⟩
theorem fl_X11_222 : FN RX11 222 3 9 (RX3, TX3, 10) "MoreThanHalf" := ⟨inX3, rfl, by decide, List.mem_filter.mpr ⟨tt2 (List.mem_of_getElem? (i := 19) rfl), rfl⟩⟩
theorem fl_X11_334 : FN RX11 334 4 1 (RX4, TX4, 2) "MoreThanHalf" := ⟨inX4, rfl, by decide, List.mem_filter.mpr ⟨tt1 (List.mem_of_getElem? (i := 44) rfl), rfl⟩⟩
theorem fl_X11_340 : FN RX11 340 4 0 (RX4, TX4, 2) "MoreThanHalf" := ⟨inX4, rfl, by decide, List.mem_filter.mpr ⟨tt1 (List.mem_of_getElem? (i := 42) rfl), rfl⟩⟩
theorem kw156 : Cond.fieldLink RX12 9 "MoreThanHalfModel" "need" "[I" ∈ tbG := mG (tt6 (List.mem_of_getElem? (i := 116) rfl)) rfl
theorem fl_X12_9 : FL RX12 9 12 1 (RX12, TX12, 39) := ⟨inX12, rfl, by decide, kw156⟩
theorem kw157 : Cond.fieldLink RX12 13 "MoreThanHalfModel" "price" "[I" ∈ tbG := mG (tt6 (List.mem_of_getElem? (i := 117) rfl)) rfl
theorem fl_X12_13 : FL RX12 13 12 2 (RX12, TX12, 39) := ⟨inX12, rfl, by decide, kw157⟩
theorem kw158 : Cond.fieldLink RX12 16 "MoreThanHalfModel" "loud" "[I" ∈ tbG := mG (tt6 (List.mem_of_getElem? (i := 119) rfl)) rfl
theorem fl_X12_16 : FL RX12 16 12 4 (RX12, TX12, 39) := ⟨inX12, rfl, by decide, kw158⟩
theorem kw159 : Cond.fieldLink RX12 19 "MoreThanHalfModel" "states" "[I" ∈ tbG := mG (tt6 (List.mem_of_getElem? (i := 120) rfl)) rfl
theorem fl_X12_19 : FL RX12 19 12 5 (RX12, TX12, 39) := ⟨inX12, rfl, by decide, kw159⟩
theorem kw160 : Cond.fieldLink RX12 22 "MoreThanHalfModel" "text" "[B" ∈ tbG := mG (tt6 (List.mem_of_getElem? (i := 122) rfl)) rfl
theorem fl_X12_22 : FL RX12 22 12 7 (RX12, TX12, 39) := ⟨inX12, rfl, by decide, kw160⟩
theorem kw161 : Cond.fieldLink RX12 26 "MoreThanHalfModel" "row" "[J" ∈ tbG := mG (tt6 (List.mem_of_getElem? (i := 124) rfl)) rfl
theorem fl_X12_26 : FL RX12 26 12 9 (RX12, TX12, 39) := ⟨inX12, rfl, by decide, kw161⟩
theorem kw162 : Cond.fieldLink RX12 30 "MoreThanHalfModel" "line" "[I" ∈ tbG := mG (tt6 (List.mem_of_getElem? (i := 132) rfl)) rfl
theorem fl_X12_30 : FL RX12 30 12 17 (RX12, TX12, 39) := ⟨inX12, rfl, by decide, kw162⟩
theorem kw163 : Cond.fieldLink RX12 33 "MoreThanHalfModel" "cameOn" "[I" ∈ tbG := mG (tt6 (List.mem_of_getElem? (i := 133) rfl)) rfl
theorem fl_X12_33 : FL RX12 33 12 18 (RX12, TX12, 39) := ⟨inX12, rfl, by decide, kw163⟩
theorem kw164 : Cond.fieldLink RX12 36 "MoreThanHalfModel" "cameIn" "[I" ∈ tbG := mG (tt6 (List.mem_of_getElem? (i := 134) rfl)) rfl
theorem fl_X12_36 : FL RX12 36 12 19 (RX12, TX12, 39) := ⟨inX12, rfl, by decide, kw164⟩
theorem kw165 : Cond.fieldLink RX12 39 "MoreThanHalfModel" "needWas" "[I" ∈ tbG := mG (tt6 (List.mem_of_getElem? (i := 139) rfl)) rfl
theorem fl_X12_39 : FL RX12 39 12 24 (RX12, TX12, 39) := ⟨inX12, rfl, by decide, kw165⟩
theorem kw166 : Cond.fieldLink RX12 42 "MoreThanHalfModel" "far" "[I" ∈ tbG := mG (tt6 (List.mem_of_getElem? (i := 140) rfl)) rfl
theorem fl_X12_42 : FL RX12 42 12 25 (RX12, TX12, 39) := ⟨inX12, rfl, by decide, kw166⟩
theorem kw167 : Cond.fieldLink RX12 45 "MoreThanHalfModel" "isLast" "[Z" ∈ tbG := mG (tt6 (List.mem_of_getElem? (i := 141) rfl)) rfl
theorem fl_X12_45 : FL RX12 45 12 26 (RX12, TX12, 39) := ⟨inX12, rfl, by decide, kw167⟩
theorem kw168 : Cond.fieldLink RX12 50 "MoreThanHalfModel" "sums" "[I" ∈ tbG := mG (tt6 (List.mem_of_getElem? (i := 142) rfl)) rfl
theorem fl_X12_50 : FL RX12 50 12 27 (RX12, TX12, 39) := ⟨inX12, rfl, by decide, kw168⟩
theorem kw169 : Cond.fieldLink RX12 53 "MoreThanHalfModel" "sumsIn" "[I" ∈ tbG := mG (tt6 (List.mem_of_getElem? (i := 143) rfl)) rfl
theorem fl_X12_53 : FL RX12 53 12 28 (RX12, TX12, 39) := ⟨inX12, rfl, by decide, kw169⟩
theorem kw170 : Cond.fieldLink RX12 58 "MoreThanHalfModel" "rules" "[[B" ∈ tbG := mG (tt6 (List.mem_of_getElem? (i := 144) rfl)) rfl
theorem fl_X12_58 : FL RX12 58 12 29 (RX12, TX12, 39) := ⟨inX12, rfl, by decide, kw170⟩
theorem kw171 : Cond.fieldLink RX12 61 "MoreThanHalfModel" "ruleSize" "[I" ∈ tbG := mG (tt6 (List.mem_of_getElem? (i := 145) rfl)) rfl
theorem fl_X12_61 : FL RX12 61 12 30 (RX12, TX12, 39) := ⟨inX12, rfl, by decide, kw171⟩
theorem kw172 : Cond.fieldLink RX12 64 "MoreThanHalfModel" "askedOne" "I" ∈ tbG := mG (tt6 (List.mem_of_getElem? (i := 147) rfl)) rfl
theorem fl_X12_64 : FL RX12 64 12 32 (RX12, TX12, 39) := ⟨inX12, rfl, by decide, kw172⟩
theorem kw173 : Cond.fieldLink RX12 68 "MoreThanHalfModel" "loudWas" "[I" ∈ tbG := mG (tt6 (List.mem_of_getElem? (i := 149) rfl)) rfl
theorem fl_X12_68 : FL RX12 68 12 34 (RX12, TX12, 39) := ⟨inX12, rfl, by decide, kw173⟩
theorem kw174 : Cond.fieldLink RX12 71 "MoreThanHalfModel" "kept" "[I" ∈ tbG := mG (tt6 (List.mem_of_getElem? (i := 151) rfl)) rfl
theorem fl_X12_71 : FL RX12 71 12 36 (RX12, TX12, 39) := ⟨inX12, rfl, by decide, kw174⟩
theorem kw175 : Cond.fieldLink RX12 74 "MoreThanHalfModel" "isKept" "[Z" ∈ tbG := mG (tt6 (List.mem_of_getElem? (i := 152) rfl)) rfl
theorem fl_X12_74 : FL RX12 74 12 37 (RX12, TX12, 39) := ⟨inX12, rfl, by decide, kw175⟩
theorem kw176 : Cond.fieldLink RX12 77 "MoreThanHalfModel" "keptTold" "[I" ∈ tbG := mG (tt6 (List.mem_of_getElem? (i := 153) rfl)) rfl
theorem fl_X12_77 : FL RX12 77 12 38 (RX12, TX12, 39) := ⟨inX12, rfl, by decide, kw176⟩
theorem kw177 : Cond.fieldLink RX12 80 "MoreThanHalfModel" "thrown" "I" ∈ tbG := mG (tt6 (List.mem_of_getElem? (i := 126) rfl)) rfl
theorem fl_X12_80 : FL RX12 80 12 11 (RX12, TX12, 39) := ⟨inX12, rfl, by decide, kw177⟩
theorem kw178 : Cond.fieldLink RX12 83 "MoreThanHalfModel" "rowMany" "I" ∈ tbG := mG (tt6 (List.mem_of_getElem? (i := 125) rfl)) rfl
theorem fl_X12_83 : FL RX12 83 12 10 (RX12, TX12, 39) := ⟨inX12, rfl, by decide, kw178⟩
theorem kw179 : Cond.fieldLink RX12 86 "MoreThanHalfModel" "people" "I" ∈ tbG := mG (tt6 (List.mem_of_getElem? (i := 115) rfl)) rfl
theorem fl_X12_86 : FL RX12 86 12 0 (RX12, TX12, 39) := ⟨inX12, rfl, by decide, kw179⟩
theorem kw180 : Cond.fieldLink RX12 97 "MoreThanHalfModel" "days" "I" ∈ tbG := mG (tt6 (List.mem_of_getElem? (i := 121) rfl)) rfl
theorem fl_X12_97 : FL RX12 97 12 6 (RX12, TX12, 39) := ⟨inX12, rfl, by decide, kw180⟩
theorem kw181 : Cond.fieldLink RX12 100 "MoreThanHalfModel" "typed" "I" ∈ tbG := mG (tt6 (List.mem_of_getElem? (i := 123) rfl)) rfl
theorem fl_X12_100 : FL RX12 100 12 8 (RX12, TX12, 39) := ⟨inX12, rfl, by decide, kw181⟩
theorem kw182 : Cond.fieldLink RX12 103 "MoreThanHalfModel" "read" "[B" ∈ tbG := mG (tt6 (List.mem_of_getElem? (i := 127) rfl)) rfl
theorem fl_X12_103 : FL RX12 103 12 12 (RX12, TX12, 39) := ⟨inX12, rfl, by decide, kw182⟩
theorem kw183 : Cond.fieldLink RX12 106 "MoreThanHalfModel" "size" "I" ∈ tbG := mG (tt6 (List.mem_of_getElem? (i := 128) rfl)) rfl
theorem fl_X12_106 : FL RX12 106 12 13 (RX12, TX12, 39) := ⟨inX12, rfl, by decide, kw183⟩
theorem kw184 : Cond.fieldLink RX12 109 "MoreThanHalfModel" "top" "I" ∈ tbG := mG (tt6 (List.mem_of_getElem? (i := 129) rfl)) rfl
theorem fl_X12_109 : FL RX12 109 12 14 (RX12, TX12, 39) := ⟨inX12, rfl, by decide, kw184⟩
theorem kw185 : Cond.fieldLink RX12 112 "MoreThanHalfModel" "at" "I" ∈ tbG := mG (tt6 (List.mem_of_getElem? (i := 130) rfl)) rfl
theorem fl_X12_112 : FL RX12 112 12 15 (RX12, TX12, 39) := ⟨inX12, rfl, by decide, kw185⟩
theorem kw186 : Cond.fieldLink RX12 115 "MoreThanHalfModel" "wrong" "I" ∈ tbG := mG (tt6 (List.mem_of_getElem? (i := 131) rfl)) rfl
theorem fl_X12_115 : FL RX12 115 12 16 (RX12, TX12, 39) := ⟨inX12, rfl, by decide, kw186⟩
theorem kw187 : Cond.fieldLink RX12 140 "MoreThanHalfModel" "firm" "I" ∈ tbG := mG (tt6 (List.mem_of_getElem? (i := 118) rfl)) rfl
theorem fl_X12_140 : FL RX12 140 12 3 (RX12, TX12, 39) := ⟨inX12, rfl, by decide, kw187⟩
theorem kw188 : Cond.fieldLink RX12 154 "MoreThanHalfModel" "peopleTold" "I" ∈ tbG := mG (tt6 (List.mem_of_getElem? (i := 150) rfl)) rfl
theorem fl_X12_154 : FL RX12 154 12 35 (RX12, TX12, 39) := ⟨inX12, rfl, by decide, kw188⟩
theorem kw189 : Cond.fieldLink RX12 202 "MoreThanHalfModel" "question" "I" ∈ tbG := mG (tt6 (List.mem_of_getElem? (i := 135) rfl)) rfl
theorem fl_X12_202 : FL RX12 202 12 20 (RX12, TX12, 39) := ⟨inX12, rfl, by decide, kw189⟩
theorem kw190 : Cond.fieldLink RX12 205 "MoreThanHalfModel" "restIn" "I" ∈ tbG := mG (tt6 (List.mem_of_getElem? (i := 136) rfl)) rfl
theorem fl_X12_205 : FL RX12 205 12 21 (RX12, TX12, 39) := ⟨inX12, rfl, by decide, kw190⟩
theorem kw191 : Cond.fieldLink RX12 208 "MoreThanHalfModel" "restRound" "I" ∈ tbG := mG (tt6 (List.mem_of_getElem? (i := 137) rfl)) rfl
theorem fl_X12_208 : FL RX12 208 12 22 (RX12, TX12, 39) := ⟨inX12, rfl, by decide, kw191⟩
theorem kw192 : Cond.fieldLink RX12 211 "MoreThanHalfModel" "restState" "I" ∈ tbG := mG (tt6 (List.mem_of_getElem? (i := 138) rfl)) rfl
theorem fl_X12_211 : FL RX12 211 12 23 (RX12, TX12, 39) := ⟨inX12, rfl, by decide, kw192⟩
theorem kw193 : Cond.fieldLink RX12 298 "MoreThanHalfModel" "askedState" "I" ∈ tbG := mG (tt6 (List.mem_of_getElem? (i := 148) rfl)) rfl
theorem fl_X12_298 : FL RX12 298 12 33 (RX12, TX12, 39) := ⟨inX12, rfl, by decide, kw193⟩
theorem kw194 : Cond.fieldLink RX12 301 "MoreThanHalfModel" "askedShop" "I" ∈ tbG := mG (tt6 (List.mem_of_getElem? (i := 146) rfl)) rfl
theorem fl_X12_301 : FL RX12 301 12 31 (RX12, TX12, 39) := ⟨inX12, rfl, by decide, kw194⟩
theorem kw195 : Cond.fieldLink RX2 11 "MoreThanHalf$Memo" "cells" "[I" ∈ tbG := mG (tt1 (List.mem_of_getElem? (i := 228) rfl)) rfl
theorem fl_X2_11 : FL RX2 11 2 0 (RX2, TX2, 3) := ⟨inX2, rfl, by decide, kw195⟩
theorem kw196 : Cond.fieldLink RX2 15 "MoreThanHalf$Memo" "size" "I" ∈ tbG := mG (tt1 (List.mem_of_getElem? (i := 229) rfl)) rfl
theorem fl_X2_15 : FL RX2 15 2 1 (RX2, TX2, 3) := ⟨inX2, rfl, by decide, kw196⟩
theorem kw197 : Cond.fieldLink RX2 19 "MoreThanHalf$Memo" "stamp" "I" ∈ tbG := mG (tt1 (List.mem_of_getElem? (i := 230) rfl)) rfl
theorem fl_X2_19 : FL RX2 19 2 2 (RX2, TX2, 3) := ⟨inX2, rfl, by decide, kw197⟩
theorem kw198 : Cond.fieldLink RX3 9 "MoreThanHalf$Orbits" "street" "LMoreThanHalf$Street;" ∈ tbG := mG (tt2 (List.mem_of_getElem? (i := 4) rfl)) rfl
theorem fl_X3_9 : FL RX3 9 3 0 (RX3, TX3, 10) := ⟨inX3, rfl, by decide, kw198⟩
theorem kw199 : Cond.fieldLink RX3 15 "MoreThanHalf$Orbits" "hearing" "LMoreThanHalf$Hearing;" ∈ tbG := mG (tt2 (List.mem_of_getElem? (i := 5) rfl)) rfl
theorem fl_X3_15 : FL RX3 15 3 1 (RX3, TX3, 10) := ⟨inX3, rfl, by decide, kw199⟩
theorem kw200 : Cond.fieldLink RX3 19 "MoreThanHalf$Orbits" "memo" "LMoreThanHalf$Memo;" ∈ tbG := mG (tt2 (List.mem_of_getElem? (i := 6) rfl)) rfl
theorem fl_X3_19 : FL RX3 19 3 2 (RX3, TX3, 10) := ⟨inX3, rfl, by decide, kw200⟩
theorem kw201 : Cond.fieldLink RX3 23 "MoreThanHalf$Orbits" "told" "LMoreThanHalf$Row;" ∈ tbG := mG (tt2 (List.mem_of_getElem? (i := 7) rfl)) rfl
theorem fl_X3_23 : FL RX3 23 3 3 (RX3, TX3, 10) := ⟨inX3, rfl, by decide, kw201⟩
theorem fl_X3_27 : FN RX3 27 8 5 (RX8, TX8, 9) "MoreThanHalf" := ⟨inX8, rfl, by decide, List.mem_filter.mpr ⟨tt1 (List.mem_of_getElem? (i := 75) rfl), rfl⟩⟩
theorem kw202 : Cond.fieldLink RX3 57 "MoreThanHalf$Orbits" "till" "I" ∈ tbG := mG (tt2 (List.mem_of_getElem? (i := 8) rfl)) rfl
theorem fl_X3_57 : FL RX3 57 3 4 (RX3, TX3, 10) := ⟨inX3, rfl, by decide, kw202⟩
theorem kw203 : Cond.fieldLink RX3 60 "MoreThanHalf$Orbits" "period" "I" ∈ tbG := mG (tt2 (List.mem_of_getElem? (i := 10) rfl)) rfl
theorem fl_X3_60 : FL RX3 60 3 5 (RX3, TX3, 10) := ⟨inX3, rfl, by decide, kw203⟩
theorem kw204 : Cond.fieldLink RX3 63 "MoreThanHalf$Orbits" "entry" "I" ∈ tbG := mG (tt2 (List.mem_of_getElem? (i := 12) rfl)) rfl
theorem fl_X3_63 : FL RX3 63 3 6 (RX3, TX3, 10) := ⟨inX3, rfl, by decide, kw204⟩
theorem kw205 : Cond.fieldLink RX3 69 "MoreThanHalf$Orbits" "least" "I" ∈ tbG := mG (tt2 (List.mem_of_getElem? (i := 14) rfl)) rfl
theorem fl_X3_69 : FL RX3 69 3 7 (RX3, TX3, 10) := ⟨inX3, rfl, by decide, kw205⟩
theorem kw206 : Cond.fieldLink RX3 72 "MoreThanHalf$Orbits" "always" "I" ∈ tbG := mG (tt2 (List.mem_of_getElem? (i := 16) rfl)) rfl
theorem fl_X3_72 : FL RX3 72 3 8 (RX3, TX3, 10) := ⟨inX3, rfl, by decide, kw206⟩
theorem kw207 : Cond.fieldLink RX3 75 "MoreThanHalf$Orbits" "ever" "I" ∈ tbG := mG (tt2 (List.mem_of_getElem? (i := 18) rfl)) rfl
theorem fl_X3_75 : FL RX3 75 3 9 (RX3, TX3, 10) := ⟨inX3, rfl, by decide, kw207⟩
theorem fl_X3_83 : FN RX3 83 8 6 (RX8, TX8, 9) "MoreThanHalf" := ⟨inX8, rfl, by decide, List.mem_filter.mpr ⟨tt1 (List.mem_of_getElem? (i := 82) rfl), rfl⟩⟩
theorem kw208 : Cond.fieldLink RX4 9 "MoreThanHalf$Row" "numbers" "[J" ∈ tbG := mG (tt1 (List.mem_of_getElem? (i := 41) rfl)) rfl
theorem fl_X4_9 : FL RX4 9 4 0 (RX4, TX4, 2) := ⟨inX4, rfl, by decide, kw208⟩
theorem kw209 : Cond.fieldLink RX4 13 "MoreThanHalf$Row" "size" "I" ∈ tbG := mG (tt1 (List.mem_of_getElem? (i := 43) rfl)) rfl
theorem fl_X4_13 : FL RX4 13 4 1 (RX4, TX4, 2) := ⟨inX4, rfl, by decide, kw209⟩
theorem kw210 : Cond.fieldLink RX5 9 "MoreThanHalf$Rule" "codes" "[I" ∈ tbG := mG (tt1 (List.mem_of_getElem? (i := 119) rfl)) rfl
theorem fl_X5_9 : FL RX5 9 5 0 (RX5, TX5, 4) := ⟨inX5, rfl, by decide, kw210⟩
theorem kw211 : Cond.fieldLink RX5 15 "MoreThanHalf$Rule" "stack" "[I" ∈ tbG := mG (tt1 (List.mem_of_getElem? (i := 120) rfl)) rfl
theorem fl_X5_15 : FL RX5 15 5 1 (RX5, TX5, 4) := ⟨inX5, rfl, by decide, kw211⟩
theorem kw212 : Cond.fieldLink RX5 18 "MoreThanHalf$Rule" "size" "I" ∈ tbG := mG (tt1 (List.mem_of_getElem? (i := 121) rfl)) rfl
theorem fl_X5_18 : FL RX5 18 5 2 (RX5, TX5, 4) := ⟨inX5, rfl, by decide, kw212⟩
theorem kw213 : Cond.fieldLink RX5 22 "MoreThanHalf$Rule" "top" "I" ∈ tbG := mG (tt1 (List.mem_of_getElem? (i := 122) rfl)) rfl
theorem fl_X5_22 : FL RX5 22 5 3 (RX5, TX5, 4) := ⟨inX5, rfl, by decide, kw213⟩
theorem kw214 : Cond.fieldLink RX6 12 "MoreThanHalf$RuleReader" "spare" "LMoreThanHalf$Rule;" ∈ tbG := mG (tt1 (List.mem_of_getElem? (i := 170) rfl)) rfl
theorem fl_X6_12 : FL RX6 12 6 1 (RX6, TX6, 5) := ⟨inX6, rfl, by decide, kw214⟩
theorem kw215 : Cond.fieldLink RX6 18 "MoreThanHalf$RuleReader" "rules" "[LMoreThanHalf$Rule;" ∈ tbG := mG (tt1 (List.mem_of_getElem? (i := 169) rfl)) rfl
theorem fl_X6_18 : FL RX6 18 6 0 (RX6, TX6, 5) := ⟨inX6, rfl, by decide, kw215⟩
theorem kw216 : Cond.fieldLink RX6 22 "MoreThanHalf$RuleReader" "text" "[I" ∈ tbG := mG (tt1 (List.mem_of_getElem? (i := 171) rfl)) rfl
theorem fl_X6_22 : FL RX6 22 6 2 (RX6, TX6, 5) := ⟨inX6, rfl, by decide, kw216⟩
theorem kw217 : Cond.fieldLink RX6 32 "MoreThanHalf$RuleReader" "limit" "I" ∈ tbG := mG (tt1 (List.mem_of_getElem? (i := 172) rfl)) rfl
theorem fl_X6_32 : FL RX6 32 6 3 (RX6, TX6, 5) := ⟨inX6, rfl, by decide, kw217⟩
theorem kw218 : Cond.fieldLink RX6 36 "MoreThanHalf$RuleReader" "at" "I" ∈ tbG := mG (tt1 (List.mem_of_getElem? (i := 173) rfl)) rfl
theorem fl_X6_36 : FL RX6 36 6 4 (RX6, TX6, 5) := ⟨inX6, rfl, by decide, kw218⟩
theorem kw219 : Cond.fieldLink RX7 11 "MoreThanHalf$Shops" "facts" "[[I" ∈ tbG := mG (tt2 (List.mem_of_getElem? (i := 81) rfl)) rfl
theorem fl_X7_11 : FL RX7 11 7 5 (RX7, TX7, 7) := ⟨inX7, rfl, by decide, kw219⟩
theorem kw220 : Cond.fieldLink RX7 16 "MoreThanHalf$Shops" "paid" "[I" ∈ tbG := mG (tt2 (List.mem_of_getElem? (i := 82) rfl)) rfl
theorem fl_X7_16 : FL RX7 16 7 6 (RX7, TX7, 7) := ⟨inX7, rfl, by decide, kw220⟩
theorem kw221 : Cond.fieldLink RX7 20 "MoreThanHalf$Shops" "street" "LMoreThanHalf$Street;" ∈ tbG := mG (tt2 (List.mem_of_getElem? (i := 76) rfl)) rfl
theorem fl_X7_20 : FL RX7 20 7 0 (RX7, TX7, 7) := ⟨inX7, rfl, by decide, kw221⟩
theorem kw222 : Cond.fieldLink RX7 24 "MoreThanHalf$Shops" "hearing" "LMoreThanHalf$Hearing;" ∈ tbG := mG (tt2 (List.mem_of_getElem? (i := 77) rfl)) rfl
theorem fl_X7_24 : FL RX7 24 7 1 (RX7, TX7, 7) := ⟨inX7, rfl, by decide, kw222⟩
theorem kw223 : Cond.fieldLink RX7 28 "MoreThanHalf$Shops" "memo" "LMoreThanHalf$Memo;" ∈ tbG := mG (tt2 (List.mem_of_getElem? (i := 78) rfl)) rfl
theorem fl_X7_28 : FL RX7 28 7 2 (RX7, TX7, 7) := ⟨inX7, rfl, by decide, kw223⟩
theorem kw224 : Cond.fieldLink RX7 32 "MoreThanHalf$Shops" "rules" "[LMoreThanHalf$Rule;" ∈ tbG := mG (tt2 (List.mem_of_getElem? (i := 79) rfl)) rfl
theorem fl_X7_32 : FL RX7 32 7 3 (RX7, TX7, 7) := ⟨inX7, rfl, by decide, kw224⟩
theorem kw225 : Cond.fieldLink RX7 36 "MoreThanHalf$Shops" "told" "LMoreThanHalf$Row;" ∈ tbG := mG (tt2 (List.mem_of_getElem? (i := 80) rfl)) rfl
theorem fl_X7_36 : FL RX7 36 7 4 (RX7, TX7, 7) := ⟨inX7, rfl, by decide, kw225⟩
theorem fl_X7_40 : FN RX7 40 8 5 (RX8, TX8, 9) "MoreThanHalf" := ⟨inX8, rfl, by decide, List.mem_filter.mpr ⟨tt1 (List.mem_of_getElem? (i := 74) rfl), rfl⟩⟩
theorem fl_X7_46 : FN RX7 46 8 0 (RX8, TX8, 9) "MoreThanHalf" := ⟨inX8, rfl, by decide, List.mem_filter.mpr ⟨tt1 (List.mem_of_getElem? (i := 61) rfl), rfl⟩⟩
theorem fl_X7_49 : FN RX7 49 8 1 (RX8, TX8, 9) "MoreThanHalf" := ⟨inX8, rfl, by decide, List.mem_filter.mpr ⟨tt1 (List.mem_of_getElem? (i := 65) rfl), rfl⟩⟩
theorem fl_X7_81 : FN RX7 81 8 6 (RX8, TX8, 9) "MoreThanHalf" := ⟨inX8, rfl, by decide, List.mem_filter.mpr ⟨tt1 (List.mem_of_getElem? (i := 83) rfl), rfl⟩⟩
theorem kw226 : Cond.fieldLink RX8 9 "MoreThanHalf$Street" "need" "[I" ∈ tbG := mG (tt1 (List.mem_of_getElem? (i := 60) rfl)) rfl
theorem fl_X8_9 : FL RX8 9 8 0 (RX8, TX8, 9) := ⟨inX8, rfl, by decide, kw226⟩
theorem kw227 : Cond.fieldLink RX8 15 "MoreThanHalf$Street" "price" "[I" ∈ tbG := mG (tt1 (List.mem_of_getElem? (i := 64) rfl)) rfl
theorem fl_X8_15 : FL RX8 15 8 1 (RX8, TX8, 9) := ⟨inX8, rfl, by decide, kw227⟩
theorem kw228 : Cond.fieldLink RX8 20 "MoreThanHalf$Street" "loud" "[[I" ∈ tbG := mG (tt1 (List.mem_of_getElem? (i := 68) rfl)) rfl
theorem fl_X8_20 : FL RX8 20 8 2 (RX8, TX8, 9) := ⟨inX8, rfl, by decide, kw228⟩
theorem kw229 : Cond.fieldLink RX8 23 "MoreThanHalf$Street" "states" "[I" ∈ tbG := mG (tt1 (List.mem_of_getElem? (i := 71) rfl)) rfl
theorem fl_X8_23 : FL RX8 23 8 3 (RX8, TX8, 9) := ⟨inX8, rfl, by decide, kw229⟩
theorem kw230 : Cond.fieldLink RX8 26 "MoreThanHalf$Street" "nearer" "[I" ∈ tbG := mG (tt1 (List.mem_of_getElem? (i := 73) rfl)) rfl
theorem fl_X8_26 : FL RX8 26 8 4 (RX8, TX8, 9) := ⟨inX8, rfl, by decide, kw230⟩
theorem kw231 : Cond.fieldLink RX8 29 "MoreThanHalf$Street" "version" "I" ∈ tbG := mG (tt1 (List.mem_of_getElem? (i := 90) rfl)) rfl
theorem fl_X8_29 : FL RX8 29 8 8 (RX8, TX8, 9) := ⟨inX8, rfl, by decide, kw231⟩
theorem kw232 : Cond.fieldLink RX8 33 "MoreThanHalf$Street" "days" "I" ∈ tbG := mG (tt1 (List.mem_of_getElem? (i := 88) rfl)) rfl
theorem fl_X8_33 : FL RX8 33 8 7 (RX8, TX8, 9) := ⟨inX8, rfl, by decide, kw232⟩
theorem kw233 : Cond.fieldLink RX8 36 "MoreThanHalf$Street" "people" "I" ∈ tbG := mG (tt1 (List.mem_of_getElem? (i := 77) rfl)) rfl
theorem fl_X8_36 : FL RX8 36 8 5 (RX8, TX8, 9) := ⟨inX8, rfl, by decide, kw233⟩
theorem kw234 : Cond.fieldLink RX8 43 "MoreThanHalf$Street" "firm" "I" ∈ tbG := mG (tt1 (List.mem_of_getElem? (i := 85) rfl)) rfl
theorem fl_X8_43 : FL RX8 43 8 6 (RX8, TX8, 9) := ⟨inX8, rfl, by decide, kw234⟩
theorem kw235 : Cond.fieldLink RX9 9 "MoreThanHalf$StreetReader" "street" "LMoreThanHalf$Street;" ∈ tbG := mG (tt1 (List.mem_of_getElem? (i := 139) rfl)) rfl
theorem fl_X9_9 : FL RX9 9 9 0 (RX9, TX9, 7) := ⟨inX9, rfl, by decide, kw235⟩
theorem kw236 : Cond.fieldLink RX9 15 "MoreThanHalf$StreetReader" "text" "[I" ∈ tbG := mG (tt1 (List.mem_of_getElem? (i := 140) rfl)) rfl
theorem fl_X9_15 : FL RX9 15 9 1 (RX9, TX9, 7) := ⟨inX9, rfl, by decide, kw236⟩
theorem kw237 : Cond.fieldLink RX9 19 "MoreThanHalf$StreetReader" "length" "I" ∈ tbG := mG (tt1 (List.mem_of_getElem? (i := 141) rfl)) rfl
theorem fl_X9_19 : FL RX9 19 9 2 (RX9, TX9, 7) := ⟨inX9, rfl, by decide, kw237⟩
theorem kw238 : Cond.fieldLink RX9 29 "MoreThanHalf$StreetReader" "limit" "I" ∈ tbG := mG (tt1 (List.mem_of_getElem? (i := 142) rfl)) rfl
theorem fl_X9_29 : FL RX9 29 9 3 (RX9, TX9, 7) := ⟨inX9, rfl, by decide, kw238⟩
theorem kw239 : Cond.fieldLink RX9 36 "MoreThanHalf$StreetReader" "telling" "Z" ∈ tbG := mG (tt1 (List.mem_of_getElem? (i := 145) rfl)) rfl
theorem fl_X9_36 : FL RX9 36 9 6 (RX9, TX9, 7) := ⟨inX9, rfl, by decide, kw239⟩
theorem fl_X9_40 : FN RX9 40 8 5 (RX8, TX8, 9) "MoreThanHalf" := ⟨inX8, rfl, by decide, List.mem_filter.mpr ⟨tt1 (List.mem_of_getElem? (i := 78) rfl), rfl⟩⟩
theorem kw240 : Cond.fieldLink RX9 45 "MoreThanHalf$StreetReader" "there" "I" ∈ tbG := mG (tt1 (List.mem_of_getElem? (i := 144) rfl)) rfl
theorem fl_X9_45 : FL RX9 45 9 5 (RX9, TX9, 7) := ⟨inX9, rfl, by decide, kw240⟩
theorem kw241 : Cond.fieldLink RX9 48 "MoreThanHalf$StreetReader" "at" "I" ∈ tbG := mG (tt1 (List.mem_of_getElem? (i := 143) rfl)) rfl
theorem fl_X9_48 : FL RX9 48 9 4 (RX9, TX9, 7) := ⟨inX9, rfl, by decide, kw241⟩
theorem ft_X1_6 : FT (RX1, TX1, 10) 6 tyX1 .long := ⟨tyX1_ok, nmX1, rfl, by decide +kernel⟩
theorem ft_X1_8 : FT (RX1, TX1, 10) 8 tyX1 (.array .int) := ⟨tyX1_ok, nmX1, rfl, by decide +kernel⟩
theorem ft_X1_5 : FT (RX1, TX1, 10) 5 tyX1 .long := ⟨tyX1_ok, nmX1, rfl, by decide +kernel⟩
theorem ft_X1_7 : FT (RX1, TX1, 10) 7 tyX1 .int := ⟨tyX1_ok, nmX1, rfl, by decide +kernel⟩
theorem ft_X1_9 : FT (RX1, TX1, 10) 9 tyX1 .int := ⟨tyX1_ok, nmX1, rfl, by decide +kernel⟩
theorem ft_X10_6 : FT (RX10, TX10, 7) 6 tyX10 .int := ⟨tyX10_ok, nmX10, rfl, by decide +kernel⟩
theorem ft_X10_5 : FT (RX10, TX10, 7) 5 tyX10 .int := ⟨tyX10_ok, nmX10, rfl, by decide +kernel⟩
theorem ft_X10_4 : FT (RX10, TX10, 7) 4 tyX10 .int := ⟨tyX10_ok, nmX10, rfl, by decide +kernel⟩
theorem ft_X11_1 : FT (RX11, TX11, 15) 1 tyX11 .int := ⟨tyX11_ok, nmX11, rfl, by decide +kernel⟩
theorem ft_X12_32 : FT (RX12, TX12, 39) 32 tyX12 .int := ⟨tyX12_ok, nmX12, rfl, by decide +kernel⟩
theorem ft_X12_31 : FT (RX12, TX12, 39) 31 tyX12 .int := ⟨tyX12_ok, nmX12, rfl, by decide +kernel⟩
theorem ft_X12_33 : FT (RX12, TX12, 39) 33 tyX12 .int := ⟨tyX12_ok, nmX12, rfl, by decide +kernel⟩
theorem ft_X12_15 : FT (RX12, TX12, 39) 15 tyX12 .int := ⟨tyX12_ok, nmX12, rfl, by decide +kernel⟩
theorem ft_X12_6 : FT (RX12, TX12, 39) 6 tyX12 .int := ⟨tyX12_ok, nmX12, rfl, by decide +kernel⟩
theorem ft_X12_3 : FT (RX12, TX12, 39) 3 tyX12 .int := ⟨tyX12_ok, nmX12, rfl, by decide +kernel⟩
theorem ft_X12_0 : FT (RX12, TX12, 39) 0 tyX12 .int := ⟨tyX12_ok, nmX12, rfl, by decide +kernel⟩
theorem ft_X12_35 : FT (RX12, TX12, 39) 35 tyX12 .int := ⟨tyX12_ok, nmX12, rfl, by decide +kernel⟩
theorem ft_X12_20 : FT (RX12, TX12, 39) 20 tyX12 .int := ⟨tyX12_ok, nmX12, rfl, by decide +kernel⟩
theorem ft_X12_12 : FT (RX12, TX12, 39) 12 tyX12 (.array .byte) := ⟨tyX12_ok, nmX12, rfl, by decide +kernel⟩
theorem ft_X12_21 : FT (RX12, TX12, 39) 21 tyX12 .int := ⟨tyX12_ok, nmX12, rfl, by decide +kernel⟩
theorem ft_X12_22 : FT (RX12, TX12, 39) 22 tyX12 .int := ⟨tyX12_ok, nmX12, rfl, by decide +kernel⟩
theorem ft_X12_23 : FT (RX12, TX12, 39) 23 tyX12 .int := ⟨tyX12_ok, nmX12, rfl, by decide +kernel⟩
theorem ft_X12_10 : FT (RX12, TX12, 39) 10 tyX12 .int := ⟨tyX12_ok, nmX12, rfl, by decide +kernel⟩
theorem ft_X12_13 : FT (RX12, TX12, 39) 13 tyX12 .int := ⟨tyX12_ok, nmX12, rfl, by decide +kernel⟩
theorem ft_X12_11 : FT (RX12, TX12, 39) 11 tyX12 .int := ⟨tyX12_ok, nmX12, rfl, by decide +kernel⟩
theorem ft_X12_14 : FT (RX12, TX12, 39) 14 tyX12 .int := ⟨tyX12_ok, nmX12, rfl, by decide +kernel⟩
theorem ft_X12_8 : FT (RX12, TX12, 39) 8 tyX12 .int := ⟨tyX12_ok, nmX12, rfl, by decide +kernel⟩
theorem ft_X12_16 : FT (RX12, TX12, 39) 16 tyX12 .int := ⟨tyX12_ok, nmX12, rfl, by decide +kernel⟩
theorem ft_X2_0 : FT (RX2, TX2, 3) 0 tyX2 (.array .int) := ⟨tyX2_ok, nmX2, rfl, by decide +kernel⟩
theorem ft_X2_1 : FT (RX2, TX2, 3) 1 tyX2 .int := ⟨tyX2_ok, nmX2, rfl, by decide +kernel⟩
theorem ft_X2_2 : FT (RX2, TX2, 3) 2 tyX2 .int := ⟨tyX2_ok, nmX2, rfl, by decide +kernel⟩
theorem ft_X3_8 : FT (RX3, TX3, 10) 8 tyX3 .int := ⟨tyX3_ok, nmX3, rfl, by decide +kernel⟩
theorem ft_X3_6 : FT (RX3, TX3, 10) 6 tyX3 .int := ⟨tyX3_ok, nmX3, rfl, by decide +kernel⟩
theorem ft_X3_9 : FT (RX3, TX3, 10) 9 tyX3 .int := ⟨tyX3_ok, nmX3, rfl, by decide +kernel⟩
theorem ft_X3_7 : FT (RX3, TX3, 10) 7 tyX3 .int := ⟨tyX3_ok, nmX3, rfl, by decide +kernel⟩
theorem ft_X3_5 : FT (RX3, TX3, 10) 5 tyX3 .int := ⟨tyX3_ok, nmX3, rfl, by decide +kernel⟩
theorem ft_X3_4 : FT (RX3, TX3, 10) 4 tyX3 .int := ⟨tyX3_ok, nmX3, rfl, by decide +kernel⟩
theorem ft_X4_1 : FT (RX4, TX4, 2) 1 tyX4 .int := ⟨tyX4_ok, nmX4, rfl, by decide +kernel⟩
theorem ft_X5_2 : FT (RX5, TX5, 4) 2 tyX5 .int := ⟨tyX5_ok, nmX5, rfl, by decide +kernel⟩
theorem ft_X5_3 : FT (RX5, TX5, 4) 3 tyX5 .int := ⟨tyX5_ok, nmX5, rfl, by decide +kernel⟩
theorem ft_X6_4 : FT (RX6, TX6, 5) 4 tyX6 .int := ⟨tyX6_ok, nmX6, rfl, by decide +kernel⟩
theorem ft_X6_3 : FT (RX6, TX6, 5) 3 tyX6 .int := ⟨tyX6_ok, nmX6, rfl, by decide +kernel⟩
theorem ft_X6_1 : FT (RX6, TX6, 5) 1 tyX6 (.object "MoreThanHalf$Rule") := ⟨tyX6_ok, nmX6, rfl, by decide +kernel⟩
theorem ft_X6_2 : FT (RX6, TX6, 5) 2 tyX6 (.array .int) := ⟨tyX6_ok, nmX6, rfl, by decide +kernel⟩
theorem ft_X8_7 : FT (RX8, TX8, 9) 7 tyX8 .int := ⟨tyX8_ok, nmX8, rfl, by decide +kernel⟩
theorem ft_X8_6 : FT (RX8, TX8, 9) 6 tyX8 .int := ⟨tyX8_ok, nmX8, rfl, by decide +kernel⟩
theorem ft_X8_5 : FT (RX8, TX8, 9) 5 tyX8 .int := ⟨tyX8_ok, nmX8, rfl, by decide +kernel⟩
theorem ft_X8_8 : FT (RX8, TX8, 9) 8 tyX8 .int := ⟨tyX8_ok, nmX8, rfl, by decide +kernel⟩
theorem ft_X9_4 : FT (RX9, TX9, 7) 4 tyX9 .int := ⟨tyX9_ok, nmX9, rfl, by decide +kernel⟩
theorem ft_X9_2 : FT (RX9, TX9, 7) 2 tyX9 .int := ⟨tyX9_ok, nmX9, rfl, by decide +kernel⟩
theorem ft_X9_3 : FT (RX9, TX9, 7) 3 tyX9 .int := ⟨tyX9_ok, nmX9, rfl, by decide +kernel⟩
theorem ft_X9_6 : FT (RX9, TX9, 7) 6 tyX9 .boolean := ⟨tyX9_ok, nmX9, rfl, by decide +kernel⟩
theorem ft_X9_1 : FT (RX9, TX9, 7) 1 tyX9 (.array .int) := ⟨tyX9_ok, nmX9, rfl, by decide +kernel⟩
theorem ft_X9_5 : FT (RX9, TX9, 7) 5 tyX9 .int := ⟨tyX9_ok, nmX9, rfl, by decide +kernel⟩
theorem kw242 : Cond.methodLink RJ0 335 yJ0_coder_7d493 ∈ tbG := mG (tt4 (List.mem_of_getElem? (i := 228) rfl)) rfl
theorem kw243 : mdCode M_jd_coder ∈ tbG := mG (tt4 (List.mem_of_getElem? (i := 231) rfl)) rfl
theorem kw244 : Cond.initialized RJ0 ∈ tbG := mG (tt1 (List.mem_of_getElem? (i := 21) rfl)) rfl
theorem kw245 : Cond.instanceMethod yJ0_coder_7d493 ∈ tbG := mG (tt4 (List.mem_of_getElem? (i := 229) rfl)) rfl
theorem kw246 : Cond.selects yJ0_coder_7d493.cls yJ0_coder_7d493 yJ0_coder_7d493 ∈ tbG := mG (tt4 (List.mem_of_getElem? (i := 230) rfl)) rfl
theorem cv_J0_335 : CV RJ0 335 M_jd_coder 0 := ⟨⟨kw242, kw243, kw244, ⟨by decide, by decide⟩, by decide +kernel, rfl⟩, kw245, kw246⟩
theorem kw247 : Cond.methodLink RJ0 492 yJ0_isLatin1_aae02 ∈ tbG := mG (tt4 (List.mem_of_getElem? (i := 218) rfl)) rfl
theorem kw248 : mdCode M_jd_isLatin1_J0_aae02 ∈ tbG := mG (tt4 (List.mem_of_getElem? (i := 221) rfl)) rfl
theorem kw249 : Cond.instanceMethod yJ0_isLatin1_aae02 ∈ tbG := mG (tt4 (List.mem_of_getElem? (i := 219) rfl)) rfl
theorem kw250 : Cond.selects yJ0_isLatin1_aae02.cls yJ0_isLatin1_aae02 yJ0_isLatin1_aae02 ∈ tbG := mG (tt4 (List.mem_of_getElem? (i := 220) rfl)) rfl
theorem cv_J0_492 : CV RJ0 492 M_jd_isLatin1_J0_aae02 0 := ⟨⟨kw247, kw248, kw244, ⟨by decide, by decide⟩, by decide +kernel, rfl⟩, kw249, kw250⟩
theorem kw251 : Cond.methodLink RJ0 505 yJ0_length_8abf5 ∈ tbG := mG (tt4 (List.mem_of_getElem? (i := 224) rfl)) rfl
theorem kw252 : mdCode M_jd_length_J0_8abf5 ∈ tbG := mG (tt4 (List.mem_of_getElem? (i := 227) rfl)) rfl
theorem kw253 : Cond.instanceMethod yJ0_length_8abf5 ∈ tbG := mG (tt4 (List.mem_of_getElem? (i := 225) rfl)) rfl
theorem kw254 : Cond.selects yJ0_length_8abf5.cls yJ0_length_8abf5 yJ0_length_8abf5 ∈ tbG := mG (tt4 (List.mem_of_getElem? (i := 226) rfl)) rfl
theorem cv_J0_505 : CV RJ0 505 M_jd_length_J0_8abf5 0 := ⟨⟨kw251, kw252, kw244, ⟨by decide, by decide⟩, by decide +kernel, rfl⟩, kw253, kw254⟩
theorem kw255 : Cond.methodLink RJ0 633 yJ0_indexOf_7cf53 ∈ tbG := mG (tt4 (List.mem_of_getElem? (i := 214) rfl)) rfl
theorem kw256 : mdCode M_jd_indexOf_J0_7cf53 ∈ tbG := mG (tt4 (List.mem_of_getElem? (i := 217) rfl)) rfl
theorem kw257 : Cond.instanceMethod yJ0_indexOf_7cf53 ∈ tbG := mG (tt4 (List.mem_of_getElem? (i := 215) rfl)) rfl
theorem kw258 : Cond.selects yJ0_indexOf_7cf53.cls yJ0_indexOf_7cf53 yJ0_indexOf_7cf53 ∈ tbG := mG (tt4 (List.mem_of_getElem? (i := 216) rfl)) rfl
theorem cv_J0_633 : CV RJ0 633 M_jd_indexOf_J0_7cf53 2 := ⟨⟨kw255, kw256, kw244, ⟨by decide, by decide⟩, by decide +kernel, rfl⟩, kw257, kw258⟩
theorem kw259 : Cond.methodLink RJ0 637 yJ1_indexOf_4cfef ∈ tbG := mG (tt4 (List.mem_of_getElem? (i := 232) rfl)) rfl
theorem kw260 : mdCode M_jd_indexOf_J1_4cfef ∈ tbG := mG (tt4 (List.mem_of_getElem? (i := 234) rfl)) rfl
theorem kw261 : Cond.initialized RJ1 ∈ tbG := mG (tt1 (List.mem_of_getElem? (i := 22) rfl)) rfl
theorem kw262 : Cond.static yJ1_indexOf_4cfef ∈ tbG := mG (tt4 (List.mem_of_getElem? (i := 233) rfl)) rfl
theorem cs_J0_637 : CS RJ0 637 M_jd_indexOf_J1_4cfef 4 := ⟨⟨kw259, kw260, kw261, ⟨by decide, by decide⟩, by decide +kernel, rfl⟩, kw262⟩
theorem kw263 : Cond.methodLink RJ0 640 yJ2_indexOf_4cfef ∈ tbG := mG (tt5 (List.mem_of_getElem? (i := 3) rfl)) rfl
theorem kw264 : mdCode M_jd_indexOf_J2_4cfef ∈ tbG := mG (tt5 (List.mem_of_getElem? (i := 5) rfl)) rfl
theorem kw265 : Cond.initialized RJ2 ∈ tbG := mG (tt1 (List.mem_of_getElem? (i := 23) rfl)) rfl
theorem kw266 : Cond.static yJ2_indexOf_4cfef ∈ tbG := mG (tt5 (List.mem_of_getElem? (i := 4) rfl)) rfl
theorem cs_J0_640 : CS RJ0 640 M_jd_indexOf_J2_4cfef 4 := ⟨⟨kw263, kw264, kw265, ⟨by decide, by decide⟩, by decide +kernel, rfl⟩, kw266⟩
theorem kw267 : Cond.methodLink RJ0 1062 yJ3_checkFromToIndex_8c36e ∈ tbG := mG (tt5 (List.mem_of_getElem? (i := 23) rfl)) rfl
theorem kw268 : mdCode M_jd_checkFromToIndex ∈ tbG := mG (tt5 (List.mem_of_getElem? (i := 25) rfl)) rfl
theorem kw269 : Cond.initialized RJ3 ∈ tbG := mG (tt1 (List.mem_of_getElem? (i := 24) rfl)) rfl
theorem kw270 : Cond.static yJ3_checkFromToIndex_8c36e ∈ tbG := mG (tt5 (List.mem_of_getElem? (i := 24) rfl)) rfl
theorem cs_J0_1062 : CS RJ0 1062 M_jd_checkFromToIndex 4 := ⟨⟨kw267, kw268, kw269, ⟨by decide, by decide⟩, by decide +kernel, rfl⟩, kw270⟩
theorem kw271 : Cond.methodLink RJ1 38 yJ9_min_7cf53 ∈ tbG := mG (tt4 (List.mem_of_getElem? (i := 239) rfl)) rfl
theorem kw272 : mdCode M_jd_min ∈ tbG := mG (tt2 (List.mem_of_getElem? (i := 180) rfl)) rfl
theorem kw273 : Cond.initialized RJ9 ∈ tbG := mG (tt1 (List.mem_of_getElem? (i := 14) rfl)) rfl
theorem kw274 : Cond.static yJ9_min_7cf53 ∈ tbG := mG (tt2 (List.mem_of_getElem? (i := 179) rfl)) rfl
theorem cs_J1_38 : CS RJ1 38 M_jd_min 2 := ⟨⟨kw271, kw272, kw273, ⟨by decide, by decide⟩, by decide +kernel, rfl⟩, kw274⟩
theorem kw275 : Cond.methodLink RJ1 88 yJ1_canEncode_9a6ad ∈ tbG := mG (tt4 (List.mem_of_getElem? (i := 235) rfl)) rfl
theorem kw276 : mdCode M_jd_canEncode_J1_9a6ad ∈ tbG := mG (tt4 (List.mem_of_getElem? (i := 237) rfl)) rfl
theorem kw277 : Cond.static yJ1_canEncode_9a6ad ∈ tbG := mG (tt4 (List.mem_of_getElem? (i := 236) rfl)) rfl
theorem cs_J1_88 : CS RJ1 88 M_jd_canEncode_J1_9a6ad 1 := ⟨⟨kw275, kw276, kw261, ⟨by decide, by decide⟩, by decide +kernel, rfl⟩, kw277⟩
theorem kw278 : Cond.methodLink RJ1 92 yJ9_max_7cf53 ∈ tbG := mG (tt4 (List.mem_of_getElem? (i := 238) rfl)) rfl
theorem kw279 : mdCode M_jd_max ∈ tbG := mG (tt3 (List.mem_of_getElem? (i := 19) rfl)) rfl
theorem kw280 : Cond.static yJ9_max_7cf53 ∈ tbG := mG (tt3 (List.mem_of_getElem? (i := 18) rfl)) rfl
theorem cs_J1_92 : CS RJ1 92 M_jd_max 2 := ⟨⟨kw278, kw279, kw273, ⟨by decide, by decide⟩, by decide +kernel, rfl⟩, kw280⟩
theorem kw281 : Cond.methodLink RJ1 95 yJ1_indexOfChar_4cfef ∈ tbG := mG (tt5 (List.mem_of_getElem? (i := 0) rfl)) rfl
theorem kw282 : mdCode M_jd_indexOfChar_J1_4cfef ∈ tbG := mG (tt5 (List.mem_of_getElem? (i := 2) rfl)) rfl
theorem kw283 : Cond.static yJ1_indexOfChar_4cfef ∈ tbG := mG (tt5 (List.mem_of_getElem? (i := 1) rfl)) rfl
theorem cs_J1_95 : CS RJ1 95 M_jd_indexOfChar_J1_4cfef 4 := ⟨⟨kw281, kw282, kw261, ⟨by decide, by decide⟩, by decide +kernel, rfl⟩, kw283⟩
theorem kw284 : Cond.methodLink RJ2 48 yJ2_length_9d52b ∈ tbG := mG (tt5 (List.mem_of_getElem? (i := 15) rfl)) rfl
theorem kw285 : mdCode M_jd_length_J2_9d52b ∈ tbG := mG (tt5 (List.mem_of_getElem? (i := 17) rfl)) rfl
theorem kw286 : Cond.static yJ2_length_9d52b ∈ tbG := mG (tt5 (List.mem_of_getElem? (i := 16) rfl)) rfl
theorem cs_J2_48 : CS RJ2 48 M_jd_length_J2_9d52b 1 := ⟨⟨kw284, kw285, kw265, ⟨by decide, by decide⟩, by decide +kernel, rfl⟩, kw286⟩
theorem kw287 : Cond.methodLink RJ2 71 yJ2_getChar_3b067 ∈ tbG := mG (tt5 (List.mem_of_getElem? (i := 29) rfl)) rfl
theorem kw288 : mdCode M_jd_getChar ∈ tbG := mG (tt5 (List.mem_of_getElem? (i := 31) rfl)) rfl
theorem kw289 : Cond.static yJ2_getChar_3b067 ∈ tbG := mG (tt5 (List.mem_of_getElem? (i := 30) rfl)) rfl
theorem cs_J2_71 : CS RJ2 71 M_jd_getChar 2 := ⟨⟨kw287, kw288, kw265, ⟨by decide, by decide⟩, by decide +kernel, rfl⟩, kw289⟩
theorem kw290 : Cond.methodLink RJ2 96 yJ2_checkBoundsBeginEnd_d044e ∈ tbG := mG (tt5 (List.mem_of_getElem? (i := 12) rfl)) rfl
theorem kw291 : mdCode M_jd_checkBoundsBeginEnd_J2_d044e ∈ tbG := mG (tt5 (List.mem_of_getElem? (i := 14) rfl)) rfl
theorem kw292 : Cond.static yJ2_checkBoundsBeginEnd_d044e ∈ tbG := mG (tt5 (List.mem_of_getElem? (i := 13) rfl)) rfl
theorem cs_J2_96 : CS RJ2 96 M_jd_checkBoundsBeginEnd_J2_d044e 3 := ⟨⟨kw290, kw291, kw265, ⟨by decide, by decide⟩, by decide +kernel, rfl⟩, kw292⟩
theorem kw293 : Cond.methodLink RJ2 157 yJ11_highSurrogate_5068e ∈ tbG := mG (tt5 (List.mem_of_getElem? (i := 44) rfl)) rfl
theorem kw294 : mdCode M_jd_highSurrogate ∈ tbG := mG (tt5 (List.mem_of_getElem? (i := 46) rfl)) rfl
theorem kw295 : Cond.initialized RJ11 ∈ tbG := mG (tt1 (List.mem_of_getElem? (i := 25) rfl)) rfl
theorem kw296 : Cond.static yJ11_highSurrogate_5068e ∈ tbG := mG (tt5 (List.mem_of_getElem? (i := 45) rfl)) rfl
theorem cs_J2_157 : CS RJ2 157 M_jd_highSurrogate 1 := ⟨⟨kw293, kw294, kw295, ⟨by decide, by decide⟩, by decide +kernel, rfl⟩, kw296⟩
theorem kw297 : Cond.methodLink RJ2 161 yJ11_lowSurrogate_5068e ∈ tbG := mG (tt5 (List.mem_of_getElem? (i := 48) rfl)) rfl
theorem kw298 : mdCode M_jd_lowSurrogate ∈ tbG := mG (tt5 (List.mem_of_getElem? (i := 50) rfl)) rfl
theorem kw299 : Cond.static yJ11_lowSurrogate_5068e ∈ tbG := mG (tt5 (List.mem_of_getElem? (i := 49) rfl)) rfl
theorem cs_J2_161 : CS RJ2 161 M_jd_lowSurrogate 1 := ⟨⟨kw297, kw298, kw295, ⟨by decide, by decide⟩, by decide +kernel, rfl⟩, kw299⟩
theorem kw300 : Cond.methodLink RJ2 164 yJ11_isValidCodePoint_9a6ad ∈ tbG := mG (tt5 (List.mem_of_getElem? (i := 41) rfl)) rfl
theorem kw301 : mdCode M_jd_isValidCodePoint ∈ tbG := mG (tt5 (List.mem_of_getElem? (i := 43) rfl)) rfl
theorem kw302 : Cond.static yJ11_isValidCodePoint_9a6ad ∈ tbG := mG (tt5 (List.mem_of_getElem? (i := 42) rfl)) rfl
theorem cs_J2_164 : CS RJ2 164 M_jd_isValidCodePoint 1 := ⟨⟨kw300, kw301, kw295, ⟨by decide, by decide⟩, by decide +kernel, rfl⟩, kw302⟩
theorem kw303 : Cond.methodLink RJ2 183 yJ9_min_7cf53 ∈ tbG := mG (tt5 (List.mem_of_getElem? (i := 7) rfl)) rfl
theorem cs_J2_183 : CS RJ2 183 M_jd_min 2 := ⟨⟨kw303, kw272, kw273, ⟨by decide, by decide⟩, by decide +kernel, rfl⟩, kw274⟩
theorem kw304 : Cond.methodLink RJ2 224 yJ9_max_7cf53 ∈ tbG := mG (tt5 (List.mem_of_getElem? (i := 6) rfl)) rfl
theorem cs_J2_224 : CS RJ2 224 M_jd_max 2 := ⟨⟨kw304, kw279, kw273, ⟨by decide, by decide⟩, by decide +kernel, rfl⟩, kw280⟩
theorem kw305 : Cond.methodLink RJ2 228 yJ2_indexOfChar_4cfef ∈ tbG := mG (tt5 (List.mem_of_getElem? (i := 9) rfl)) rfl
theorem kw306 : mdCode M_jd_indexOfChar_J2_4cfef ∈ tbG := mG (tt5 (List.mem_of_getElem? (i := 11) rfl)) rfl
theorem kw307 : Cond.static yJ2_indexOfChar_4cfef ∈ tbG := mG (tt5 (List.mem_of_getElem? (i := 10) rfl)) rfl
theorem cs_J2_228 : CS RJ2 228 M_jd_indexOfChar_J2_4cfef 4 := ⟨⟨kw305, kw306, kw265, ⟨by decide, by decide⟩, by decide +kernel, rfl⟩, kw307⟩
theorem kw308 : Cond.methodLink RJ2 232 yJ2_indexOfSupplementary_4cfef ∈ tbG := mG (tt5 (List.mem_of_getElem? (i := 38) rfl)) rfl
theorem kw309 : mdCode M_jd_indexOfSupplementary ∈ tbG := mG (tt5 (List.mem_of_getElem? (i := 40) rfl)) rfl
theorem kw310 : Cond.static yJ2_indexOfSupplementary_4cfef ∈ tbG := mG (tt5 (List.mem_of_getElem? (i := 39) rfl)) rfl
theorem cs_J2_232 : CS RJ2 232 M_jd_indexOfSupplementary 4 := ⟨⟨kw308, kw309, kw265, ⟨by decide, by decide⟩, by decide +kernel, rfl⟩, kw310⟩
theorem kw311 : Cond.methodLink RJ2 241 yJ0_checkBoundsBeginEnd_23922 ∈ tbG := mG (tt5 (List.mem_of_getElem? (i := 18) rfl)) rfl
theorem kw312 : mdCode M_jd_checkBoundsBeginEnd_J0_23922 ∈ tbG := mG (tt5 (List.mem_of_getElem? (i := 20) rfl)) rfl
theorem kw313 : Cond.static yJ0_checkBoundsBeginEnd_23922 ∈ tbG := mG (tt5 (List.mem_of_getElem? (i := 19) rfl)) rfl
theorem cs_J2_241 : CS RJ2 241 M_jd_checkBoundsBeginEnd_J0_23922 3 := ⟨⟨kw311, kw312, kw244, ⟨by decide, by decide⟩, by decide +kernel, rfl⟩, kw313⟩
theorem kw314 : Cond.methodLink RJ2 244 yJ2_indexOfCharUnsafe_4cfef ∈ tbG := mG (tt5 (List.mem_of_getElem? (i := 26) rfl)) rfl
theorem kw315 : mdCode M_jd_indexOfCharUnsafe ∈ tbG := mG (tt5 (List.mem_of_getElem? (i := 28) rfl)) rfl
theorem kw316 : Cond.static yJ2_indexOfCharUnsafe_4cfef ∈ tbG := mG (tt5 (List.mem_of_getElem? (i := 27) rfl)) rfl
theorem cs_J2_244 : CS RJ2 244 M_jd_indexOfCharUnsafe 4 := ⟨⟨kw314, kw315, kw265, ⟨by decide, by decide⟩, by decide +kernel, rfl⟩, kw316⟩
theorem kw317 : Cond.methodLink RL 7 yX11_person ∈ tbG := mG (tt6 (List.mem_of_getElem? (i := 24) rfl)) rfl
theorem kw318 : mdCode M_x_person ∈ tbG := mG (tt6 (List.mem_of_getElem? (i := 27) rfl)) rfl
theorem kw319 : Cond.initialized RX11 ∈ tbG := mG (tt1 (List.mem_of_getElem? (i := 1) rfl)) rfl
theorem kw320 : Cond.instanceMethod yX11_person ∈ tbG := mG (tt6 (List.mem_of_getElem? (i := 25) rfl)) rfl
theorem kw321 : Cond.selects yX11_person.cls yX11_person yX11_person ∈ tbG := mG (tt6 (List.mem_of_getElem? (i := 26) rfl)) rfl
theorem cv_L_7 : CV RL 7 M_x_person 2 := ⟨⟨kw317, kw318, kw319, ⟨by decide, by decide⟩, by decide +kernel, rfl⟩, kw320, kw321⟩
theorem kw322 : Cond.methodLink RL 15 yX11_rates ∈ tbG := mG (tt6 (List.mem_of_getElem? (i := 94) rfl)) rfl
theorem kw323 : mdCode M_x_rates ∈ tbG := mG (tt6 (List.mem_of_getElem? (i := 97) rfl)) rfl
theorem kw324 : Cond.instanceMethod yX11_rates ∈ tbG := mG (tt6 (List.mem_of_getElem? (i := 95) rfl)) rfl
theorem kw325 : Cond.selects yX11_rates.cls yX11_rates yX11_rates ∈ tbG := mG (tt6 (List.mem_of_getElem? (i := 96) rfl)) rfl
theorem cv_L_15 : CV RL 15 M_x_rates 2 := ⟨⟨kw322, kw323, kw319, ⟨by decide, by decide⟩, by decide +kernel, rfl⟩, kw324, kw325⟩
theorem kw326 : Cond.methodLink RL 18 yX11_row ∈ tbG := mG (tt6 (List.mem_of_getElem? (i := 102) rfl)) rfl
theorem kw327 : mdCode M_x_row ∈ tbG := mG (tt6 (List.mem_of_getElem? (i := 105) rfl)) rfl
theorem kw328 : Cond.instanceMethod yX11_row ∈ tbG := mG (tt6 (List.mem_of_getElem? (i := 103) rfl)) rfl
theorem kw329 : Cond.selects yX11_row.cls yX11_row yX11_row ∈ tbG := mG (tt6 (List.mem_of_getElem? (i := 104) rfl)) rfl
theorem cv_L_18 : CV RL 18 M_x_row 1 := ⟨⟨kw326, kw327, kw319, ⟨by decide, by decide⟩, by decide +kernel, rfl⟩, kw328, kw329⟩
theorem kw330 : Cond.methodLink RL 26 yX11_sign ∈ tbG := mG (tt2 (List.mem_of_getElem? (i := 162) rfl)) rfl
theorem kw331 : mdCode M_x_sign ∈ tbG := mG (tt2 (List.mem_of_getElem? (i := 165) rfl)) rfl
theorem kw332 : Cond.instanceMethod yX11_sign ∈ tbG := mG (tt2 (List.mem_of_getElem? (i := 163) rfl)) rfl
theorem kw333 : Cond.selects yX11_sign.cls yX11_sign yX11_sign ∈ tbG := mG (tt2 (List.mem_of_getElem? (i := 164) rfl)) rfl
theorem cv_L_26 : CV RL 26 M_x_sign 1 := ⟨⟨kw330, kw331, kw319, ⟨by decide, by decide⟩, by decide +kernel, rfl⟩, kw332, kw333⟩
theorem kw334 : Cond.methodLink RL 30 yX12_sign ∈ tbG := mG (tt6 (List.mem_of_getElem? (i := 237) rfl)) rfl
theorem kw335 : mdCode M_m_sign ∈ tbG := mG (tt7 (List.mem_of_getElem? (i := 0) rfl)) rfl
theorem kw336 : Cond.initialized RX12 ∈ tbG := mG (tt1 (List.mem_of_getElem? (i := 13) rfl)) rfl
theorem kw337 : Cond.instanceMethod yX12_sign ∈ tbG := mG (tt6 (List.mem_of_getElem? (i := 238) rfl)) rfl
theorem kw338 : Cond.selects yX12_sign.cls yX12_sign yX12_sign ∈ tbG := mG (tt6 (List.mem_of_getElem? (i := 239) rfl)) rfl
theorem cv_L_30 : CV RL 30 M_m_sign 1 := ⟨⟨kw334, kw335, kw336, ⟨by decide, by decide⟩, by decide +kernel, rfl⟩, kw337, kw338⟩
theorem kw339 : Cond.methodLink RL 31 yX11_end ∈ tbG := mG (tt2 (List.mem_of_getElem? (i := 166) rfl)) rfl
theorem kw340 : mdCode M_x_end ∈ tbG := mG (tt2 (List.mem_of_getElem? (i := 169) rfl)) rfl
theorem kw341 : Cond.instanceMethod yX11_end ∈ tbG := mG (tt2 (List.mem_of_getElem? (i := 167) rfl)) rfl
theorem kw342 : Cond.selects yX11_end.cls yX11_end yX11_end ∈ tbG := mG (tt2 (List.mem_of_getElem? (i := 168) rfl)) rfl
theorem cv_L_31 : CV RL 31 M_x_end 1 := ⟨⟨kw339, kw340, kw319, ⟨by decide, by decide⟩, by decide +kernel, rfl⟩, kw341, kw342⟩
theorem kw343 : Cond.methodLink RL 35 yX12_end ∈ tbG := mG (tt7 (List.mem_of_getElem? (i := 1) rfl)) rfl
theorem kw344 : mdCode M_m_end ∈ tbG := mG (tt7 (List.mem_of_getElem? (i := 4) rfl)) rfl
theorem kw345 : Cond.instanceMethod yX12_end ∈ tbG := mG (tt7 (List.mem_of_getElem? (i := 2) rfl)) rfl
theorem kw346 : Cond.selects yX12_end.cls yX12_end yX12_end ∈ tbG := mG (tt7 (List.mem_of_getElem? (i := 3) rfl)) rfl
theorem cv_L_35 : CV RL 35 M_m_end 1 := ⟨⟨kw343, kw344, kw336, ⟨by decide, by decide⟩, by decide +kernel, rfl⟩, kw345, kw346⟩
theorem kw347 : Cond.methodLink RL 36 yX11_street ∈ tbG := mG (tt2 (List.mem_of_getElem? (i := 170) rfl)) rfl
theorem kw348 : mdCode M_x_street ∈ tbG := mG (tt2 (List.mem_of_getElem? (i := 173) rfl)) rfl
theorem kw349 : Cond.instanceMethod yX11_street ∈ tbG := mG (tt2 (List.mem_of_getElem? (i := 171) rfl)) rfl
theorem kw350 : Cond.selects yX11_street.cls yX11_street yX11_street ∈ tbG := mG (tt2 (List.mem_of_getElem? (i := 172) rfl)) rfl
theorem cv_L_36 : CV RL 36 M_x_street 0 := ⟨⟨kw347, kw348, kw319, ⟨by decide, by decide⟩, by decide +kernel, rfl⟩, kw349, kw350⟩
theorem kw351 : Cond.methodLink RL 40 yX12_street ∈ tbG := mG (tt7 (List.mem_of_getElem? (i := 8) rfl)) rfl
theorem kw352 : mdCode M_m_street ∈ tbG := mG (tt7 (List.mem_of_getElem? (i := 11) rfl)) rfl
theorem kw353 : Cond.instanceMethod yX12_street ∈ tbG := mG (tt7 (List.mem_of_getElem? (i := 9) rfl)) rfl
theorem kw354 : Cond.selects yX12_street.cls yX12_street yX12_street ∈ tbG := mG (tt7 (List.mem_of_getElem? (i := 10) rfl)) rfl
theorem cv_L_40 : CV RL 40 M_m_street 0 := ⟨⟨kw351, kw352, kw336, ⟨by decide, by decide⟩, by decide +kernel, rfl⟩, kw353, kw354⟩
theorem kw355 : Cond.methodLink RL 46 yX12_person ∈ tbG := mG (tt7 (List.mem_of_getElem? (i := 48) rfl)) rfl
theorem kw356 : mdCode M_m_person ∈ tbG := mG (tt7 (List.mem_of_getElem? (i := 51) rfl)) rfl
theorem kw357 : Cond.instanceMethod yX12_person ∈ tbG := mG (tt7 (List.mem_of_getElem? (i := 49) rfl)) rfl
theorem kw358 : Cond.selects yX12_person.cls yX12_person yX12_person ∈ tbG := mG (tt7 (List.mem_of_getElem? (i := 50) rfl)) rfl
theorem cv_L_46 : CV RL 46 M_m_person 2 := ⟨⟨kw355, kw356, kw336, ⟨by decide, by decide⟩, by decide +kernel, rfl⟩, kw357, kw358⟩
theorem kw359 : Cond.methodLink RL 47 yX12_thrown ∈ tbG := mG (tt6 (List.mem_of_getElem? (i := 233) rfl)) rfl
theorem kw360 : mdCode M_m_thrown ∈ tbG := mG (tt6 (List.mem_of_getElem? (i := 236) rfl)) rfl
theorem kw361 : Cond.instanceMethod yX12_thrown ∈ tbG := mG (tt6 (List.mem_of_getElem? (i := 234) rfl)) rfl
theorem kw362 : Cond.selects yX12_thrown.cls yX12_thrown yX12_thrown ∈ tbG := mG (tt6 (List.mem_of_getElem? (i := 235) rfl)) rfl
theorem cv_L_47 : CV RL 47 M_m_thrown 0 := ⟨⟨kw359, kw360, kw336, ⟨by decide, by decide⟩, by decide +kernel, rfl⟩, kw361, kw362⟩
theorem kw363 : Cond.methodLink RL 50 yX11_set ∈ tbG := mG (tt2 (List.mem_of_getElem? (i := 229) rfl)) rfl
theorem kw364 : mdCode M_x_set ∈ tbG := mG (tt2 (List.mem_of_getElem? (i := 232) rfl)) rfl
theorem kw365 : Cond.instanceMethod yX11_set ∈ tbG := mG (tt2 (List.mem_of_getElem? (i := 230) rfl)) rfl
theorem kw366 : Cond.selects yX11_set.cls yX11_set yX11_set ∈ tbG := mG (tt2 (List.mem_of_getElem? (i := 231) rfl)) rfl
theorem cv_L_50 : CV RL 50 M_x_set 3 := ⟨⟨kw363, kw364, kw319, ⟨by decide, by decide⟩, by decide +kernel, rfl⟩, kw365, kw366⟩
theorem kw367 : Cond.methodLink RL 54 yX12_set ∈ tbG := mG (tt7 (List.mem_of_getElem? (i := 71) rfl)) rfl
theorem kw368 : mdCode M_m_set ∈ tbG := mG (tt7 (List.mem_of_getElem? (i := 74) rfl)) rfl
theorem kw369 : Cond.instanceMethod yX12_set ∈ tbG := mG (tt7 (List.mem_of_getElem? (i := 72) rfl)) rfl
theorem kw370 : Cond.selects yX12_set.cls yX12_set yX12_set ∈ tbG := mG (tt7 (List.mem_of_getElem? (i := 73) rfl)) rfl
theorem cv_L_54 : CV RL 54 M_m_set 3 := ⟨⟨kw367, kw368, kw336, ⟨by decide, by decide⟩, by decide +kernel, rfl⟩, kw369, kw370⟩
theorem kw371 : Cond.methodLink RL 55 yX11_hears ∈ tbG := mG (tt3 (List.mem_of_getElem? (i := 1) rfl)) rfl
theorem kw372 : mdCode M_x_hears ∈ tbG := mG (tt3 (List.mem_of_getElem? (i := 4) rfl)) rfl
theorem kw373 : Cond.instanceMethod yX11_hears ∈ tbG := mG (tt3 (List.mem_of_getElem? (i := 2) rfl)) rfl
theorem kw374 : Cond.selects yX11_hears.cls yX11_hears yX11_hears ∈ tbG := mG (tt3 (List.mem_of_getElem? (i := 3) rfl)) rfl
theorem cv_L_55 : CV RL 55 M_x_hears 2 := ⟨⟨kw371, kw372, kw319, ⟨by decide, by decide⟩, by decide +kernel, rfl⟩, kw373, kw374⟩
theorem kw375 : Cond.methodLink RL 58 yX12_hears ∈ tbG := mG (tt7 (List.mem_of_getElem? (i := 75) rfl)) rfl
theorem kw376 : mdCode M_m_hears ∈ tbG := mG (tt7 (List.mem_of_getElem? (i := 78) rfl)) rfl
theorem kw377 : Cond.instanceMethod yX12_hears ∈ tbG := mG (tt7 (List.mem_of_getElem? (i := 76) rfl)) rfl
theorem kw378 : Cond.selects yX12_hears.cls yX12_hears yX12_hears ∈ tbG := mG (tt7 (List.mem_of_getElem? (i := 77) rfl)) rfl
theorem cv_L_58 : CV RL 58 M_m_hears 2 := ⟨⟨kw375, kw376, kw336, ⟨by decide, by decide⟩, by decide +kernel, rfl⟩, kw377, kw378⟩
theorem kw379 : Cond.methodLink RL 59 yX11_sheet ∈ tbG := mG (tt3 (List.mem_of_getElem? (i := 9) rfl)) rfl
theorem kw380 : mdCode M_x_sheet ∈ tbG := mG (tt3 (List.mem_of_getElem? (i := 12) rfl)) rfl
theorem kw381 : Cond.instanceMethod yX11_sheet ∈ tbG := mG (tt3 (List.mem_of_getElem? (i := 10) rfl)) rfl
theorem kw382 : Cond.selects yX11_sheet.cls yX11_sheet yX11_sheet ∈ tbG := mG (tt3 (List.mem_of_getElem? (i := 11) rfl)) rfl
theorem cv_L_59 : CV RL 59 M_x_sheet 4 := ⟨⟨kw379, kw380, kw319, ⟨by decide, by decide⟩, by decide +kernel, rfl⟩, kw381, kw382⟩
theorem kw383 : Cond.methodLink RL 63 yX12_sheet ∈ tbG := mG (tt7 (List.mem_of_getElem? (i := 79) rfl)) rfl
theorem kw384 : mdCode M_m_sheet ∈ tbG := mG (tt7 (List.mem_of_getElem? (i := 82) rfl)) rfl
theorem kw385 : Cond.instanceMethod yX12_sheet ∈ tbG := mG (tt7 (List.mem_of_getElem? (i := 80) rfl)) rfl
theorem kw386 : Cond.selects yX12_sheet.cls yX12_sheet yX12_sheet ∈ tbG := mG (tt7 (List.mem_of_getElem? (i := 81) rfl)) rfl
theorem cv_L_63 : CV RL 63 M_m_sheet 4 := ⟨⟨kw383, kw384, kw336, ⟨by decide, by decide⟩, by decide +kernel, rfl⟩, kw385, kw386⟩
theorem kw387 : Cond.methodLink RL 64 yX11_alike ∈ tbG := mG (tt3 (List.mem_of_getElem? (i := 20) rfl)) rfl
theorem kw388 : mdCode M_x_alike ∈ tbG := mG (tt3 (List.mem_of_getElem? (i := 23) rfl)) rfl
theorem kw389 : Cond.instanceMethod yX11_alike ∈ tbG := mG (tt3 (List.mem_of_getElem? (i := 21) rfl)) rfl
theorem kw390 : Cond.selects yX11_alike.cls yX11_alike yX11_alike ∈ tbG := mG (tt3 (List.mem_of_getElem? (i := 22) rfl)) rfl
theorem cv_L_64 : CV RL 64 M_x_alike 0 := ⟨⟨kw387, kw388, kw319, ⟨by decide, by decide⟩, by decide +kernel, rfl⟩, kw389, kw390⟩
theorem kw391 : Cond.methodLink RL 67 yX12_alike ∈ tbG := mG (tt7 (List.mem_of_getElem? (i := 85) rfl)) rfl
theorem kw392 : mdCode M_m_alike ∈ tbG := mG (tt7 (List.mem_of_getElem? (i := 88) rfl)) rfl
theorem kw393 : Cond.instanceMethod yX12_alike ∈ tbG := mG (tt7 (List.mem_of_getElem? (i := 86) rfl)) rfl
theorem kw394 : Cond.selects yX12_alike.cls yX12_alike yX12_alike ∈ tbG := mG (tt7 (List.mem_of_getElem? (i := 87) rfl)) rfl
theorem cv_L_67 : CV RL 67 M_m_alike 0 := ⟨⟨kw391, kw392, kw336, ⟨by decide, by decide⟩, by decide +kernel, rfl⟩, kw393, kw394⟩
theorem kw395 : Cond.methodLink RL 68 yX11_state ∈ tbG := mG (tt3 (List.mem_of_getElem? (i := 24) rfl)) rfl
theorem kw396 : mdCode M_x_state ∈ tbG := mG (tt3 (List.mem_of_getElem? (i := 27) rfl)) rfl
theorem kw397 : Cond.instanceMethod yX11_state ∈ tbG := mG (tt3 (List.mem_of_getElem? (i := 25) rfl)) rfl
theorem kw398 : Cond.selects yX11_state.cls yX11_state yX11_state ∈ tbG := mG (tt3 (List.mem_of_getElem? (i := 26) rfl)) rfl
theorem cv_L_68 : CV RL 68 M_x_state 1 := ⟨⟨kw395, kw396, kw319, ⟨by decide, by decide⟩, by decide +kernel, rfl⟩, kw397, kw398⟩
theorem kw399 : Cond.methodLink RL 71 yX12_state ∈ tbG := mG (tt7 (List.mem_of_getElem? (i := 89) rfl)) rfl
theorem kw400 : mdCode M_m_state ∈ tbG := mG (tt7 (List.mem_of_getElem? (i := 92) rfl)) rfl
theorem kw401 : Cond.instanceMethod yX12_state ∈ tbG := mG (tt7 (List.mem_of_getElem? (i := 90) rfl)) rfl
theorem kw402 : Cond.selects yX12_state.cls yX12_state yX12_state ∈ tbG := mG (tt7 (List.mem_of_getElem? (i := 91) rfl)) rfl
theorem cv_L_71 : CV RL 71 M_m_state 1 := ⟨⟨kw399, kw400, kw336, ⟨by decide, by decide⟩, by decide +kernel, rfl⟩, kw401, kw402⟩
theorem kw403 : Cond.methodLink RL 72 yX11_go ∈ tbG := mG (tt3 (List.mem_of_getElem? (i := 28) rfl)) rfl
theorem kw404 : mdCode M_x_go ∈ tbG := mG (tt3 (List.mem_of_getElem? (i := 31) rfl)) rfl
theorem kw405 : Cond.instanceMethod yX11_go ∈ tbG := mG (tt3 (List.mem_of_getElem? (i := 29) rfl)) rfl
theorem kw406 : Cond.selects yX11_go.cls yX11_go yX11_go ∈ tbG := mG (tt3 (List.mem_of_getElem? (i := 30) rfl)) rfl
theorem cv_L_72 : CV RL 72 M_x_go 1 := ⟨⟨kw403, kw404, kw319, ⟨by decide, by decide⟩, by decide +kernel, rfl⟩, kw405, kw406⟩
theorem kw407 : Cond.methodLink RL 75 yX12_go ∈ tbG := mG (tt7 (List.mem_of_getElem? (i := 93) rfl)) rfl
theorem kw408 : mdCode M_m_go ∈ tbG := mG (tt7 (List.mem_of_getElem? (i := 96) rfl)) rfl
theorem kw409 : Cond.instanceMethod yX12_go ∈ tbG := mG (tt7 (List.mem_of_getElem? (i := 94) rfl)) rfl
theorem kw410 : Cond.selects yX12_go.cls yX12_go yX12_go ∈ tbG := mG (tt7 (List.mem_of_getElem? (i := 95) rfl)) rfl
theorem cv_L_75 : CV RL 75 M_m_go 1 := ⟨⟨kw407, kw408, kw336, ⟨by decide, by decide⟩, by decide +kernel, rfl⟩, kw409, kw410⟩
theorem kw411 : Cond.methodLink RL 76 yX11_talk ∈ tbG := mG (tt3 (List.mem_of_getElem? (i := 68) rfl)) rfl
theorem kw412 : mdCode M_x_talk ∈ tbG := mG (tt3 (List.mem_of_getElem? (i := 71) rfl)) rfl
theorem kw413 : Cond.instanceMethod yX11_talk ∈ tbG := mG (tt3 (List.mem_of_getElem? (i := 69) rfl)) rfl
theorem kw414 : Cond.selects yX11_talk.cls yX11_talk yX11_talk ∈ tbG := mG (tt3 (List.mem_of_getElem? (i := 70) rfl)) rfl
theorem cv_L_76 : CV RL 76 M_x_talk 1 := ⟨⟨kw411, kw412, kw319, ⟨by decide, by decide⟩, by decide +kernel, rfl⟩, kw413, kw414⟩
theorem kw415 : Cond.methodLink RL 79 yX12_talk ∈ tbG := mG (tt7 (List.mem_of_getElem? (i := 109) rfl)) rfl
theorem kw416 : mdCode M_m_talk ∈ tbG := mG (tt7 (List.mem_of_getElem? (i := 112) rfl)) rfl
theorem kw417 : Cond.instanceMethod yX12_talk ∈ tbG := mG (tt7 (List.mem_of_getElem? (i := 110) rfl)) rfl
theorem kw418 : Cond.selects yX12_talk.cls yX12_talk yX12_talk ∈ tbG := mG (tt7 (List.mem_of_getElem? (i := 111) rfl)) rfl
theorem cv_L_79 : CV RL 79 M_m_talk 1 := ⟨⟨kw415, kw416, kw336, ⟨by decide, by decide⟩, by decide +kernel, rfl⟩, kw417, kw418⟩
theorem kw419 : Cond.methodLink RL 80 yX11_behind ∈ tbG := mG (tt3 (List.mem_of_getElem? (i := 85) rfl)) rfl
theorem kw420 : mdCode M_x_behind ∈ tbG := mG (tt3 (List.mem_of_getElem? (i := 88) rfl)) rfl
theorem kw421 : Cond.instanceMethod yX11_behind ∈ tbG := mG (tt3 (List.mem_of_getElem? (i := 86) rfl)) rfl
theorem kw422 : Cond.selects yX11_behind.cls yX11_behind yX11_behind ∈ tbG := mG (tt3 (List.mem_of_getElem? (i := 87) rfl)) rfl
theorem cv_L_80 : CV RL 80 M_x_behind 1 := ⟨⟨kw419, kw420, kw319, ⟨by decide, by decide⟩, by decide +kernel, rfl⟩, kw421, kw422⟩
theorem kw423 : Cond.methodLink RL 83 yX12_behind ∈ tbG := mG (tt7 (List.mem_of_getElem? (i := 129) rfl)) rfl
theorem kw424 : mdCode M_m_behind ∈ tbG := mG (tt7 (List.mem_of_getElem? (i := 132) rfl)) rfl
theorem kw425 : Cond.instanceMethod yX12_behind ∈ tbG := mG (tt7 (List.mem_of_getElem? (i := 130) rfl)) rfl
theorem kw426 : Cond.selects yX12_behind.cls yX12_behind yX12_behind ∈ tbG := mG (tt7 (List.mem_of_getElem? (i := 131) rfl)) rfl
theorem cv_L_83 : CV RL 83 M_m_behind 1 := ⟨⟨kw423, kw424, kw336, ⟨by decide, by decide⟩, by decide +kernel, rfl⟩, kw425, kw426⟩
theorem kw427 : Cond.methodLink RL 84 yX11_rest ∈ tbG := mG (tt3 (List.mem_of_getElem? (i := 89) rfl)) rfl
theorem kw428 : mdCode M_x_rest ∈ tbG := mG (tt3 (List.mem_of_getElem? (i := 92) rfl)) rfl
theorem kw429 : Cond.instanceMethod yX11_rest ∈ tbG := mG (tt3 (List.mem_of_getElem? (i := 90) rfl)) rfl
theorem kw430 : Cond.selects yX11_rest.cls yX11_rest yX11_rest ∈ tbG := mG (tt3 (List.mem_of_getElem? (i := 91) rfl)) rfl
theorem cv_L_84 : CV RL 84 M_x_rest 0 := ⟨⟨kw427, kw428, kw319, ⟨by decide, by decide⟩, by decide +kernel, rfl⟩, kw429, kw430⟩
theorem kw431 : Cond.methodLink RL 87 yX12_rest ∈ tbG := mG (tt7 (List.mem_of_getElem? (i := 133) rfl)) rfl
theorem kw432 : mdCode M_m_rest ∈ tbG := mG (tt7 (List.mem_of_getElem? (i := 136) rfl)) rfl
theorem kw433 : Cond.instanceMethod yX12_rest ∈ tbG := mG (tt7 (List.mem_of_getElem? (i := 134) rfl)) rfl
theorem kw434 : Cond.selects yX12_rest.cls yX12_rest yX12_rest ∈ tbG := mG (tt7 (List.mem_of_getElem? (i := 135) rfl)) rfl
theorem cv_L_87 : CV RL 87 M_m_rest 0 := ⟨⟨kw431, kw432, kw336, ⟨by decide, by decide⟩, by decide +kernel, rfl⟩, kw433, kw434⟩
theorem kw435 : Cond.methodLink RL 88 yX11_fall ∈ tbG := mG (tt3 (List.mem_of_getElem? (i := 133) rfl)) rfl
theorem kw436 : mdCode M_x_fall ∈ tbG := mG (tt3 (List.mem_of_getElem? (i := 136) rfl)) rfl
theorem kw437 : Cond.instanceMethod yX11_fall ∈ tbG := mG (tt3 (List.mem_of_getElem? (i := 134) rfl)) rfl
theorem kw438 : Cond.selects yX11_fall.cls yX11_fall yX11_fall ∈ tbG := mG (tt3 (List.mem_of_getElem? (i := 135) rfl)) rfl
theorem cv_L_88 : CV RL 88 M_x_fall 1 := ⟨⟨kw435, kw436, kw319, ⟨by decide, by decide⟩, by decide +kernel, rfl⟩, kw437, kw438⟩
theorem kw439 : Cond.methodLink RL 91 yX12_fall ∈ tbG := mG (tt7 (List.mem_of_getElem? (i := 145) rfl)) rfl
theorem kw440 : mdCode M_m_fall ∈ tbG := mG (tt7 (List.mem_of_getElem? (i := 148) rfl)) rfl
theorem kw441 : Cond.instanceMethod yX12_fall ∈ tbG := mG (tt7 (List.mem_of_getElem? (i := 146) rfl)) rfl
theorem kw442 : Cond.selects yX12_fall.cls yX12_fall yX12_fall ∈ tbG := mG (tt7 (List.mem_of_getElem? (i := 147) rfl)) rfl
theorem cv_L_91 : CV RL 91 M_m_fall 1 := ⟨⟨kw439, kw440, kw336, ⟨by decide, by decide⟩, by decide +kernel, rfl⟩, kw441, kw442⟩
theorem kw443 : Cond.methodLink RL 92 yX11_falls ∈ tbG := mG (tt3 (List.mem_of_getElem? (i := 156) rfl)) rfl
theorem kw444 : mdCode M_x_falls ∈ tbG := mG (tt3 (List.mem_of_getElem? (i := 159) rfl)) rfl
theorem kw445 : Cond.instanceMethod yX11_falls ∈ tbG := mG (tt3 (List.mem_of_getElem? (i := 157) rfl)) rfl
theorem kw446 : Cond.selects yX11_falls.cls yX11_falls yX11_falls ∈ tbG := mG (tt3 (List.mem_of_getElem? (i := 158) rfl)) rfl
theorem cv_L_92 : CV RL 92 M_x_falls 0 := ⟨⟨kw443, kw444, kw319, ⟨by decide, by decide⟩, by decide +kernel, rfl⟩, kw445, kw446⟩
theorem kw447 : Cond.methodLink RL 96 yX12_falls ∈ tbG := mG (tt7 (List.mem_of_getElem? (i := 156) rfl)) rfl
theorem kw448 : mdCode M_m_falls ∈ tbG := mG (tt7 (List.mem_of_getElem? (i := 159) rfl)) rfl
theorem kw449 : Cond.instanceMethod yX12_falls ∈ tbG := mG (tt7 (List.mem_of_getElem? (i := 157) rfl)) rfl
theorem kw450 : Cond.selects yX12_falls.cls yX12_falls yX12_falls ∈ tbG := mG (tt7 (List.mem_of_getElem? (i := 158) rfl)) rfl
theorem cv_L_96 : CV RL 96 M_m_falls 0 := ⟨⟨kw447, kw448, kw336, ⟨by decide, by decide⟩, by decide +kernel, rfl⟩, kw449, kw450⟩
theorem kw451 : Cond.methodLink RL 97 yX11_swings ∈ tbG := mG (tt3 (List.mem_of_getElem? (i := 160) rfl)) rfl
theorem kw452 : mdCode M_x_swings ∈ tbG := mG (tt3 (List.mem_of_getElem? (i := 163) rfl)) rfl
theorem kw453 : Cond.instanceMethod yX11_swings ∈ tbG := mG (tt3 (List.mem_of_getElem? (i := 161) rfl)) rfl
theorem kw454 : Cond.selects yX11_swings.cls yX11_swings yX11_swings ∈ tbG := mG (tt3 (List.mem_of_getElem? (i := 162) rfl)) rfl
theorem cv_L_97 : CV RL 97 M_x_swings 0 := ⟨⟨kw451, kw452, kw319, ⟨by decide, by decide⟩, by decide +kernel, rfl⟩, kw453, kw454⟩
theorem kw455 : Cond.methodLink RL 100 yX12_swings ∈ tbG := mG (tt7 (List.mem_of_getElem? (i := 160) rfl)) rfl
theorem kw456 : mdCode M_m_swings ∈ tbG := mG (tt7 (List.mem_of_getElem? (i := 163) rfl)) rfl
theorem kw457 : Cond.instanceMethod yX12_swings ∈ tbG := mG (tt7 (List.mem_of_getElem? (i := 161) rfl)) rfl
theorem kw458 : Cond.selects yX12_swings.cls yX12_swings yX12_swings ∈ tbG := mG (tt7 (List.mem_of_getElem? (i := 162) rfl)) rfl
theorem cv_L_100 : CV RL 100 M_m_swings 0 := ⟨⟨kw455, kw456, kw336, ⟨by decide, by decide⟩, by decide +kernel, rfl⟩, kw457, kw458⟩
theorem kw459 : Cond.methodLink RL 101 yX11_otherwise ∈ tbG := mG (tt3 (List.mem_of_getElem? (i := 164) rfl)) rfl
theorem kw460 : mdCode M_x_otherwise ∈ tbG := mG (tt3 (List.mem_of_getElem? (i := 167) rfl)) rfl
theorem kw461 : Cond.instanceMethod yX11_otherwise ∈ tbG := mG (tt3 (List.mem_of_getElem? (i := 165) rfl)) rfl
theorem kw462 : Cond.selects yX11_otherwise.cls yX11_otherwise yX11_otherwise ∈ tbG := mG (tt3 (List.mem_of_getElem? (i := 166) rfl)) rfl
theorem cv_L_101 : CV RL 101 M_x_otherwise 2 := ⟨⟨kw459, kw460, kw319, ⟨by decide, by decide⟩, by decide +kernel, rfl⟩, kw461, kw462⟩
theorem kw463 : Cond.methodLink RL 104 yX12_otherwise ∈ tbG := mG (tt7 (List.mem_of_getElem? (i := 164) rfl)) rfl
theorem kw464 : mdCode M_m_otherwise ∈ tbG := mG (tt7 (List.mem_of_getElem? (i := 167) rfl)) rfl
theorem kw465 : Cond.instanceMethod yX12_otherwise ∈ tbG := mG (tt7 (List.mem_of_getElem? (i := 165) rfl)) rfl
theorem kw466 : Cond.selects yX12_otherwise.cls yX12_otherwise yX12_otherwise ∈ tbG := mG (tt7 (List.mem_of_getElem? (i := 166) rfl)) rfl
theorem cv_L_104 : CV RL 104 M_m_otherwise 2 := ⟨⟨kw463, kw464, kw336, ⟨by decide, by decide⟩, by decide +kernel, rfl⟩, kw465, kw466⟩
theorem kw467 : Cond.methodLink RL 105 yX11_onebyone ∈ tbG := mG (tt3 (List.mem_of_getElem? (i := 174) rfl)) rfl
theorem kw468 : mdCode M_x_onebyone ∈ tbG := mG (tt3 (List.mem_of_getElem? (i := 177) rfl)) rfl
theorem kw469 : Cond.instanceMethod yX11_onebyone ∈ tbG := mG (tt3 (List.mem_of_getElem? (i := 175) rfl)) rfl
theorem kw470 : Cond.selects yX11_onebyone.cls yX11_onebyone yX11_onebyone ∈ tbG := mG (tt3 (List.mem_of_getElem? (i := 176) rfl)) rfl
theorem cv_L_105 : CV RL 105 M_x_onebyone 0 := ⟨⟨kw467, kw468, kw319, ⟨by decide, by decide⟩, by decide +kernel, rfl⟩, kw469, kw470⟩
theorem kw471 : Cond.methodLink RL 108 yX12_onebyone ∈ tbG := mG (tt7 (List.mem_of_getElem? (i := 172) rfl)) rfl
theorem kw472 : mdCode M_m_onebyone ∈ tbG := mG (tt7 (List.mem_of_getElem? (i := 175) rfl)) rfl
theorem kw473 : Cond.instanceMethod yX12_onebyone ∈ tbG := mG (tt7 (List.mem_of_getElem? (i := 173) rfl)) rfl
theorem kw474 : Cond.selects yX12_onebyone.cls yX12_onebyone yX12_onebyone ∈ tbG := mG (tt7 (List.mem_of_getElem? (i := 174) rfl)) rfl
theorem cv_L_108 : CV RL 108 M_m_onebyone 0 := ⟨⟨kw471, kw472, kw336, ⟨by decide, by decide⟩, by decide +kernel, rfl⟩, kw473, kw474⟩
theorem kw475 : Cond.methodLink RL 109 yX11_level ∈ tbG := mG (tt3 (List.mem_of_getElem? (i := 178) rfl)) rfl
theorem kw476 : mdCode M_x_level ∈ tbG := mG (tt3 (List.mem_of_getElem? (i := 181) rfl)) rfl
theorem kw477 : Cond.instanceMethod yX11_level ∈ tbG := mG (tt3 (List.mem_of_getElem? (i := 179) rfl)) rfl
theorem kw478 : Cond.selects yX11_level.cls yX11_level yX11_level ∈ tbG := mG (tt3 (List.mem_of_getElem? (i := 180) rfl)) rfl
theorem cv_L_109 : CV RL 109 M_x_level 1 := ⟨⟨kw475, kw476, kw319, ⟨by decide, by decide⟩, by decide +kernel, rfl⟩, kw477, kw478⟩
theorem kw479 : Cond.methodLink RL 112 yX12_level ∈ tbG := mG (tt7 (List.mem_of_getElem? (i := 176) rfl)) rfl
theorem kw480 : mdCode M_m_level ∈ tbG := mG (tt7 (List.mem_of_getElem? (i := 179) rfl)) rfl
theorem kw481 : Cond.instanceMethod yX12_level ∈ tbG := mG (tt7 (List.mem_of_getElem? (i := 177) rfl)) rfl
theorem kw482 : Cond.selects yX12_level.cls yX12_level yX12_level ∈ tbG := mG (tt7 (List.mem_of_getElem? (i := 178) rfl)) rfl
theorem cv_L_112 : CV RL 112 M_m_level 1 := ⟨⟨kw479, kw480, kw336, ⟨by decide, by decide⟩, by decide +kernel, rfl⟩, kw481, kw482⟩
theorem kw483 : Cond.methodLink RL 113 yX11_hops ∈ tbG := mG (tt3 (List.mem_of_getElem? (i := 202) rfl)) rfl
theorem kw484 : mdCode M_x_hops ∈ tbG := mG (tt3 (List.mem_of_getElem? (i := 205) rfl)) rfl
theorem kw485 : Cond.instanceMethod yX11_hops ∈ tbG := mG (tt3 (List.mem_of_getElem? (i := 203) rfl)) rfl
theorem kw486 : Cond.selects yX11_hops.cls yX11_hops yX11_hops ∈ tbG := mG (tt3 (List.mem_of_getElem? (i := 204) rfl)) rfl
theorem cv_L_113 : CV RL 113 M_x_hops 2 := ⟨⟨kw483, kw484, kw319, ⟨by decide, by decide⟩, by decide +kernel, rfl⟩, kw485, kw486⟩
theorem kw487 : Cond.methodLink RL 116 yX12_hops ∈ tbG := mG (tt7 (List.mem_of_getElem? (i := 184) rfl)) rfl
theorem kw488 : mdCode M_m_hops ∈ tbG := mG (tt7 (List.mem_of_getElem? (i := 187) rfl)) rfl
theorem kw489 : Cond.instanceMethod yX12_hops ∈ tbG := mG (tt7 (List.mem_of_getElem? (i := 185) rfl)) rfl
theorem kw490 : Cond.selects yX12_hops.cls yX12_hops yX12_hops ∈ tbG := mG (tt7 (List.mem_of_getElem? (i := 186) rfl)) rfl
theorem cv_L_116 : CV RL 116 M_m_hops 2 := ⟨⟨kw487, kw488, kw336, ⟨by decide, by decide⟩, by decide +kernel, rfl⟩, kw489, kw490⟩
theorem kw491 : Cond.methodLink RL 117 yX11_part ∈ tbG := mG (tt3 (List.mem_of_getElem? (i := 228) rfl)) rfl
theorem kw492 : mdCode M_x_part ∈ tbG := mG (tt3 (List.mem_of_getElem? (i := 231) rfl)) rfl
theorem kw493 : Cond.instanceMethod yX11_part ∈ tbG := mG (tt3 (List.mem_of_getElem? (i := 229) rfl)) rfl
theorem kw494 : Cond.selects yX11_part.cls yX11_part yX11_part ∈ tbG := mG (tt3 (List.mem_of_getElem? (i := 230) rfl)) rfl
theorem cv_L_117 : CV RL 117 M_x_part 1 := ⟨⟨kw491, kw492, kw319, ⟨by decide, by decide⟩, by decide +kernel, rfl⟩, kw493, kw494⟩
theorem kw495 : Cond.methodLink RL 120 yX12_part ∈ tbG := mG (tt7 (List.mem_of_getElem? (i := 189) rfl)) rfl
theorem kw496 : mdCode M_m_part ∈ tbG := mG (tt7 (List.mem_of_getElem? (i := 192) rfl)) rfl
theorem kw497 : Cond.instanceMethod yX12_part ∈ tbG := mG (tt7 (List.mem_of_getElem? (i := 190) rfl)) rfl
theorem kw498 : Cond.selects yX12_part.cls yX12_part yX12_part ∈ tbG := mG (tt7 (List.mem_of_getElem? (i := 191) rfl)) rfl
theorem cv_L_120 : CV RL 120 M_m_part 1 := ⟨⟨kw495, kw496, kw336, ⟨by decide, by decide⟩, by decide +kernel, rfl⟩, kw497, kw498⟩
theorem kw499 : Cond.methodLink RL 121 yX11_ahead ∈ tbG := mG (tt3 (List.mem_of_getElem? (i := 236) rfl)) rfl
theorem kw500 : mdCode M_x_ahead ∈ tbG := mG (tt3 (List.mem_of_getElem? (i := 239) rfl)) rfl
theorem kw501 : Cond.instanceMethod yX11_ahead ∈ tbG := mG (tt3 (List.mem_of_getElem? (i := 237) rfl)) rfl
theorem kw502 : Cond.selects yX11_ahead.cls yX11_ahead yX11_ahead ∈ tbG := mG (tt3 (List.mem_of_getElem? (i := 238) rfl)) rfl
theorem cv_L_121 : CV RL 121 M_x_ahead 1 := ⟨⟨kw499, kw500, kw319, ⟨by decide, by decide⟩, by decide +kernel, rfl⟩, kw501, kw502⟩
theorem kw503 : Cond.methodLink RL 124 yX12_ahead ∈ tbG := mG (tt7 (List.mem_of_getElem? (i := 197) rfl)) rfl
theorem kw504 : mdCode M_m_ahead ∈ tbG := mG (tt7 (List.mem_of_getElem? (i := 200) rfl)) rfl
theorem kw505 : Cond.instanceMethod yX12_ahead ∈ tbG := mG (tt7 (List.mem_of_getElem? (i := 198) rfl)) rfl
theorem kw506 : Cond.selects yX12_ahead.cls yX12_ahead yX12_ahead ∈ tbG := mG (tt7 (List.mem_of_getElem? (i := 199) rfl)) rfl
theorem cv_L_124 : CV RL 124 M_m_ahead 1 := ⟨⟨kw503, kw504, kw336, ⟨by decide, by decide⟩, by decide +kernel, rfl⟩, kw505, kw506⟩
theorem kw507 : Cond.methodLink RL 125 yX11_twins ∈ tbG := mG (tt4 (List.mem_of_getElem? (i := 16) rfl)) rfl
theorem kw508 : mdCode M_x_twins ∈ tbG := mG (tt4 (List.mem_of_getElem? (i := 19) rfl)) rfl
theorem kw509 : Cond.instanceMethod yX11_twins ∈ tbG := mG (tt4 (List.mem_of_getElem? (i := 17) rfl)) rfl
theorem kw510 : Cond.selects yX11_twins.cls yX11_twins yX11_twins ∈ tbG := mG (tt4 (List.mem_of_getElem? (i := 18) rfl)) rfl
theorem cv_L_125 : CV RL 125 M_x_twins 1 := ⟨⟨kw507, kw508, kw319, ⟨by decide, by decide⟩, by decide +kernel, rfl⟩, kw509, kw510⟩
theorem kw511 : Cond.methodLink RL 128 yX12_twins ∈ tbG := mG (tt7 (List.mem_of_getElem? (i := 205) rfl)) rfl
theorem kw512 : mdCode M_m_twins ∈ tbG := mG (tt7 (List.mem_of_getElem? (i := 208) rfl)) rfl
theorem kw513 : Cond.instanceMethod yX12_twins ∈ tbG := mG (tt7 (List.mem_of_getElem? (i := 206) rfl)) rfl
theorem kw514 : Cond.selects yX12_twins.cls yX12_twins yX12_twins ∈ tbG := mG (tt7 (List.mem_of_getElem? (i := 207) rfl)) rfl
theorem cv_L_128 : CV RL 128 M_m_twins 1 := ⟨⟨kw511, kw512, kw336, ⟨by decide, by decide⟩, by decide +kernel, rfl⟩, kw513, kw514⟩
theorem kw515 : Cond.methodLink RL 129 yX11_first ∈ tbG := mG (tt4 (List.mem_of_getElem? (i := 30) rfl)) rfl
theorem kw516 : mdCode M_x_first ∈ tbG := mG (tt4 (List.mem_of_getElem? (i := 33) rfl)) rfl
theorem kw517 : Cond.instanceMethod yX11_first ∈ tbG := mG (tt4 (List.mem_of_getElem? (i := 31) rfl)) rfl
theorem kw518 : Cond.selects yX11_first.cls yX11_first yX11_first ∈ tbG := mG (tt4 (List.mem_of_getElem? (i := 32) rfl)) rfl
theorem cv_L_129 : CV RL 129 M_x_first 0 := ⟨⟨kw515, kw516, kw319, ⟨by decide, by decide⟩, by decide +kernel, rfl⟩, kw517, kw518⟩
theorem kw519 : Cond.methodLink RL 132 yX12_first ∈ tbG := mG (tt7 (List.mem_of_getElem? (i := 210) rfl)) rfl
theorem kw520 : mdCode M_m_first ∈ tbG := mG (tt7 (List.mem_of_getElem? (i := 213) rfl)) rfl
theorem kw521 : Cond.instanceMethod yX12_first ∈ tbG := mG (tt7 (List.mem_of_getElem? (i := 211) rfl)) rfl
theorem kw522 : Cond.selects yX12_first.cls yX12_first yX12_first ∈ tbG := mG (tt7 (List.mem_of_getElem? (i := 212) rfl)) rfl
theorem cv_L_132 : CV RL 132 M_m_first 0 := ⟨⟨kw519, kw520, kw336, ⟨by decide, by decide⟩, by decide +kernel, rfl⟩, kw521, kw522⟩
theorem kw523 : Cond.methodLink RL 133 yX11_last ∈ tbG := mG (tt4 (List.mem_of_getElem? (i := 38) rfl)) rfl
theorem kw524 : mdCode M_x_last ∈ tbG := mG (tt4 (List.mem_of_getElem? (i := 41) rfl)) rfl
theorem kw525 : Cond.instanceMethod yX11_last ∈ tbG := mG (tt4 (List.mem_of_getElem? (i := 39) rfl)) rfl
theorem kw526 : Cond.selects yX11_last.cls yX11_last yX11_last ∈ tbG := mG (tt4 (List.mem_of_getElem? (i := 40) rfl)) rfl
theorem cv_L_133 : CV RL 133 M_x_last 0 := ⟨⟨kw523, kw524, kw319, ⟨by decide, by decide⟩, by decide +kernel, rfl⟩, kw525, kw526⟩
theorem kw527 : Cond.methodLink RL 136 yX12_last ∈ tbG := mG (tt7 (List.mem_of_getElem? (i := 214) rfl)) rfl
theorem kw528 : mdCode M_m_last ∈ tbG := mG (tt7 (List.mem_of_getElem? (i := 217) rfl)) rfl
theorem kw529 : Cond.instanceMethod yX12_last ∈ tbG := mG (tt7 (List.mem_of_getElem? (i := 215) rfl)) rfl
theorem kw530 : Cond.selects yX12_last.cls yX12_last yX12_last ∈ tbG := mG (tt7 (List.mem_of_getElem? (i := 216) rfl)) rfl
theorem cv_L_136 : CV RL 136 M_m_last 0 := ⟨⟨kw527, kw528, kw336, ⟨by decide, by decide⟩, by decide +kernel, rfl⟩, kw529, kw530⟩
theorem kw531 : Cond.methodLink RL 137 yX11_fates ∈ tbG := mG (tt4 (List.mem_of_getElem? (i := 56) rfl)) rfl
theorem kw532 : mdCode M_x_fates ∈ tbG := mG (tt4 (List.mem_of_getElem? (i := 59) rfl)) rfl
theorem kw533 : Cond.instanceMethod yX11_fates ∈ tbG := mG (tt4 (List.mem_of_getElem? (i := 57) rfl)) rfl
theorem kw534 : Cond.selects yX11_fates.cls yX11_fates yX11_fates ∈ tbG := mG (tt4 (List.mem_of_getElem? (i := 58) rfl)) rfl
theorem cv_L_137 : CV RL 137 M_x_fates 0 := ⟨⟨kw531, kw532, kw319, ⟨by decide, by decide⟩, by decide +kernel, rfl⟩, kw533, kw534⟩
theorem kw535 : Cond.methodLink RL 140 yX12_fates ∈ tbG := mG (tt7 (List.mem_of_getElem? (i := 218) rfl)) rfl
theorem kw536 : mdCode M_m_fates ∈ tbG := mG (tt7 (List.mem_of_getElem? (i := 221) rfl)) rfl
theorem kw537 : Cond.instanceMethod yX12_fates ∈ tbG := mG (tt7 (List.mem_of_getElem? (i := 219) rfl)) rfl
theorem kw538 : Cond.selects yX12_fates.cls yX12_fates yX12_fates ∈ tbG := mG (tt7 (List.mem_of_getElem? (i := 220) rfl)) rfl
theorem cv_L_140 : CV RL 140 M_m_fates 0 := ⟨⟨kw535, kw536, kw336, ⟨by decide, by decide⟩, by decide +kernel, rfl⟩, kw537, kw538⟩
theorem kw539 : Cond.methodLink RL 141 yX11_fewest ∈ tbG := mG (tt4 (List.mem_of_getElem? (i := 65) rfl)) rfl
theorem kw540 : mdCode M_x_fewest ∈ tbG := mG (tt4 (List.mem_of_getElem? (i := 68) rfl)) rfl
theorem kw541 : Cond.instanceMethod yX11_fewest ∈ tbG := mG (tt4 (List.mem_of_getElem? (i := 66) rfl)) rfl
theorem kw542 : Cond.selects yX11_fewest.cls yX11_fewest yX11_fewest ∈ tbG := mG (tt4 (List.mem_of_getElem? (i := 67) rfl)) rfl
theorem cv_L_141 : CV RL 141 M_x_fewest 2 := ⟨⟨kw539, kw540, kw319, ⟨by decide, by decide⟩, by decide +kernel, rfl⟩, kw541, kw542⟩
theorem kw543 : Cond.methodLink RL 144 yX12_fewest ∈ tbG := mG (tt7 (List.mem_of_getElem? (i := 222) rfl)) rfl
theorem kw544 : mdCode M_m_fewest ∈ tbG := mG (tt7 (List.mem_of_getElem? (i := 225) rfl)) rfl
theorem kw545 : Cond.instanceMethod yX12_fewest ∈ tbG := mG (tt7 (List.mem_of_getElem? (i := 223) rfl)) rfl
theorem kw546 : Cond.selects yX12_fewest.cls yX12_fewest yX12_fewest ∈ tbG := mG (tt7 (List.mem_of_getElem? (i := 224) rfl)) rfl
theorem cv_L_144 : CV RL 144 M_m_fewest 2 := ⟨⟨kw543, kw544, kw336, ⟨by decide, by decide⟩, by decide +kernel, rfl⟩, kw545, kw546⟩
theorem kw547 : Cond.methodLink RL 145 yX11_cheapest ∈ tbG := mG (tt4 (List.mem_of_getElem? (i := 83) rfl)) rfl
theorem kw548 : mdCode M_x_cheapest ∈ tbG := mG (tt4 (List.mem_of_getElem? (i := 86) rfl)) rfl
theorem kw549 : Cond.instanceMethod yX11_cheapest ∈ tbG := mG (tt4 (List.mem_of_getElem? (i := 84) rfl)) rfl
theorem kw550 : Cond.selects yX11_cheapest.cls yX11_cheapest yX11_cheapest ∈ tbG := mG (tt4 (List.mem_of_getElem? (i := 85) rfl)) rfl
theorem cv_L_145 : CV RL 145 M_x_cheapest 2 := ⟨⟨kw547, kw548, kw319, ⟨by decide, by decide⟩, by decide +kernel, rfl⟩, kw549, kw550⟩
theorem kw551 : Cond.methodLink RL 148 yX12_cheapest ∈ tbG := mG (tt7 (List.mem_of_getElem? (i := 237) rfl)) rfl
theorem kw552 : mdCode M_m_cheapest ∈ tbG := mG (tt8 (List.mem_of_getElem? (i := 0) rfl)) rfl
theorem kw553 : Cond.instanceMethod yX12_cheapest ∈ tbG := mG (tt7 (List.mem_of_getElem? (i := 238) rfl)) rfl
theorem kw554 : Cond.selects yX12_cheapest.cls yX12_cheapest yX12_cheapest ∈ tbG := mG (tt7 (List.mem_of_getElem? (i := 239) rfl)) rfl
theorem cv_L_148 : CV RL 148 M_m_cheapest 2 := ⟨⟨kw551, kw552, kw336, ⟨by decide, by decide⟩, by decide +kernel, rfl⟩, kw553, kw554⟩
theorem kw555 : Cond.methodLink RL 149 yX11_daily ∈ tbG := mG (tt4 (List.mem_of_getElem? (i := 87) rfl)) rfl
theorem kw556 : mdCode M_x_daily ∈ tbG := mG (tt4 (List.mem_of_getElem? (i := 90) rfl)) rfl
theorem kw557 : Cond.instanceMethod yX11_daily ∈ tbG := mG (tt4 (List.mem_of_getElem? (i := 88) rfl)) rfl
theorem kw558 : Cond.selects yX11_daily.cls yX11_daily yX11_daily ∈ tbG := mG (tt4 (List.mem_of_getElem? (i := 89) rfl)) rfl
theorem cv_L_149 : CV RL 149 M_x_daily 2 := ⟨⟨kw555, kw556, kw319, ⟨by decide, by decide⟩, by decide +kernel, rfl⟩, kw557, kw558⟩
theorem kw559 : Cond.methodLink RL 152 yX12_daily ∈ tbG := mG (tt8 (List.mem_of_getElem? (i := 1) rfl)) rfl
theorem kw560 : mdCode M_m_daily ∈ tbG := mG (tt8 (List.mem_of_getElem? (i := 4) rfl)) rfl
theorem kw561 : Cond.instanceMethod yX12_daily ∈ tbG := mG (tt8 (List.mem_of_getElem? (i := 2) rfl)) rfl
theorem kw562 : Cond.selects yX12_daily.cls yX12_daily yX12_daily ∈ tbG := mG (tt8 (List.mem_of_getElem? (i := 3) rfl)) rfl
theorem cv_L_152 : CV RL 152 M_m_daily 2 := ⟨⟨kw559, kw560, kw336, ⟨by decide, by decide⟩, by decide +kernel, rfl⟩, kw561, kw562⟩
theorem kw563 : Cond.methodLink RL 153 yX11_plan ∈ tbG := mG (tt4 (List.mem_of_getElem? (i := 122) rfl)) rfl
theorem kw564 : mdCode M_x_plan ∈ tbG := mG (tt4 (List.mem_of_getElem? (i := 125) rfl)) rfl
theorem kw565 : Cond.instanceMethod yX11_plan ∈ tbG := mG (tt4 (List.mem_of_getElem? (i := 123) rfl)) rfl
theorem kw566 : Cond.selects yX11_plan.cls yX11_plan yX11_plan ∈ tbG := mG (tt4 (List.mem_of_getElem? (i := 124) rfl)) rfl
theorem cv_L_153 : CV RL 153 M_x_plan 2 := ⟨⟨kw563, kw564, kw319, ⟨by decide, by decide⟩, by decide +kernel, rfl⟩, kw565, kw566⟩
theorem kw567 : Cond.methodLink RL 156 yX12_plan ∈ tbG := mG (tt8 (List.mem_of_getElem? (i := 21) rfl)) rfl
theorem kw568 : mdCode M_m_plan ∈ tbG := mG (tt8 (List.mem_of_getElem? (i := 24) rfl)) rfl
theorem kw569 : Cond.instanceMethod yX12_plan ∈ tbG := mG (tt8 (List.mem_of_getElem? (i := 22) rfl)) rfl
theorem kw570 : Cond.selects yX12_plan.cls yX12_plan yX12_plan ∈ tbG := mG (tt8 (List.mem_of_getElem? (i := 23) rfl)) rfl
theorem cv_L_156 : CV RL 156 M_m_plan 2 := ⟨⟨kw567, kw568, kw336, ⟨by decide, by decide⟩, by decide +kernel, rfl⟩, kw569, kw570⟩
theorem kw571 : Cond.methodLink RL 157 yX11_guard ∈ tbG := mG (tt4 (List.mem_of_getElem? (i := 131) rfl)) rfl
theorem kw572 : mdCode M_x_guard ∈ tbG := mG (tt4 (List.mem_of_getElem? (i := 134) rfl)) rfl
theorem kw573 : Cond.instanceMethod yX11_guard ∈ tbG := mG (tt4 (List.mem_of_getElem? (i := 132) rfl)) rfl
theorem kw574 : Cond.selects yX11_guard.cls yX11_guard yX11_guard ∈ tbG := mG (tt4 (List.mem_of_getElem? (i := 133) rfl)) rfl
theorem cv_L_157 : CV RL 157 M_x_guard 1 := ⟨⟨kw571, kw572, kw319, ⟨by decide, by decide⟩, by decide +kernel, rfl⟩, kw573, kw574⟩
theorem kw575 : Cond.methodLink RL 160 yX12_guard ∈ tbG := mG (tt8 (List.mem_of_getElem? (i := 25) rfl)) rfl
theorem kw576 : mdCode M_m_guard ∈ tbG := mG (tt8 (List.mem_of_getElem? (i := 28) rfl)) rfl
theorem kw577 : Cond.instanceMethod yX12_guard ∈ tbG := mG (tt8 (List.mem_of_getElem? (i := 26) rfl)) rfl
theorem kw578 : Cond.selects yX12_guard.cls yX12_guard yX12_guard ∈ tbG := mG (tt8 (List.mem_of_getElem? (i := 27) rfl)) rfl
theorem cv_L_160 : CV RL 160 M_m_guard 1 := ⟨⟨kw575, kw576, kw336, ⟨by decide, by decide⟩, by decide +kernel, rfl⟩, kw577, kw578⟩
theorem kw579 : Cond.methodLink RL 161 yX11_holds ∈ tbG := mG (tt4 (List.mem_of_getElem? (i := 142) rfl)) rfl
theorem kw580 : mdCode M_x_holds ∈ tbG := mG (tt4 (List.mem_of_getElem? (i := 145) rfl)) rfl
theorem kw581 : Cond.instanceMethod yX11_holds ∈ tbG := mG (tt4 (List.mem_of_getElem? (i := 143) rfl)) rfl
theorem kw582 : Cond.selects yX11_holds.cls yX11_holds yX11_holds ∈ tbG := mG (tt4 (List.mem_of_getElem? (i := 144) rfl)) rfl
theorem cv_L_161 : CV RL 161 M_x_holds 0 := ⟨⟨kw579, kw580, kw319, ⟨by decide, by decide⟩, by decide +kernel, rfl⟩, kw581, kw582⟩
theorem kw583 : Cond.methodLink RL 164 yX12_holds ∈ tbG := mG (tt8 (List.mem_of_getElem? (i := 33) rfl)) rfl
theorem kw584 : mdCode M_m_holds ∈ tbG := mG (tt8 (List.mem_of_getElem? (i := 36) rfl)) rfl
theorem kw585 : Cond.instanceMethod yX12_holds ∈ tbG := mG (tt8 (List.mem_of_getElem? (i := 34) rfl)) rfl
theorem kw586 : Cond.selects yX12_holds.cls yX12_holds yX12_holds ∈ tbG := mG (tt8 (List.mem_of_getElem? (i := 35) rfl)) rfl
theorem cv_L_164 : CV RL 164 M_m_holds 0 := ⟨⟨kw583, kw584, kw336, ⟨by decide, by decide⟩, by decide +kernel, rfl⟩, kw585, kw586⟩
theorem kw587 : Cond.methodLink RL 165 yX11_shield ∈ tbG := mG (tt4 (List.mem_of_getElem? (i := 155) rfl)) rfl
theorem kw588 : mdCode M_x_shield ∈ tbG := mG (tt4 (List.mem_of_getElem? (i := 158) rfl)) rfl
theorem kw589 : Cond.instanceMethod yX11_shield ∈ tbG := mG (tt4 (List.mem_of_getElem? (i := 156) rfl)) rfl
theorem kw590 : Cond.selects yX11_shield.cls yX11_shield yX11_shield ∈ tbG := mG (tt4 (List.mem_of_getElem? (i := 157) rfl)) rfl
theorem cv_L_165 : CV RL 165 M_x_shield 1 := ⟨⟨kw587, kw588, kw319, ⟨by decide, by decide⟩, by decide +kernel, rfl⟩, kw589, kw590⟩
theorem kw591 : Cond.methodLink RL 168 yX12_shield ∈ tbG := mG (tt8 (List.mem_of_getElem? (i := 41) rfl)) rfl
theorem kw592 : mdCode M_m_shield ∈ tbG := mG (tt8 (List.mem_of_getElem? (i := 44) rfl)) rfl
theorem kw593 : Cond.instanceMethod yX12_shield ∈ tbG := mG (tt8 (List.mem_of_getElem? (i := 42) rfl)) rfl
theorem kw594 : Cond.selects yX12_shield.cls yX12_shield yX12_shield ∈ tbG := mG (tt8 (List.mem_of_getElem? (i := 43) rfl)) rfl
theorem cv_L_168 : CV RL 168 M_m_shield 1 := ⟨⟨kw591, kw592, kw336, ⟨by decide, by decide⟩, by decide +kernel, rfl⟩, kw593, kw594⟩
theorem kw595 : Cond.methodLink RL 169 yX11_bound ∈ tbG := mG (tt4 (List.mem_of_getElem? (i := 163) rfl)) rfl
theorem kw596 : mdCode M_x_bound ∈ tbG := mG (tt4 (List.mem_of_getElem? (i := 166) rfl)) rfl
theorem kw597 : Cond.instanceMethod yX11_bound ∈ tbG := mG (tt4 (List.mem_of_getElem? (i := 164) rfl)) rfl
theorem kw598 : Cond.selects yX11_bound.cls yX11_bound yX11_bound ∈ tbG := mG (tt4 (List.mem_of_getElem? (i := 165) rfl)) rfl
theorem cv_L_169 : CV RL 169 M_x_bound 0 := ⟨⟨kw595, kw596, kw319, ⟨by decide, by decide⟩, by decide +kernel, rfl⟩, kw597, kw598⟩
theorem kw599 : Cond.methodLink RL 172 yX12_bound ∈ tbG := mG (tt8 (List.mem_of_getElem? (i := 49) rfl)) rfl
theorem kw600 : mdCode M_m_bound ∈ tbG := mG (tt8 (List.mem_of_getElem? (i := 52) rfl)) rfl
theorem kw601 : Cond.instanceMethod yX12_bound ∈ tbG := mG (tt8 (List.mem_of_getElem? (i := 50) rfl)) rfl
theorem kw602 : Cond.selects yX12_bound.cls yX12_bound yX12_bound ∈ tbG := mG (tt8 (List.mem_of_getElem? (i := 51) rfl)) rfl
theorem cv_L_172 : CV RL 172 M_m_bound 0 := ⟨⟨kw599, kw600, kw336, ⟨by decide, by decide⟩, by decide +kernel, rfl⟩, kw601, kw602⟩
theorem kw603 : Cond.methodLink RL 173 yX11_rule ∈ tbG := mG (tt4 (List.mem_of_getElem? (i := 173) rfl)) rfl
theorem kw604 : mdCode M_x_rule ∈ tbG := mG (tt4 (List.mem_of_getElem? (i := 176) rfl)) rfl
theorem kw605 : Cond.instanceMethod yX11_rule ∈ tbG := mG (tt4 (List.mem_of_getElem? (i := 174) rfl)) rfl
theorem kw606 : Cond.selects yX11_rule.cls yX11_rule yX11_rule ∈ tbG := mG (tt4 (List.mem_of_getElem? (i := 175) rfl)) rfl
theorem cv_L_173 : CV RL 173 M_x_rule 1 := ⟨⟨kw603, kw604, kw319, ⟨by decide, by decide⟩, by decide +kernel, rfl⟩, kw605, kw606⟩
theorem kw607 : Cond.methodLink RL 176 yX12_rule ∈ tbG := mG (tt8 (List.mem_of_getElem? (i := 53) rfl)) rfl
theorem kw608 : mdCode M_m_rule ∈ tbG := mG (tt8 (List.mem_of_getElem? (i := 56) rfl)) rfl
theorem kw609 : Cond.instanceMethod yX12_rule ∈ tbG := mG (tt8 (List.mem_of_getElem? (i := 54) rfl)) rfl
theorem kw610 : Cond.selects yX12_rule.cls yX12_rule yX12_rule ∈ tbG := mG (tt8 (List.mem_of_getElem? (i := 55) rfl)) rfl
theorem cv_L_176 : CV RL 176 M_m_rule 1 := ⟨⟨kw607, kw608, kw336, ⟨by decide, by decide⟩, by decide +kernel, rfl⟩, kw609, kw610⟩
theorem kw611 : Cond.methodLink RL 179 yX12_rates ∈ tbG := mG (tt8 (List.mem_of_getElem? (i := 77) rfl)) rfl
theorem kw612 : mdCode M_m_rates ∈ tbG := mG (tt8 (List.mem_of_getElem? (i := 80) rfl)) rfl
theorem kw613 : Cond.instanceMethod yX12_rates ∈ tbG := mG (tt8 (List.mem_of_getElem? (i := 78) rfl)) rfl
theorem kw614 : Cond.selects yX12_rates.cls yX12_rates yX12_rates ∈ tbG := mG (tt8 (List.mem_of_getElem? (i := 79) rfl)) rfl
theorem cv_L_179 : CV RL 179 M_m_rates 2 := ⟨⟨kw611, kw612, kw336, ⟨by decide, by decide⟩, by decide +kernel, rfl⟩, kw613, kw614⟩
theorem kw615 : Cond.methodLink RL 180 yX11_picks ∈ tbG := mG (tt5 (List.mem_of_getElem? (i := 72) rfl)) rfl
theorem kw616 : mdCode M_x_picks ∈ tbG := mG (tt5 (List.mem_of_getElem? (i := 75) rfl)) rfl
theorem kw617 : Cond.instanceMethod yX11_picks ∈ tbG := mG (tt5 (List.mem_of_getElem? (i := 73) rfl)) rfl
theorem kw618 : Cond.selects yX11_picks.cls yX11_picks yX11_picks ∈ tbG := mG (tt5 (List.mem_of_getElem? (i := 74) rfl)) rfl
theorem cv_L_180 : CV RL 180 M_x_picks 1 := ⟨⟨kw615, kw616, kw319, ⟨by decide, by decide⟩, by decide +kernel, rfl⟩, kw617, kw618⟩
theorem kw619 : Cond.methodLink RL 183 yX12_picks ∈ tbG := mG (tt8 (List.mem_of_getElem? (i := 85) rfl)) rfl
theorem kw620 : mdCode M_m_picks ∈ tbG := mG (tt8 (List.mem_of_getElem? (i := 88) rfl)) rfl
theorem kw621 : Cond.instanceMethod yX12_picks ∈ tbG := mG (tt8 (List.mem_of_getElem? (i := 86) rfl)) rfl
theorem kw622 : Cond.selects yX12_picks.cls yX12_picks yX12_picks ∈ tbG := mG (tt8 (List.mem_of_getElem? (i := 87) rfl)) rfl
theorem cv_L_183 : CV RL 183 M_m_picks 1 := ⟨⟨kw619, kw620, kw336, ⟨by decide, by decide⟩, by decide +kernel, rfl⟩, kw621, kw622⟩
theorem kw623 : Cond.methodLink RL 184 yX11_market ∈ tbG := mG (tt5 (List.mem_of_getElem? (i := 116) rfl)) rfl
theorem kw624 : mdCode M_x_market ∈ tbG := mG (tt5 (List.mem_of_getElem? (i := 119) rfl)) rfl
theorem kw625 : Cond.instanceMethod yX11_market ∈ tbG := mG (tt5 (List.mem_of_getElem? (i := 117) rfl)) rfl
theorem kw626 : Cond.selects yX11_market.cls yX11_market yX11_market ∈ tbG := mG (tt5 (List.mem_of_getElem? (i := 118) rfl)) rfl
theorem cv_L_184 : CV RL 184 M_x_market 1 := ⟨⟨kw623, kw624, kw319, ⟨by decide, by decide⟩, by decide +kernel, rfl⟩, kw625, kw626⟩
theorem kw627 : Cond.methodLink RL 187 yX12_market ∈ tbG := mG (tt8 (List.mem_of_getElem? (i := 97) rfl)) rfl
theorem kw628 : mdCode M_m_market ∈ tbG := mG (tt8 (List.mem_of_getElem? (i := 100) rfl)) rfl
theorem kw629 : Cond.instanceMethod yX12_market ∈ tbG := mG (tt8 (List.mem_of_getElem? (i := 98) rfl)) rfl
theorem kw630 : Cond.selects yX12_market.cls yX12_market yX12_market ∈ tbG := mG (tt8 (List.mem_of_getElem? (i := 99) rfl)) rfl
theorem cv_L_187 : CV RL 187 M_m_market 1 := ⟨⟨kw627, kw628, kw336, ⟨by decide, by decide⟩, by decide +kernel, rfl⟩, kw629, kw630⟩
theorem kw631 : Cond.methodLink RL 188 yX11_game ∈ tbG := mG (tt5 (List.mem_of_getElem? (i := 135) rfl)) rfl
theorem kw632 : mdCode M_x_game ∈ tbG := mG (tt5 (List.mem_of_getElem? (i := 138) rfl)) rfl
theorem kw633 : Cond.instanceMethod yX11_game ∈ tbG := mG (tt5 (List.mem_of_getElem? (i := 136) rfl)) rfl
theorem kw634 : Cond.selects yX11_game.cls yX11_game yX11_game ∈ tbG := mG (tt5 (List.mem_of_getElem? (i := 137) rfl)) rfl
theorem cv_L_188 : CV RL 188 M_x_game 1 := ⟨⟨kw631, kw632, kw319, ⟨by decide, by decide⟩, by decide +kernel, rfl⟩, kw633, kw634⟩
theorem kw635 : Cond.methodLink RL 191 yX12_game_ ∈ tbG := mG (tt8 (List.mem_of_getElem? (i := 104) rfl)) rfl
theorem kw636 : mdCode M_m_game_ ∈ tbG := mG (tt8 (List.mem_of_getElem? (i := 107) rfl)) rfl
theorem kw637 : Cond.instanceMethod yX12_game_ ∈ tbG := mG (tt8 (List.mem_of_getElem? (i := 105) rfl)) rfl
theorem kw638 : Cond.selects yX12_game_.cls yX12_game_ yX12_game_ ∈ tbG := mG (tt8 (List.mem_of_getElem? (i := 106) rfl)) rfl
theorem cv_L_191 : CV RL 191 M_m_game_ 1 := ⟨⟨kw635, kw636, kw336, ⟨by decide, by decide⟩, by decide +kernel, rfl⟩, kw637, kw638⟩
theorem kw639 : Cond.methodLink RL 192 yX11_against ∈ tbG := mG (tt5 (List.mem_of_getElem? (i := 156) rfl)) rfl
theorem kw640 : mdCode M_x_against ∈ tbG := mG (tt5 (List.mem_of_getElem? (i := 159) rfl)) rfl
theorem kw641 : Cond.instanceMethod yX11_against ∈ tbG := mG (tt5 (List.mem_of_getElem? (i := 157) rfl)) rfl
theorem kw642 : Cond.selects yX11_against.cls yX11_against yX11_against ∈ tbG := mG (tt5 (List.mem_of_getElem? (i := 158) rfl)) rfl
theorem cv_L_192 : CV RL 192 M_x_against 1 := ⟨⟨kw639, kw640, kw319, ⟨by decide, by decide⟩, by decide +kernel, rfl⟩, kw641, kw642⟩
theorem kw643 : Cond.methodLink RL 195 yX12_against ∈ tbG := mG (tt8 (List.mem_of_getElem? (i := 120) rfl)) rfl
theorem kw644 : mdCode M_m_against ∈ tbG := mG (tt8 (List.mem_of_getElem? (i := 123) rfl)) rfl
theorem kw645 : Cond.instanceMethod yX12_against ∈ tbG := mG (tt8 (List.mem_of_getElem? (i := 121) rfl)) rfl
theorem kw646 : Cond.selects yX12_against.cls yX12_against yX12_against ∈ tbG := mG (tt8 (List.mem_of_getElem? (i := 122) rfl)) rfl
theorem cv_L_195 : CV RL 195 M_m_against 1 := ⟨⟨kw643, kw644, kw336, ⟨by decide, by decide⟩, by decide +kernel, rfl⟩, kw645, kw646⟩
theorem kw647 : Cond.methodLink RL 196 yX11_change ∈ tbG := mG (tt5 (List.mem_of_getElem? (i := 172) rfl)) rfl
theorem kw648 : mdCode M_x_change ∈ tbG := mG (tt5 (List.mem_of_getElem? (i := 175) rfl)) rfl
theorem kw649 : Cond.instanceMethod yX11_change ∈ tbG := mG (tt5 (List.mem_of_getElem? (i := 173) rfl)) rfl
theorem kw650 : Cond.selects yX11_change.cls yX11_change yX11_change ∈ tbG := mG (tt5 (List.mem_of_getElem? (i := 174) rfl)) rfl
theorem cv_L_196 : CV RL 196 M_x_change 1 := ⟨⟨kw647, kw648, kw319, ⟨by decide, by decide⟩, by decide +kernel, rfl⟩, kw649, kw650⟩
theorem kw651 : Cond.methodLink RL 199 yX12_change ∈ tbG := mG (tt8 (List.mem_of_getElem? (i := 124) rfl)) rfl
theorem kw652 : mdCode M_m_change ∈ tbG := mG (tt8 (List.mem_of_getElem? (i := 127) rfl)) rfl
theorem kw653 : Cond.instanceMethod yX12_change ∈ tbG := mG (tt8 (List.mem_of_getElem? (i := 125) rfl)) rfl
theorem kw654 : Cond.selects yX12_change.cls yX12_change yX12_change ∈ tbG := mG (tt8 (List.mem_of_getElem? (i := 126) rfl)) rfl
theorem cv_L_199 : CV RL 199 M_m_change 1 := ⟨⟨kw651, kw652, kw336, ⟨by decide, by decide⟩, by decide +kernel, rfl⟩, kw653, kw654⟩
theorem kw655 : Cond.methodLink RL 200 yX11_single ∈ tbG := mG (tt5 (List.mem_of_getElem? (i := 218) rfl)) rfl
theorem kw656 : mdCode M_x_single ∈ tbG := mG (tt5 (List.mem_of_getElem? (i := 221) rfl)) rfl
theorem kw657 : Cond.instanceMethod yX11_single ∈ tbG := mG (tt5 (List.mem_of_getElem? (i := 219) rfl)) rfl
theorem kw658 : Cond.selects yX11_single.cls yX11_single yX11_single ∈ tbG := mG (tt5 (List.mem_of_getElem? (i := 220) rfl)) rfl
theorem cv_L_200 : CV RL 200 M_x_single 1 := ⟨⟨kw655, kw656, kw319, ⟨by decide, by decide⟩, by decide +kernel, rfl⟩, kw657, kw658⟩
theorem kw659 : Cond.methodLink RL 203 yX12_single ∈ tbG := mG (tt8 (List.mem_of_getElem? (i := 148) rfl)) rfl
theorem kw660 : mdCode M_m_single ∈ tbG := mG (tt8 (List.mem_of_getElem? (i := 151) rfl)) rfl
theorem kw661 : Cond.instanceMethod yX12_single ∈ tbG := mG (tt8 (List.mem_of_getElem? (i := 149) rfl)) rfl
theorem kw662 : Cond.selects yX12_single.cls yX12_single yX12_single ∈ tbG := mG (tt8 (List.mem_of_getElem? (i := 150) rfl)) rfl
theorem cv_L_203 : CV RL 203 M_m_single 1 := ⟨⟨kw659, kw660, kw336, ⟨by decide, by decide⟩, by decide +kernel, rfl⟩, kw661, kw662⟩
theorem kw663 : Cond.methodLink RL 204 yX11_meet ∈ tbG := mG (tt5 (List.mem_of_getElem? (i := 227) rfl)) rfl
theorem kw664 : mdCode M_x_meet ∈ tbG := mG (tt5 (List.mem_of_getElem? (i := 230) rfl)) rfl
theorem kw665 : Cond.instanceMethod yX11_meet ∈ tbG := mG (tt5 (List.mem_of_getElem? (i := 228) rfl)) rfl
theorem kw666 : Cond.selects yX11_meet.cls yX11_meet yX11_meet ∈ tbG := mG (tt5 (List.mem_of_getElem? (i := 229) rfl)) rfl
theorem cv_L_204 : CV RL 204 M_x_meet 3 := ⟨⟨kw663, kw664, kw319, ⟨by decide, by decide⟩, by decide +kernel, rfl⟩, kw665, kw666⟩
theorem kw667 : Cond.methodLink RL 207 yX12_meet ∈ tbG := mG (tt8 (List.mem_of_getElem? (i := 152) rfl)) rfl
theorem kw668 : mdCode M_m_meet ∈ tbG := mG (tt8 (List.mem_of_getElem? (i := 155) rfl)) rfl
theorem kw669 : Cond.instanceMethod yX12_meet ∈ tbG := mG (tt8 (List.mem_of_getElem? (i := 153) rfl)) rfl
theorem kw670 : Cond.selects yX12_meet.cls yX12_meet yX12_meet ∈ tbG := mG (tt8 (List.mem_of_getElem? (i := 154) rfl)) rfl
theorem cv_L_207 : CV RL 207 M_m_meet 3 := ⟨⟨kw667, kw668, kw336, ⟨by decide, by decide⟩, by decide +kernel, rfl⟩, kw669, kw670⟩
theorem kw671 : Cond.methodLink RL 208 yX11_keep ∈ tbG := mG (tt5 (List.mem_of_getElem? (i := 232) rfl)) rfl
theorem kw672 : mdCode M_x_keep ∈ tbG := mG (tt5 (List.mem_of_getElem? (i := 235) rfl)) rfl
theorem kw673 : Cond.instanceMethod yX11_keep ∈ tbG := mG (tt5 (List.mem_of_getElem? (i := 233) rfl)) rfl
theorem kw674 : Cond.selects yX11_keep.cls yX11_keep yX11_keep ∈ tbG := mG (tt5 (List.mem_of_getElem? (i := 234) rfl)) rfl
theorem cv_L_208 : CV RL 208 M_x_keep 1 := ⟨⟨kw671, kw672, kw319, ⟨by decide, by decide⟩, by decide +kernel, rfl⟩, kw673, kw674⟩
theorem kw675 : Cond.methodLink RL 211 yX12_keep ∈ tbG := mG (tt8 (List.mem_of_getElem? (i := 156) rfl)) rfl
theorem kw676 : mdCode M_m_keep ∈ tbG := mG (tt8 (List.mem_of_getElem? (i := 159) rfl)) rfl
theorem kw677 : Cond.instanceMethod yX12_keep ∈ tbG := mG (tt8 (List.mem_of_getElem? (i := 157) rfl)) rfl
theorem kw678 : Cond.selects yX12_keep.cls yX12_keep yX12_keep ∈ tbG := mG (tt8 (List.mem_of_getElem? (i := 158) rfl)) rfl
theorem cv_L_211 : CV RL 211 M_m_keep 1 := ⟨⟨kw675, kw676, kw336, ⟨by decide, by decide⟩, by decide +kernel, rfl⟩, kw677, kw678⟩
theorem kw679 : Cond.methodLink RL 212 yX11_again ∈ tbG := mG (tt6 (List.mem_of_getElem? (i := 3) rfl)) rfl
theorem kw680 : mdCode M_x_again ∈ tbG := mG (tt6 (List.mem_of_getElem? (i := 6) rfl)) rfl
theorem kw681 : Cond.instanceMethod yX11_again ∈ tbG := mG (tt6 (List.mem_of_getElem? (i := 4) rfl)) rfl
theorem kw682 : Cond.selects yX11_again.cls yX11_again yX11_again ∈ tbG := mG (tt6 (List.mem_of_getElem? (i := 5) rfl)) rfl
theorem cv_L_212 : CV RL 212 M_x_again 1 := ⟨⟨kw679, kw680, kw319, ⟨by decide, by decide⟩, by decide +kernel, rfl⟩, kw681, kw682⟩
theorem kw683 : Cond.methodLink RL 215 yX12_again ∈ tbG := mG (tt8 (List.mem_of_getElem? (i := 160) rfl)) rfl
theorem kw684 : mdCode M_m_again ∈ tbG := mG (tt8 (List.mem_of_getElem? (i := 163) rfl)) rfl
theorem kw685 : Cond.instanceMethod yX12_again ∈ tbG := mG (tt8 (List.mem_of_getElem? (i := 161) rfl)) rfl
theorem kw686 : Cond.selects yX12_again.cls yX12_again yX12_again ∈ tbG := mG (tt8 (List.mem_of_getElem? (i := 162) rfl)) rfl
theorem cv_L_215 : CV RL 215 M_m_again 1 := ⟨⟨kw683, kw684, kw336, ⟨by decide, by decide⟩, by decide +kernel, rfl⟩, kw685, kw686⟩
theorem kw687 : Cond.methodLink RL 216 yX11_count ∈ tbG := mG (tt6 (List.mem_of_getElem? (i := 7) rfl)) rfl
theorem kw688 : mdCode M_x_count ∈ tbG := mG (tt6 (List.mem_of_getElem? (i := 10) rfl)) rfl
theorem kw689 : Cond.instanceMethod yX11_count ∈ tbG := mG (tt6 (List.mem_of_getElem? (i := 8) rfl)) rfl
theorem kw690 : Cond.selects yX11_count.cls yX11_count yX11_count ∈ tbG := mG (tt6 (List.mem_of_getElem? (i := 9) rfl)) rfl
theorem cv_L_216 : CV RL 216 M_x_count 1 := ⟨⟨kw687, kw688, kw319, ⟨by decide, by decide⟩, by decide +kernel, rfl⟩, kw689, kw690⟩
theorem kw691 : Cond.methodLink RL 219 yX12_count ∈ tbG := mG (tt8 (List.mem_of_getElem? (i := 164) rfl)) rfl
theorem kw692 : mdCode M_m_count ∈ tbG := mG (tt8 (List.mem_of_getElem? (i := 167) rfl)) rfl
theorem kw693 : Cond.instanceMethod yX12_count ∈ tbG := mG (tt8 (List.mem_of_getElem? (i := 165) rfl)) rfl
theorem kw694 : Cond.selects yX12_count.cls yX12_count yX12_count ∈ tbG := mG (tt8 (List.mem_of_getElem? (i := 166) rfl)) rfl
theorem cv_L_219 : CV RL 219 M_m_count 1 := ⟨⟨kw691, kw692, kw336, ⟨by decide, by decide⟩, by decide +kernel, rfl⟩, kw693, kw694⟩
theorem kw695 : Cond.methodLink RL 223 yX12_row ∈ tbG := mG (tt8 (List.mem_of_getElem? (i := 168) rfl)) rfl
theorem kw696 : mdCode M_m_row ∈ tbG := mG (tt8 (List.mem_of_getElem? (i := 171) rfl)) rfl
theorem kw697 : Cond.instanceMethod yX12_row ∈ tbG := mG (tt8 (List.mem_of_getElem? (i := 169) rfl)) rfl
theorem kw698 : Cond.selects yX12_row.cls yX12_row yX12_row ∈ tbG := mG (tt8 (List.mem_of_getElem? (i := 170) rfl)) rfl
theorem cv_L_223 : CV RL 223 M_m_row 1 := ⟨⟨kw695, kw696, kw336, ⟨by decide, by decide⟩, by decide +kernel, rfl⟩, kw697, kw698⟩
theorem kw699 : Cond.methodLink RX0 28 yX8_now ∈ tbG := mG (tt3 (List.mem_of_getElem? (i := 198) rfl)) rfl
theorem kw700 : mdCode M_st_now ∈ tbG := mG (tt2 (List.mem_of_getElem? (i := 216) rfl)) rfl
theorem kw701 : Cond.initialized RX8 ∈ tbG := mG (tt1 (List.mem_of_getElem? (i := 3) rfl)) rfl
theorem kw702 : Cond.instanceMethod yX8_now ∈ tbG := mG (tt2 (List.mem_of_getElem? (i := 214) rfl)) rfl
theorem kw703 : Cond.selects yX8_now.cls yX8_now yX8_now ∈ tbG := mG (tt2 (List.mem_of_getElem? (i := 215) rfl)) rfl
theorem cv_X0_28 : CV RX0 28 M_st_now 0 := ⟨⟨kw699, kw700, kw701, ⟨by decide, by decide⟩, by decide +kernel, rfl⟩, kw702, kw703⟩
theorem kw704 : Cond.methodLink RX0 34 yX8_everybody ∈ tbG := mG (tt3 (List.mem_of_getElem? (i := 199) rfl)) rfl
theorem kw705 : mdCode M_st_everybody ∈ tbG := mG (tt3 (List.mem_of_getElem? (i := 54) rfl)) rfl
theorem kw706 : Cond.instanceMethod yX8_everybody ∈ tbG := mG (tt3 (List.mem_of_getElem? (i := 52) rfl)) rfl
theorem kw707 : Cond.selects yX8_everybody.cls yX8_everybody yX8_everybody ∈ tbG := mG (tt3 (List.mem_of_getElem? (i := 53) rfl)) rfl
theorem cv_X0_34 : CV RX0 34 M_st_everybody 0 := ⟨⟨kw704, kw705, kw701, ⟨by decide, by decide⟩, by decide +kernel, rfl⟩, kw706, kw707⟩
theorem kw708 : Cond.methodLink RX0 37 yX1_next ∈ tbG := mG (tt3 (List.mem_of_getElem? (i := 200) rfl)) rfl
theorem kw709 : mdCode M_he_next ∈ tbG := mG (tt3 (List.mem_of_getElem? (i := 58) rfl)) rfl
theorem kw710 : Cond.initialized RX1 ∈ tbG := mG (tt1 (List.mem_of_getElem? (i := 7) rfl)) rfl
theorem kw711 : Cond.instanceMethod yX1_next ∈ tbG := mG (tt3 (List.mem_of_getElem? (i := 56) rfl)) rfl
theorem kw712 : Cond.selects yX1_next.cls yX1_next yX1_next ∈ tbG := mG (tt3 (List.mem_of_getElem? (i := 57) rfl)) rfl
theorem cv_X0_37 : CV RX0 37 M_he_next 1 := ⟨⟨kw708, kw709, kw710, ⟨by decide, by decide⟩, by decide +kernel, rfl⟩, kw711, kw712⟩
theorem kw713 : Cond.methodLink RX0 41 yX1_learn ∈ tbG := mG (tt3 (List.mem_of_getElem? (i := 189) rfl)) rfl
theorem kw714 : mdCode M_he_learn ∈ tbG := mG (tt3 (List.mem_of_getElem? (i := 40) rfl)) rfl
theorem kw715 : Cond.instanceMethod yX1_learn ∈ tbG := mG (tt3 (List.mem_of_getElem? (i := 38) rfl)) rfl
theorem kw716 : Cond.selects yX1_learn.cls yX1_learn yX1_learn ∈ tbG := mG (tt3 (List.mem_of_getElem? (i := 39) rfl)) rfl
theorem cv_X0_41 : CV RX0 41 M_he_learn 0 := ⟨⟨kw713, kw714, kw710, ⟨by decide, by decide⟩, by decide +kernel, rfl⟩, kw715, kw716⟩
theorem kw717 : Cond.methodLink RX0 44 yX1_needAll ∈ tbG := mG (tt3 (List.mem_of_getElem? (i := 190) rfl)) rfl
theorem kw718 : mdCode M_he_needAll ∈ tbG := mG (tt3 (List.mem_of_getElem? (i := 193) rfl)) rfl
theorem kw719 : Cond.instanceMethod yX1_needAll ∈ tbG := mG (tt3 (List.mem_of_getElem? (i := 191) rfl)) rfl
theorem kw720 : Cond.selects yX1_needAll.cls yX1_needAll yX1_needAll ∈ tbG := mG (tt3 (List.mem_of_getElem? (i := 192) rfl)) rfl
theorem cv_X0_44 : CV RX0 44 M_he_needAll 1 := ⟨⟨kw717, kw718, kw710, ⟨by decide, by decide⟩, by decide +kernel, rfl⟩, kw719, kw720⟩
theorem kw721 : Cond.methodLink RX0 48 yX0_dayOfAll ∈ tbG := mG (tt3 (List.mem_of_getElem? (i := 194) rfl)) rfl
theorem kw722 : mdCode M_ac_dayOfAll ∈ tbG := mG (tt3 (List.mem_of_getElem? (i := 197) rfl)) rfl
theorem kw723 : Cond.initialized RX0 ∈ tbG := mG (tt1 (List.mem_of_getElem? (i := 12) rfl)) rfl
theorem kw724 : Cond.instanceMethod yX0_dayOfAll ∈ tbG := mG (tt3 (List.mem_of_getElem? (i := 196) rfl)) rfl
theorem kw725 : Cond.selects yX0_dayOfAll.cls yX0_dayOfAll yX0_dayOfAll ∈ tbG := mG (tp1 (q := (yX0_dayOfAll, _)) (List.mem_of_getElem? (i := 13) rfl)) rfl
theorem cv_X0_48 : CV RX0 48 M_ac_dayOfAll 1 := ⟨⟨kw721, kw722, kw723, ⟨by decide, by decide⟩, by decide +kernel, rfl⟩, kw724, kw725⟩
theorem kw726 : Cond.methodLink RX0 51 yX4_only ∈ tbG := mG (tt3 (List.mem_of_getElem? (i := 201) rfl)) rfl
theorem kw727 : mdCode M_rw_only ∈ tbG := mG (tt3 (List.mem_of_getElem? (i := 123) rfl)) rfl
theorem kw728 : Cond.initialized RX4 ∈ tbG := mG (tt1 (List.mem_of_getElem? (i := 2) rfl)) rfl
theorem kw729 : Cond.instanceMethod yX4_only ∈ tbG := mG (tt3 (List.mem_of_getElem? (i := 121) rfl)) rfl
theorem kw730 : Cond.selects yX4_only.cls yX4_only yX4_only ∈ tbG := mG (tt3 (List.mem_of_getElem? (i := 122) rfl)) rfl
theorem cv_X0_51 : CV RX0 51 M_rw_only 1 := ⟨⟨kw726, kw727, kw728, ⟨by decide, by decide⟩, by decide +kernel, rfl⟩, kw729, kw730⟩
theorem kw731 : Cond.methodLink RX0 57 yX4_clear ∈ tbG := mG (tt5 (List.mem_of_getElem? (i := 180) rfl)) rfl
theorem kw732 : mdCode M_rw_clear ∈ tbG := mG (tt3 (List.mem_of_getElem? (i := 127) rfl)) rfl
theorem kw733 : Cond.instanceMethod yX4_clear ∈ tbG := mG (tt3 (List.mem_of_getElem? (i := 125) rfl)) rfl
theorem kw734 : Cond.selects yX4_clear.cls yX4_clear yX4_clear ∈ tbG := mG (tt3 (List.mem_of_getElem? (i := 126) rfl)) rfl
theorem cv_X0_57 : CV RX0 57 M_rw_clear 0 := ⟨⟨kw731, kw732, kw728, ⟨by decide, by decide⟩, by decide +kernel, rfl⟩, kw733, kw734⟩
theorem kw735 : Cond.methodLink RX0 64 yX0_nextPair ∈ tbG := mG (tt5 (List.mem_of_getElem? (i := 181) rfl)) rfl
theorem kw736 : mdCode M_ac_nextPair ∈ tbG := mG (tt5 (List.mem_of_getElem? (i := 184) rfl)) rfl
theorem kw737 : Cond.instanceMethod yX0_nextPair ∈ tbG := mG (tt5 (List.mem_of_getElem? (i := 183) rfl)) rfl
theorem kw738 : Cond.selects yX0_nextPair.cls yX0_nextPair yX0_nextPair ∈ tbG := mG (tp3 (q := (yX0_nextPair, _)) (List.mem_of_getElem? (i := 8) rfl)) rfl
theorem cv_X0_64 : CV RX0 64 M_ac_nextPair 2 := ⟨⟨kw735, kw736, kw723, ⟨by decide, by decide⟩, by decide +kernel, rfl⟩, kw737, kw738⟩
theorem kw739 : Cond.methodLink RX0 68 yX0_tellPair ∈ tbG := mG (tt5 (List.mem_of_getElem? (i := 213) rfl)) rfl
theorem kw740 : mdCode M_ac_tellPair ∈ tbG := mG (tt5 (List.mem_of_getElem? (i := 216) rfl)) rfl
theorem kw741 : Cond.instanceMethod yX0_tellPair ∈ tbG := mG (tt5 (List.mem_of_getElem? (i := 215) rfl)) rfl
theorem kw742 : Cond.selects yX0_tellPair.cls yX0_tellPair yX0_tellPair ∈ tbG := mG (tp3 (q := (yX0_tellPair, _)) (List.mem_of_getElem? (i := 14) rfl)) rfl
theorem cv_X0_68 : CV RX0 68 M_ac_tellPair 1 := ⟨⟨kw739, kw740, kw723, ⟨by decide, by decide⟩, by decide +kernel, rfl⟩, kw741, kw742⟩
theorem kw743 : Cond.methodLink RX0 71 yX0_isInOrder ∈ tbG := mG (tt5 (List.mem_of_getElem? (i := 185) rfl)) rfl
theorem kw744 : mdCode M_ac_isInOrder ∈ tbG := mG (tt5 (List.mem_of_getElem? (i := 188) rfl)) rfl
theorem kw745 : Cond.instanceMethod yX0_isInOrder ∈ tbG := mG (tt5 (List.mem_of_getElem? (i := 187) rfl)) rfl
theorem kw746 : Cond.selects yX0_isInOrder.cls yX0_isInOrder yX0_isInOrder ∈ tbG := mG (tp3 (q := (yX0_isInOrder, _)) (List.mem_of_getElem? (i := 9) rfl)) rfl
theorem cv_X0_71 : CV RX0 71 M_ac_isInOrder 1 := ⟨⟨kw743, kw744, kw723, ⟨by decide, by decide⟩, by decide +kernel, rfl⟩, kw745, kw746⟩
theorem kw747 : Cond.methodLink RX0 75 yX0_turn ∈ tbG := mG (tt5 (List.mem_of_getElem? (i := 201) rfl)) rfl
theorem kw748 : mdCode M_ac_turn ∈ tbG := mG (tt5 (List.mem_of_getElem? (i := 204) rfl)) rfl
theorem kw749 : Cond.instanceMethod yX0_turn ∈ tbG := mG (tt5 (List.mem_of_getElem? (i := 203) rfl)) rfl
theorem kw750 : Cond.selects yX0_turn.cls yX0_turn yX0_turn ∈ tbG := mG (tp3 (q := (yX0_turn, _)) (List.mem_of_getElem? (i := 13) rfl)) rfl
theorem cv_X0_75 : CV RX0 75 M_ac_turn 2 := ⟨⟨kw747, kw748, kw723, ⟨by decide, by decide⟩, by decide +kernel, rfl⟩, kw749, kw750⟩
theorem kw751 : Cond.methodLink RX0 79 yX0_doesIt ∈ tbG := mG (tt5 (List.mem_of_getElem? (i := 197) rfl)) rfl
theorem kw752 : mdCode M_ac_doesIt ∈ tbG := mG (tt5 (List.mem_of_getElem? (i := 200) rfl)) rfl
theorem kw753 : Cond.instanceMethod yX0_doesIt ∈ tbG := mG (tt5 (List.mem_of_getElem? (i := 199) rfl)) rfl
theorem kw754 : Cond.selects yX0_doesIt.cls yX0_doesIt yX0_doesIt ∈ tbG := mG (tp3 (q := (yX0_doesIt, _)) (List.mem_of_getElem? (i := 12) rfl)) rfl
theorem cv_X0_79 : CV RX0 79 M_ac_doesIt 2 := ⟨⟨kw751, kw752, kw723, ⟨by decide, by decide⟩, by decide +kernel, rfl⟩, kw753, kw754⟩
theorem kw755 : Cond.methodLink RX0 83 yX8_isPair ∈ tbG := mG (tt5 (List.mem_of_getElem? (i := 226) rfl)) rfl
theorem kw756 : mdCode M_st_isPair ∈ tbG := mG (tt5 (List.mem_of_getElem? (i := 212) rfl)) rfl
theorem kw757 : Cond.instanceMethod yX8_isPair ∈ tbG := mG (tt5 (List.mem_of_getElem? (i := 210) rfl)) rfl
theorem kw758 : Cond.selects yX8_isPair.cls yX8_isPair yX8_isPair ∈ tbG := mG (tt5 (List.mem_of_getElem? (i := 211) rfl)) rfl
theorem cv_X0_83 : CV RX0 83 M_st_isPair 2 := ⟨⟨kw755, kw756, kw701, ⟨by decide, by decide⟩, by decide +kernel, rfl⟩, kw757, kw758⟩
theorem kw759 : Cond.methodLink RX0 86 yX0_one ∈ tbG := mG (tt5 (List.mem_of_getElem? (i := 189) rfl)) rfl
theorem kw760 : mdCode M_ac_one ∈ tbG := mG (tt5 (List.mem_of_getElem? (i := 192) rfl)) rfl
theorem kw761 : Cond.instanceMethod yX0_one ∈ tbG := mG (tt5 (List.mem_of_getElem? (i := 191) rfl)) rfl
theorem kw762 : Cond.selects yX0_one.cls yX0_one yX0_one ∈ tbG := mG (tp3 (q := (yX0_one, _)) (List.mem_of_getElem? (i := 10) rfl)) rfl
theorem cv_X0_86 : CV RX0 86 M_ac_one 1 := ⟨⟨kw759, kw760, kw723, ⟨by decide, by decide⟩, by decide +kernel, rfl⟩, kw761, kw762⟩
theorem kw763 : Cond.methodLink RX0 89 yX0_other ∈ tbG := mG (tt5 (List.mem_of_getElem? (i := 193) rfl)) rfl
theorem kw764 : mdCode M_ac_other ∈ tbG := mG (tt5 (List.mem_of_getElem? (i := 196) rfl)) rfl
theorem kw765 : Cond.instanceMethod yX0_other ∈ tbG := mG (tt5 (List.mem_of_getElem? (i := 195) rfl)) rfl
theorem kw766 : Cond.selects yX0_other.cls yX0_other yX0_other ∈ tbG := mG (tp3 (q := (yX0_other, _)) (List.mem_of_getElem? (i := 11) rfl)) rfl
theorem cv_X0_89 : CV RX0 89 M_ac_other 1 := ⟨⟨kw763, kw764, kw723, ⟨by decide, by decide⟩, by decide +kernel, rfl⟩, kw765, kw766⟩
theorem kw767 : Cond.methodLink RX0 92 yX1_turnPair ∈ tbG := mG (tt5 (List.mem_of_getElem? (i := 205) rfl)) rfl
theorem kw768 : mdCode M_he_turnPair ∈ tbG := mG (tt5 (List.mem_of_getElem? (i := 208) rfl)) rfl
theorem kw769 : Cond.instanceMethod yX1_turnPair ∈ tbG := mG (tt5 (List.mem_of_getElem? (i := 206) rfl)) rfl
theorem kw770 : Cond.selects yX1_turnPair.cls yX1_turnPair yX1_turnPair ∈ tbG := mG (tt5 (List.mem_of_getElem? (i := 207) rfl)) rfl
theorem cv_X0_92 : CV RX0 92 M_he_turnPair 3 := ⟨⟨kw767, kw768, kw710, ⟨by decide, by decide⟩, by decide +kernel, rfl⟩, kw769, kw770⟩
theorem kw771 : Cond.methodLink RX0 96 yX4_add ∈ tbG := mG (tt5 (List.mem_of_getElem? (i := 217) rfl)) rfl
theorem kw772 : mdCode M_rw_add ∈ tbG := mG (tt3 (List.mem_of_getElem? (i := 131) rfl)) rfl
theorem kw773 : Cond.instanceMethod yX4_add ∈ tbG := mG (tt3 (List.mem_of_getElem? (i := 129) rfl)) rfl
theorem kw774 : Cond.selects yX4_add.cls yX4_add yX4_add ∈ tbG := mG (tt3 (List.mem_of_getElem? (i := 130) rfl)) rfl
theorem cv_X0_96 : CV RX0 96 M_rw_add 1 := ⟨⟨kw771, kw772, kw728, ⟨by decide, by decide⟩, by decide +kernel, rfl⟩, kw773, kw774⟩
theorem kw775 : Cond.methodLink RX1 53 yX1_addLoud ∈ tbG := mG (tt3 (List.mem_of_getElem? (i := 41) rfl)) rfl
theorem kw776 : mdCode M_he_addLoud ∈ tbG := mG (tt3 (List.mem_of_getElem? (i := 44) rfl)) rfl
theorem kw777 : Cond.instanceMethod yX1_addLoud ∈ tbG := mG (tt3 (List.mem_of_getElem? (i := 43) rfl)) rfl
theorem kw778 : Cond.selects yX1_addLoud.cls yX1_addLoud yX1_addLoud ∈ tbG := mG (tp1 (q := (yX1_addLoud, _)) (List.mem_of_getElem? (i := 10) rfl)) rfl
theorem cv_X1_53 : CV RX1 53 M_he_addLoud 3 := ⟨⟨kw775, kw776, kw710, ⟨by decide, by decide⟩, by decide +kernel, rfl⟩, kw777, kw778⟩
theorem kw779 : Cond.methodLink RX1 57 yX1_raiseBar ∈ tbG := mG (tt3 (List.mem_of_getElem? (i := 45) rfl)) rfl
theorem kw780 : mdCode M_he_raiseBar ∈ tbG := mG (tt3 (List.mem_of_getElem? (i := 48) rfl)) rfl
theorem kw781 : Cond.instanceMethod yX1_raiseBar ∈ tbG := mG (tt3 (List.mem_of_getElem? (i := 47) rfl)) rfl
theorem kw782 : Cond.selects yX1_raiseBar.cls yX1_raiseBar yX1_raiseBar ∈ tbG := mG (tp1 (q := (yX1_raiseBar, _)) (List.mem_of_getElem? (i := 11) rfl)) rfl
theorem cv_X1_57 : CV RX1 57 M_he_raiseBar 1 := ⟨⟨kw779, kw780, kw710, ⟨by decide, by decide⟩, by decide +kernel, rfl⟩, kw781, kw782⟩
theorem kw783 : Cond.methodLink RX1 65 yX8_isPair ∈ tbG := mG (tt5 (List.mem_of_getElem? (i := 209) rfl)) rfl
theorem cv_X1_65 : CV RX1 65 M_st_isPair 2 := ⟨⟨kw783, kw756, kw701, ⟨by decide, by decide⟩, by decide +kernel, rfl⟩, kw757, kw758⟩
theorem kw784 : Cond.methodLink RX1 76 yX1_highest ∈ tbG := mG (tt3 (List.mem_of_getElem? (i := 59) rfl)) rfl
theorem kw785 : mdCode M_he_highest ∈ tbG := mG (tt3 (List.mem_of_getElem? (i := 61) rfl)) rfl
theorem kw786 : Cond.static yX1_highest ∈ tbG := mG (tt3 (List.mem_of_getElem? (i := 60) rfl)) rfl
theorem cs_X1_76 : CS RX1 76 M_he_highest 1 := ⟨⟨kw784, kw785, kw710, ⟨by decide, by decide⟩, by decide +kernel, rfl⟩, kw786⟩
theorem kw787 : Cond.methodLink RX1 84 yX1_learn ∈ tbG := mG (tt3 (List.mem_of_getElem? (i := 37) rfl)) rfl
theorem cv_X1_84 : CV RX1 84 M_he_learn 0 := ⟨⟨kw787, kw714, kw710, ⟨by decide, by decide⟩, by decide +kernel, rfl⟩, kw715, kw716⟩
theorem kw788 : Cond.methodLink RX1 87 yX8_everybody ∈ tbG := mG (tt3 (List.mem_of_getElem? (i := 51) rfl)) rfl
theorem cv_X1_87 : CV RX1 87 M_st_everybody 0 := ⟨⟨kw788, kw705, kw701, ⟨by decide, by decide⟩, by decide +kernel, rfl⟩, kw706, kw707⟩
theorem kw789 : Cond.methodLink RX1 91 yX1_next ∈ tbG := mG (tt3 (List.mem_of_getElem? (i := 55) rfl)) rfl
theorem cv_X1_91 : CV RX1 91 M_he_next 1 := ⟨⟨kw789, kw709, kw710, ⟨by decide, by decide⟩, by decide +kernel, rfl⟩, kw711, kw712⟩
theorem kw790 : Cond.methodLink RX1 95 yX1_after ∈ tbG := mG (tt3 (List.mem_of_getElem? (i := 173) rfl)) rfl
theorem kw791 : mdCode M_he_after ∈ tbG := mG (tt3 (List.mem_of_getElem? (i := 36) rfl)) rfl
theorem kw792 : Cond.instanceMethod yX1_after ∈ tbG := mG (tt3 (List.mem_of_getElem? (i := 34) rfl)) rfl
theorem kw793 : Cond.selects yX1_after.cls yX1_after yX1_after ∈ tbG := mG (tt3 (List.mem_of_getElem? (i := 35) rfl)) rfl
theorem cv_X1_95 : CV RX1 95 M_he_after 1 := ⟨⟨kw790, kw791, kw710, ⟨by decide, by decide⟩, by decide +kernel, rfl⟩, kw792, kw793⟩
theorem kw794 : Cond.methodLink RX10 27 yX8_openToTalk ∈ tbG := mG (tt4 (List.mem_of_getElem? (i := 73) rfl)) rfl
theorem kw795 : mdCode M_st_openToTalk ∈ tbG := mG (tt3 (List.mem_of_getElem? (i := 80) rfl)) rfl
theorem kw796 : Cond.instanceMethod yX8_openToTalk ∈ tbG := mG (tt3 (List.mem_of_getElem? (i := 78) rfl)) rfl
theorem kw797 : Cond.selects yX8_openToTalk.cls yX8_openToTalk yX8_openToTalk ∈ tbG := mG (tt3 (List.mem_of_getElem? (i := 79) rfl)) rfl
theorem cv_X10_27 : CV RX10 27 M_st_openToTalk 0 := ⟨⟨kw794, kw795, kw701, ⟨by decide, by decide⟩, by decide +kernel, rfl⟩, kw796, kw797⟩
theorem kw798 : Cond.methodLink RX10 33 yX8_everybody ∈ tbG := mG (tt4 (List.mem_of_getElem? (i := 74) rfl)) rfl
theorem cv_X10_33 : CV RX10 33 M_st_everybody 0 := ⟨⟨kw798, kw705, kw701, ⟨by decide, by decide⟩, by decide +kernel, rfl⟩, kw706, kw707⟩
theorem kw799 : Cond.methodLink RX10 36 yJ6_bitCount_0f7a4 ∈ tbG := mG (tt4 (List.mem_of_getElem? (i := 75) rfl)) rfl
theorem kw800 : mdCode M_jd_bitCount ∈ tbG := mG (tt4 (List.mem_of_getElem? (i := 26) rfl)) rfl
theorem kw801 : Cond.initialized RJ6 ∈ tbG := mG (tt1 (List.mem_of_getElem? (i := 20) rfl)) rfl
theorem kw802 : Cond.static yJ6_bitCount_0f7a4 ∈ tbG := mG (tt4 (List.mem_of_getElem? (i := 25) rfl)) rfl
theorem cs_X10_36 : CS RX10 36 M_jd_bitCount 1 := ⟨⟨kw799, kw800, kw801, ⟨by decide, by decide⟩, by decide +kernel, rfl⟩, kw802⟩
theorem kw803 : Cond.methodLink RX10 42 yX8_priceOf ∈ tbG := mG (tt4 (List.mem_of_getElem? (i := 76) rfl)) rfl
theorem kw804 : mdCode M_st_priceOf ∈ tbG := mG (tt3 (List.mem_of_getElem? (i := 84) rfl)) rfl
theorem kw805 : Cond.instanceMethod yX8_priceOf ∈ tbG := mG (tt3 (List.mem_of_getElem? (i := 82) rfl)) rfl
theorem kw806 : Cond.selects yX8_priceOf.cls yX8_priceOf yX8_priceOf ∈ tbG := mG (tt3 (List.mem_of_getElem? (i := 83) rfl)) rfl
theorem cv_X10_42 : CV RX10 42 M_st_priceOf 1 := ⟨⟨kw803, kw804, kw701, ⟨by decide, by decide⟩, by decide +kernel, rfl⟩, kw805, kw806⟩
theorem kw807 : Cond.methodLink RX10 45 yX8_now ∈ tbG := mG (tt4 (List.mem_of_getElem? (i := 77) rfl)) rfl
theorem cv_X10_45 : CV RX10 45 M_st_now 0 := ⟨⟨kw807, kw700, kw701, ⟨by decide, by decide⟩, by decide +kernel, rfl⟩, kw702, kw703⟩
theorem kw808 : Cond.methodLink RX10 48 yX1_dayOf ∈ tbG := mG (tt4 (List.mem_of_getElem? (i := 78) rfl)) rfl
theorem kw809 : mdCode M_he_dayOf ∈ tbG := mG (tt4 (List.mem_of_getElem? (i := 81) rfl)) rfl
theorem kw810 : Cond.instanceMethod yX1_dayOf ∈ tbG := mG (tt4 (List.mem_of_getElem? (i := 79) rfl)) rfl
theorem kw811 : Cond.selects yX1_dayOf.cls yX1_dayOf yX1_dayOf ∈ tbG := mG (tt4 (List.mem_of_getElem? (i := 80) rfl)) rfl
theorem cv_X10_48 : CV RX10 48 M_he_dayOf 3 := ⟨⟨kw808, kw809, kw710, ⟨by decide, by decide⟩, by decide +kernel, rfl⟩, kw810, kw811⟩
theorem kw812 : Cond.methodLink RX10 54 yX4_only ∈ tbG := mG (tt4 (List.mem_of_getElem? (i := 82) rfl)) rfl
theorem cv_X10_54 : CV RX10 54 M_rw_only 1 := ⟨⟨kw812, kw727, kw728, ⟨by decide, by decide⟩, by decide +kernel, rfl⟩, kw729, kw730⟩
theorem kw813 : Cond.methodLink RX10 60 yX10_seek ∈ tbG := mG (tt4 (List.mem_of_getElem? (i := 99) rfl)) rfl
theorem kw814 : mdCode M_ta_seek ∈ tbG := mG (tt4 (List.mem_of_getElem? (i := 102) rfl)) rfl
theorem kw815 : Cond.initialized RX10 ∈ tbG := mG (tt1 (List.mem_of_getElem? (i := 10) rfl)) rfl
theorem kw816 : Cond.instanceMethod yX10_seek ∈ tbG := mG (tt4 (List.mem_of_getElem? (i := 101) rfl)) rfl
theorem kw817 : Cond.selects yX10_seek.cls yX10_seek yX10_seek ∈ tbG := mG (tp2 (q := (yX10_seek, _)) (List.mem_of_getElem? (i := 4) rfl)) rfl
theorem cv_X10_60 : CV RX10 60 M_ta_seek 2 := ⟨⟨kw813, kw814, kw815, ⟨by decide, by decide⟩, by decide +kernel, rfl⟩, kw816, kw817⟩
theorem kw818 : Cond.methodLink RX10 73 yX10_whomFirst ∈ tbG := mG (tt4 (List.mem_of_getElem? (i := 117) rfl)) rfl
theorem kw819 : mdCode M_ta_whomFirst ∈ tbG := mG (tt4 (List.mem_of_getElem? (i := 120) rfl)) rfl
theorem kw820 : Cond.instanceMethod yX10_whomFirst ∈ tbG := mG (tt4 (List.mem_of_getElem? (i := 119) rfl)) rfl
theorem kw821 : Cond.selects yX10_whomFirst.cls yX10_whomFirst yX10_whomFirst ∈ tbG := mG (tp2 (q := (yX10_whomFirst, _)) (List.mem_of_getElem? (i := 7) rfl)) rfl
theorem cv_X10_73 : CV RX10 73 M_ta_whomFirst 3 := ⟨⟨kw818, kw819, kw815, ⟨by decide, by decide⟩, by decide +kernel, rfl⟩, kw820, kw821⟩
theorem kw822 : Cond.methodLink RX10 76 yX4_add ∈ tbG := mG (tt4 (List.mem_of_getElem? (i := 121) rfl)) rfl
theorem cv_X10_76 : CV RX10 76 M_rw_add 1 := ⟨⟨kw822, kw772, kw728, ⟨by decide, by decide⟩, by decide +kernel, rfl⟩, kw773, kw774⟩
theorem kw823 : Cond.methodLink RX10 79 yX4_clear ∈ tbG := mG (tt4 (List.mem_of_getElem? (i := 130) rfl)) rfl
theorem cv_X10_79 : CV RX10 79 M_rw_clear 0 := ⟨⟨kw823, kw732, kw728, ⟨by decide, by decide⟩, by decide +kernel, rfl⟩, kw733, kw734⟩
theorem kw824 : Cond.methodLink RX10 86 yX1_after ∈ tbG := mG (tt4 (List.mem_of_getElem? (i := 109) rfl)) rfl
theorem cv_X10_86 : CV RX10 86 M_he_after 1 := ⟨⟨kw824, kw791, kw710, ⟨by decide, by decide⟩, by decide +kernel, rfl⟩, kw792, kw793⟩
theorem kw825 : Cond.methodLink RX10 95 yX2_begin ∈ tbG := mG (tt4 (List.mem_of_getElem? (i := 103) rfl)) rfl
theorem kw826 : mdCode M_me_begin ∈ tbG := mG (tt3 (List.mem_of_getElem? (i := 100) rfl)) rfl
theorem kw827 : Cond.initialized RX2 ∈ tbG := mG (tt1 (List.mem_of_getElem? (i := 8) rfl)) rfl
theorem kw828 : Cond.instanceMethod yX2_begin ∈ tbG := mG (tt3 (List.mem_of_getElem? (i := 98) rfl)) rfl
theorem kw829 : Cond.selects yX2_begin.cls yX2_begin yX2_begin ∈ tbG := mG (tt3 (List.mem_of_getElem? (i := 99) rfl)) rfl
theorem cv_X10_95 : CV RX10 95 M_me_begin 1 := ⟨⟨kw825, kw826, kw827, ⟨by decide, by decide⟩, by decide +kernel, rfl⟩, kw828, kw829⟩
theorem kw830 : Cond.methodLink RX10 101 yX10_leastSum ∈ tbG := mG (tt4 (List.mem_of_getElem? (i := 104) rfl)) rfl
theorem kw831 : mdCode M_ta_leastSum ∈ tbG := mG (tt4 (List.mem_of_getElem? (i := 107) rfl)) rfl
theorem kw832 : Cond.instanceMethod yX10_leastSum ∈ tbG := mG (tt4 (List.mem_of_getElem? (i := 106) rfl)) rfl
theorem kw833 : Cond.selects yX10_leastSum.cls yX10_leastSum yX10_leastSum ∈ tbG := mG (tp2 (q := (yX10_leastSum, _)) (List.mem_of_getElem? (i := 5) rfl)) rfl
theorem cv_X10_101 : CV RX10 101 M_ta_leastSum 2 := ⟨⟨kw830, kw831, kw815, ⟨by decide, by decide⟩, by decide +kernel, rfl⟩, kw832, kw833⟩
theorem kw834 : Cond.methodLink RX10 105 yX2_recall ∈ tbG := mG (tt4 (List.mem_of_getElem? (i := 108) rfl)) rfl
theorem kw835 : mdCode M_me_recall ∈ tbG := mG (tt3 (List.mem_of_getElem? (i := 109) rfl)) rfl
theorem kw836 : Cond.instanceMethod yX2_recall ∈ tbG := mG (tt3 (List.mem_of_getElem? (i := 107) rfl)) rfl
theorem kw837 : Cond.selects yX2_recall.cls yX2_recall yX2_recall ∈ tbG := mG (tt3 (List.mem_of_getElem? (i := 108) rfl)) rfl
theorem cv_X10_105 : CV RX10 105 M_me_recall 2 := ⟨⟨kw834, kw835, kw827, ⟨by decide, by decide⟩, by decide +kernel, rfl⟩, kw836, kw837⟩
theorem kw838 : Cond.methodLink RX10 111 yX10_leastSumWith ∈ tbG := mG (tt4 (List.mem_of_getElem? (i := 110) rfl)) rfl
theorem kw839 : mdCode M_ta_leastSumWith ∈ tbG := mG (tt4 (List.mem_of_getElem? (i := 113) rfl)) rfl
theorem kw840 : Cond.instanceMethod yX10_leastSumWith ∈ tbG := mG (tt4 (List.mem_of_getElem? (i := 112) rfl)) rfl
theorem kw841 : Cond.selects yX10_leastSumWith.cls yX10_leastSumWith yX10_leastSumWith ∈ tbG := mG (tp2 (q := (yX10_leastSumWith, _)) (List.mem_of_getElem? (i := 6) rfl)) rfl
theorem cv_X10_111 : CV RX10 111 M_ta_leastSumWith 3 := ⟨⟨kw838, kw839, kw815, ⟨by decide, by decide⟩, by decide +kernel, rfl⟩, kw840, kw841⟩
theorem kw842 : Cond.methodLink RX10 114 yJ9_min_7cf53 ∈ tbG := mG (tt4 (List.mem_of_getElem? (i := 114) rfl)) rfl
theorem cs_X10_114 : CS RX10 114 M_jd_min 2 := ⟨⟨kw842, kw272, kw273, ⟨by decide, by decide⟩, by decide +kernel, rfl⟩, kw274⟩
theorem kw843 : Cond.methodLink RX10 119 yX2_note ∈ tbG := mG (tt4 (List.mem_of_getElem? (i := 115) rfl)) rfl
theorem kw844 : mdCode M_me_note ∈ tbG := mG (tt3 (List.mem_of_getElem? (i := 113) rfl)) rfl
theorem kw845 : Cond.instanceMethod yX2_note ∈ tbG := mG (tt3 (List.mem_of_getElem? (i := 111) rfl)) rfl
theorem kw846 : Cond.selects yX2_note.cls yX2_note yX2_note ∈ tbG := mG (tt3 (List.mem_of_getElem? (i := 112) rfl)) rfl
theorem cv_X10_119 : CV RX10 119 M_me_note 3 := ⟨⟨kw843, kw844, kw827, ⟨by decide, by decide⟩, by decide +kernel, rfl⟩, kw845, kw846⟩
theorem kw847 : Cond.methodLink RX10 123 yJ6_lowestOneBit_0f7a4 ∈ tbG := mG (tt4 (List.mem_of_getElem? (i := 139) rfl)) rfl
theorem kw848 : mdCode M_jd_lowestOneBit ∈ tbG := mG (tt4 (List.mem_of_getElem? (i := 141) rfl)) rfl
theorem kw849 : Cond.static yJ6_lowestOneBit_0f7a4 ∈ tbG := mG (tt4 (List.mem_of_getElem? (i := 140) rfl)) rfl
theorem cs_X10_123 : CS RX10 123 M_jd_lowestOneBit 1 := ⟨⟨kw847, kw848, kw801, ⟨by decide, by decide⟩, by decide +kernel, rfl⟩, kw849⟩
theorem kw850 : Cond.methodLink RX10 126 yX10_lost ∈ tbG := mG (tt4 (List.mem_of_getElem? (i := 150) rfl)) rfl
theorem kw851 : mdCode M_ta_lost ∈ tbG := mG (tt4 (List.mem_of_getElem? (i := 153) rfl)) rfl
theorem kw852 : Cond.instanceMethod yX10_lost ∈ tbG := mG (tt4 (List.mem_of_getElem? (i := 152) rfl)) rfl
theorem kw853 : Cond.selects yX10_lost.cls yX10_lost yX10_lost ∈ tbG := mG (tp2 (q := (yX10_lost, _)) (List.mem_of_getElem? (i := 8) rfl)) rfl
theorem cv_X10_126 : CV RX10 126 M_ta_lost 1 := ⟨⟨kw850, kw851, kw815, ⟨by decide, by decide⟩, by decide +kernel, rfl⟩, kw852, kw853⟩
theorem kw854 : Cond.methodLink RX10 129 yX10_greatestHolding ∈ tbG := mG (tt4 (List.mem_of_getElem? (i := 171) rfl)) rfl
theorem kw855 : mdCode M_ta_greatestHolding ∈ tbG := mG (tt4 (List.mem_of_getElem? (i := 149) rfl)) rfl
theorem kw856 : Cond.instanceMethod yX10_greatestHolding ∈ tbG := mG (tt4 (List.mem_of_getElem? (i := 147) rfl)) rfl
theorem kw857 : Cond.selects yX10_greatestHolding.cls yX10_greatestHolding yX10_greatestHolding ∈ tbG := mG (tt4 (List.mem_of_getElem? (i := 148) rfl)) rfl
theorem cv_X10_129 : CV RX10 129 M_ta_greatestHolding 0 := ⟨⟨kw854, kw855, kw815, ⟨by decide, by decide⟩, by decide +kernel, rfl⟩, kw856, kw857⟩
theorem kw858 : Cond.methodLink RX10 132 yX10_smallestHolding ∈ tbG := mG (tt4 (List.mem_of_getElem? (i := 172) rfl)) rfl
theorem kw859 : mdCode M_ta_smallestHolding ∈ tbG := mG (tt4 (List.mem_of_getElem? (i := 162) rfl)) rfl
theorem kw860 : Cond.instanceMethod yX10_smallestHolding ∈ tbG := mG (tt4 (List.mem_of_getElem? (i := 160) rfl)) rfl
theorem kw861 : Cond.selects yX10_smallestHolding.cls yX10_smallestHolding yX10_smallestHolding ∈ tbG := mG (tt4 (List.mem_of_getElem? (i := 161) rfl)) rfl
theorem cv_X10_132 : CV RX10 132 M_ta_smallestHolding 2 := ⟨⟨kw858, kw859, kw815, ⟨by decide, by decide⟩, by decide +kernel, rfl⟩, kw860, kw861⟩
theorem kw862 : Cond.methodLink RX11 112 yX9_read ∈ tbG := mG (tt2 (List.mem_of_getElem? (i := 174) rfl)) rfl
theorem kw863 : mdCode M_sr_read ∈ tbG := mG (tt2 (List.mem_of_getElem? (i := 177) rfl)) rfl
theorem kw864 : Cond.initialized RX9 ∈ tbG := mG (tt1 (List.mem_of_getElem? (i := 5) rfl)) rfl
theorem kw865 : Cond.instanceMethod yX9_read ∈ tbG := mG (tt2 (List.mem_of_getElem? (i := 175) rfl)) rfl
theorem kw866 : Cond.selects yX9_read.cls yX9_read yX9_read ∈ tbG := mG (tt2 (List.mem_of_getElem? (i := 176) rfl)) rfl
theorem cv_X11_112 : CV RX11 112 M_sr_read 2 := ⟨⟨kw862, kw863, kw864, ⟨by decide, by decide⟩, by decide +kernel, rfl⟩, kw865, kw866⟩
theorem kw867 : Cond.methodLink RX11 116 yX8_has ∈ tbG := mG (tt2 (List.mem_of_getElem? (i := 233) rfl)) rfl
theorem kw868 : mdCode M_st_has ∈ tbG := mG (tt2 (List.mem_of_getElem? (i := 236) rfl)) rfl
theorem kw869 : Cond.instanceMethod yX8_has ∈ tbG := mG (tt2 (List.mem_of_getElem? (i := 234) rfl)) rfl
theorem kw870 : Cond.selects yX8_has.cls yX8_has yX8_has ∈ tbG := mG (tt2 (List.mem_of_getElem? (i := 235) rfl)) rfl
theorem cv_X11_116 : CV RX11 116 M_st_has 1 := ⟨⟨kw867, kw868, kw701, ⟨by decide, by decide⟩, by decide +kernel, rfl⟩, kw869, kw870⟩
theorem kw871 : Cond.methodLink RX11 123 yX8_now ∈ tbG := mG (tt3 (List.mem_of_getElem? (i := 32) rfl)) rfl
theorem cv_X11_123 : CV RX11 123 M_st_now 0 := ⟨⟨kw871, kw700, kw701, ⟨by decide, by decide⟩, by decide +kernel, rfl⟩, kw702, kw703⟩
theorem kw872 : Cond.methodLink RX11 136 yX8_allOf ∈ tbG := mG (tt6 (List.mem_of_getElem? (i := 89) rfl)) rfl
theorem kw873 : mdCode M_st_allOf ∈ tbG := mG (tt3 (List.mem_of_getElem? (i := 145) rfl)) rfl
theorem kw874 : Cond.instanceMethod yX8_allOf ∈ tbG := mG (tt3 (List.mem_of_getElem? (i := 143) rfl)) rfl
theorem kw875 : Cond.selects yX8_allOf.cls yX8_allOf yX8_allOf ∈ tbG := mG (tt3 (List.mem_of_getElem? (i := 144) rfl)) rfl
theorem cv_X11_136 : CV RX11 136 M_st_allOf 1 := ⟨⟨kw872, kw873, kw701, ⟨by decide, by decide⟩, by decide +kernel, rfl⟩, kw874, kw875⟩
theorem kw876 : Cond.methodLink RX11 140 yX8_loudnessOf ∈ tbG := mG (tt6 (List.mem_of_getElem? (i := 90) rfl)) rfl
theorem kw877 : mdCode M_st_loudnessOf ∈ tbG := mG (tt5 (List.mem_of_getElem? (i := 84) rfl)) rfl
theorem kw878 : Cond.instanceMethod yX8_loudnessOf ∈ tbG := mG (tt5 (List.mem_of_getElem? (i := 82) rfl)) rfl
theorem kw879 : Cond.selects yX8_loudnessOf.cls yX8_loudnessOf yX8_loudnessOf ∈ tbG := mG (tt5 (List.mem_of_getElem? (i := 83) rfl)) rfl
theorem cv_X11_140 : CV RX11 140 M_st_loudnessOf 1 := ⟨⟨kw876, kw877, kw701, ⟨by decide, by decide⟩, by decide +kernel, rfl⟩, kw878, kw879⟩
theorem kw880 : Cond.methodLink RX11 143 yX8_putNeed ∈ tbG := mG (tt2 (List.mem_of_getElem? (i := 237) rfl)) rfl
theorem kw881 : mdCode M_st_putNeed ∈ tbG := mG (tt3 (List.mem_of_getElem? (i := 0) rfl)) rfl
theorem kw882 : Cond.instanceMethod yX8_putNeed ∈ tbG := mG (tt2 (List.mem_of_getElem? (i := 238) rfl)) rfl
theorem kw883 : Cond.selects yX8_putNeed.cls yX8_putNeed yX8_putNeed ∈ tbG := mG (tt2 (List.mem_of_getElem? (i := 239) rfl)) rfl
theorem cv_X11_143 : CV RX11 143 M_st_putNeed 2 := ⟨⟨kw880, kw881, kw701, ⟨by decide, by decide⟩, by decide +kernel, rfl⟩, kw882, kw883⟩
theorem kw884 : Cond.methodLink RX11 147 yX11_areTwo ∈ tbG := mG (tt3 (List.mem_of_getElem? (i := 5) rfl)) rfl
theorem kw885 : mdCode M_x_areTwo ∈ tbG := mG (tt3 (List.mem_of_getElem? (i := 8) rfl)) rfl
theorem kw886 : Cond.instanceMethod yX11_areTwo ∈ tbG := mG (tt3 (List.mem_of_getElem? (i := 7) rfl)) rfl
theorem kw887 : Cond.selects yX11_areTwo.cls yX11_areTwo yX11_areTwo ∈ tbG := mG (tp1 (q := (yX11_areTwo, _)) (List.mem_of_getElem? (i := 9) rfl)) rfl
theorem cv_X11_147 : CV RX11 147 M_x_areTwo 2 := ⟨⟨kw884, kw885, kw319, ⟨by decide, by decide⟩, by decide +kernel, rfl⟩, kw886, kw887⟩
theorem kw888 : Cond.methodLink RX11 158 yX11_entry ∈ tbG := mG (tt3 (List.mem_of_getElem? (i := 13) rfl)) rfl
theorem kw889 : mdCode M_x_entry ∈ tbG := mG (tt3 (List.mem_of_getElem? (i := 15) rfl)) rfl
theorem kw890 : Cond.static yX11_entry ∈ tbG := mG (tt3 (List.mem_of_getElem? (i := 14) rfl)) rfl
theorem cs_X11_158 : CS RX11 158 M_x_entry 2 := ⟨⟨kw888, kw889, kw319, ⟨by decide, by decide⟩, by decide +kernel, rfl⟩, kw890⟩
theorem kw891 : Cond.methodLink RX11 162 yJ9_min_7cf53 ∈ tbG := mG (tt3 (List.mem_of_getElem? (i := 16) rfl)) rfl
theorem cs_X11_162 : CS RX11 162 M_jd_min 2 := ⟨⟨kw891, kw272, kw273, ⟨by decide, by decide⟩, by decide +kernel, rfl⟩, kw274⟩
theorem kw892 : Cond.methodLink RX11 167 yJ9_max_7cf53 ∈ tbG := mG (tt3 (List.mem_of_getElem? (i := 17) rfl)) rfl
theorem cs_X11_167 : CS RX11 167 M_jd_max 2 := ⟨⟨kw892, kw279, kw273, ⟨by decide, by decide⟩, by decide +kernel, rfl⟩, kw280⟩
theorem kw893 : Cond.methodLink RX11 176 yX1_after ∈ tbG := mG (tt3 (List.mem_of_getElem? (i := 33) rfl)) rfl
theorem cv_X11_176 : CV RX11 176 M_he_after 1 := ⟨⟨kw893, kw791, kw710, ⟨by decide, by decide⟩, by decide +kernel, rfl⟩, kw792, kw793⟩
theorem kw894 : Cond.methodLink RX11 179 yX8_passDay ∈ tbG := mG (tt3 (List.mem_of_getElem? (i := 64) rfl)) rfl
theorem kw895 : mdCode M_st_passDay ∈ tbG := mG (tt3 (List.mem_of_getElem? (i := 67) rfl)) rfl
theorem kw896 : Cond.instanceMethod yX8_passDay ∈ tbG := mG (tt3 (List.mem_of_getElem? (i := 65) rfl)) rfl
theorem kw897 : Cond.selects yX8_passDay.cls yX8_passDay yX8_passDay ∈ tbG := mG (tt3 (List.mem_of_getElem? (i := 66) rfl)) rfl
theorem cv_X11_179 : CV RX11 179 M_st_passDay 1 := ⟨⟨kw894, kw895, kw701, ⟨by decide, by decide⟩, by decide +kernel, rfl⟩, kw896, kw897⟩
theorem kw898 : Cond.methodLink RX11 183 yX8_hasAll ∈ tbG := mG (tt3 (List.mem_of_getElem? (i := 72) rfl)) rfl
theorem kw899 : mdCode M_st_hasAll ∈ tbG := mG (tt3 (List.mem_of_getElem? (i := 75) rfl)) rfl
theorem kw900 : Cond.instanceMethod yX8_hasAll ∈ tbG := mG (tt3 (List.mem_of_getElem? (i := 73) rfl)) rfl
theorem kw901 : Cond.selects yX8_hasAll.cls yX8_hasAll yX8_hasAll ∈ tbG := mG (tt3 (List.mem_of_getElem? (i := 74) rfl)) rfl
theorem cv_X11_183 : CV RX11 183 M_st_hasAll 1 := ⟨⟨kw898, kw899, kw701, ⟨by decide, by decide⟩, by decide +kernel, rfl⟩, kw900, kw901⟩
theorem kw902 : Cond.methodLink RX11 186 yX8_openToTalk ∈ tbG := mG (tt3 (List.mem_of_getElem? (i := 77) rfl)) rfl
theorem cv_X11_186 : CV RX11 186 M_st_openToTalk 0 := ⟨⟨kw902, kw795, kw701, ⟨by decide, by decide⟩, by decide +kernel, rfl⟩, kw796, kw797⟩
theorem kw903 : Cond.methodLink RX11 189 yX8_priceOf ∈ tbG := mG (tt3 (List.mem_of_getElem? (i := 81) rfl)) rfl
theorem cv_X11_189 : CV RX11 189 M_st_priceOf 1 := ⟨⟨kw903, kw804, kw701, ⟨by decide, by decide⟩, by decide +kernel, rfl⟩, kw805, kw806⟩
theorem kw904 : Cond.methodLink RX11 192 yX3_follow ∈ tbG := mG (tt3 (List.mem_of_getElem? (i := 93) rfl)) rfl
theorem kw905 : mdCode M_ob_follow ∈ tbG := mG (tt3 (List.mem_of_getElem? (i := 96) rfl)) rfl
theorem kw906 : Cond.initialized RX3 ∈ tbG := mG (tt1 (List.mem_of_getElem? (i := 9) rfl)) rfl
theorem kw907 : Cond.instanceMethod yX3_follow ∈ tbG := mG (tt3 (List.mem_of_getElem? (i := 94) rfl)) rfl
theorem kw908 : Cond.selects yX3_follow.cls yX3_follow yX3_follow ∈ tbG := mG (tt3 (List.mem_of_getElem? (i := 95) rfl)) rfl
theorem cv_X11_192 : CV RX11 192 M_ob_follow 1 := ⟨⟨kw904, kw905, kw906, ⟨by decide, by decide⟩, by decide +kernel, rfl⟩, kw907, kw908⟩
theorem kw909 : Cond.methodLink RX11 198 yX4_only ∈ tbG := mG (tt3 (List.mem_of_getElem? (i := 120) rfl)) rfl
theorem cv_X11_198 : CV RX11 198 M_rw_only 1 := ⟨⟨kw909, kw727, kw728, ⟨by decide, by decide⟩, by decide +kernel, rfl⟩, kw729, kw730⟩
theorem kw910 : Cond.methodLink RX11 204 yX4_add ∈ tbG := mG (tt3 (List.mem_of_getElem? (i := 132) rfl)) rfl
theorem cv_X11_204 : CV RX11 204 M_rw_add 1 := ⟨⟨kw910, kw772, kw728, ⟨by decide, by decide⟩, by decide +kernel, rfl⟩, kw773, kw774⟩
theorem kw911 : Cond.methodLink RX11 215 yX8_fallOf ∈ tbG := mG (tt3 (List.mem_of_getElem? (i := 138) rfl)) rfl
theorem kw912 : mdCode M_st_fallOf ∈ tbG := mG (tt3 (List.mem_of_getElem? (i := 141) rfl)) rfl
theorem kw913 : Cond.instanceMethod yX8_fallOf ∈ tbG := mG (tt3 (List.mem_of_getElem? (i := 139) rfl)) rfl
theorem kw914 : Cond.selects yX8_fallOf.cls yX8_fallOf yX8_fallOf ∈ tbG := mG (tt3 (List.mem_of_getElem? (i := 140) rfl)) rfl
theorem cv_X11_215 : CV RX11 215 M_st_fallOf 1 := ⟨⟨kw911, kw912, kw701, ⟨by decide, by decide⟩, by decide +kernel, rfl⟩, kw913, kw914⟩
theorem kw915 : Cond.methodLink RX11 225 yX8_isFirm ∈ tbG := mG (tt3 (List.mem_of_getElem? (i := 168) rfl)) rfl
theorem kw916 : mdCode M_st_isFirm ∈ tbG := mG (tt3 (List.mem_of_getElem? (i := 153) rfl)) rfl
theorem kw917 : Cond.instanceMethod yX8_isFirm ∈ tbG := mG (tt3 (List.mem_of_getElem? (i := 151) rfl)) rfl
theorem kw918 : Cond.selects yX8_isFirm.cls yX8_isFirm yX8_isFirm ∈ tbG := mG (tt3 (List.mem_of_getElem? (i := 152) rfl)) rfl
theorem cv_X11_225 : CV RX11 225 M_st_isFirm 1 := ⟨⟨kw915, kw916, kw701, ⟨by decide, by decide⟩, by decide +kernel, rfl⟩, kw917, kw918⟩
theorem kw919 : Cond.methodLink RX11 228 yX1_later ∈ tbG := mG (tt3 (List.mem_of_getElem? (i := 169) rfl)) rfl
theorem kw920 : mdCode M_he_later ∈ tbG := mG (tt3 (List.mem_of_getElem? (i := 172) rfl)) rfl
theorem kw921 : Cond.instanceMethod yX1_later ∈ tbG := mG (tt3 (List.mem_of_getElem? (i := 170) rfl)) rfl
theorem kw922 : Cond.selects yX1_later.cls yX1_later yX1_later ∈ tbG := mG (tt3 (List.mem_of_getElem? (i := 171) rfl)) rfl
theorem cv_X11_228 : CV RX11 228 M_he_later 2 := ⟨⟨kw919, kw920, kw710, ⟨by decide, by decide⟩, by decide +kernel, rfl⟩, kw921, kw922⟩
theorem kw923 : Cond.methodLink RX11 231 yX11_isTalkDay ∈ tbG := mG (tt3 (List.mem_of_getElem? (i := 182) rfl)) rfl
theorem kw924 : mdCode M_x_isTalkDay ∈ tbG := mG (tt3 (List.mem_of_getElem? (i := 184) rfl)) rfl
theorem kw925 : Cond.static yX11_isTalkDay ∈ tbG := mG (tt3 (List.mem_of_getElem? (i := 183) rfl)) rfl
theorem cs_X11_231 : CS RX11 231 M_x_isTalkDay 1 := ⟨⟨kw923, kw924, kw319, ⟨by decide, by decide⟩, by decide +kernel, rfl⟩, kw925⟩
theorem kw926 : Cond.methodLink RX11 234 yX0_highestNeed ∈ tbG := mG (tt3 (List.mem_of_getElem? (i := 185) rfl)) rfl
theorem kw927 : mdCode M_ac_highestNeed ∈ tbG := mG (tt3 (List.mem_of_getElem? (i := 188) rfl)) rfl
theorem kw928 : Cond.instanceMethod yX0_highestNeed ∈ tbG := mG (tt3 (List.mem_of_getElem? (i := 186) rfl)) rfl
theorem kw929 : Cond.selects yX0_highestNeed.cls yX0_highestNeed yX0_highestNeed ∈ tbG := mG (tt3 (List.mem_of_getElem? (i := 187) rfl)) rfl
theorem cv_X11_234 : CV RX11 234 M_ac_highestNeed 1 := ⟨⟨kw926, kw927, kw723, ⟨by decide, by decide⟩, by decide +kernel, rfl⟩, kw928, kw929⟩
theorem kw930 : Cond.methodLink RX11 237 yX8_passOn ∈ tbG := mG (tt3 (List.mem_of_getElem? (i := 206) rfl)) rfl
theorem kw931 : mdCode M_st_passOn ∈ tbG := mG (tt3 (List.mem_of_getElem? (i := 209) rfl)) rfl
theorem kw932 : Cond.instanceMethod yX8_passOn ∈ tbG := mG (tt3 (List.mem_of_getElem? (i := 207) rfl)) rfl
theorem kw933 : Cond.selects yX8_passOn.cls yX8_passOn yX8_passOn ∈ tbG := mG (tt3 (List.mem_of_getElem? (i := 208) rfl)) rfl
theorem cv_X11_237 : CV RX11 237 M_st_passOn 3 := ⟨⟨kw930, kw931, kw701, ⟨by decide, by decide⟩, by decide +kernel, rfl⟩, kw932, kw933⟩
theorem kw934 : Cond.methodLink RX11 241 yX8_partOf ∈ tbG := mG (tt3 (List.mem_of_getElem? (i := 232) rfl)) rfl
theorem kw935 : mdCode M_st_partOf ∈ tbG := mG (tt3 (List.mem_of_getElem? (i := 235) rfl)) rfl
theorem kw936 : Cond.instanceMethod yX8_partOf ∈ tbG := mG (tt3 (List.mem_of_getElem? (i := 233) rfl)) rfl
theorem kw937 : Cond.selects yX8_partOf.cls yX8_partOf yX8_partOf ∈ tbG := mG (tt3 (List.mem_of_getElem? (i := 234) rfl)) rfl
theorem cv_X11_241 : CV RX11 241 M_st_partOf 1 := ⟨⟨kw934, kw935, kw701, ⟨by decide, by decide⟩, by decide +kernel, rfl⟩, kw936, kw937⟩
theorem kw938 : Cond.methodLink RX11 244 yX3_leadHere ∈ tbG := mG (tt4 (List.mem_of_getElem? (i := 0) rfl)) rfl
theorem kw939 : mdCode M_ob_leadHere ∈ tbG := mG (tt4 (List.mem_of_getElem? (i := 3) rfl)) rfl
theorem kw940 : Cond.instanceMethod yX3_leadHere ∈ tbG := mG (tt4 (List.mem_of_getElem? (i := 1) rfl)) rfl
theorem kw941 : Cond.selects yX3_leadHere.cls yX3_leadHere yX3_leadHere ∈ tbG := mG (tt4 (List.mem_of_getElem? (i := 2) rfl)) rfl
theorem cv_X11_244 : CV RX11 244 M_ob_leadHere 1 := ⟨⟨kw938, kw939, kw906, ⟨by decide, by decide⟩, by decide +kernel, rfl⟩, kw940, kw941⟩
theorem kw942 : Cond.methodLink RX11 247 yX3_meetWith ∈ tbG := mG (tt4 (List.mem_of_getElem? (i := 20) rfl)) rfl
theorem kw943 : mdCode M_ob_meetWith ∈ tbG := mG (tt4 (List.mem_of_getElem? (i := 23) rfl)) rfl
theorem kw944 : Cond.instanceMethod yX3_meetWith ∈ tbG := mG (tt4 (List.mem_of_getElem? (i := 21) rfl)) rfl
theorem kw945 : Cond.selects yX3_meetWith.cls yX3_meetWith yX3_meetWith ∈ tbG := mG (tt4 (List.mem_of_getElem? (i := 22) rfl)) rfl
theorem cv_X11_247 : CV RX11 247 M_ob_meetWith 1 := ⟨⟨kw942, kw943, kw906, ⟨by decide, by decide⟩, by decide +kernel, rfl⟩, kw944, kw945⟩
theorem kw946 : Cond.methodLink RX11 250 yX3_withoutPast ∈ tbG := mG (tt4 (List.mem_of_getElem? (i := 34) rfl)) rfl
theorem kw947 : mdCode M_ob_withoutPast ∈ tbG := mG (tt4 (List.mem_of_getElem? (i := 37) rfl)) rfl
theorem kw948 : Cond.instanceMethod yX3_withoutPast ∈ tbG := mG (tt4 (List.mem_of_getElem? (i := 35) rfl)) rfl
theorem kw949 : Cond.selects yX3_withoutPast.cls yX3_withoutPast yX3_withoutPast ∈ tbG := mG (tt4 (List.mem_of_getElem? (i := 36) rfl)) rfl
theorem cv_X11_250 : CV RX11 250 M_ob_withoutPast 0 := ⟨⟨kw946, kw947, kw906, ⟨by decide, by decide⟩, by decide +kernel, rfl⟩, kw948, kw949⟩
theorem kw950 : Cond.methodLink RX11 253 yX3_comeAgain ∈ tbG := mG (tt4 (List.mem_of_getElem? (i := 42) rfl)) rfl
theorem kw951 : mdCode M_ob_comeAgain ∈ tbG := mG (tt4 (List.mem_of_getElem? (i := 45) rfl)) rfl
theorem kw952 : Cond.instanceMethod yX3_comeAgain ∈ tbG := mG (tt4 (List.mem_of_getElem? (i := 43) rfl)) rfl
theorem kw953 : Cond.selects yX3_comeAgain.cls yX3_comeAgain yX3_comeAgain ∈ tbG := mG (tt4 (List.mem_of_getElem? (i := 44) rfl)) rfl
theorem cv_X11_253 : CV RX11 253 M_ob_comeAgain 0 := ⟨⟨kw950, kw951, kw906, ⟨by decide, by decide⟩, by decide +kernel, rfl⟩, kw952, kw953⟩
theorem kw954 : Cond.methodLink RX11 256 yX8_everybody ∈ tbG := mG (tt4 (List.mem_of_getElem? (i := 60) rfl)) rfl
theorem cv_X11_256 : CV RX11 256 M_st_everybody 0 := ⟨⟨kw954, kw705, kw701, ⟨by decide, by decide⟩, by decide +kernel, rfl⟩, kw706, kw707⟩
theorem kw955 : Cond.methodLink RX11 259 yX3_leadTo ∈ tbG := mG (tt4 (List.mem_of_getElem? (i := 61) rfl)) rfl
theorem kw956 : mdCode M_ob_leadTo ∈ tbG := mG (tt4 (List.mem_of_getElem? (i := 64) rfl)) rfl
theorem kw957 : Cond.instanceMethod yX3_leadTo ∈ tbG := mG (tt4 (List.mem_of_getElem? (i := 62) rfl)) rfl
theorem kw958 : Cond.selects yX3_leadTo.cls yX3_leadTo yX3_leadTo ∈ tbG := mG (tt4 (List.mem_of_getElem? (i := 63) rfl)) rfl
theorem cv_X11_259 : CV RX11 259 M_ob_leadTo 1 := ⟨⟨kw955, kw956, kw906, ⟨by decide, by decide⟩, by decide +kernel, rfl⟩, kw957, kw958⟩
theorem kw959 : Cond.methodLink RX11 262 yX10_atOnce ∈ tbG := mG (tt4 (List.mem_of_getElem? (i := 69) rfl)) rfl
theorem kw960 : mdCode M_ta_atOnce ∈ tbG := mG (tt4 (List.mem_of_getElem? (i := 72) rfl)) rfl
theorem kw961 : Cond.instanceMethod yX10_atOnce ∈ tbG := mG (tt4 (List.mem_of_getElem? (i := 70) rfl)) rfl
theorem kw962 : Cond.selects yX10_atOnce.cls yX10_atOnce yX10_atOnce ∈ tbG := mG (tt4 (List.mem_of_getElem? (i := 71) rfl)) rfl
theorem cv_X11_262 : CV RX11 262 M_ta_atOnce 3 := ⟨⟨kw959, kw960, kw815, ⟨by decide, by decide⟩, by decide +kernel, rfl⟩, kw961, kw962⟩
theorem kw963 : Cond.methodLink RX11 266 yX11_isDaily ∈ tbG := mG (tt4 (List.mem_of_getElem? (i := 91) rfl)) rfl
theorem kw964 : mdCode M_x_isDaily ∈ tbG := mG (tt4 (List.mem_of_getElem? (i := 94) rfl)) rfl
theorem kw965 : Cond.instanceMethod yX11_isDaily ∈ tbG := mG (tt4 (List.mem_of_getElem? (i := 93) rfl)) rfl
theorem kw966 : Cond.selects yX11_isDaily.cls yX11_isDaily yX11_isDaily ∈ tbG := mG (tp2 (q := (yX11_isDaily, _)) (List.mem_of_getElem? (i := 3) rfl)) rfl
theorem cv_X11_266 : CV RX11 266 M_x_isDaily 2 := ⟨⟨kw963, kw964, kw319, ⟨by decide, by decide⟩, by decide +kernel, rfl⟩, kw965, kw966⟩
theorem kw967 : Cond.methodLink RX11 269 yX10_dayByDay ∈ tbG := mG (tt4 (List.mem_of_getElem? (i := 95) rfl)) rfl
theorem kw968 : mdCode M_ta_dayByDay ∈ tbG := mG (tt4 (List.mem_of_getElem? (i := 98) rfl)) rfl
theorem kw969 : Cond.instanceMethod yX10_dayByDay ∈ tbG := mG (tt4 (List.mem_of_getElem? (i := 96) rfl)) rfl
theorem kw970 : Cond.selects yX10_dayByDay.cls yX10_dayByDay yX10_dayByDay ∈ tbG := mG (tt4 (List.mem_of_getElem? (i := 97) rfl)) rfl
theorem cv_X11_269 : CV RX11 269 M_ta_dayByDay 2 := ⟨⟨kw967, kw968, kw815, ⟨by decide, by decide⟩, by decide +kernel, rfl⟩, kw969, kw970⟩
theorem kw971 : Cond.methodLink RX11 272 yX10_wholePlan ∈ tbG := mG (tt4 (List.mem_of_getElem? (i := 126) rfl)) rfl
theorem kw972 : mdCode M_ta_wholePlan ∈ tbG := mG (tt4 (List.mem_of_getElem? (i := 129) rfl)) rfl
theorem kw973 : Cond.instanceMethod yX10_wholePlan ∈ tbG := mG (tt4 (List.mem_of_getElem? (i := 127) rfl)) rfl
theorem kw974 : Cond.selects yX10_wholePlan.cls yX10_wholePlan yX10_wholePlan ∈ tbG := mG (tt4 (List.mem_of_getElem? (i := 128) rfl)) rfl
theorem cv_X11_272 : CV RX11 272 M_ta_wholePlan 2 := ⟨⟨kw971, kw972, kw815, ⟨by decide, by decide⟩, by decide +kernel, rfl⟩, kw973, kw974⟩
theorem kw975 : Cond.methodLink RX11 275 yX10_keepFrom ∈ tbG := mG (tt4 (List.mem_of_getElem? (i := 135) rfl)) rfl
theorem kw976 : mdCode M_ta_keepFrom ∈ tbG := mG (tt4 (List.mem_of_getElem? (i := 138) rfl)) rfl
theorem kw977 : Cond.instanceMethod yX10_keepFrom ∈ tbG := mG (tt4 (List.mem_of_getElem? (i := 136) rfl)) rfl
theorem kw978 : Cond.selects yX10_keepFrom.cls yX10_keepFrom yX10_keepFrom ∈ tbG := mG (tt4 (List.mem_of_getElem? (i := 137) rfl)) rfl
theorem cv_X11_275 : CV RX11 275 M_ta_keepFrom 1 := ⟨⟨kw975, kw976, kw815, ⟨by decide, by decide⟩, by decide +kernel, rfl⟩, kw977, kw978⟩
theorem kw979 : Cond.methodLink RX11 278 yX10_greatestHolding ∈ tbG := mG (tt4 (List.mem_of_getElem? (i := 146) rfl)) rfl
theorem cv_X11_278 : CV RX11 278 M_ta_greatestHolding 0 := ⟨⟨kw979, kw855, kw815, ⟨by decide, by decide⟩, by decide +kernel, rfl⟩, kw856, kw857⟩
theorem kw980 : Cond.methodLink RX11 281 yJ6_bitCount_0f7a4 ∈ tbG := mG (tt4 (List.mem_of_getElem? (i := 154) rfl)) rfl
theorem cs_X11_281 : CS RX11 281 M_jd_bitCount 1 := ⟨⟨kw980, kw800, kw801, ⟨by decide, by decide⟩, by decide +kernel, rfl⟩, kw802⟩
theorem kw981 : Cond.methodLink RX11 286 yX10_smallestHolding ∈ tbG := mG (tt4 (List.mem_of_getElem? (i := 159) rfl)) rfl
theorem cv_X11_286 : CV RX11 286 M_ta_smallestHolding 2 := ⟨⟨kw981, kw859, kw815, ⟨by decide, by decide⟩, by decide +kernel, rfl⟩, kw860, kw861⟩
theorem kw982 : Cond.methodLink RX11 289 yX10_holdApart ∈ tbG := mG (tt4 (List.mem_of_getElem? (i := 167) rfl)) rfl
theorem kw983 : mdCode M_ta_holdApart ∈ tbG := mG (tt4 (List.mem_of_getElem? (i := 170) rfl)) rfl
theorem kw984 : Cond.instanceMethod yX10_holdApart ∈ tbG := mG (tt4 (List.mem_of_getElem? (i := 168) rfl)) rfl
theorem kw985 : Cond.selects yX10_holdApart.cls yX10_holdApart yX10_holdApart ∈ tbG := mG (tt4 (List.mem_of_getElem? (i := 169) rfl)) rfl
theorem cv_X11_289 : CV RX11 289 M_ta_holdApart 0 := ⟨⟨kw982, kw983, kw815, ⟨by decide, by decide⟩, by decide +kernel, rfl⟩, kw984, kw985⟩
theorem kw986 : Cond.methodLink RX11 292 yX11_isShop ∈ tbG := mG (tt4 (List.mem_of_getElem? (i := 177) rfl)) rfl
theorem kw987 : mdCode M_x_isShop ∈ tbG := mG (tt4 (List.mem_of_getElem? (i := 179) rfl)) rfl
theorem kw988 : Cond.static yX11_isShop ∈ tbG := mG (tt4 (List.mem_of_getElem? (i := 178) rfl)) rfl
theorem cs_X11_292 : CS RX11 292 M_x_isShop 1 := ⟨⟨kw986, kw987, kw319, ⟨by decide, by decide⟩, by decide +kernel, rfl⟩, kw988⟩
theorem kw989 : Cond.methodLink RX11 295 yX6_read ∈ tbG := mG (tt4 (List.mem_of_getElem? (i := 180) rfl)) rfl
theorem kw990 : mdCode M_rr_read ∈ tbG := mG (tt4 (List.mem_of_getElem? (i := 183) rfl)) rfl
theorem kw991 : Cond.initialized RX6 ∈ tbG := mG (tt1 (List.mem_of_getElem? (i := 6) rfl)) rfl
theorem kw992 : Cond.instanceMethod yX6_read ∈ tbG := mG (tt4 (List.mem_of_getElem? (i := 181) rfl)) rfl
theorem kw993 : Cond.selects yX6_read.cls yX6_read yX6_read ∈ tbG := mG (tt4 (List.mem_of_getElem? (i := 182) rfl)) rfl
theorem cv_X11_295 : CV RX11 295 M_rr_read 3 := ⟨⟨kw989, kw990, kw991, ⟨by decide, by decide⟩, by decide +kernel, rfl⟩, kw992, kw993⟩
theorem kw994 : Cond.methodLink RX11 298 yX7_learn ∈ tbG := mG (tt5 (List.mem_of_getElem? (i := 76) rfl)) rfl
theorem kw995 : mdCode M_sh_learn ∈ tbG := mG (tt5 (List.mem_of_getElem? (i := 79) rfl)) rfl
theorem kw996 : Cond.initialized RX7 ∈ tbG := mG (tt1 (List.mem_of_getElem? (i := 11) rfl)) rfl
theorem kw997 : Cond.instanceMethod yX7_learn ∈ tbG := mG (tt5 (List.mem_of_getElem? (i := 77) rfl)) rfl
theorem kw998 : Cond.selects yX7_learn.cls yX7_learn yX7_learn ∈ tbG := mG (tt5 (List.mem_of_getElem? (i := 78) rfl)) rfl
theorem cv_X11_298 : CV RX11 298 M_sh_learn 0 := ⟨⟨kw994, kw995, kw996, ⟨by decide, by decide⟩, by decide +kernel, rfl⟩, kw997, kw998⟩
theorem kw999 : Cond.methodLink RX11 301 yX7_rate ∈ tbG := mG (tt6 (List.mem_of_getElem? (i := 98) rfl)) rfl
theorem kw1000 : mdCode M_sh_rate ∈ tbG := mG (tt5 (List.mem_of_getElem? (i := 99) rfl)) rfl
theorem kw1001 : Cond.instanceMethod yX7_rate ∈ tbG := mG (tt5 (List.mem_of_getElem? (i := 97) rfl)) rfl
theorem kw1002 : Cond.selects yX7_rate.cls yX7_rate yX7_rate ∈ tbG := mG (tt5 (List.mem_of_getElem? (i := 98) rfl)) rfl
theorem cv_X11_301 : CV RX11 301 M_sh_rate 3 := ⟨⟨kw999, kw1000, kw996, ⟨by decide, by decide⟩, by decide +kernel, rfl⟩, kw1001, kw1002⟩
theorem kw1003 : Cond.methodLink RX11 305 yX7_pick ∈ tbG := mG (tt5 (List.mem_of_getElem? (i := 87) rfl)) rfl
theorem kw1004 : mdCode M_sh_pick ∈ tbG := mG (tt5 (List.mem_of_getElem? (i := 90) rfl)) rfl
theorem kw1005 : Cond.instanceMethod yX7_pick ∈ tbG := mG (tt5 (List.mem_of_getElem? (i := 88) rfl)) rfl
theorem kw1006 : Cond.selects yX7_pick.cls yX7_pick yX7_pick ∈ tbG := mG (tt5 (List.mem_of_getElem? (i := 89) rfl)) rfl
theorem cv_X11_305 : CV RX11 305 M_sh_pick 2 := ⟨⟨kw1003, kw1004, kw996, ⟨by decide, by decide⟩, by decide +kernel, rfl⟩, kw1005, kw1006⟩
theorem kw1007 : Cond.methodLink RX11 308 yX7_trade ∈ tbG := mG (tt5 (List.mem_of_getElem? (i := 120) rfl)) rfl
theorem kw1008 : mdCode M_sh_trade ∈ tbG := mG (tt5 (List.mem_of_getElem? (i := 123) rfl)) rfl
theorem kw1009 : Cond.instanceMethod yX7_trade ∈ tbG := mG (tt5 (List.mem_of_getElem? (i := 121) rfl)) rfl
theorem kw1010 : Cond.selects yX7_trade.cls yX7_trade yX7_trade ∈ tbG := mG (tt5 (List.mem_of_getElem? (i := 122) rfl)) rfl
theorem cv_X11_308 : CV RX11 308 M_sh_trade 1 := ⟨⟨kw1007, kw1008, kw996, ⟨by decide, by decide⟩, by decide +kernel, rfl⟩, kw1009, kw1010⟩
theorem kw1011 : Cond.methodLink RX11 311 yX7_playBoth ∈ tbG := mG (tt5 (List.mem_of_getElem? (i := 139) rfl)) rfl
theorem kw1012 : mdCode M_sh_playBoth ∈ tbG := mG (tt5 (List.mem_of_getElem? (i := 142) rfl)) rfl
theorem kw1013 : Cond.instanceMethod yX7_playBoth ∈ tbG := mG (tt5 (List.mem_of_getElem? (i := 140) rfl)) rfl
theorem kw1014 : Cond.selects yX7_playBoth.cls yX7_playBoth yX7_playBoth ∈ tbG := mG (tt5 (List.mem_of_getElem? (i := 141) rfl)) rfl
theorem cv_X11_311 : CV RX11 311 M_sh_playBoth 1 := ⟨⟨kw1011, kw1012, kw996, ⟨by decide, by decide⟩, by decide +kernel, rfl⟩, kw1013, kw1014⟩
theorem kw1015 : Cond.methodLink RX11 314 yX7_playRule ∈ tbG := mG (tt5 (List.mem_of_getElem? (i := 160) rfl)) rfl
theorem kw1016 : mdCode M_sh_playRule ∈ tbG := mG (tt5 (List.mem_of_getElem? (i := 163) rfl)) rfl
theorem kw1017 : Cond.instanceMethod yX7_playRule ∈ tbG := mG (tt5 (List.mem_of_getElem? (i := 161) rfl)) rfl
theorem kw1018 : Cond.selects yX7_playRule.cls yX7_playRule yX7_playRule ∈ tbG := mG (tt5 (List.mem_of_getElem? (i := 162) rfl)) rfl
theorem cv_X11_314 : CV RX11 314 M_sh_playRule 1 := ⟨⟨kw1015, kw1016, kw996, ⟨by decide, by decide⟩, by decide +kernel, rfl⟩, kw1017, kw1018⟩
theorem kw1019 : Cond.methodLink RX11 317 yX0_fewestPairs ∈ tbG := mG (tt5 (List.mem_of_getElem? (i := 176) rfl)) rfl
theorem kw1020 : mdCode M_ac_fewestPairs ∈ tbG := mG (tt5 (List.mem_of_getElem? (i := 179) rfl)) rfl
theorem kw1021 : Cond.instanceMethod yX0_fewestPairs ∈ tbG := mG (tt5 (List.mem_of_getElem? (i := 177) rfl)) rfl
theorem kw1022 : Cond.selects yX0_fewestPairs.cls yX0_fewestPairs yX0_fewestPairs ∈ tbG := mG (tt5 (List.mem_of_getElem? (i := 178) rfl)) rfl
theorem cv_X11_317 : CV RX11 317 M_ac_fewestPairs 1 := ⟨⟨kw1019, kw1020, kw723, ⟨by decide, by decide⟩, by decide +kernel, rfl⟩, kw1021, kw1022⟩
theorem kw1023 : Cond.methodLink RX11 320 yX0_pairsAlone ∈ tbG := mG (tt5 (List.mem_of_getElem? (i := 222) rfl)) rfl
theorem kw1024 : mdCode M_ac_pairsAlone ∈ tbG := mG (tt5 (List.mem_of_getElem? (i := 225) rfl)) rfl
theorem kw1025 : Cond.instanceMethod yX0_pairsAlone ∈ tbG := mG (tt5 (List.mem_of_getElem? (i := 223) rfl)) rfl
theorem kw1026 : Cond.selects yX0_pairsAlone.cls yX0_pairsAlone yX0_pairsAlone ∈ tbG := mG (tt5 (List.mem_of_getElem? (i := 224) rfl)) rfl
theorem cv_X11_320 : CV RX11 320 M_ac_pairsAlone 1 := ⟨⟨kw1023, kw1024, kw723, ⟨by decide, by decide⟩, by decide +kernel, rfl⟩, kw1025, kw1026⟩
theorem kw1027 : Cond.methodLink RX11 323 yX8_putLoud ∈ tbG := mG (tt5 (List.mem_of_getElem? (i := 231) rfl)) rfl
theorem kw1028 : mdCode M_st_putLoud ∈ tbG := mG (tt2 (List.mem_of_getElem? (i := 228) rfl)) rfl
theorem kw1029 : Cond.instanceMethod yX8_putLoud ∈ tbG := mG (tt2 (List.mem_of_getElem? (i := 226) rfl)) rfl
theorem kw1030 : Cond.selects yX8_putLoud.cls yX8_putLoud yX8_putLoud ∈ tbG := mG (tt2 (List.mem_of_getElem? (i := 227) rfl)) rfl
theorem cv_X11_323 : CV RX11 323 M_st_putLoud 3 := ⟨⟨kw1027, kw1028, kw701, ⟨by decide, by decide⟩, by decide +kernel, rfl⟩, kw1029, kw1030⟩
theorem kw1031 : Cond.methodLink RX11 327 yX8_takeDays ∈ tbG := mG (tt5 (List.mem_of_getElem? (i := 236) rfl)) rfl
theorem kw1032 : mdCode M_st_takeDays ∈ tbG := mG (tt5 (List.mem_of_getElem? (i := 239) rfl)) rfl
theorem kw1033 : Cond.instanceMethod yX8_takeDays ∈ tbG := mG (tt5 (List.mem_of_getElem? (i := 237) rfl)) rfl
theorem kw1034 : Cond.selects yX8_takeDays.cls yX8_takeDays yX8_takeDays ∈ tbG := mG (tt5 (List.mem_of_getElem? (i := 238) rfl)) rfl
theorem cv_X11_327 : CV RX11 327 M_st_takeDays 1 := ⟨⟨kw1031, kw1032, kw701, ⟨by decide, by decide⟩, by decide +kernel, rfl⟩, kw1033, kw1034⟩
theorem kw1035 : Cond.methodLink RX11 330 yX5_isTold ∈ tbG := mG (tt6 (List.mem_of_getElem? (i := 11) rfl)) rfl
theorem kw1036 : mdCode M_ru_isTold ∈ tbG := mG (tt6 (List.mem_of_getElem? (i := 14) rfl)) rfl
theorem kw1037 : Cond.initialized RX5 ∈ tbG := mG (tt1 (List.mem_of_getElem? (i := 4) rfl)) rfl
theorem kw1038 : Cond.instanceMethod yX5_isTold ∈ tbG := mG (tt6 (List.mem_of_getElem? (i := 12) rfl)) rfl
theorem kw1039 : Cond.selects yX5_isTold.cls yX5_isTold yX5_isTold ∈ tbG := mG (tt6 (List.mem_of_getElem? (i := 13) rfl)) rfl
theorem cv_X11_330 : CV RX11 330 M_ru_isTold 0 := ⟨⟨kw1035, kw1036, kw1037, ⟨by decide, by decide⟩, by decide +kernel, rfl⟩, kw1038, kw1039⟩
theorem kw1040 : Cond.methodLink RX11 337 yX8_pairs ∈ tbG := mG (tt6 (List.mem_of_getElem? (i := 15) rfl)) rfl
theorem kw1041 : mdCode M_st_pairs ∈ tbG := mG (tt6 (List.mem_of_getElem? (i := 18) rfl)) rfl
theorem kw1042 : Cond.instanceMethod yX8_pairs ∈ tbG := mG (tt6 (List.mem_of_getElem? (i := 16) rfl)) rfl
theorem kw1043 : Cond.selects yX8_pairs.cls yX8_pairs yX8_pairs ∈ tbG := mG (tt6 (List.mem_of_getElem? (i := 17) rfl)) rfl
theorem cv_X11_337 : CV RX11 337 M_st_pairs 0 := ⟨⟨kw1040, kw1041, kw701, ⟨by decide, by decide⟩, by decide +kernel, rfl⟩, kw1042, kw1043⟩
theorem kw1044 : Cond.methodLink RX12 89 yX12_in ∈ tbG := mG (tt7 (List.mem_of_getElem? (i := 5) rfl)) rfl
theorem kw1045 : mdCode M_m_in ∈ tbG := mG (tt7 (List.mem_of_getElem? (i := 7) rfl)) rfl
theorem kw1046 : Cond.static yX12_in ∈ tbG := mG (tt7 (List.mem_of_getElem? (i := 6) rfl)) rfl
theorem cs_X12_89 : CS RX12 89 M_m_in 3 := ⟨⟨kw1044, kw1045, kw336, ⟨by decide, by decide⟩, by decide +kernel, rfl⟩, kw1046⟩
theorem kw1047 : Cond.methodLink RX12 93 yX12_everybody ∈ tbG := mG (tt7 (List.mem_of_getElem? (i := 117) rfl)) rfl
theorem kw1048 : mdCode M_m_everybody ∈ tbG := mG (tt7 (List.mem_of_getElem? (i := 120) rfl)) rfl
theorem kw1049 : Cond.instanceMethod yX12_everybody ∈ tbG := mG (tt7 (List.mem_of_getElem? (i := 119) rfl)) rfl
theorem kw1050 : Cond.selects yX12_everybody.cls yX12_everybody yX12_everybody ∈ tbG := mG (tp5 (q := (yX12_everybody, _)) (List.mem_of_getElem? (i := 1) rfl)) rfl
theorem cv_X12_93 : CV RX12 93 M_m_everybody 0 := ⟨⟨kw1047, kw1048, kw336, ⟨by decide, by decide⟩, by decide +kernel, rfl⟩, kw1049, kw1050⟩
theorem kw1051 : Cond.methodLink RX12 118 yX12_fine ∈ tbG := mG (tt7 (List.mem_of_getElem? (i := 20) rfl)) rfl
theorem kw1052 : mdCode M_m_fine ∈ tbG := mG (tt7 (List.mem_of_getElem? (i := 23) rfl)) rfl
theorem kw1053 : Cond.instanceMethod yX12_fine ∈ tbG := mG (tt7 (List.mem_of_getElem? (i := 22) rfl)) rfl
theorem kw1054 : Cond.selects yX12_fine.cls yX12_fine yX12_fine ∈ tbG := mG (tp4 (q := (yX12_fine, _)) (List.mem_of_getElem? (i := 2) rfl)) rfl
theorem cv_X12_118 : CV RX12 118 M_m_fine 0 := ⟨⟨kw1051, kw1052, kw336, ⟨by decide, by decide⟩, by decide +kernel, rfl⟩, kw1053, kw1054⟩
theorem kw1055 : Cond.methodLink RX12 122 yX12_here ∈ tbG := mG (tt7 (List.mem_of_getElem? (i := 24) rfl)) rfl
theorem kw1056 : mdCode M_m_here ∈ tbG := mG (tt7 (List.mem_of_getElem? (i := 27) rfl)) rfl
theorem kw1057 : Cond.instanceMethod yX12_here ∈ tbG := mG (tt7 (List.mem_of_getElem? (i := 26) rfl)) rfl
theorem kw1058 : Cond.selects yX12_here.cls yX12_here yX12_here ∈ tbG := mG (tp4 (q := (yX12_here, _)) (List.mem_of_getElem? (i := 3) rfl)) rfl
theorem cv_X12_122 : CV RX12 122 M_m_here 0 := ⟨⟨kw1055, kw1056, kw336, ⟨by decide, by decide⟩, by decide +kernel, rfl⟩, kw1057, kw1058⟩
theorem kw1059 : Cond.methodLink RX12 125 yX12_passes ∈ tbG := mG (tt7 (List.mem_of_getElem? (i := 40) rfl)) rfl
theorem kw1060 : mdCode M_m_passes ∈ tbG := mG (tt7 (List.mem_of_getElem? (i := 43) rfl)) rfl
theorem kw1061 : Cond.instanceMethod yX12_passes ∈ tbG := mG (tt7 (List.mem_of_getElem? (i := 42) rfl)) rfl
theorem kw1062 : Cond.selects yX12_passes.cls yX12_passes yX12_passes ∈ tbG := mG (tp4 (q := (yX12_passes, _)) (List.mem_of_getElem? (i := 7) rfl)) rfl
theorem cv_X12_125 : CV RX12 125 M_m_passes 1 := ⟨⟨kw1059, kw1060, kw336, ⟨by decide, by decide⟩, by decide +kernel, rfl⟩, kw1061, kw1062⟩
theorem kw1063 : Cond.methodLink RX12 129 yX12_fault ∈ tbG := mG (tt7 (List.mem_of_getElem? (i := 28) rfl)) rfl
theorem kw1064 : mdCode M_m_fault ∈ tbG := mG (tt7 (List.mem_of_getElem? (i := 31) rfl)) rfl
theorem kw1065 : Cond.instanceMethod yX12_fault ∈ tbG := mG (tt7 (List.mem_of_getElem? (i := 30) rfl)) rfl
theorem kw1066 : Cond.selects yX12_fault.cls yX12_fault yX12_fault ∈ tbG := mG (tp4 (q := (yX12_fault, _)) (List.mem_of_getElem? (i := 4) rfl)) rfl
theorem cv_X12_129 : CV RX12 129 M_m_fault 1 := ⟨⟨kw1063, kw1064, kw336, ⟨by decide, by decide⟩, by decide +kernel, rfl⟩, kw1065, kw1066⟩
theorem kw1067 : Cond.methodLink RX12 133 yX12_begin ∈ tbG := mG (tt7 (List.mem_of_getElem? (i := 12) rfl)) rfl
theorem kw1068 : mdCode M_m_begin ∈ tbG := mG (tt7 (List.mem_of_getElem? (i := 15) rfl)) rfl
theorem kw1069 : Cond.instanceMethod yX12_begin ∈ tbG := mG (tt7 (List.mem_of_getElem? (i := 14) rfl)) rfl
theorem kw1070 : Cond.selects yX12_begin.cls yX12_begin yX12_begin ∈ tbG := mG (tp4 (q := (yX12_begin, _)) (List.mem_of_getElem? (i := 0) rfl)) rfl
theorem cv_X12_133 : CV RX12 133 M_m_begin 3 := ⟨⟨kw1067, kw1068, kw336, ⟨by decide, by decide⟩, by decide +kernel, rfl⟩, kw1069, kw1070⟩
theorem kw1071 : Cond.methodLink RX12 137 yX12_now ∈ tbG := mG (tt7 (List.mem_of_getElem? (i := 16) rfl)) rfl
theorem kw1072 : mdCode M_m_now ∈ tbG := mG (tt7 (List.mem_of_getElem? (i := 19) rfl)) rfl
theorem kw1073 : Cond.instanceMethod yX12_now ∈ tbG := mG (tt7 (List.mem_of_getElem? (i := 18) rfl)) rfl
theorem kw1074 : Cond.selects yX12_now.cls yX12_now yX12_now ∈ tbG := mG (tp4 (q := (yX12_now, _)) (List.mem_of_getElem? (i := 1) rfl)) rfl
theorem cv_X12_137 : CV RX12 137 M_m_now 0 := ⟨⟨kw1071, kw1072, kw336, ⟨by decide, by decide⟩, by decide +kernel, rfl⟩, kw1073, kw1074⟩
theorem kw1075 : Cond.methodLink RX12 143 yX12_number ∈ tbG := mG (tt7 (List.mem_of_getElem? (i := 32) rfl)) rfl
theorem kw1076 : mdCode M_m_number ∈ tbG := mG (tt7 (List.mem_of_getElem? (i := 35) rfl)) rfl
theorem kw1077 : Cond.instanceMethod yX12_number ∈ tbG := mG (tt7 (List.mem_of_getElem? (i := 34) rfl)) rfl
theorem kw1078 : Cond.selects yX12_number.cls yX12_number yX12_number ∈ tbG := mG (tp4 (q := (yX12_number, _)) (List.mem_of_getElem? (i := 5) rfl)) rfl
theorem cv_X12_143 : CV RX12 143 M_m_number 3 := ⟨⟨kw1075, kw1076, kw336, ⟨by decide, by decide⟩, by decide +kernel, rfl⟩, kw1077, kw1078⟩
theorem kw1079 : Cond.methodLink RX12 147 yX12_need ∈ tbG := mG (tt7 (List.mem_of_getElem? (i := 36) rfl)) rfl
theorem kw1080 : mdCode M_m_need ∈ tbG := mG (tt7 (List.mem_of_getElem? (i := 39) rfl)) rfl
theorem kw1081 : Cond.instanceMethod yX12_need ∈ tbG := mG (tt7 (List.mem_of_getElem? (i := 38) rfl)) rfl
theorem kw1082 : Cond.selects yX12_need.cls yX12_need yX12_need ∈ tbG := mG (tp4 (q := (yX12_need, _)) (List.mem_of_getElem? (i := 6) rfl)) rfl
theorem cv_X12_147 : CV RX12 147 M_m_need 1 := ⟨⟨kw1079, kw1080, kw336, ⟨by decide, by decide⟩, by decide +kernel, rfl⟩, kw1081, kw1082⟩
theorem kw1083 : Cond.methodLink RX12 150 yX12_readMeeting ∈ tbG := mG (tt7 (List.mem_of_getElem? (i := 44) rfl)) rfl
theorem kw1084 : mdCode M_m_readMeeting ∈ tbG := mG (tt7 (List.mem_of_getElem? (i := 47) rfl)) rfl
theorem kw1085 : Cond.instanceMethod yX12_readMeeting ∈ tbG := mG (tt7 (List.mem_of_getElem? (i := 46) rfl)) rfl
theorem kw1086 : Cond.selects yX12_readMeeting.cls yX12_readMeeting yX12_readMeeting ∈ tbG := mG (tp4 (q := (yX12_readMeeting, _)) (List.mem_of_getElem? (i := 8) rfl)) rfl
theorem cv_X12_150 : CV RX12 150 M_m_readMeeting 2 := ⟨⟨kw1083, kw1084, kw336, ⟨by decide, by decide⟩, by decide +kernel, rfl⟩, kw1085, kw1086⟩
theorem kw1087 : Cond.methodLink RX12 157 yX12_isOne ∈ tbG := mG (tt7 (List.mem_of_getElem? (i := 52) rfl)) rfl
theorem kw1088 : mdCode M_m_isOne ∈ tbG := mG (tt7 (List.mem_of_getElem? (i := 55) rfl)) rfl
theorem kw1089 : Cond.instanceMethod yX12_isOne ∈ tbG := mG (tt7 (List.mem_of_getElem? (i := 54) rfl)) rfl
theorem kw1090 : Cond.selects yX12_isOne.cls yX12_isOne yX12_isOne ∈ tbG := mG (tp4 (q := (yX12_isOne, _)) (List.mem_of_getElem? (i := 9) rfl)) rfl
theorem cv_X12_157 : CV RX12 157 M_m_isOne 1 := ⟨⟨kw1087, kw1088, kw336, ⟨by decide, by decide⟩, by decide +kernel, rfl⟩, kw1089, kw1090⟩
theorem kw1091 : Cond.methodLink RX12 161 yX12_lost ∈ tbG := mG (tt7 (List.mem_of_getElem? (i := 56) rfl)) rfl
theorem kw1092 : mdCode M_m_lost ∈ tbG := mG (tt7 (List.mem_of_getElem? (i := 59) rfl)) rfl
theorem kw1093 : Cond.instanceMethod yX12_lost ∈ tbG := mG (tt7 (List.mem_of_getElem? (i := 58) rfl)) rfl
theorem kw1094 : Cond.selects yX12_lost.cls yX12_lost yX12_lost ∈ tbG := mG (tp4 (q := (yX12_lost, _)) (List.mem_of_getElem? (i := 10) rfl)) rfl
theorem cv_X12_161 : CV RX12 161 M_m_lost 0 := ⟨⟨kw1091, kw1092, kw336, ⟨by decide, by decide⟩, by decide +kernel, rfl⟩, kw1093, kw1094⟩
theorem kw1095 : Cond.methodLink RX12 164 yX12_has ∈ tbG := mG (tt7 (List.mem_of_getElem? (i := 60) rfl)) rfl
theorem kw1096 : mdCode M_m_has ∈ tbG := mG (tt7 (List.mem_of_getElem? (i := 62) rfl)) rfl
theorem kw1097 : Cond.static yX12_has ∈ tbG := mG (tt7 (List.mem_of_getElem? (i := 61) rfl)) rfl
theorem cs_X12_164 : CS RX12 164 M_m_has 2 := ⟨⟨kw1095, kw1096, kw336, ⟨by decide, by decide⟩, by decide +kernel, rfl⟩, kw1097⟩
theorem kw1098 : Cond.methodLink RX12 168 yX12_allOf ∈ tbG := mG (tt7 (List.mem_of_getElem? (i := 63) rfl)) rfl
theorem kw1099 : mdCode M_m_allOf ∈ tbG := mG (tt7 (List.mem_of_getElem? (i := 66) rfl)) rfl
theorem kw1100 : Cond.instanceMethod yX12_allOf ∈ tbG := mG (tt7 (List.mem_of_getElem? (i := 65) rfl)) rfl
theorem kw1101 : Cond.selects yX12_allOf.cls yX12_allOf yX12_allOf ∈ tbG := mG (tp4 (q := (yX12_allOf, _)) (List.mem_of_getElem? (i := 11) rfl)) rfl
theorem cv_X12_168 : CV RX12 168 M_m_allOf 1 := ⟨⟨kw1098, kw1099, kw336, ⟨by decide, by decide⟩, by decide +kernel, rfl⟩, kw1100, kw1101⟩
theorem kw1102 : Cond.methodLink RX12 172 yX12_heardBy ∈ tbG := mG (tt7 (List.mem_of_getElem? (i := 67) rfl)) rfl
theorem kw1103 : mdCode M_m_heardBy ∈ tbG := mG (tt7 (List.mem_of_getElem? (i := 70) rfl)) rfl
theorem kw1104 : Cond.instanceMethod yX12_heardBy ∈ tbG := mG (tt7 (List.mem_of_getElem? (i := 69) rfl)) rfl
theorem kw1105 : Cond.selects yX12_heardBy.cls yX12_heardBy yX12_heardBy ∈ tbG := mG (tp4 (q := (yX12_heardBy, _)) (List.mem_of_getElem? (i := 12) rfl)) rfl
theorem cv_X12_172 : CV RX12 172 M_m_heardBy 1 := ⟨⟨kw1102, kw1103, kw336, ⟨by decide, by decide⟩, by decide +kernel, rfl⟩, kw1104, kw1105⟩
theorem kw1106 : Cond.methodLink RX12 175 yJ9_min_7cf53 ∈ tbG := mG (tt7 (List.mem_of_getElem? (i := 83) rfl)) rfl
theorem cs_X12_175 : CS RX12 175 M_jd_min 2 := ⟨⟨kw1106, kw272, kw273, ⟨by decide, by decide⟩, by decide +kernel, rfl⟩, kw274⟩
theorem kw1107 : Cond.methodLink RX12 181 yJ9_max_7cf53 ∈ tbG := mG (tt7 (List.mem_of_getElem? (i := 84) rfl)) rfl
theorem cs_X12_181 : CS RX12 181 M_jd_max 2 := ⟨⟨kw1107, kw279, kw273, ⟨by decide, by decide⟩, by decide +kernel, rfl⟩, kw280⟩
theorem kw1108 : Cond.methodLink RX12 184 yX12_isMoved ∈ tbG := mG (tt7 (List.mem_of_getElem? (i := 105) rfl)) rfl
theorem kw1109 : mdCode M_m_isMoved ∈ tbG := mG (tt7 (List.mem_of_getElem? (i := 108) rfl)) rfl
theorem kw1110 : Cond.instanceMethod yX12_isMoved ∈ tbG := mG (tt7 (List.mem_of_getElem? (i := 107) rfl)) rfl
theorem kw1111 : Cond.selects yX12_isMoved.cls yX12_isMoved yX12_isMoved ∈ tbG := mG (tp4 (q := (yX12_isMoved, _)) (List.mem_of_getElem? (i := 15) rfl)) rfl
theorem cv_X12_184 : CV RX12 184 M_m_isMoved 1 := ⟨⟨kw1108, kw1109, kw336, ⟨by decide, by decide⟩, by decide +kernel, rfl⟩, kw1110, kw1111⟩
theorem kw1112 : Cond.methodLink RX12 187 yX12_wouldBelieve ∈ tbG := mG (tt7 (List.mem_of_getElem? (i := 101) rfl)) rfl
theorem kw1113 : mdCode M_m_wouldBelieve ∈ tbG := mG (tt7 (List.mem_of_getElem? (i := 104) rfl)) rfl
theorem kw1114 : Cond.instanceMethod yX12_wouldBelieve ∈ tbG := mG (tt7 (List.mem_of_getElem? (i := 103) rfl)) rfl
theorem kw1115 : Cond.selects yX12_wouldBelieve.cls yX12_wouldBelieve yX12_wouldBelieve ∈ tbG := mG (tp4 (q := (yX12_wouldBelieve, _)) (List.mem_of_getElem? (i := 14) rfl)) rfl
theorem cv_X12_187 : CV RX12 187 M_m_wouldBelieve 2 := ⟨⟨kw1112, kw1113, kw336, ⟨by decide, by decide⟩, by decide +kernel, rfl⟩, kw1114, kw1115⟩
theorem kw1116 : Cond.methodLink RX12 190 yX12_next ∈ tbG := mG (tt7 (List.mem_of_getElem? (i := 97) rfl)) rfl
theorem kw1117 : mdCode M_m_next ∈ tbG := mG (tt7 (List.mem_of_getElem? (i := 100) rfl)) rfl
theorem kw1118 : Cond.instanceMethod yX12_next ∈ tbG := mG (tt7 (List.mem_of_getElem? (i := 99) rfl)) rfl
theorem kw1119 : Cond.selects yX12_next.cls yX12_next yX12_next ∈ tbG := mG (tp4 (q := (yX12_next, _)) (List.mem_of_getElem? (i := 13) rfl)) rfl
theorem cv_X12_190 : CV RX12 190 M_m_next 1 := ⟨⟨kw1116, kw1117, kw336, ⟨by decide, by decide⟩, by decide +kernel, rfl⟩, kw1118, kw1119⟩
theorem kw1120 : Cond.methodLink RX12 193 yX12_areSome ∈ tbG := mG (tt7 (List.mem_of_getElem? (i := 113) rfl)) rfl
theorem kw1121 : mdCode M_m_areSome ∈ tbG := mG (tt7 (List.mem_of_getElem? (i := 116) rfl)) rfl
theorem kw1122 : Cond.instanceMethod yX12_areSome ∈ tbG := mG (tt7 (List.mem_of_getElem? (i := 115) rfl)) rfl
theorem kw1123 : Cond.selects yX12_areSome.cls yX12_areSome yX12_areSome ∈ tbG := mG (tp5 (q := (yX12_areSome, _)) (List.mem_of_getElem? (i := 0) rfl)) rfl
theorem cv_X12_193 : CV RX12 193 M_m_areSome 1 := ⟨⟨kw1120, kw1121, kw336, ⟨by decide, by decide⟩, by decide +kernel, rfl⟩, kw1122, kw1123⟩
theorem kw1124 : Cond.methodLink RX12 196 yX12_open ∈ tbG := mG (tt7 (List.mem_of_getElem? (i := 121) rfl)) rfl
theorem kw1125 : mdCode M_m_open ∈ tbG := mG (tt7 (List.mem_of_getElem? (i := 124) rfl)) rfl
theorem kw1126 : Cond.instanceMethod yX12_open ∈ tbG := mG (tt7 (List.mem_of_getElem? (i := 123) rfl)) rfl
theorem kw1127 : Cond.selects yX12_open.cls yX12_open yX12_open ∈ tbG := mG (tp5 (q := (yX12_open, _)) (List.mem_of_getElem? (i := 2) rfl)) rfl
theorem cv_X12_196 : CV RX12 196 M_m_open 0 := ⟨⟨kw1124, kw1125, kw336, ⟨by decide, by decide⟩, by decide +kernel, rfl⟩, kw1126, kw1127⟩
theorem kw1128 : Cond.methodLink RX12 199 yX12_priceOf ∈ tbG := mG (tt7 (List.mem_of_getElem? (i := 125) rfl)) rfl
theorem kw1129 : mdCode M_m_priceOf ∈ tbG := mG (tt7 (List.mem_of_getElem? (i := 128) rfl)) rfl
theorem kw1130 : Cond.instanceMethod yX12_priceOf ∈ tbG := mG (tt7 (List.mem_of_getElem? (i := 127) rfl)) rfl
theorem kw1131 : Cond.selects yX12_priceOf.cls yX12_priceOf yX12_priceOf ∈ tbG := mG (tp5 (q := (yX12_priceOf, _)) (List.mem_of_getElem? (i := 3) rfl)) rfl
theorem cv_X12_199 : CV RX12 199 M_m_priceOf 1 := ⟨⟨kw1128, kw1129, kw336, ⟨by decide, by decide⟩, by decide +kernel, rfl⟩, kw1130, kw1131⟩
theorem kw1132 : Cond.methodLink RX12 214 yX12_findRest ∈ tbG := mG (tt7 (List.mem_of_getElem? (i := 137) rfl)) rfl
theorem kw1133 : mdCode M_m_findRest ∈ tbG := mG (tt7 (List.mem_of_getElem? (i := 140) rfl)) rfl
theorem kw1134 : Cond.instanceMethod yX12_findRest ∈ tbG := mG (tt7 (List.mem_of_getElem? (i := 139) rfl)) rfl
theorem kw1135 : Cond.selects yX12_findRest.cls yX12_findRest yX12_findRest ∈ tbG := mG (tp5 (q := (yX12_findRest, _)) (List.mem_of_getElem? (i := 4) rfl)) rfl
theorem cv_X12_214 : CV RX12 214 M_m_findRest 1 := ⟨⟨kw1132, kw1133, kw336, ⟨by decide, by decide⟩, by decide +kernel, rfl⟩, kw1134, kw1135⟩
theorem kw1136 : Cond.methodLink RX12 217 yX12_tell ∈ tbG := mG (tt7 (List.mem_of_getElem? (i := 141) rfl)) rfl
theorem kw1137 : mdCode M_m_tell ∈ tbG := mG (tt7 (List.mem_of_getElem? (i := 144) rfl)) rfl
theorem kw1138 : Cond.instanceMethod yX12_tell ∈ tbG := mG (tt7 (List.mem_of_getElem? (i := 143) rfl)) rfl
theorem kw1139 : Cond.selects yX12_tell.cls yX12_tell yX12_tell ∈ tbG := mG (tp5 (q := (yX12_tell, _)) (List.mem_of_getElem? (i := 5) rfl)) rfl
theorem cv_X12_217 : CV RX12 217 M_m_tell 1 := ⟨⟨kw1136, kw1137, kw336, ⟨by decide, by decide⟩, by decide +kernel, rfl⟩, kw1138, kw1139⟩
theorem kw1140 : Cond.methodLink RX12 225 yX12_fallOf ∈ tbG := mG (tt7 (List.mem_of_getElem? (i := 149) rfl)) rfl
theorem kw1141 : mdCode M_m_fallOf ∈ tbG := mG (tt7 (List.mem_of_getElem? (i := 152) rfl)) rfl
theorem kw1142 : Cond.instanceMethod yX12_fallOf ∈ tbG := mG (tt7 (List.mem_of_getElem? (i := 151) rfl)) rfl
theorem kw1143 : Cond.selects yX12_fallOf.cls yX12_fallOf yX12_fallOf ∈ tbG := mG (tp5 (q := (yX12_fallOf, _)) (List.mem_of_getElem? (i := 6) rfl)) rfl
theorem cv_X12_225 : CV RX12 225 M_m_fallOf 1 := ⟨⟨kw1140, kw1141, kw336, ⟨by decide, by decide⟩, by decide +kernel, rfl⟩, kw1142, kw1143⟩
theorem kw1144 : Cond.methodLink RX12 231 yX12_after ∈ tbG := mG (tt7 (List.mem_of_getElem? (i := 168) rfl)) rfl
theorem kw1145 : mdCode M_m_after ∈ tbG := mG (tt7 (List.mem_of_getElem? (i := 171) rfl)) rfl
theorem kw1146 : Cond.instanceMethod yX12_after ∈ tbG := mG (tt7 (List.mem_of_getElem? (i := 170) rfl)) rfl
theorem kw1147 : Cond.selects yX12_after.cls yX12_after yX12_after ∈ tbG := mG (tp5 (q := (yX12_after, _)) (List.mem_of_getElem? (i := 7) rfl)) rfl
theorem cv_X12_231 : CV RX12 231 M_m_after 2 := ⟨⟨kw1144, kw1145, kw336, ⟨by decide, by decide⟩, by decide +kernel, rfl⟩, kw1146, kw1147⟩
theorem kw1148 : Cond.methodLink RX12 234 yX12_dayOf ∈ tbG := mG (tt7 (List.mem_of_getElem? (i := 180) rfl)) rfl
theorem kw1149 : mdCode M_m_dayOf ∈ tbG := mG (tt7 (List.mem_of_getElem? (i := 183) rfl)) rfl
theorem kw1150 : Cond.instanceMethod yX12_dayOf ∈ tbG := mG (tt7 (List.mem_of_getElem? (i := 182) rfl)) rfl
theorem kw1151 : Cond.selects yX12_dayOf.cls yX12_dayOf yX12_dayOf ∈ tbG := mG (tp5 (q := (yX12_dayOf, _)) (List.mem_of_getElem? (i := 8) rfl)) rfl
theorem cv_X12_234 : CV RX12 234 M_m_dayOf 3 := ⟨⟨kw1148, kw1149, kw336, ⟨by decide, by decide⟩, by decide +kernel, rfl⟩, kw1150, kw1151⟩
theorem kw1152 : Cond.methodLink RX12 238 yX12_partOf ∈ tbG := mG (tt7 (List.mem_of_getElem? (i := 193) rfl)) rfl
theorem kw1153 : mdCode M_m_partOf ∈ tbG := mG (tt7 (List.mem_of_getElem? (i := 196) rfl)) rfl
theorem kw1154 : Cond.instanceMethod yX12_partOf ∈ tbG := mG (tt7 (List.mem_of_getElem? (i := 195) rfl)) rfl
theorem kw1155 : Cond.selects yX12_partOf.cls yX12_partOf yX12_partOf ∈ tbG := mG (tp5 (q := (yX12_partOf, _)) (List.mem_of_getElem? (i := 9) rfl)) rfl
theorem cv_X12_238 : CV RX12 238 M_m_partOf 1 := ⟨⟨kw1152, kw1153, kw336, ⟨by decide, by decide⟩, by decide +kernel, rfl⟩, kw1154, kw1155⟩
theorem kw1156 : Cond.methodLink RX12 241 yX12_isFirmAs ∈ tbG := mG (tt7 (List.mem_of_getElem? (i := 201) rfl)) rfl
theorem kw1157 : mdCode M_m_isFirmAs ∈ tbG := mG (tt7 (List.mem_of_getElem? (i := 204) rfl)) rfl
theorem kw1158 : Cond.instanceMethod yX12_isFirmAs ∈ tbG := mG (tt7 (List.mem_of_getElem? (i := 203) rfl)) rfl
theorem kw1159 : Cond.selects yX12_isFirmAs.cls yX12_isFirmAs yX12_isFirmAs ∈ tbG := mG (tp5 (q := (yX12_isFirmAs, _)) (List.mem_of_getElem? (i := 10) rfl)) rfl
theorem cv_X12_241 : CV RX12 241 M_m_isFirmAs 2 := ⟨⟨kw1156, kw1157, kw336, ⟨by decide, by decide⟩, by decide +kernel, rfl⟩, kw1158, kw1159⟩
theorem kw1160 : Cond.methodLink RX12 244 yJ6_bitCount_0f7a4 ∈ tbG := mG (tt7 (List.mem_of_getElem? (i := 209) rfl)) rfl
theorem cs_X12_244 : CS RX12 244 M_jd_bitCount 1 := ⟨⟨kw1160, kw800, kw801, ⟨by decide, by decide⟩, by decide +kernel, rfl⟩, kw802⟩
theorem kw1161 : Cond.methodLink RX12 249 yX12_isLess ∈ tbG := mG (tt7 (List.mem_of_getElem? (i := 233) rfl)) rfl
theorem kw1162 : mdCode M_m_isLess ∈ tbG := mG (tt7 (List.mem_of_getElem? (i := 236) rfl)) rfl
theorem kw1163 : Cond.instanceMethod yX12_isLess ∈ tbG := mG (tt7 (List.mem_of_getElem? (i := 235) rfl)) rfl
theorem kw1164 : Cond.selects yX12_isLess.cls yX12_isLess yX12_isLess ∈ tbG := mG (tp5 (q := (yX12_isLess, _)) (List.mem_of_getElem? (i := 12) rfl)) rfl
theorem cv_X12_249 : CV RX12 249 M_m_isLess 3 := ⟨⟨kw1161, kw1162, kw336, ⟨by decide, by decide⟩, by decide +kernel, rfl⟩, kw1163, kw1164⟩
theorem kw1165 : Cond.methodLink RX12 253 yX12_isDays ∈ tbG := mG (tt7 (List.mem_of_getElem? (i := 226) rfl)) rfl
theorem kw1166 : mdCode M_m_isDays ∈ tbG := mG (tt7 (List.mem_of_getElem? (i := 228) rfl)) rfl
theorem kw1167 : Cond.static yX12_isDays ∈ tbG := mG (tt7 (List.mem_of_getElem? (i := 227) rfl)) rfl
theorem cs_X12_253 : CS RX12 253 M_m_isDays 2 := ⟨⟨kw1165, kw1166, kw336, ⟨by decide, by decide⟩, by decide +kernel, rfl⟩, kw1167⟩
theorem kw1168 : Cond.methodLink RX12 256 yX12_findTalked ∈ tbG := mG (tt7 (List.mem_of_getElem? (i := 229) rfl)) rfl
theorem kw1169 : mdCode M_m_findTalked ∈ tbG := mG (tt7 (List.mem_of_getElem? (i := 232) rfl)) rfl
theorem kw1170 : Cond.instanceMethod yX12_findTalked ∈ tbG := mG (tt7 (List.mem_of_getElem? (i := 231) rfl)) rfl
theorem kw1171 : Cond.selects yX12_findTalked.cls yX12_findTalked yX12_findTalked ∈ tbG := mG (tp5 (q := (yX12_findTalked, _)) (List.mem_of_getElem? (i := 11) rfl)) rfl
theorem cv_X12_256 : CV RX12 256 M_m_findTalked 3 := ⟨⟨kw1168, kw1169, kw336, ⟨by decide, by decide⟩, by decide +kernel, rfl⟩, kw1170, kw1171⟩
theorem kw1172 : Cond.methodLink RX12 260 yX12_canTalk ∈ tbG := mG (tt8 (List.mem_of_getElem? (i := 9) rfl)) rfl
theorem kw1173 : mdCode M_m_canTalk ∈ tbG := mG (tt8 (List.mem_of_getElem? (i := 12) rfl)) rfl
theorem kw1174 : Cond.instanceMethod yX12_canTalk ∈ tbG := mG (tt8 (List.mem_of_getElem? (i := 11) rfl)) rfl
theorem kw1175 : Cond.selects yX12_canTalk.cls yX12_canTalk yX12_canTalk ∈ tbG := mG (tp5 (q := (yX12_canTalk, _)) (List.mem_of_getElem? (i := 14) rfl)) rfl
theorem cv_X12_260 : CV RX12 260 M_m_canTalk 2 := ⟨⟨kw1172, kw1173, kw336, ⟨by decide, by decide⟩, by decide +kernel, rfl⟩, kw1174, kw1175⟩
theorem kw1176 : Cond.methodLink RX12 263 yX12_sumBy ∈ tbG := mG (tt8 (List.mem_of_getElem? (i := 13) rfl)) rfl
theorem kw1177 : mdCode M_m_sumBy ∈ tbG := mG (tt8 (List.mem_of_getElem? (i := 16) rfl)) rfl
theorem kw1178 : Cond.instanceMethod yX12_sumBy ∈ tbG := mG (tt8 (List.mem_of_getElem? (i := 15) rfl)) rfl
theorem kw1179 : Cond.selects yX12_sumBy.cls yX12_sumBy yX12_sumBy ∈ tbG := mG (tp5 (q := (yX12_sumBy, _)) (List.mem_of_getElem? (i := 15) rfl)) rfl
theorem cv_X12_263 : CV RX12 263 M_m_sumBy 4 := ⟨⟨kw1176, kw1177, kw336, ⟨by decide, by decide⟩, by decide +kernel, rfl⟩, kw1178, kw1179⟩
theorem kw1180 : Cond.methodLink RX12 267 yX12_sumOf ∈ tbG := mG (tt8 (List.mem_of_getElem? (i := 5) rfl)) rfl
theorem kw1181 : mdCode M_m_sumOf ∈ tbG := mG (tt8 (List.mem_of_getElem? (i := 8) rfl)) rfl
theorem kw1182 : Cond.instanceMethod yX12_sumOf ∈ tbG := mG (tt8 (List.mem_of_getElem? (i := 7) rfl)) rfl
theorem kw1183 : Cond.selects yX12_sumOf.cls yX12_sumOf yX12_sumOf ∈ tbG := mG (tp5 (q := (yX12_sumOf, _)) (List.mem_of_getElem? (i := 13) rfl)) rfl
theorem cv_X12_267 : CV RX12 267 M_m_sumOf 3 := ⟨⟨kw1180, kw1181, kw336, ⟨by decide, by decide⟩, by decide +kernel, rfl⟩, kw1182, kw1183⟩
theorem kw1184 : Cond.methodLink RX12 270 yX12_whoFirst ∈ tbG := mG (tt8 (List.mem_of_getElem? (i := 17) rfl)) rfl
theorem kw1185 : mdCode M_m_whoFirst ∈ tbG := mG (tt8 (List.mem_of_getElem? (i := 20) rfl)) rfl
theorem kw1186 : Cond.instanceMethod yX12_whoFirst ∈ tbG := mG (tt8 (List.mem_of_getElem? (i := 19) rfl)) rfl
theorem kw1187 : Cond.selects yX12_whoFirst.cls yX12_whoFirst yX12_whoFirst ∈ tbG := mG (tp6 (q := (yX12_whoFirst, _)) (List.mem_of_getElem? (i := 0) rfl)) rfl
theorem cv_X12_270 : CV RX12 270 M_m_whoFirst 3 := ⟨⟨kw1184, kw1185, kw336, ⟨by decide, by decide⟩, by decide +kernel, rfl⟩, kw1186, kw1187⟩
theorem kw1188 : Cond.methodLink RX12 273 yX12_everAll ∈ tbG := mG (tt8 (List.mem_of_getElem? (i := 29) rfl)) rfl
theorem kw1189 : mdCode M_m_everAll ∈ tbG := mG (tt8 (List.mem_of_getElem? (i := 32) rfl)) rfl
theorem kw1190 : Cond.instanceMethod yX12_everAll ∈ tbG := mG (tt8 (List.mem_of_getElem? (i := 31) rfl)) rfl
theorem kw1191 : Cond.selects yX12_everAll.cls yX12_everAll yX12_everAll ∈ tbG := mG (tp6 (q := (yX12_everAll, _)) (List.mem_of_getElem? (i := 1) rfl)) rfl
theorem cv_X12_273 : CV RX12 273 M_m_everAll 2 := ⟨⟨kw1188, kw1189, kw336, ⟨by decide, by decide⟩, by decide +kernel, rfl⟩, kw1190, kw1191⟩
theorem kw1192 : Cond.methodLink RX12 276 yX12_holding ∈ tbG := mG (tt8 (List.mem_of_getElem? (i := 37) rfl)) rfl
theorem kw1193 : mdCode M_m_holding ∈ tbG := mG (tt8 (List.mem_of_getElem? (i := 40) rfl)) rfl
theorem kw1194 : Cond.instanceMethod yX12_holding ∈ tbG := mG (tt8 (List.mem_of_getElem? (i := 39) rfl)) rfl
theorem kw1195 : Cond.selects yX12_holding.cls yX12_holding yX12_holding ∈ tbG := mG (tp6 (q := (yX12_holding, _)) (List.mem_of_getElem? (i := 2) rfl)) rfl
theorem cv_X12_276 : CV RX12 276 M_m_holding 1 := ⟨⟨kw1192, kw1193, kw336, ⟨by decide, by decide⟩, by decide +kernel, rfl⟩, kw1194, kw1195⟩
theorem kw1196 : Cond.methodLink RX12 279 yX12_shieldOf ∈ tbG := mG (tt8 (List.mem_of_getElem? (i := 45) rfl)) rfl
theorem kw1197 : mdCode M_m_shieldOf ∈ tbG := mG (tt8 (List.mem_of_getElem? (i := 48) rfl)) rfl
theorem kw1198 : Cond.instanceMethod yX12_shieldOf ∈ tbG := mG (tt8 (List.mem_of_getElem? (i := 47) rfl)) rfl
theorem kw1199 : Cond.selects yX12_shieldOf.cls yX12_shieldOf yX12_shieldOf ∈ tbG := mG (tp6 (q := (yX12_shieldOf, _)) (List.mem_of_getElem? (i := 3) rfl)) rfl
theorem cv_X12_279 : CV RX12 279 M_m_shieldOf 2 := ⟨⟨kw1196, kw1197, kw336, ⟨by decide, by decide⟩, by decide +kernel, rfl⟩, kw1198, kw1199⟩
theorem kw1200 : Cond.methodLink RX12 282 yX12_sum ∈ tbG := mG (tt8 (List.mem_of_getElem? (i := 61) rfl)) rfl
theorem kw1201 : mdCode M_m_sum ∈ tbG := mG (tt8 (List.mem_of_getElem? (i := 64) rfl)) rfl
theorem kw1202 : Cond.instanceMethod yX12_sum ∈ tbG := mG (tt8 (List.mem_of_getElem? (i := 63) rfl)) rfl
theorem kw1203 : Cond.selects yX12_sum.cls yX12_sum yX12_sum ∈ tbG := mG (tp6 (q := (yX12_sum, _)) (List.mem_of_getElem? (i := 5) rfl)) rfl
theorem cv_X12_282 : CV RX12 282 M_m_sum 1 := ⟨⟨kw1200, kw1201, kw336, ⟨by decide, by decide⟩, by decide +kernel, rfl⟩, kw1202, kw1203⟩
theorem kw1204 : Cond.methodLink RX12 285 yX12_product ∈ tbG := mG (tt8 (List.mem_of_getElem? (i := 65) rfl)) rfl
theorem kw1205 : mdCode M_m_product ∈ tbG := mG (tt8 (List.mem_of_getElem? (i := 68) rfl)) rfl
theorem kw1206 : Cond.instanceMethod yX12_product ∈ tbG := mG (tt8 (List.mem_of_getElem? (i := 67) rfl)) rfl
theorem kw1207 : Cond.selects yX12_product.cls yX12_product yX12_product ∈ tbG := mG (tp6 (q := (yX12_product, _)) (List.mem_of_getElem? (i := 6) rfl)) rfl
theorem cv_X12_285 : CV RX12 285 M_m_product 1 := ⟨⟨kw1204, kw1205, kw336, ⟨by decide, by decide⟩, by decide +kernel, rfl⟩, kw1206, kw1207⟩
theorem kw1208 : Cond.methodLink RX12 288 yX12_thing ∈ tbG := mG (tt8 (List.mem_of_getElem? (i := 69) rfl)) rfl
theorem kw1209 : mdCode M_m_thing ∈ tbG := mG (tt8 (List.mem_of_getElem? (i := 72) rfl)) rfl
theorem kw1210 : Cond.instanceMethod yX12_thing ∈ tbG := mG (tt8 (List.mem_of_getElem? (i := 71) rfl)) rfl
theorem kw1211 : Cond.selects yX12_thing.cls yX12_thing yX12_thing ∈ tbG := mG (tp6 (q := (yX12_thing, _)) (List.mem_of_getElem? (i := 7) rfl)) rfl
theorem cv_X12_288 : CV RX12 288 M_m_thing 1 := ⟨⟨kw1208, kw1209, kw336, ⟨by decide, by decide⟩, by decide +kernel, rfl⟩, kw1210, kw1211⟩
theorem kw1212 : Cond.methodLink RX12 291 yX12_held ∈ tbG := mG (tt8 (List.mem_of_getElem? (i := 57) rfl)) rfl
theorem kw1213 : mdCode M_m_held ∈ tbG := mG (tt8 (List.mem_of_getElem? (i := 60) rfl)) rfl
theorem kw1214 : Cond.instanceMethod yX12_held ∈ tbG := mG (tt8 (List.mem_of_getElem? (i := 59) rfl)) rfl
theorem kw1215 : Cond.selects yX12_held.cls yX12_held yX12_held ∈ tbG := mG (tp6 (q := (yX12_held, _)) (List.mem_of_getElem? (i := 4) rfl)) rfl
theorem cv_X12_291 : CV RX12 291 M_m_held 1 := ⟨⟨kw1212, kw1213, kw336, ⟨by decide, by decide⟩, by decide +kernel, rfl⟩, kw1214, kw1215⟩
theorem kw1216 : Cond.methodLink RX12 294 yX12_letter ∈ tbG := mG (tt8 (List.mem_of_getElem? (i := 73) rfl)) rfl
theorem kw1217 : mdCode M_m_letter ∈ tbG := mG (tt8 (List.mem_of_getElem? (i := 76) rfl)) rfl
theorem kw1218 : Cond.instanceMethod yX12_letter ∈ tbG := mG (tt8 (List.mem_of_getElem? (i := 75) rfl)) rfl
theorem kw1219 : Cond.selects yX12_letter.cls yX12_letter yX12_letter ∈ tbG := mG (tp6 (q := (yX12_letter, _)) (List.mem_of_getElem? (i := 8) rfl)) rfl
theorem cv_X12_294 : CV RX12 294 M_m_letter 1 := ⟨⟨kw1216, kw1217, kw336, ⟨by decide, by decide⟩, by decide +kernel, rfl⟩, kw1218, kw1219⟩
theorem kw1220 : Cond.methodLink RX12 304 yX12_rateOf ∈ tbG := mG (tt8 (List.mem_of_getElem? (i := 81) rfl)) rfl
theorem kw1221 : mdCode M_m_rateOf ∈ tbG := mG (tt8 (List.mem_of_getElem? (i := 84) rfl)) rfl
theorem kw1222 : Cond.instanceMethod yX12_rateOf ∈ tbG := mG (tt8 (List.mem_of_getElem? (i := 83) rfl)) rfl
theorem kw1223 : Cond.selects yX12_rateOf.cls yX12_rateOf yX12_rateOf ∈ tbG := mG (tp6 (q := (yX12_rateOf, _)) (List.mem_of_getElem? (i := 9) rfl)) rfl
theorem cv_X12_304 : CV RX12 304 M_m_rateOf 3 := ⟨⟨kw1220, kw1221, kw336, ⟨by decide, by decide⟩, by decide +kernel, rfl⟩, kw1222, kw1223⟩
theorem kw1224 : Cond.methodLink RX12 307 yX12_canWin ∈ tbG := mG (tt8 (List.mem_of_getElem? (i := 93) rfl)) rfl
theorem kw1225 : mdCode M_m_canWin ∈ tbG := mG (tt8 (List.mem_of_getElem? (i := 96) rfl)) rfl
theorem kw1226 : Cond.instanceMethod yX12_canWin ∈ tbG := mG (tt8 (List.mem_of_getElem? (i := 95) rfl)) rfl
theorem kw1227 : Cond.selects yX12_canWin.cls yX12_canWin yX12_canWin ∈ tbG := mG (tp6 (q := (yX12_canWin, _)) (List.mem_of_getElem? (i := 11) rfl)) rfl
theorem cv_X12_307 : CV RX12 307 M_m_canWin 3 := ⟨⟨kw1224, kw1225, kw336, ⟨by decide, by decide⟩, by decide +kernel, rfl⟩, kw1226, kw1227⟩
theorem kw1228 : Cond.methodLink RX12 310 yX12_pick ∈ tbG := mG (tt8 (List.mem_of_getElem? (i := 89) rfl)) rfl
theorem kw1229 : mdCode M_m_pick ∈ tbG := mG (tt8 (List.mem_of_getElem? (i := 92) rfl)) rfl
theorem kw1230 : Cond.instanceMethod yX12_pick ∈ tbG := mG (tt8 (List.mem_of_getElem? (i := 91) rfl)) rfl
theorem kw1231 : Cond.selects yX12_pick.cls yX12_pick yX12_pick ∈ tbG := mG (tp6 (q := (yX12_pick, _)) (List.mem_of_getElem? (i := 10) rfl)) rfl
theorem cv_X12_310 : CV RX12 310 M_m_pick 2 := ⟨⟨kw1228, kw1229, kw336, ⟨by decide, by decide⟩, by decide +kernel, rfl⟩, kw1230, kw1231⟩
theorem kw1232 : Cond.methodLink RX12 313 yX12_won ∈ tbG := mG (tt8 (List.mem_of_getElem? (i := 101) rfl)) rfl
theorem kw1233 : mdCode M_m_won ∈ tbG := mG (tt8 (List.mem_of_getElem? (i := 103) rfl)) rfl
theorem kw1234 : Cond.static yX12_won ∈ tbG := mG (tt8 (List.mem_of_getElem? (i := 102) rfl)) rfl
theorem cs_X12_313 : CS RX12 313 M_m_won 2 := ⟨⟨kw1232, kw1233, kw336, ⟨by decide, by decide⟩, by decide +kernel, rfl⟩, kw1234⟩
theorem kw1235 : Cond.methodLink RX12 316 yX12_answered ∈ tbG := mG (tt8 (List.mem_of_getElem? (i := 116) rfl)) rfl
theorem kw1236 : mdCode M_m_answered ∈ tbG := mG (tt8 (List.mem_of_getElem? (i := 119) rfl)) rfl
theorem kw1237 : Cond.instanceMethod yX12_answered ∈ tbG := mG (tt8 (List.mem_of_getElem? (i := 118) rfl)) rfl
theorem kw1238 : Cond.selects yX12_answered.cls yX12_answered yX12_answered ∈ tbG := mG (tp6 (q := (yX12_answered, _)) (List.mem_of_getElem? (i := 14) rfl)) rfl
theorem cv_X12_316 : CV RX12 316 M_m_answered 3 := ⟨⟨kw1235, kw1236, kw336, ⟨by decide, by decide⟩, by decide +kernel, rfl⟩, kw1237, kw1238⟩
theorem kw1239 : Cond.methodLink RX12 319 yX12_game ∈ tbG := mG (tt8 (List.mem_of_getElem? (i := 112) rfl)) rfl
theorem kw1240 : mdCode M_m_game ∈ tbG := mG (tt8 (List.mem_of_getElem? (i := 115) rfl)) rfl
theorem kw1241 : Cond.instanceMethod yX12_game ∈ tbG := mG (tt8 (List.mem_of_getElem? (i := 114) rfl)) rfl
theorem kw1242 : Cond.selects yX12_game.cls yX12_game yX12_game ∈ tbG := mG (tp6 (q := (yX12_game, _)) (List.mem_of_getElem? (i := 13) rfl)) rfl
theorem cv_X12_319 : CV RX12 319 M_m_game 3 := ⟨⟨kw1239, kw1240, kw336, ⟨by decide, by decide⟩, by decide +kernel, rfl⟩, kw1241, kw1242⟩
theorem kw1243 : Cond.methodLink RX12 322 yX12_playOut ∈ tbG := mG (tt8 (List.mem_of_getElem? (i := 108) rfl)) rfl
theorem kw1244 : mdCode M_m_playOut ∈ tbG := mG (tt8 (List.mem_of_getElem? (i := 111) rfl)) rfl
theorem kw1245 : Cond.instanceMethod yX12_playOut ∈ tbG := mG (tt8 (List.mem_of_getElem? (i := 110) rfl)) rfl
theorem kw1246 : Cond.selects yX12_playOut.cls yX12_playOut yX12_playOut ∈ tbG := mG (tp6 (q := (yX12_playOut, _)) (List.mem_of_getElem? (i := 12) rfl)) rfl
theorem cv_X12_322 : CV RX12 322 M_m_playOut 2 := ⟨⟨kw1243, kw1244, kw336, ⟨by decide, by decide⟩, by decide +kernel, rfl⟩, kw1245, kw1246⟩
theorem kw1247 : Cond.methodLink RX12 326 yX12_changePair ∈ tbG := mG (tt8 (List.mem_of_getElem? (i := 136) rfl)) rfl
theorem kw1248 : mdCode M_m_changePair ∈ tbG := mG (tt8 (List.mem_of_getElem? (i := 139) rfl)) rfl
theorem kw1249 : Cond.instanceMethod yX12_changePair ∈ tbG := mG (tt8 (List.mem_of_getElem? (i := 138) rfl)) rfl
theorem kw1250 : Cond.selects yX12_changePair.cls yX12_changePair yX12_changePair ∈ tbG := mG (tp7 (q := (yX12_changePair, _)) (List.mem_of_getElem? (i := 1) rfl)) rfl
theorem cv_X12_326 : CV RX12 326 M_m_changePair 3 := ⟨⟨kw1247, kw1248, kw336, ⟨by decide, by decide⟩, by decide +kernel, rfl⟩, kw1249, kw1250⟩
theorem kw1251 : Cond.methodLink RX12 330 yX12_isSo ∈ tbG := mG (tt8 (List.mem_of_getElem? (i := 128) rfl)) rfl
theorem kw1252 : mdCode M_m_isSo ∈ tbG := mG (tt8 (List.mem_of_getElem? (i := 131) rfl)) rfl
theorem kw1253 : Cond.instanceMethod yX12_isSo ∈ tbG := mG (tt8 (List.mem_of_getElem? (i := 130) rfl)) rfl
theorem kw1254 : Cond.selects yX12_isSo.cls yX12_isSo yX12_isSo ∈ tbG := mG (tp6 (q := (yX12_isSo, _)) (List.mem_of_getElem? (i := 15) rfl)) rfl
theorem cv_X12_330 : CV RX12 330 M_m_isSo 1 := ⟨⟨kw1251, kw1252, kw336, ⟨by decide, by decide⟩, by decide +kernel, rfl⟩, kw1253, kw1254⟩
theorem kw1255 : Cond.methodLink RX12 333 yX12_changeBack ∈ tbG := mG (tt8 (List.mem_of_getElem? (i := 140) rfl)) rfl
theorem kw1256 : mdCode M_m_changeBack ∈ tbG := mG (tt8 (List.mem_of_getElem? (i := 143) rfl)) rfl
theorem kw1257 : Cond.instanceMethod yX12_changeBack ∈ tbG := mG (tt8 (List.mem_of_getElem? (i := 142) rfl)) rfl
theorem kw1258 : Cond.selects yX12_changeBack.cls yX12_changeBack yX12_changeBack ∈ tbG := mG (tp7 (q := (yX12_changeBack, _)) (List.mem_of_getElem? (i := 2) rfl)) rfl
theorem cv_X12_333 : CV RX12 333 M_m_changeBack 3 := ⟨⟨kw1255, kw1256, kw336, ⟨by decide, by decide⟩, by decide +kernel, rfl⟩, kw1257, kw1258⟩
theorem kw1259 : Cond.methodLink RX12 336 yX12_isSoBy ∈ tbG := mG (tt8 (List.mem_of_getElem? (i := 132) rfl)) rfl
theorem kw1260 : mdCode M_m_isSoBy ∈ tbG := mG (tt8 (List.mem_of_getElem? (i := 135) rfl)) rfl
theorem kw1261 : Cond.instanceMethod yX12_isSoBy ∈ tbG := mG (tt8 (List.mem_of_getElem? (i := 134) rfl)) rfl
theorem kw1262 : Cond.selects yX12_isSoBy.cls yX12_isSoBy yX12_isSoBy ∈ tbG := mG (tp7 (q := (yX12_isSoBy, _)) (List.mem_of_getElem? (i := 0) rfl)) rfl
theorem cv_X12_336 : CV RX12 336 M_m_isSoBy 4 := ⟨⟨kw1259, kw1260, kw336, ⟨by decide, by decide⟩, by decide +kernel, rfl⟩, kw1261, kw1262⟩
theorem kw1263 : Cond.methodLink RX12 340 yX12_isSoWithTwo ∈ tbG := mG (tt8 (List.mem_of_getElem? (i := 144) rfl)) rfl
theorem kw1264 : mdCode M_m_isSoWithTwo ∈ tbG := mG (tt8 (List.mem_of_getElem? (i := 147) rfl)) rfl
theorem kw1265 : Cond.instanceMethod yX12_isSoWithTwo ∈ tbG := mG (tt8 (List.mem_of_getElem? (i := 146) rfl)) rfl
theorem kw1266 : Cond.selects yX12_isSoWithTwo.cls yX12_isSoWithTwo yX12_isSoWithTwo ∈ tbG := mG (tp7 (q := (yX12_isSoWithTwo, _)) (List.mem_of_getElem? (i := 3) rfl)) rfl
theorem cv_X12_340 : CV RX12 340 M_m_isSoWithTwo 3 := ⟨⟨kw1263, kw1264, kw336, ⟨by decide, by decide⟩, by decide +kernel, rfl⟩, kw1265, kw1266⟩
theorem kw1267 : Cond.methodLink RX2 23 yJ7_fill_53178 ∈ tbG := mG (tt3 (List.mem_of_getElem? (i := 102) rfl)) rfl
theorem kw1268 : mdCode M_jd_fill ∈ tbG := mG (tt3 (List.mem_of_getElem? (i := 104) rfl)) rfl
theorem kw1269 : Cond.initialized RJ7 ∈ tbG := mG (tt1 (List.mem_of_getElem? (i := 19) rfl)) rfl
theorem kw1270 : Cond.static yJ7_fill_53178 ∈ tbG := mG (tt3 (List.mem_of_getElem? (i := 103) rfl)) rfl
theorem cs_X2_23 : CS RX2 23 M_jd_fill 2 := ⟨⟨kw1267, kw1268, kw1269, ⟨by decide, by decide⟩, by decide +kernel, rfl⟩, kw1270⟩
theorem kw1271 : Cond.methodLink RX3 33 yX2_begin ∈ tbG := mG (tt3 (List.mem_of_getElem? (i := 97) rfl)) rfl
theorem cv_X3_33 : CV RX3 33 M_me_begin 1 := ⟨⟨kw1271, kw826, kw827, ⟨by decide, by decide⟩, by decide +kernel, rfl⟩, kw828, kw829⟩
theorem kw1272 : Cond.methodLink RX3 39 yX8_everybody ∈ tbG := mG (tt3 (List.mem_of_getElem? (i := 105) rfl)) rfl
theorem cv_X3_39 : CV RX3 39 M_st_everybody 0 := ⟨⟨kw1272, kw705, kw701, ⟨by decide, by decide⟩, by decide +kernel, rfl⟩, kw706, kw707⟩
theorem kw1273 : Cond.methodLink RX3 43 yX2_recall ∈ tbG := mG (tt3 (List.mem_of_getElem? (i := 106) rfl)) rfl
theorem cv_X3_43 : CV RX3 43 M_me_recall 2 := ⟨⟨kw1273, kw835, kw827, ⟨by decide, by decide⟩, by decide +kernel, rfl⟩, kw836, kw837⟩
theorem kw1274 : Cond.methodLink RX3 47 yX2_note ∈ tbG := mG (tt3 (List.mem_of_getElem? (i := 110) rfl)) rfl
theorem cv_X3_47 : CV RX3 47 M_me_note 3 := ⟨⟨kw1274, kw844, kw827, ⟨by decide, by decide⟩, by decide +kernel, rfl⟩, kw845, kw846⟩
theorem kw1275 : Cond.methodLink RX3 51 yX1_after ∈ tbG := mG (tt3 (List.mem_of_getElem? (i := 114) rfl)) rfl
theorem cv_X3_51 : CV RX3 51 M_he_after 1 := ⟨⟨kw1275, kw791, kw710, ⟨by decide, by decide⟩, by decide +kernel, rfl⟩, kw792, kw793⟩
theorem kw1276 : Cond.methodLink RX3 66 yX3_goRound ∈ tbG := mG (tt3 (List.mem_of_getElem? (i := 115) rfl)) rfl
theorem kw1277 : mdCode M_ob_goRound ∈ tbG := mG (tt3 (List.mem_of_getElem? (i := 118) rfl)) rfl
theorem kw1278 : Cond.instanceMethod yX3_goRound ∈ tbG := mG (tt3 (List.mem_of_getElem? (i := 117) rfl)) rfl
theorem kw1279 : Cond.selects yX3_goRound.cls yX3_goRound yX3_goRound ∈ tbG := mG (tp1 (q := (yX3_goRound, _)) (List.mem_of_getElem? (i := 12) rfl)) rfl
theorem cv_X3_66 : CV RX3 66 M_ob_goRound 0 := ⟨⟨kw1276, kw1277, kw906, ⟨by decide, by decide⟩, by decide +kernel, rfl⟩, kw1278, kw1279⟩
theorem kw1280 : Cond.methodLink RX3 78 yJ9_min_7cf53 ∈ tbG := mG (tt3 (List.mem_of_getElem? (i := 119) rfl)) rfl
theorem cs_X3_78 : CS RX3 78 M_jd_min 2 := ⟨⟨kw1280, kw272, kw273, ⟨by decide, by decide⟩, by decide +kernel, rfl⟩, kw274⟩
theorem kw1281 : Cond.methodLink RX3 86 yX4_clear ∈ tbG := mG (tt4 (List.mem_of_getElem? (i := 14) rfl)) rfl
theorem cv_X3_86 : CV RX3 86 M_rw_clear 0 := ⟨⟨kw1281, kw732, kw728, ⟨by decide, by decide⟩, by decide +kernel, rfl⟩, kw733, kw734⟩
theorem kw1282 : Cond.methodLink RX3 91 yX4_add ∈ tbG := mG (tt4 (List.mem_of_getElem? (i := 15) rfl)) rfl
theorem cv_X3_91 : CV RX3 91 M_rw_add 1 := ⟨⟨kw1282, kw772, kw728, ⟨by decide, by decide⟩, by decide +kernel, rfl⟩, kw773, kw774⟩
theorem kw1283 : Cond.methodLink RX3 95 yX8_now ∈ tbG := mG (tt4 (List.mem_of_getElem? (i := 4) rfl)) rfl
theorem cv_X3_95 : CV RX3 95 M_st_now 0 := ⟨⟨kw1283, kw700, kw701, ⟨by decide, by decide⟩, by decide +kernel, rfl⟩, kw702, kw703⟩
theorem kw1284 : Cond.methodLink RX3 98 yX3_isFirmAs ∈ tbG := mG (tt4 (List.mem_of_getElem? (i := 5) rfl)) rfl
theorem kw1285 : mdCode M_ob_isFirmAs ∈ tbG := mG (tt4 (List.mem_of_getElem? (i := 8) rfl)) rfl
theorem kw1286 : Cond.instanceMethod yX3_isFirmAs ∈ tbG := mG (tt4 (List.mem_of_getElem? (i := 7) rfl)) rfl
theorem kw1287 : Cond.selects yX3_isFirmAs.cls yX3_isFirmAs yX3_isFirmAs ∈ tbG := mG (tp1 (q := (yX3_isFirmAs, _)) (List.mem_of_getElem? (i := 15) rfl)) rfl
theorem cv_X3_98 : CV RX3 98 M_ob_isFirmAs 2 := ⟨⟨kw1284, kw1285, kw906, ⟨by decide, by decide⟩, by decide +kernel, rfl⟩, kw1286, kw1287⟩
theorem kw1288 : Cond.methodLink RX3 102 yX1_later ∈ tbG := mG (tt4 (List.mem_of_getElem? (i := 9) rfl)) rfl
theorem cv_X3_102 : CV RX3 102 M_he_later 2 := ⟨⟨kw1288, kw920, kw710, ⟨by decide, by decide⟩, by decide +kernel, rfl⟩, kw921, kw922⟩
theorem kw1289 : Cond.methodLink RX3 105 yX3_answer ∈ tbG := mG (tt4 (List.mem_of_getElem? (i := 10) rfl)) rfl
theorem kw1290 : mdCode M_ob_answer ∈ tbG := mG (tt4 (List.mem_of_getElem? (i := 13) rfl)) rfl
theorem kw1291 : Cond.instanceMethod yX3_answer ∈ tbG := mG (tt4 (List.mem_of_getElem? (i := 12) rfl)) rfl
theorem kw1292 : Cond.selects yX3_answer.cls yX3_answer yX3_answer ∈ tbG := mG (tp2 (q := (yX3_answer, _)) (List.mem_of_getElem? (i := 0) rfl)) rfl
theorem cv_X3_105 : CV RX3 105 M_ob_answer 2 := ⟨⟨kw1289, kw1290, kw906, ⟨by decide, by decide⟩, by decide +kernel, rfl⟩, kw1291, kw1292⟩
theorem kw1293 : Cond.methodLink RX3 108 yJ6_bitCount_0f7a4 ∈ tbG := mG (tt4 (List.mem_of_getElem? (i := 24) rfl)) rfl
theorem cs_X3_108 : CS RX3 108 M_jd_bitCount 1 := ⟨⟨kw1293, kw800, kw801, ⟨by decide, by decide⟩, by decide +kernel, rfl⟩, kw802⟩
theorem kw1294 : Cond.methodLink RX3 113 yX3_walkMarking ∈ tbG := mG (tt4 (List.mem_of_getElem? (i := 46) rfl)) rfl
theorem kw1295 : mdCode M_ob_walkMarking ∈ tbG := mG (tt4 (List.mem_of_getElem? (i := 49) rfl)) rfl
theorem kw1296 : Cond.instanceMethod yX3_walkMarking ∈ tbG := mG (tt4 (List.mem_of_getElem? (i := 48) rfl)) rfl
theorem kw1297 : Cond.selects yX3_walkMarking.cls yX3_walkMarking yX3_walkMarking ∈ tbG := mG (tp2 (q := (yX3_walkMarking, _)) (List.mem_of_getElem? (i := 1) rfl)) rfl
theorem cv_X3_113 : CV RX3 113 M_ob_walkMarking 3 := ⟨⟨kw1294, kw1295, kw906, ⟨by decide, by decide⟩, by decide +kernel, rfl⟩, kw1296, kw1297⟩
theorem kw1298 : Cond.methodLink RX3 117 yX3_roundOf ∈ tbG := mG (tt4 (List.mem_of_getElem? (i := 50) rfl)) rfl
theorem kw1299 : mdCode M_ob_roundOf ∈ tbG := mG (tt4 (List.mem_of_getElem? (i := 53) rfl)) rfl
theorem kw1300 : Cond.instanceMethod yX3_roundOf ∈ tbG := mG (tt4 (List.mem_of_getElem? (i := 52) rfl)) rfl
theorem kw1301 : Cond.selects yX3_roundOf.cls yX3_roundOf yX3_roundOf ∈ tbG := mG (tp2 (q := (yX3_roundOf, _)) (List.mem_of_getElem? (i := 2) rfl)) rfl
theorem cv_X3_117 : CV RX3 117 M_ob_roundOf 1 := ⟨⟨kw1298, kw1299, kw906, ⟨by decide, by decide⟩, by decide +kernel, rfl⟩, kw1300, kw1301⟩
theorem kw1302 : Cond.methodLink RX3 120 yJ9_max_7cf53 ∈ tbG := mG (tt4 (List.mem_of_getElem? (i := 54) rfl)) rfl
theorem cs_X3_120 : CS RX3 120 M_jd_max 2 := ⟨⟨kw1302, kw279, kw273, ⟨by decide, by decide⟩, by decide +kernel, rfl⟩, kw280⟩
theorem kw1303 : Cond.methodLink RX3 123 yX4_only ∈ tbG := mG (tt4 (List.mem_of_getElem? (i := 55) rfl)) rfl
theorem cv_X3_123 : CV RX3 123 M_rw_only 1 := ⟨⟨kw1303, kw727, kw728, ⟨by decide, by decide⟩, by decide +kernel, rfl⟩, kw729, kw730⟩
theorem kw1304 : Cond.methodLink RX4 17 yX4_clear ∈ tbG := mG (tt3 (List.mem_of_getElem? (i := 124) rfl)) rfl
theorem cv_X4_17 : CV RX4 17 M_rw_clear 0 := ⟨⟨kw1304, kw732, kw728, ⟨by decide, by decide⟩, by decide +kernel, rfl⟩, kw733, kw734⟩
theorem kw1305 : Cond.methodLink RX4 20 yX4_add ∈ tbG := mG (tt3 (List.mem_of_getElem? (i := 128) rfl)) rfl
theorem cv_X4_20 : CV RX4 20 M_rw_add 1 := ⟨⟨kw1305, kw772, kw728, ⟨by decide, by decide⟩, by decide +kernel, rfl⟩, kw773, kw774⟩
theorem kw1306 : Cond.methodLink RX5 25 yX5_pop ∈ tbG := mG (tt5 (List.mem_of_getElem? (i := 105) rfl)) rfl
theorem kw1307 : mdCode M_ru_pop ∈ tbG := mG (tt5 (List.mem_of_getElem? (i := 108) rfl)) rfl
theorem kw1308 : Cond.instanceMethod yX5_pop ∈ tbG := mG (tt5 (List.mem_of_getElem? (i := 107) rfl)) rfl
theorem kw1309 : Cond.selects yX5_pop.cls yX5_pop yX5_pop ∈ tbG := mG (tp3 (q := (yX5_pop, _)) (List.mem_of_getElem? (i := 1) rfl)) rfl
theorem cv_X5_25 : CV RX5 25 M_ru_pop 0 := ⟨⟨kw1306, kw1307, kw1037, ⟨by decide, by decide⟩, by decide +kernel, rfl⟩, kw1308, kw1309⟩
theorem kw1310 : Cond.methodLink RX5 29 yX5_reckon ∈ tbG := mG (tt5 (List.mem_of_getElem? (i := 109) rfl)) rfl
theorem kw1311 : mdCode M_ru_reckon ∈ tbG := mG (tt5 (List.mem_of_getElem? (i := 111) rfl)) rfl
theorem kw1312 : Cond.static yX5_reckon ∈ tbG := mG (tt5 (List.mem_of_getElem? (i := 110) rfl)) rfl
theorem cs_X5_29 : CS RX5 29 M_ru_reckon 3 := ⟨⟨kw1310, kw1311, kw1037, ⟨by decide, by decide⟩, by decide +kernel, rfl⟩, kw1312⟩
theorem kw1313 : Cond.methodLink RX5 33 yX5_push ∈ tbG := mG (tt5 (List.mem_of_getElem? (i := 112) rfl)) rfl
theorem kw1314 : mdCode M_ru_push ∈ tbG := mG (tt5 (List.mem_of_getElem? (i := 115) rfl)) rfl
theorem kw1315 : Cond.instanceMethod yX5_push ∈ tbG := mG (tt5 (List.mem_of_getElem? (i := 114) rfl)) rfl
theorem kw1316 : Cond.selects yX5_push.cls yX5_push yX5_push ∈ tbG := mG (tp3 (q := (yX5_push, _)) (List.mem_of_getElem? (i := 2) rfl)) rfl
theorem cv_X5_33 : CV RX5 33 M_ru_push 1 := ⟨⟨kw1313, kw1314, kw1037, ⟨by decide, by decide⟩, by decide +kernel, rfl⟩, kw1315, kw1316⟩
theorem kw1317 : Cond.methodLink RX6 26 yJ9_min_7cf53 ∈ tbG := mG (tt4 (List.mem_of_getElem? (i := 184) rfl)) rfl
theorem cs_X6_26 : CS RX6 26 M_jd_min 2 := ⟨⟨kw1317, kw272, kw273, ⟨by decide, by decide⟩, by decide +kernel, rfl⟩, kw274⟩
theorem kw1318 : Cond.methodLink RX6 39 yX5_clear ∈ tbG := mG (tt4 (List.mem_of_getElem? (i := 185) rfl)) rfl
theorem kw1319 : mdCode M_ru_clear ∈ tbG := mG (tt4 (List.mem_of_getElem? (i := 188) rfl)) rfl
theorem kw1320 : Cond.instanceMethod yX5_clear ∈ tbG := mG (tt4 (List.mem_of_getElem? (i := 186) rfl)) rfl
theorem kw1321 : Cond.selects yX5_clear.cls yX5_clear yX5_clear ∈ tbG := mG (tt4 (List.mem_of_getElem? (i := 187) rfl)) rfl
theorem cv_X6_39 : CV RX6 39 M_ru_clear 0 := ⟨⟨kw1318, kw1319, kw1037, ⟨by decide, by decide⟩, by decide +kernel, rfl⟩, kw1320, kw1321⟩
theorem kw1322 : Cond.methodLink RX6 42 yX6_readExpression ∈ tbG := mG (tt4 (List.mem_of_getElem? (i := 189) rfl)) rfl
theorem kw1323 : mdCode M_rr_readExpression ∈ tbG := mG (tt4 (List.mem_of_getElem? (i := 192) rfl)) rfl
theorem kw1324 : Cond.instanceMethod yX6_readExpression ∈ tbG := mG (tt4 (List.mem_of_getElem? (i := 191) rfl)) rfl
theorem kw1325 : Cond.selects yX6_readExpression.cls yX6_readExpression yX6_readExpression ∈ tbG := mG (tp2 (q := (yX6_readExpression, _)) (List.mem_of_getElem? (i := 9) rfl)) rfl
theorem cv_X6_42 : CV RX6 42 M_rr_readExpression 1 := ⟨⟨kw1322, kw1323, kw991, ⟨by decide, by decide⟩, by decide +kernel, rfl⟩, kw1324, kw1325⟩
theorem kw1326 : Cond.methodLink RX6 46 yX6_readSum ∈ tbG := mG (tt4 (List.mem_of_getElem? (i := 193) rfl)) rfl
theorem kw1327 : mdCode M_rr_readSum ∈ tbG := mG (tt4 (List.mem_of_getElem? (i := 196) rfl)) rfl
theorem kw1328 : Cond.instanceMethod yX6_readSum ∈ tbG := mG (tt4 (List.mem_of_getElem? (i := 195) rfl)) rfl
theorem kw1329 : Cond.selects yX6_readSum.cls yX6_readSum yX6_readSum ∈ tbG := mG (tp2 (q := (yX6_readSum, _)) (List.mem_of_getElem? (i := 10) rfl)) rfl
theorem cv_X6_46 : CV RX6 46 M_rr_readSum 1 := ⟨⟨kw1326, kw1327, kw991, ⟨by decide, by decide⟩, by decide +kernel, rfl⟩, kw1328, kw1329⟩
theorem kw1330 : Cond.methodLink RX6 51 yX6_isOneOf ∈ tbG := mG (tt4 (List.mem_of_getElem? (i := 206) rfl)) rfl
theorem kw1331 : mdCode M_rr_isOneOf ∈ tbG := mG (tt4 (List.mem_of_getElem? (i := 209) rfl)) rfl
theorem kw1332 : Cond.instanceMethod yX6_isOneOf ∈ tbG := mG (tt4 (List.mem_of_getElem? (i := 208) rfl)) rfl
theorem kw1333 : Cond.selects yX6_isOneOf.cls yX6_isOneOf yX6_isOneOf ∈ tbG := mG (tp2 (q := (yX6_isOneOf, _)) (List.mem_of_getElem? (i := 13) rfl)) rfl
theorem cv_X6_51 : CV RX6 51 M_rr_isOneOf 1 := ⟨⟨kw1330, kw1331, kw991, ⟨by decide, by decide⟩, by decide +kernel, rfl⟩, kw1332, kw1333⟩
theorem kw1334 : Cond.methodLink RX6 55 yX5_add ∈ tbG := mG (tt5 (List.mem_of_getElem? (i := 57) rfl)) rfl
theorem kw1335 : mdCode M_ru_add ∈ tbG := mG (tt5 (List.mem_of_getElem? (i := 60) rfl)) rfl
theorem kw1336 : Cond.instanceMethod yX5_add ∈ tbG := mG (tt5 (List.mem_of_getElem? (i := 58) rfl)) rfl
theorem kw1337 : Cond.selects yX5_add.cls yX5_add yX5_add ∈ tbG := mG (tt5 (List.mem_of_getElem? (i := 59) rfl)) rfl
theorem cv_X6_55 : CV RX6 55 M_ru_add 1 := ⟨⟨kw1334, kw1335, kw1037, ⟨by decide, by decide⟩, by decide +kernel, rfl⟩, kw1336, kw1337⟩
theorem kw1338 : Cond.methodLink RX6 59 yX6_readProduct ∈ tbG := mG (tt4 (List.mem_of_getElem? (i := 197) rfl)) rfl
theorem kw1339 : mdCode M_rr_readProduct ∈ tbG := mG (tt4 (List.mem_of_getElem? (i := 200) rfl)) rfl
theorem kw1340 : Cond.instanceMethod yX6_readProduct ∈ tbG := mG (tt4 (List.mem_of_getElem? (i := 199) rfl)) rfl
theorem kw1341 : Cond.selects yX6_readProduct.cls yX6_readProduct yX6_readProduct ∈ tbG := mG (tp2 (q := (yX6_readProduct, _)) (List.mem_of_getElem? (i := 11) rfl)) rfl
theorem cv_X6_59 : CV RX6 59 M_rr_readProduct 1 := ⟨⟨kw1338, kw1339, kw991, ⟨by decide, by decide⟩, by decide +kernel, rfl⟩, kw1340, kw1341⟩
theorem kw1342 : Cond.methodLink RX6 64 yX6_readSigned ∈ tbG := mG (tt4 (List.mem_of_getElem? (i := 201) rfl)) rfl
theorem kw1343 : mdCode M_rr_readSigned ∈ tbG := mG (tt4 (List.mem_of_getElem? (i := 204) rfl)) rfl
theorem kw1344 : Cond.instanceMethod yX6_readSigned ∈ tbG := mG (tt4 (List.mem_of_getElem? (i := 203) rfl)) rfl
theorem kw1345 : Cond.selects yX6_readSigned.cls yX6_readSigned yX6_readSigned ∈ tbG := mG (tp2 (q := (yX6_readSigned, _)) (List.mem_of_getElem? (i := 12) rfl)) rfl
theorem cv_X6_64 : CV RX6 64 M_rr_readSigned 1 := ⟨⟨kw1342, kw1343, kw991, ⟨by decide, by decide⟩, by decide +kernel, rfl⟩, kw1344, kw1345⟩
theorem kw1346 : Cond.methodLink RX6 71 yX6_readThing ∈ tbG := mG (tt5 (List.mem_of_getElem? (i := 52) rfl)) rfl
theorem kw1347 : mdCode M_rr_readThing ∈ tbG := mG (tt5 (List.mem_of_getElem? (i := 55) rfl)) rfl
theorem kw1348 : Cond.instanceMethod yX6_readThing ∈ tbG := mG (tt5 (List.mem_of_getElem? (i := 54) rfl)) rfl
theorem kw1349 : Cond.selects yX6_readThing.cls yX6_readThing yX6_readThing ∈ tbG := mG (tp2 (q := (yX6_readThing, _)) (List.mem_of_getElem? (i := 14) rfl)) rfl
theorem cv_X6_71 : CV RX6 71 M_rr_readThing 1 := ⟨⟨kw1346, kw1347, kw991, ⟨by decide, by decide⟩, by decide +kernel, rfl⟩, kw1348, kw1349⟩
theorem kw1350 : Cond.methodLink RX6 76 yJ0_indexOf_0f7a4 ∈ tbG := mG (tt4 (List.mem_of_getElem? (i := 210) rfl)) rfl
theorem kw1351 : mdCode M_jd_indexOf_J0_0f7a4 ∈ tbG := mG (tt4 (List.mem_of_getElem? (i := 213) rfl)) rfl
theorem kw1352 : Cond.instanceMethod yJ0_indexOf_0f7a4 ∈ tbG := mG (tt4 (List.mem_of_getElem? (i := 211) rfl)) rfl
theorem kw1353 : Cond.selects yJ0_indexOf_0f7a4.cls yJ0_indexOf_0f7a4 yJ0_indexOf_0f7a4 ∈ tbG := mG (tt4 (List.mem_of_getElem? (i := 212) rfl)) rfl
theorem cv_X6_76 : CV RX6 76 M_jd_indexOf_J0_0f7a4 1 := ⟨⟨kw1350, kw1351, kw244, ⟨by decide, by decide⟩, by decide +kernel, rfl⟩, kw1352, kw1353⟩
theorem kw1354 : Cond.methodLink RX6 84 yX6_number ∈ tbG := mG (tt5 (List.mem_of_getElem? (i := 62) rfl)) rfl
theorem kw1355 : mdCode M_rr_number ∈ tbG := mG (tt5 (List.mem_of_getElem? (i := 65) rfl)) rfl
theorem kw1356 : Cond.instanceMethod yX6_number ∈ tbG := mG (tt5 (List.mem_of_getElem? (i := 64) rfl)) rfl
theorem kw1357 : Cond.selects yX6_number.cls yX6_number yX6_number ∈ tbG := mG (tp2 (q := (yX6_number, _)) (List.mem_of_getElem? (i := 15) rfl)) rfl
theorem cv_X6_84 : CV RX6 84 M_rr_number 0 := ⟨⟨kw1354, kw1355, kw991, ⟨by decide, by decide⟩, by decide +kernel, rfl⟩, kw1356, kw1357⟩
theorem kw1358 : Cond.methodLink RX7 52 yX8_allOf ∈ tbG := mG (tt5 (List.mem_of_getElem? (i := 80) rfl)) rfl
theorem cv_X7_52 : CV RX7 52 M_st_allOf 1 := ⟨⟨kw1358, kw873, kw701, ⟨by decide, by decide⟩, by decide +kernel, rfl⟩, kw874, kw875⟩
theorem kw1359 : Cond.methodLink RX7 56 yX8_loudnessOf ∈ tbG := mG (tt5 (List.mem_of_getElem? (i := 81) rfl)) rfl
theorem cv_X7_56 : CV RX7 56 M_st_loudnessOf 1 := ⟨⟨kw1359, kw877, kw701, ⟨by decide, by decide⟩, by decide +kernel, rfl⟩, kw878, kw879⟩
theorem kw1360 : Cond.methodLink RX7 59 yX8_hearersOfAny ∈ tbG := mG (tt5 (List.mem_of_getElem? (i := 85) rfl)) rfl
theorem kw1361 : mdCode M_st_hearersOfAny ∈ tbG := mG (tt3 (List.mem_of_getElem? (i := 222) rfl)) rfl
theorem kw1362 : Cond.instanceMethod yX8_hearersOfAny ∈ tbG := mG (tt3 (List.mem_of_getElem? (i := 220) rfl)) rfl
theorem kw1363 : Cond.selects yX8_hearersOfAny.cls yX8_hearersOfAny yX8_hearersOfAny ∈ tbG := mG (tt3 (List.mem_of_getElem? (i := 221) rfl)) rfl
theorem cv_X7_59 : CV RX7 59 M_st_hearersOfAny 1 := ⟨⟨kw1360, kw1361, kw701, ⟨by decide, by decide⟩, by decide +kernel, rfl⟩, kw1362, kw1363⟩
theorem kw1364 : Cond.methodLink RX7 62 yJ6_bitCount_0f7a4 ∈ tbG := mG (tt5 (List.mem_of_getElem? (i := 86) rfl)) rfl
theorem cs_X7_62 : CS RX7 62 M_jd_bitCount 1 := ⟨⟨kw1364, kw800, kw801, ⟨by decide, by decide⟩, by decide +kernel, rfl⟩, kw802⟩
theorem kw1365 : Cond.methodLink RX7 69 yX8_sumHeard ∈ tbG := mG (tt5 (List.mem_of_getElem? (i := 100) rfl)) rfl
theorem kw1366 : mdCode M_st_sumHeard ∈ tbG := mG (tt3 (List.mem_of_getElem? (i := 149) rfl)) rfl
theorem kw1367 : Cond.instanceMethod yX8_sumHeard ∈ tbG := mG (tt3 (List.mem_of_getElem? (i := 147) rfl)) rfl
theorem kw1368 : Cond.selects yX8_sumHeard.cls yX8_sumHeard yX8_sumHeard ∈ tbG := mG (tt3 (List.mem_of_getElem? (i := 148) rfl)) rfl
theorem cv_X7_69 : CV RX7 69 M_st_sumHeard 2 := ⟨⟨kw1365, kw1366, kw701, ⟨by decide, by decide⟩, by decide +kernel, rfl⟩, kw1367, kw1368⟩
theorem kw1369 : Cond.methodLink RX7 73 yX5_value ∈ tbG := mG (tt5 (List.mem_of_getElem? (i := 101) rfl)) rfl
theorem kw1370 : mdCode M_ru_value ∈ tbG := mG (tt5 (List.mem_of_getElem? (i := 104) rfl)) rfl
theorem kw1371 : Cond.instanceMethod yX5_value ∈ tbG := mG (tt5 (List.mem_of_getElem? (i := 102) rfl)) rfl
theorem kw1372 : Cond.selects yX5_value.cls yX5_value yX5_value ∈ tbG := mG (tt5 (List.mem_of_getElem? (i := 103) rfl)) rfl
theorem cv_X7_73 : CV RX7 73 M_ru_value 1 := ⟨⟨kw1369, kw1370, kw1037, ⟨by decide, by decide⟩, by decide +kernel, rfl⟩, kw1371, kw1372⟩
theorem kw1373 : Cond.methodLink RX7 77 yX8_everybody ∈ tbG := mG (tt5 (List.mem_of_getElem? (i := 95) rfl)) rfl
theorem cv_X7_77 : CV RX7 77 M_st_everybody 0 := ⟨⟨kw1373, kw705, kw701, ⟨by decide, by decide⟩, by decide +kernel, rfl⟩, kw706, kw707⟩
theorem kw1374 : Cond.methodLink RX7 84 yX7_open ∈ tbG := mG (tt5 (List.mem_of_getElem? (i := 91) rfl)) rfl
theorem kw1375 : mdCode M_sh_open ∈ tbG := mG (tt5 (List.mem_of_getElem? (i := 94) rfl)) rfl
theorem kw1376 : Cond.instanceMethod yX7_open ∈ tbG := mG (tt5 (List.mem_of_getElem? (i := 93) rfl)) rfl
theorem kw1377 : Cond.selects yX7_open.cls yX7_open yX7_open ∈ tbG := mG (tp3 (q := (yX7_open, _)) (List.mem_of_getElem? (i := 0) rfl)) rfl
theorem cv_X7_84 : CV RX7 84 M_sh_open 2 := ⟨⟨kw1374, kw1375, kw996, ⟨by decide, by decide⟩, by decide +kernel, rfl⟩, kw1376, kw1377⟩
theorem kw1378 : Cond.methodLink RX7 87 yX7_rate ∈ tbG := mG (tt5 (List.mem_of_getElem? (i := 96) rfl)) rfl
theorem cv_X7_87 : CV RX7 87 M_sh_rate 3 := ⟨⟨kw1378, kw1000, kw996, ⟨by decide, by decide⟩, by decide +kernel, rfl⟩, kw1001, kw1002⟩
theorem kw1379 : Cond.methodLink RX7 91 yX7_learn ∈ tbG := mG (tt5 (List.mem_of_getElem? (i := 124) rfl)) rfl
theorem cv_X7_91 : CV RX7 91 M_sh_learn 0 := ⟨⟨kw1379, kw995, kw996, ⟨by decide, by decide⟩, by decide +kernel, rfl⟩, kw997, kw998⟩
theorem kw1380 : Cond.methodLink RX7 94 yJ7_fill_53178 ∈ tbG := mG (tt5 (List.mem_of_getElem? (i := 125) rfl)) rfl
theorem cs_X7_94 : CS RX7 94 M_jd_fill 2 := ⟨⟨kw1380, kw1268, kw1269, ⟨by decide, by decide⟩, by decide +kernel, rfl⟩, kw1270⟩
theorem kw1381 : Cond.methodLink RX7 100 yX8_now ∈ tbG := mG (tt5 (List.mem_of_getElem? (i := 126) rfl)) rfl
theorem cv_X7_100 : CV RX7 100 M_st_now 0 := ⟨⟨kw1381, kw700, kw701, ⟨by decide, by decide⟩, by decide +kernel, rfl⟩, kw702, kw703⟩
theorem kw1382 : Cond.methodLink RX7 103 yX7_serve ∈ tbG := mG (tt5 (List.mem_of_getElem? (i := 127) rfl)) rfl
theorem kw1383 : mdCode M_sh_serve ∈ tbG := mG (tt5 (List.mem_of_getElem? (i := 130) rfl)) rfl
theorem kw1384 : Cond.instanceMethod yX7_serve ∈ tbG := mG (tt5 (List.mem_of_getElem? (i := 129) rfl)) rfl
theorem kw1385 : Cond.selects yX7_serve.cls yX7_serve yX7_serve ∈ tbG := mG (tp3 (q := (yX7_serve, _)) (List.mem_of_getElem? (i := 3) rfl)) rfl
theorem cv_X7_103 : CV RX7 103 M_sh_serve 2 := ⟨⟨kw1382, kw1383, kw996, ⟨by decide, by decide⟩, by decide +kernel, rfl⟩, kw1384, kw1385⟩
theorem kw1386 : Cond.methodLink RX7 106 yX1_after ∈ tbG := mG (tt5 (List.mem_of_getElem? (i := 132) rfl)) rfl
theorem cv_X7_106 : CV RX7 106 M_he_after 1 := ⟨⟨kw1386, kw791, kw710, ⟨by decide, by decide⟩, by decide +kernel, rfl⟩, kw792, kw793⟩
theorem kw1387 : Cond.methodLink RX7 111 yX4_only ∈ tbG := mG (tt5 (List.mem_of_getElem? (i := 133) rfl)) rfl
theorem cv_X7_111 : CV RX7 111 M_rw_only 1 := ⟨⟨kw1387, kw727, kw728, ⟨by decide, by decide⟩, by decide +kernel, rfl⟩, kw729, kw730⟩
theorem kw1388 : Cond.methodLink RX7 117 yX4_add ∈ tbG := mG (tt5 (List.mem_of_getElem? (i := 134) rfl)) rfl
theorem cv_X7_117 : CV RX7 117 M_rw_add 1 := ⟨⟨kw1388, kw772, kw728, ⟨by decide, by decide⟩, by decide +kernel, rfl⟩, kw773, kw774⟩
theorem kw1389 : Cond.methodLink RX7 120 yX7_pick ∈ tbG := mG (tt5 (List.mem_of_getElem? (i := 131) rfl)) rfl
theorem cv_X7_120 : CV RX7 120 M_sh_pick 2 := ⟨⟨kw1389, kw1004, kw996, ⟨by decide, by decide⟩, by decide +kernel, rfl⟩, kw1005, kw1006⟩
theorem kw1390 : Cond.methodLink RX7 123 yX2_begin ∈ tbG := mG (tt5 (List.mem_of_getElem? (i := 143) rfl)) rfl
theorem cv_X7_123 : CV RX7 123 M_me_begin 1 := ⟨⟨kw1390, kw826, kw827, ⟨by decide, by decide⟩, by decide +kernel, rfl⟩, kw828, kw829⟩
theorem kw1391 : Cond.methodLink RX7 129 yX7_bestForOne ∈ tbG := mG (tt5 (List.mem_of_getElem? (i := 144) rfl)) rfl
theorem kw1392 : mdCode M_sh_bestForOne ∈ tbG := mG (tt5 (List.mem_of_getElem? (i := 147) rfl)) rfl
theorem kw1393 : Cond.instanceMethod yX7_bestForOne ∈ tbG := mG (tt5 (List.mem_of_getElem? (i := 146) rfl)) rfl
theorem kw1394 : Cond.selects yX7_bestForOne.cls yX7_bestForOne yX7_bestForOne ∈ tbG := mG (tp3 (q := (yX7_bestForOne, _)) (List.mem_of_getElem? (i := 4) rfl)) rfl
theorem cv_X7_129 : CV RX7 129 M_sh_bestForOne 2 := ⟨⟨kw1391, kw1392, kw996, ⟨by decide, by decide⟩, by decide +kernel, rfl⟩, kw1393, kw1394⟩
theorem kw1395 : Cond.methodLink RX7 132 yX7_bestForZero ∈ tbG := mG (tt5 (List.mem_of_getElem? (i := 149) rfl)) rfl
theorem kw1396 : mdCode M_sh_bestForZero ∈ tbG := mG (tt5 (List.mem_of_getElem? (i := 152) rfl)) rfl
theorem kw1397 : Cond.instanceMethod yX7_bestForZero ∈ tbG := mG (tt5 (List.mem_of_getElem? (i := 151) rfl)) rfl
theorem kw1398 : Cond.selects yX7_bestForZero.cls yX7_bestForZero yX7_bestForZero ∈ tbG := mG (tp3 (q := (yX7_bestForZero, _)) (List.mem_of_getElem? (i := 5) rfl)) rfl
theorem cv_X7_132 : CV RX7 132 M_sh_bestForZero 2 := ⟨⟨kw1395, kw1396, kw996, ⟨by decide, by decide⟩, by decide +kernel, rfl⟩, kw1397, kw1398⟩
theorem kw1399 : Cond.methodLink RX7 135 yX2_recall ∈ tbG := mG (tt5 (List.mem_of_getElem? (i := 148) rfl)) rfl
theorem cv_X7_135 : CV RX7 135 M_me_recall 2 := ⟨⟨kw1399, kw835, kw827, ⟨by decide, by decide⟩, by decide +kernel, rfl⟩, kw836, kw837⟩
theorem kw1400 : Cond.methodLink RX7 138 yJ9_max_7cf53 ∈ tbG := mG (tt5 (List.mem_of_getElem? (i := 155) rfl)) rfl
theorem cs_X7_138 : CS RX7 138 M_jd_max 2 := ⟨⟨kw1400, kw279, kw273, ⟨by decide, by decide⟩, by decide +kernel, rfl⟩, kw280⟩
theorem kw1401 : Cond.methodLink RX7 143 yX2_note ∈ tbG := mG (tt5 (List.mem_of_getElem? (i := 154) rfl)) rfl
theorem cv_X7_143 : CV RX7 143 M_me_note 3 := ⟨⟨kw1401, kw844, kw827, ⟨by decide, by decide⟩, by decide +kernel, rfl⟩, kw845, kw846⟩
theorem kw1402 : Cond.methodLink RX7 147 yJ9_min_7cf53 ∈ tbG := mG (tt5 (List.mem_of_getElem? (i := 153) rfl)) rfl
theorem cs_X7_147 : CS RX7 147 M_jd_min 2 := ⟨⟨kw1402, kw272, kw273, ⟨by decide, by decide⟩, by decide +kernel, rfl⟩, kw274⟩
theorem kw1403 : Cond.methodLink RX7 150 yX7_bestAgainstRule ∈ tbG := mG (tt5 (List.mem_of_getElem? (i := 164) rfl)) rfl
theorem kw1404 : mdCode M_sh_bestAgainstRule ∈ tbG := mG (tt5 (List.mem_of_getElem? (i := 167) rfl)) rfl
theorem kw1405 : Cond.instanceMethod yX7_bestAgainstRule ∈ tbG := mG (tt5 (List.mem_of_getElem? (i := 166) rfl)) rfl
theorem kw1406 : Cond.selects yX7_bestAgainstRule.cls yX7_bestAgainstRule yX7_bestAgainstRule ∈ tbG := mG (tp3 (q := (yX7_bestAgainstRule, _)) (List.mem_of_getElem? (i := 6) rfl)) rfl
theorem cv_X7_150 : CV RX7 150 M_sh_bestAgainstRule 2 := ⟨⟨kw1403, kw1404, kw996, ⟨by decide, by decide⟩, by decide +kernel, rfl⟩, kw1405, kw1406⟩
theorem kw1407 : Cond.methodLink RX7 153 yX7_behindReply ∈ tbG := mG (tt5 (List.mem_of_getElem? (i := 168) rfl)) rfl
theorem kw1408 : mdCode M_sh_behindReply ∈ tbG := mG (tt5 (List.mem_of_getElem? (i := 171) rfl)) rfl
theorem kw1409 : Cond.instanceMethod yX7_behindReply ∈ tbG := mG (tt5 (List.mem_of_getElem? (i := 170) rfl)) rfl
theorem kw1410 : Cond.selects yX7_behindReply.cls yX7_behindReply yX7_behindReply ∈ tbG := mG (tp3 (q := (yX7_behindReply, _)) (List.mem_of_getElem? (i := 7) rfl)) rfl
theorem cv_X7_153 : CV RX7 153 M_sh_behindReply 1 := ⟨⟨kw1407, kw1408, kw996, ⟨by decide, by decide⟩, by decide +kernel, rfl⟩, kw1409, kw1410⟩
theorem kw1411 : Cond.methodLink RX8 39 yX8_everybody ∈ tbG := mG (tt3 (List.mem_of_getElem? (i := 76) rfl)) rfl
theorem cv_X8_39 : CV RX8 39 M_st_everybody 0 := ⟨⟨kw1411, kw705, kw701, ⟨by decide, by decide⟩, by decide +kernel, rfl⟩, kw706, kw707⟩
theorem kw1412 : Cond.methodLink RX8 46 yX8_now ∈ tbG := mG (tt2 (List.mem_of_getElem? (i := 213) rfl)) rfl
theorem cv_X8_46 : CV RX8 46 M_st_now 0 := ⟨⟨kw1412, kw700, kw701, ⟨by decide, by decide⟩, by decide +kernel, rfl⟩, kw702, kw703⟩
theorem kw1413 : Cond.methodLink RX8 49 yX8_sumHeard ∈ tbG := mG (tt3 (List.mem_of_getElem? (i := 146) rfl)) rfl
theorem cv_X8_49 : CV RX8 49 M_st_sumHeard 2 := ⟨⟨kw1413, kw1366, kw701, ⟨by decide, by decide⟩, by decide +kernel, rfl⟩, kw1367, kw1368⟩
theorem kw1414 : Cond.methodLink RX8 53 yX8_heardByOne ∈ tbG := mG (tt3 (List.mem_of_getElem? (i := 214) rfl)) rfl
theorem kw1415 : mdCode M_st_heardByOne ∈ tbG := mG (tt3 (List.mem_of_getElem? (i := 217) rfl)) rfl
theorem kw1416 : Cond.instanceMethod yX8_heardByOne ∈ tbG := mG (tt3 (List.mem_of_getElem? (i := 216) rfl)) rfl
theorem kw1417 : Cond.selects yX8_heardByOne.cls yX8_heardByOne yX8_heardByOne ∈ tbG := mG (tp1 (q := (yX8_heardByOne, _)) (List.mem_of_getElem? (i := 14) rfl)) rfl
theorem cv_X8_53 : CV RX8 53 M_st_heardByOne 1 := ⟨⟨kw1414, kw1415, kw701, ⟨by decide, by decide⟩, by decide +kernel, rfl⟩, kw1416, kw1417⟩
theorem kw1418 : Cond.methodLink RX8 57 yX8_isPair ∈ tbG := mG (tt6 (List.mem_of_getElem? (i := 19) rfl)) rfl
theorem cv_X8_57 : CV RX8 57 M_st_isPair 2 := ⟨⟨kw1418, kw756, kw701, ⟨by decide, by decide⟩, by decide +kernel, rfl⟩, kw757, kw758⟩
theorem kw1419 : Cond.methodLink RX8 61 yX8_hearersOfAny ∈ tbG := mG (tt3 (List.mem_of_getElem? (i := 219) rfl)) rfl
theorem cv_X8_61 : CV RX8 61 M_st_hearersOfAny 1 := ⟨⟨kw1419, kw1361, kw701, ⟨by decide, by decide⟩, by decide +kernel, rfl⟩, kw1362, kw1363⟩
theorem kw1420 : Cond.methodLink RX8 64 yX8_heardByAny ∈ tbG := mG (tt3 (List.mem_of_getElem? (i := 210) rfl)) rfl
theorem kw1421 : mdCode M_st_heardByAny ∈ tbG := mG (tt3 (List.mem_of_getElem? (i := 213) rfl)) rfl
theorem kw1422 : Cond.instanceMethod yX8_heardByAny ∈ tbG := mG (tt3 (List.mem_of_getElem? (i := 211) rfl)) rfl
theorem kw1423 : Cond.selects yX8_heardByAny.cls yX8_heardByAny yX8_heardByAny ∈ tbG := mG (tt3 (List.mem_of_getElem? (i := 212) rfl)) rfl
theorem cv_X8_64 : CV RX8 64 M_st_heardByAny 1 := ⟨⟨kw1420, kw1421, kw701, ⟨by decide, by decide⟩, by decide +kernel, rfl⟩, kw1422, kw1423⟩
theorem kw1424 : Cond.methodLink RX8 67 yX4_clear ∈ tbG := mG (tt3 (List.mem_of_getElem? (i := 218) rfl)) rfl
theorem cv_X8_67 : CV RX8 67 M_rw_clear 0 := ⟨⟨kw1424, kw732, kw728, ⟨by decide, by decide⟩, by decide +kernel, rfl⟩, kw733, kw734⟩
theorem kw1425 : Cond.methodLink RX8 72 yJ6_numberOfTrailingZeros_0f7a4 ∈ tbG := mG (tt3 (List.mem_of_getElem? (i := 223) rfl)) rfl
theorem kw1426 : mdCode M_jd_numberOfTrailingZeros ∈ tbG := mG (tt3 (List.mem_of_getElem? (i := 225) rfl)) rfl
theorem kw1427 : Cond.static yJ6_numberOfTrailingZeros_0f7a4 ∈ tbG := mG (tt3 (List.mem_of_getElem? (i := 224) rfl)) rfl
theorem cs_X8_72 : CS RX8 72 M_jd_numberOfTrailingZeros 1 := ⟨⟨kw1425, kw1426, kw801, ⟨by decide, by decide⟩, by decide +kernel, rfl⟩, kw1427⟩
theorem kw1428 : Cond.methodLink RX8 77 yX4_add ∈ tbG := mG (tt3 (List.mem_of_getElem? (i := 227) rfl)) rfl
theorem cv_X8_77 : CV RX8 77 M_rw_add 1 := ⟨⟨kw1428, kw772, kw728, ⟨by decide, by decide⟩, by decide +kernel, rfl⟩, kw773, kw774⟩
theorem kw1429 : Cond.methodLink RX8 81 yX8_allOf ∈ tbG := mG (tt3 (List.mem_of_getElem? (i := 142) rfl)) rfl
theorem cv_X8_81 : CV RX8 81 M_st_allOf 1 := ⟨⟨kw1429, kw873, kw701, ⟨by decide, by decide⟩, by decide +kernel, rfl⟩, kw874, kw875⟩
theorem kw1430 : Cond.methodLink RX8 84 yX8_isFirm ∈ tbG := mG (tt3 (List.mem_of_getElem? (i := 150) rfl)) rfl
theorem cv_X8_84 : CV RX8 84 M_st_isFirm 1 := ⟨⟨kw1430, kw916, kw701, ⟨by decide, by decide⟩, by decide +kernel, rfl⟩, kw917, kw918⟩
theorem kw1431 : Cond.methodLink RX9 23 yJ9_min_7cf53 ∈ tbG := mG (tt2 (List.mem_of_getElem? (i := 178) rfl)) rfl
theorem cs_X9_23 : CS RX9 23 M_jd_min 2 := ⟨⟨kw1431, kw272, kw273, ⟨by decide, by decide⟩, by decide +kernel, rfl⟩, kw274⟩
theorem kw1432 : Cond.methodLink RX9 32 yX9_readLines ∈ tbG := mG (tt2 (List.mem_of_getElem? (i := 181) rfl)) rfl
theorem kw1433 : mdCode M_sr_readLines ∈ tbG := mG (tt2 (List.mem_of_getElem? (i := 184) rfl)) rfl
theorem kw1434 : Cond.instanceMethod yX9_readLines ∈ tbG := mG (tt2 (List.mem_of_getElem? (i := 183) rfl)) rfl
theorem kw1435 : Cond.selects yX9_readLines.cls yX9_readLines yX9_readLines ∈ tbG := mG (tp1 (q := (yX9_readLines, _)) (List.mem_of_getElem? (i := 0) rfl)) rfl
theorem cv_X9_32 : CV RX9 32 M_sr_readLines 1 := ⟨⟨kw1432, kw1433, kw864, ⟨by decide, by decide⟩, by decide +kernel, rfl⟩, kw1434, kw1435⟩
theorem kw1436 : Cond.methodLink RX9 51 yX9_readLine ∈ tbG := mG (tt2 (List.mem_of_getElem? (i := 185) rfl)) rfl
theorem kw1437 : mdCode M_sr_readLine ∈ tbG := mG (tt2 (List.mem_of_getElem? (i := 188) rfl)) rfl
theorem kw1438 : Cond.instanceMethod yX9_readLine ∈ tbG := mG (tt2 (List.mem_of_getElem? (i := 187) rfl)) rfl
theorem kw1439 : Cond.selects yX9_readLine.cls yX9_readLine yX9_readLine ∈ tbG := mG (tp1 (q := (yX9_readLine, _)) (List.mem_of_getElem? (i := 1) rfl)) rfl
theorem cv_X9_51 : CV RX9 51 M_sr_readLine 0 := ⟨⟨kw1436, kw1437, kw864, ⟨by decide, by decide⟩, by decide +kernel, rfl⟩, kw1438, kw1439⟩
theorem kw1440 : Cond.methodLink RX9 55 yX9_take ∈ tbG := mG (tt2 (List.mem_of_getElem? (i := 205) rfl)) rfl
theorem kw1441 : mdCode M_sr_take ∈ tbG := mG (tt2 (List.mem_of_getElem? (i := 208) rfl)) rfl
theorem kw1442 : Cond.instanceMethod yX9_take ∈ tbG := mG (tt2 (List.mem_of_getElem? (i := 207) rfl)) rfl
theorem kw1443 : Cond.selects yX9_take.cls yX9_take yX9_take ∈ tbG := mG (tp1 (q := (yX9_take, _)) (List.mem_of_getElem? (i := 6) rfl)) rfl
theorem cv_X9_55 : CV RX9 55 M_sr_take 1 := ⟨⟨kw1440, kw1441, kw864, ⟨by decide, by decide⟩, by decide +kernel, rfl⟩, kw1442, kw1443⟩
theorem kw1444 : Cond.methodLink RX9 59 yX9_isNext ∈ tbG := mG (tt2 (List.mem_of_getElem? (i := 189) rfl)) rfl
theorem kw1445 : mdCode M_sr_isNext ∈ tbG := mG (tt2 (List.mem_of_getElem? (i := 192) rfl)) rfl
theorem kw1446 : Cond.instanceMethod yX9_isNext ∈ tbG := mG (tt2 (List.mem_of_getElem? (i := 191) rfl)) rfl
theorem kw1447 : Cond.selects yX9_isNext.cls yX9_isNext yX9_isNext ∈ tbG := mG (tp1 (q := (yX9_isNext, _)) (List.mem_of_getElem? (i := 2) rfl)) rfl
theorem cv_X9_59 : CV RX9 59 M_sr_isNext 1 := ⟨⟨kw1444, kw1445, kw864, ⟨by decide, by decide⟩, by decide +kernel, rfl⟩, kw1446, kw1447⟩
theorem kw1448 : Cond.methodLink RX9 62 yX9_readPerson ∈ tbG := mG (tt2 (List.mem_of_getElem? (i := 193) rfl)) rfl
theorem kw1449 : mdCode M_sr_readPerson ∈ tbG := mG (tt2 (List.mem_of_getElem? (i := 196) rfl)) rfl
theorem kw1450 : Cond.instanceMethod yX9_readPerson ∈ tbG := mG (tt2 (List.mem_of_getElem? (i := 195) rfl)) rfl
theorem kw1451 : Cond.selects yX9_readPerson.cls yX9_readPerson yX9_readPerson ∈ tbG := mG (tp1 (q := (yX9_readPerson, _)) (List.mem_of_getElem? (i := 3) rfl)) rfl
theorem cv_X9_62 : CV RX9 62 M_sr_readPerson 0 := ⟨⟨kw1448, kw1449, kw864, ⟨by decide, by decide⟩, by decide +kernel, rfl⟩, kw1450, kw1451⟩
theorem kw1452 : Cond.methodLink RX9 65 yX9_readAcquaintance ∈ tbG := mG (tt2 (List.mem_of_getElem? (i := 217) rfl)) rfl
theorem kw1453 : mdCode M_sr_readAcquaintance ∈ tbG := mG (tt2 (List.mem_of_getElem? (i := 220) rfl)) rfl
theorem kw1454 : Cond.instanceMethod yX9_readAcquaintance ∈ tbG := mG (tt2 (List.mem_of_getElem? (i := 219) rfl)) rfl
theorem kw1455 : Cond.selects yX9_readAcquaintance.cls yX9_readAcquaintance yX9_readAcquaintance ∈ tbG := mG (tp1 (q := (yX9_readAcquaintance, _)) (List.mem_of_getElem? (i := 7) rfl)) rfl
theorem cv_X9_65 : CV RX9 65 M_sr_readAcquaintance 0 := ⟨⟨kw1452, kw1453, kw864, ⟨by decide, by decide⟩, by decide +kernel, rfl⟩, kw1454, kw1455⟩
theorem kw1456 : Cond.methodLink RX9 68 yX9_number ∈ tbG := mG (tt2 (List.mem_of_getElem? (i := 197) rfl)) rfl
theorem kw1457 : mdCode M_sr_number ∈ tbG := mG (tt2 (List.mem_of_getElem? (i := 200) rfl)) rfl
theorem kw1458 : Cond.instanceMethod yX9_number ∈ tbG := mG (tt2 (List.mem_of_getElem? (i := 199) rfl)) rfl
theorem kw1459 : Cond.selects yX9_number.cls yX9_number yX9_number ∈ tbG := mG (tp1 (q := (yX9_number, _)) (List.mem_of_getElem? (i := 4) rfl)) rfl
theorem cv_X9_68 : CV RX9 68 M_sr_number 0 := ⟨⟨kw1456, kw1457, kw864, ⟨by decide, by decide⟩, by decide +kernel, rfl⟩, kw1458, kw1459⟩
theorem kw1460 : Cond.methodLink RX9 72 yX9_digit ∈ tbG := mG (tt2 (List.mem_of_getElem? (i := 201) rfl)) rfl
theorem kw1461 : mdCode M_sr_digit ∈ tbG := mG (tt2 (List.mem_of_getElem? (i := 204) rfl)) rfl
theorem kw1462 : Cond.instanceMethod yX9_digit ∈ tbG := mG (tt2 (List.mem_of_getElem? (i := 203) rfl)) rfl
theorem kw1463 : Cond.selects yX9_digit.cls yX9_digit yX9_digit ∈ tbG := mG (tp1 (q := (yX9_digit, _)) (List.mem_of_getElem? (i := 5) rfl)) rfl
theorem cv_X9_72 : CV RX9 72 M_sr_digit 0 := ⟨⟨kw1460, kw1461, kw864, ⟨by decide, by decide⟩, by decide +kernel, rfl⟩, kw1462, kw1463⟩
theorem kw1464 : Cond.methodLink RX9 75 yX8_welcome ∈ tbG := mG (tt2 (List.mem_of_getElem? (i := 209) rfl)) rfl
theorem kw1465 : mdCode M_st_welcome ∈ tbG := mG (tt2 (List.mem_of_getElem? (i := 212) rfl)) rfl
theorem kw1466 : Cond.instanceMethod yX8_welcome ∈ tbG := mG (tt2 (List.mem_of_getElem? (i := 210) rfl)) rfl
theorem kw1467 : Cond.selects yX8_welcome.cls yX8_welcome yX8_welcome ∈ tbG := mG (tt2 (List.mem_of_getElem? (i := 211) rfl)) rfl
theorem cv_X9_75 : CV RX9 75 M_st_welcome 4 := ⟨⟨kw1464, kw1465, kw701, ⟨by decide, by decide⟩, by decide +kernel, rfl⟩, kw1466, kw1467⟩
theorem kw1468 : Cond.methodLink RX9 79 yX9_someoneBut ∈ tbG := mG (tt2 (List.mem_of_getElem? (i := 221) rfl)) rfl
theorem kw1469 : mdCode M_sr_someoneBut ∈ tbG := mG (tt2 (List.mem_of_getElem? (i := 224) rfl)) rfl
theorem kw1470 : Cond.instanceMethod yX9_someoneBut ∈ tbG := mG (tt2 (List.mem_of_getElem? (i := 223) rfl)) rfl
theorem kw1471 : Cond.selects yX9_someoneBut.cls yX9_someoneBut yX9_someoneBut ∈ tbG := mG (tp1 (q := (yX9_someoneBut, _)) (List.mem_of_getElem? (i := 8) rfl)) rfl
theorem cv_X9_79 : CV RX9 79 M_sr_someoneBut 1 := ⟨⟨kw1468, kw1469, kw864, ⟨by decide, by decide⟩, by decide +kernel, rfl⟩, kw1470, kw1471⟩
theorem kw1472 : Cond.methodLink RX9 83 yX8_putLoud ∈ tbG := mG (tt2 (List.mem_of_getElem? (i := 225) rfl)) rfl
theorem cv_X9_83 : CV RX9 83 M_st_putLoud 3 := ⟨⟨kw1472, kw1028, kw701, ⟨by decide, by decide⟩, by decide +kernel, rfl⟩, kw1029, kw1030⟩
theorem kw1473 : Cond.constant RJ11 76 56320 ∈ tbG := mG (tt5 (List.mem_of_getElem? (i := 51) rfl)) rfl
theorem kc_J11_76 : Cond.constant RJ11 76 56320 ∈ tbG := kw1473
theorem kw1474 : Cond.constant RJ11 110 55232 ∈ tbG := mG (tt5 (List.mem_of_getElem? (i := 47) rfl)) rfl
theorem kc_J11_110 : Cond.constant RJ11 110 55232 ∈ tbG := kw1474
theorem kw1475 : Cond.constant RJ2 227 65536 ∈ tbG := mG (tt5 (List.mem_of_getElem? (i := 8) rfl)) rfl
theorem kc_J2_227 : Cond.constant RJ2 227 65536 ∈ tbG := kw1475
theorem kw1476 : Cond.constant RJ6 264 65536 ∈ tbG := mG (tt3 (List.mem_of_getElem? (i := 226) rfl)) rfl
theorem kc_J6_264 : Cond.constant RJ6 264 65536 ∈ tbG := kw1476
theorem kw1477 : Cond.constant RJ6 265 1431655765 ∈ tbG := mG (tt4 (List.mem_of_getElem? (i := 27) rfl)) rfl
theorem kc_J6_265 : Cond.constant RJ6 265 1431655765 ∈ tbG := kw1477
theorem kw1478 : Cond.constant RJ6 266 858993459 ∈ tbG := mG (tt4 (List.mem_of_getElem? (i := 28) rfl)) rfl
theorem kc_J6_266 : Cond.constant RJ6 266 858993459 ∈ tbG := kw1478
theorem kw1479 : Cond.constant RJ6 267 252645135 ∈ tbG := mG (tt4 (List.mem_of_getElem? (i := 29) rfl)) rfl
theorem kc_J6_267 : Cond.constant RJ6 267 252645135 ∈ tbG := kw1479
theorem kw1480 : Cond.constantLong RX1 69 255 ∈ tbG := mG (tt3 (List.mem_of_getElem? (i := 49) rfl)) rfl
theorem kc_X1_69 : Cond.constantLong RX1 69 255 ∈ tbG := kw1480
theorem kw1481 : Cond.constantLong RX1 71 (-1) ∈ tbG := mG (tt3 (List.mem_of_getElem? (i := 50) rfl)) rfl
theorem kc_X1_71 : Cond.constantLong RX1 71 (-1) ∈ tbG := kw1481
theorem kw1482 : Cond.constantLong RX1 80 72340172838076673 ∈ tbG := mG (tt3 (List.mem_of_getElem? (i := 62) rfl)) rfl
theorem kc_X1_80 : Cond.constantLong RX1 80 72340172838076673 ∈ tbG := kw1482
theorem kw1483 : Cond.constantLong RX1 82 72624976668147840 ∈ tbG := mG (tt3 (List.mem_of_getElem? (i := 63) rfl)) rfl
theorem kc_X1_82 : Cond.constantLong RX1 82 72624976668147840 ∈ tbG := kw1483
theorem kw1484 : Cond.constantLong RX10 68 (-1) ∈ tbG := mG (tt4 (List.mem_of_getElem? (i := 116) rfl)) rfl
theorem kc_X10_68 : Cond.constantLong RX10 68 (-1) ∈ tbG := kw1484
theorem kw1485 : Cond.constantLong RX11 213 (-1) ∈ tbG := mG (tt3 (List.mem_of_getElem? (i := 137) rfl)) rfl
theorem kc_X11_213 : Cond.constantLong RX11 213 (-1) ∈ tbG := kw1485
theorem kw1486 : Cond.constant RX12 49 114688 ∈ tbG := mG (tt6 (List.mem_of_getElem? (i := 112) rfl)) rfl
theorem kc_X12_49 : Cond.constant RX12 49 114688 ∈ tbG := kw1486
theorem kw1487 : Cond.constantLong RX12 221 2 ∈ tbG := mG (tt7 (List.mem_of_getElem? (i := 153) rfl)) rfl
theorem kc_X12_221 : Cond.constantLong RX12 221 2 ∈ tbG := kw1487
theorem kw1488 : Cond.constantLong RX12 223 200 ∈ tbG := mG (tt7 (List.mem_of_getElem? (i := 154) rfl)) rfl
theorem kc_X12_223 : Cond.constantLong RX12 223 200 ∈ tbG := kw1488
theorem kw1489 : Cond.constantLong RX12 229 (-1) ∈ tbG := mG (tt7 (List.mem_of_getElem? (i := 155) rfl)) rfl
theorem kc_X12_229 : Cond.constantLong RX12 229 (-1) ∈ tbG := kw1489
theorem kw1490 : Cond.constant RX12 237 1000000 ∈ tbG := mG (tt7 (List.mem_of_getElem? (i := 188) rfl)) rfl
theorem kc_X12_237 : Cond.constant RX12 237 1000000 ∈ tbG := kw1490
theorem kw1491 : Cond.constant RX2 22 65535 ∈ tbG := mG (tt3 (List.mem_of_getElem? (i := 101) rfl)) rfl
theorem kc_X2_22 : Cond.constant RX2 22 65535 ∈ tbG := kw1491
theorem kw1492 : Cond.constantLong RX8 88 2 ∈ tbG := mG (tt3 (List.mem_of_getElem? (i := 154) rfl)) rfl
theorem kc_X8_88 : Cond.constantLong RX8 88 2 ∈ tbG := kw1492
theorem kw1493 : Cond.constantLong RX8 90 200 ∈ tbG := mG (tt3 (List.mem_of_getElem? (i := 155) rfl)) rfl
theorem kc_X8_90 : Cond.constantLong RX8 90 200 ∈ tbG := kw1493
