/-! 08: the methods by numbers; the tables' words that they need -/
def Y0 : XY := (yX0_begin, cX0_begin, 3, none)
def Y1 : XY := (yX0_copyFrom, cX0_copyFrom, 2, none)
def Y2 : XY := (yX0_init, cX0_init, 1, none)
def Y3 : XY := (yX0_keepOwnOnly, cX0_keepOwnOnly, 1, none)
def Y4 : XY := (yX1_init, cX1_init, 1, none)
def Y5 : XY := (yX2_add, cX2_add, 2, (some .boolean))
def Y6 : XY := (yX2_at, cX2_at, 2, (some .int))
def Y7 : XY := (yX2_change, cX2_change, 3, none)
def Y8 : XY := (yX2_copyFrom, cX2_copyFrom, 2, none)
def Y9 : XY := (yX2_countFrom, cX2_countFrom, 4, (some .int))
def Y10 : XY := (yX2_fillWithZeros, cX2_fillWithZeros, 3, none)
def Y11 : XY := (yX2_has, cX2_has, 3, (some .boolean))
def Y12 : XY := (yX2_init, cX2_init, 2, none)
def Y13 : XY := (yX2_remove, cX2_remove, 4, none)
def Y14 : XY := (yX2_removeBelow, cX2_removeBelow, 4, none)
def Y15 : XY := (yX3_add, cX3_add, 3, (some .boolean))
def Y16 : XY := (yX3_addDroppingOldest, cX3_addDroppingOldest, 3, none)
def Y17 : XY := (yX3_copyFrom, cX3_copyFrom, 2, none)
def Y18 : XY := (yX3_firstAt, cX3_firstAt, 2, (some .int))
def Y19 : XY := (yX3_init, cX3_init, 2, none)
def Y20 : XY := (yX3_putAhead, cX3_putAhead, 3, (some .int))
def Y21 : XY := (yX3_removeFirst, cX3_removeFirst, 1, none)
def Y22 : XY := (yX3_secondAt, cX3_secondAt, 2, (some .int))
def Y23 : XY := (yX4_faultOfForm, cX4_faultOfForm, 2, (some .int))
def Y24 : XY := (yX4_init, cX4_init, 1, none)
def Y25 : XY := (yX4_isDigitNext, cX4_isDigitNext, 1, (some .boolean))
def Y26 : XY := (yX4_isNext, cX4_isNext, 2, (some .boolean))
def Y27 : XY := (yX4_isRead, cX4_isRead, 1, (some .boolean))
def Y28 : XY := (yX4_readLine, cX4_readLine, 3, (some .boolean))
def Y29 : XY := (yX4_readNumber, cX4_readNumber, 4, (some .boolean))
def Y30 : XY := (yX5_copyFrom, cX5_copyFrom, 2, none)
def Y31 : XY := (yX5_countOf, cX5_countOf, 4, (some .int))
def Y32 : XY := (yX5_dueAt, cX5_dueAt, 2, (some .int))
def Y33 : XY := (yX5_init, cX5_init, 1, none)
def Y34 : XY := (yX5_move, cX5_move, 3, none)
def Y35 : XY := (yX5_numberAt, cX5_numberAt, 2, (some .int))
def Y36 : XY := (yX5_ownerAt, cX5_ownerAt, 2, (some .int))
def Y37 : XY := (yX5_removeFirst, cX5_removeFirst, 2, none)
def Y38 : XY := (yX5_removeOf, cX5_removeOf, 4, none)
def Y39 : XY := (yX5_set, cX5_set, 5, none)
def Y40 : XY := (yX6_addActor, cX6_addActor, 8, (some .int))
def Y41 : XY := (yX6_childBits, cX6_childBits, 4, (some .int))
def Y42 : XY := (yX6_copyFrom, cX6_copyFrom, 3, none)
def Y43 : XY := (yX6_deal, cX6_deal, 6, (some .int))
def Y44 : XY := (yX6_dealEarlier, cX6_dealEarlier, 6, (some .int))
def Y45 : XY := (yX6_dealLater, cX6_dealLater, 5, (some .int))
def Y46 : XY := (yX6_fail, cX6_fail, 5, none)
def Y47 : XY := (yX6_fireTimer, cX6_fireTimer, 3, (some .boolean))
def Y48 : XY := (yX6_greatestLiveChild, cX6_greatestLiveChild, 3, (some .int))
def Y49 : XY := (yX6_halt, cX6_halt, 8, (some .int))
def Y50 : XY := (yX6_hasStep, cX6_hasStep, 1, (some .boolean))
def Y51 : XY := (yX6_howItStands, cX6_howItStands, 1, (some .int))
def Y52 : XY := (yX6_init, cX6_init, 2, none)
def Y53 : XY := (yX6_isActor, cX6_isActor, 2, (some .boolean))
def Y54 : XY := (yX6_isLive, cX6_isLive, 2, (some .boolean))
def Y55 : XY := (yX6_isLiveChild, cX6_isLiveChild, 3, (some .boolean))
def Y56 : XY := (yX6_isOverBudgetAbove, cX6_isOverBudgetAbove, 3, (some .boolean))
def Y57 : XY := (yX6_isRestartedWith, cX6_isRestartedWith, 4, (some .boolean))
def Y58 : XY := (yX6_liveBits, cX6_liveBits, 3, (some .int))
def Y59 : XY := (yX6_mailed, cX6_mailed, 3, (some .int))
def Y60 : XY := (yX6_makeSteps, cX6_makeSteps, 3, (some .int))
def Y61 : XY := (yX6_nextDealer, cX6_nextDealer, 3, (some .int))
def Y62 : XY := (yX6_restart, cX6_restart, 3, none)
def Y63 : XY := (yX6_send, cX6_send, 5, (some .boolean))
def Y64 : XY := (yX6_sendDown, cX6_sendDown, 6, none)
def Y65 : XY := (yX6_step, cX6_step, 6, (some .boolean))
def Y66 : XY := (yX6_unstash, cX6_unstash, 2, none)
def Y67 : XY := (yX6_watch, cX6_watch, 4, none)
def Y68 : XY := (yX7_actor, cX7_actor, 4, (some .int))
def Y69 : XY := (yX7_back, cX7_back, 2, (some .int))
def Y70 : XY := (yX7_brings, cX7_brings, 3, (some .int))
def Y71 : XY := (yX7_cause, cX7_cause, 5, (some .int))
def Y72 : XY := (yX7_count, cX7_count, 2, (some .int))
def Y73 : XY := (yX7_counted, cX7_counted, 2, (some .int))
def Y74 : XY := (yX7_doLineButSteps, cX7_doLineButSteps, 4, (some .int))
def Y75 : XY := (yX7_drawn, cX7_drawn, 5, (some .int))
def Y76 : XY := (yX7_dry, cX7_dry, 5, (some .int))
def Y77 : XY := (yX7_ended, cX7_ended, 1, (some .int))
def Y78 : XY := (yX7_feed, cX7_feed, 2, (some .int))
def Y79 : XY := (yX7_first, cX7_first, 2, (some .int))
def Y80 : XY := (yX7_firstOtherwise, cX7_firstOtherwise, 7, (some .int))
def Y81 : XY := (yX7_hold, cX7_hold, 3, (some .int))
def Y82 : XY := (yX7_image, cX7_image, 1, (some .int))
def Y83 : XY := (yX7_init, cX7_init, 2, none)
def Y84 : XY := (yX7_isHandle, cX7_isHandle, 1, (some .boolean))
def Y85 : XY := (yX7_isNumber, cX7_isNumber, 1, (some .boolean))
def Y86 : XY := (yX7_isSteps, cX7_isSteps, 1, (some .boolean))
def Y87 : XY := (yX7_itemOf, cX7_itemOf, 2, (some .int))
def Y88 : XY := (yX7_log, cX7_log, 3, (some .int))
def Y89 : XY := (yX7_message, cX7_message, 5, (some .int))
def Y90 : XY := (yX7_of, cX7_of, 4, (some .int))
def Y91 : XY := (yX7_order, cX7_order, 4, (some .int))
def Y92 : XY := (yX7_put, cX7_put, 6, (some .int))
def Y93 : XY := (yX7_quiet, cX7_quiet, 2, (some .int))
def Y94 : XY := (yX7_reach, cX7_reach, 6, (some .int))
def Y95 : XY := (yX7_row, cX7_row, 3, (some .int))
def Y96 : XY := (yX7_run, cX7_run, 2, (some .int))
def Y97 : XY := (yX7_script, cX7_script, 4, (some .int))
def Y98 : XY := (yX7_seed, cX7_seed, 3, (some .int))
def Y99 : XY := (yX7_sender, cX7_sender, 5, (some .int))
def Y100 : XY := (yX7_stack, cX7_stack, 3, (some .int))
def Y101 : XY := (yX7_stop, cX7_stop, 2, (some .int))
def Y102 : XY := (yX7_tell, cX7_tell, 4, (some .int))
def Y103 : XY := (yX7_tells, cX7_tells, 6, (some .int))
def Y104 : XY := (yX7_timer, cX7_timer, 4, (some .int))
def Y105 : XY := (yX7_watcher, cX7_watcher, 3, (some .int))
def Y106 : XY := (yX7_would, cX7_would, 5, (some .int))
def Y107 : XY := (yX8_actor, cX8_actor, 7, (some .int))
def Y108 : XY := (yX8_at, cX8_at, 3, (some .int))
def Y109 : XY := (yX8_back, cX8_back, 2, (some .int))
def Y110 : XY := (yX8_bits, cX8_bits, 3, (some .int))
def Y111 : XY := (yX8_brings, cX8_brings, 5, (some .int))
def Y112 : XY := (yX8_canBe, cX8_canBe, 4, (some .int))
def Y113 : XY := (yX8_cause, cX8_cause, 3, (some .int))
def Y114 : XY := (yX8_childrenOf, cX8_childrenOf, 4, (some .int))
def Y115 : XY := (yX8_comesBack, cX8_comesBack, 6, none)
def Y116 : XY := (yX8_count, cX8_count, 4, (some .int))
def Y117 : XY := (yX8_counted, cX8_counted, 2, (some .int))
def Y118 : XY := (yX8_deals, cX8_deals, 5, none)
def Y119 : XY := (yX8_delays, cX8_delays, 4, none)
def Y120 : XY := (yX8_does, cX8_does, 4, (some .boolean))
def Y121 : XY := (yX8_doing, cX8_doing, 2, (some .int))
def Y122 : XY := (yX8_drawn, cX8_drawn, 5, (some .int))
def Y123 : XY := (yX8_dry, cX8_dry, 5, (some .int))
def Y124 : XY := (yX8_ended, cX8_ended, 1, (some .int))
def Y125 : XY := (yX8_fails, cX8_fails, 9, none)
def Y126 : XY := (yX8_feed, cX8_feed, 2, (some .int))
def Y127 : XY := (yX8_first, cX8_first, 2, (some .int))
def Y128 : XY := (yX8_firstTimer, cX8_firstTimer, 3, (some .int))
def Y129 : XY := (yX8_forgets, cX8_forgets, 5, none)
def Y130 : XY := (yX8_hasStep, cX8_hasStep, 1, (some .boolean))
def Y131 : XY := (yX8_hold, cX8_hold, 3, (some .int))
def Y132 : XY := (yX8_holds, cX8_holds, 5, none)
def Y133 : XY := (yX8_image, cX8_image, 1, (some .int))
def Y134 : XY := (yX8_in, cX8_in, 3, (some .boolean))
def Y135 : XY := (yX8_init, cX8_init, 1, none)
def Y136 : XY := (yX8_isActor, cX8_isActor, 2, (some .boolean))
def Y137 : XY := (yX8_isEnd, cX8_isEnd, 3, (some .boolean))
def Y138 : XY := (yX8_isForm, cX8_isForm, 1, (some .boolean))
def Y139 : XY := (yX8_isHandle, cX8_isHandle, 2, (some .boolean))
def Y140 : XY := (yX8_isLive, cX8_isLive, 2, (some .boolean))
def Y141 : XY := (yX8_isLiveChild, cX8_isLiveChild, 3, (some .boolean))
def Y142 : XY := (yX8_isNext, cX8_isNext, 3, (some .boolean))
def Y143 : XY := (yX8_isNumber, cX8_isNumber, 1, (some .boolean))
def Y144 : XY := (yX8_isOverBudget, cX8_isOverBudget, 3, (some .boolean))
def Y145 : XY := (yX8_isRule, cX8_isRule, 1, (some .boolean))
def Y146 : XY := (yX8_line, cX8_line, 4, (some .int))
def Y147 : XY := (yX8_liveOnes, cX8_liveOnes, 3, (some .int))
def Y148 : XY := (yX8_log, cX8_log, 2, (some .int))
def Y149 : XY := (yX8_logs, cX8_logs, 4, none)
def Y150 : XY := (yX8_message, cX8_message, 6, (some .int))
def Y151 : XY := (yX8_messageAt, cX8_messageAt, 4, (some .int))
def Y152 : XY := (yX8_must, cX8_must, 3, (some .int))
def Y153 : XY := (yX8_nextActor, cX8_nextActor, 3, (some .int))
def Y154 : XY := (yX8_noted, cX8_noted, 7, (some .int))
def Y155 : XY := (yX8_number, cX8_number, 4, (some .int))
def Y156 : XY := (yX8_of, cX8_of, 3, (some .int))
def Y157 : XY := (yX8_order, cX8_order, 4, (some .int))
def Y158 : XY := (yX8_ordered, cX8_ordered, 5, (some .int))
def Y159 : XY := (yX8_pass, cX8_pass, 5, none)
def Y160 : XY := (yX8_put, cX8_put, 5, (some .int))
def Y161 : XY := (yX8_quiet, cX8_quiet, 3, (some .int))
def Y162 : XY := (yX8_reach, cX8_reach, 6, (some .int))
def Y163 : XY := (yX8_restarts, cX8_restarts, 2, none)
def Y164 : XY := (yX8_row, cX8_row, 4, (some .int))
def Y165 : XY := (yX8_run, cX8_run, 3, (some .int))
def Y166 : XY := (yX8_runs, cX8_runs, 3, (some .int))
def Y167 : XY := (yX8_script, cX8_script, 3, (some .int))
def Y168 : XY := (yX8_seed, cX8_seed, 3, (some .int))
def Y169 : XY := (yX8_sees, cX8_sees, 3, (some .boolean))
def Y170 : XY := (yX8_sender, cX8_sender, 5, (some .int))
def Y171 : XY := (yX8_sends, cX8_sends, 5, (some .boolean))
def Y172 : XY := (yX8_sets, cX8_sets, 4, none)
def Y173 : XY := (yX8_stack, cX8_stack, 3, (some .int))
def Y174 : XY := (yX8_step, cX8_step, 6, none)
def Y175 : XY := (yX8_stop, cX8_stop, 3, (some .int))
def Y176 : XY := (yX8_stops, cX8_stops, 4, none)
def Y177 : XY := (yX8_stopsChildren, cX8_stopsChildren, 3, none)
def Y178 : XY := (yX8_switches, cX8_switches, 4, none)
def Y179 : XY := (yX8_take, cX8_take, 3, none)
def Y180 : XY := (yX8_tell, cX8_tell, 4, (some .int))
def Y181 : XY := (yX8_tells, cX8_tells, 5, (some .int))
def Y182 : XY := (yX8_timer, cX8_timer, 8, (some .int))
def Y183 : XY := (yX8_timersOf, cX8_timersOf, 4, (some .int))
def Y184 : XY := (yX8_toldAs, cX8_toldAs, 1, (some .int))
def Y185 : XY := (yX8_unwatches, cX8_unwatches, 6, none)
def Y186 : XY := (yX8_watcher, cX8_watcher, 3, (some .int))
def Y187 : XY := (yX8_watches, cX8_watches, 6, none)
def Y188 : XY := (yX8_would, cX8_would, 5, (some .int))
def Y189 : XY := (yJ6_bitCount_0f7a4, cJ6_bitCount_0f7a4, 1, (some .int))
def Y190 : XY := (yL_law, cL_law, 4, (some .boolean))
def xm (mid : Nat) : XY := if mid < 95 then if mid < 47 then if mid < 23 then if mid < 11 then if mid < 5 then if mid < 2 then if mid < 1 then Y0 else Y1 else if mid < 3 then Y2 else if mid < 4 then Y3 else Y4 else if mid < 8 then if mid < 6 then Y5 else if mid < 7 then Y6 else Y7 else if mid < 9 then Y8 else if mid < 10 then Y9 else Y10 else if mid < 17 then if mid < 14 then if mid < 12 then Y11 else if mid < 13 then Y12 else Y13 else if mid < 15 then Y14 else if mid < 16 then Y15 else Y16 else if mid < 20 then if mid < 18 then Y17 else if mid < 19 then Y18 else Y19 else if mid < 21 then Y20 else if mid < 22 then Y21 else Y22 else if mid < 35 then if mid < 29 then if mid < 26 then if mid < 24 then Y23 else if mid < 25 then Y24 else Y25 else if mid < 27 then Y26 else if mid < 28 then Y27 else Y28 else if mid < 32 then if mid < 30 then Y29 else if mid < 31 then Y30 else Y31 else if mid < 33 then Y32 else if mid < 34 then Y33 else Y34 else if mid < 41 then if mid < 38 then if mid < 36 then Y35 else if mid < 37 then Y36 else Y37 else if mid < 39 then Y38 else if mid < 40 then Y39 else Y40 else if mid < 44 then if mid < 42 then Y41 else if mid < 43 then Y42 else Y43 else if mid < 45 then Y44 else if mid < 46 then Y45 else Y46 else if mid < 71 then if mid < 59 then if mid < 53 then if mid < 50 then if mid < 48 then Y47 else if mid < 49 then Y48 else Y49 else if mid < 51 then Y50 else if mid < 52 then Y51 else Y52 else if mid < 56 then if mid < 54 then Y53 else if mid < 55 then Y54 else Y55 else if mid < 57 then Y56 else if mid < 58 then Y57 else Y58 else if mid < 65 then if mid < 62 then if mid < 60 then Y59 else if mid < 61 then Y60 else Y61 else if mid < 63 then Y62 else if mid < 64 then Y63 else Y64 else if mid < 68 then if mid < 66 then Y65 else if mid < 67 then Y66 else Y67 else if mid < 69 then Y68 else if mid < 70 then Y69 else Y70 else if mid < 83 then if mid < 77 then if mid < 74 then if mid < 72 then Y71 else if mid < 73 then Y72 else Y73 else if mid < 75 then Y74 else if mid < 76 then Y75 else Y76 else if mid < 80 then if mid < 78 then Y77 else if mid < 79 then Y78 else Y79 else if mid < 81 then Y80 else if mid < 82 then Y81 else Y82 else if mid < 89 then if mid < 86 then if mid < 84 then Y83 else if mid < 85 then Y84 else Y85 else if mid < 87 then Y86 else if mid < 88 then Y87 else Y88 else if mid < 92 then if mid < 90 then Y89 else if mid < 91 then Y90 else Y91 else if mid < 93 then Y92 else if mid < 94 then Y93 else Y94 else if mid < 143 then if mid < 119 then if mid < 107 then if mid < 101 then if mid < 98 then if mid < 96 then Y95 else if mid < 97 then Y96 else Y97 else if mid < 99 then Y98 else if mid < 100 then Y99 else Y100 else if mid < 104 then if mid < 102 then Y101 else if mid < 103 then Y102 else Y103 else if mid < 105 then Y104 else if mid < 106 then Y105 else Y106 else if mid < 113 then if mid < 110 then if mid < 108 then Y107 else if mid < 109 then Y108 else Y109 else if mid < 111 then Y110 else if mid < 112 then Y111 else Y112 else if mid < 116 then if mid < 114 then Y113 else if mid < 115 then Y114 else Y115 else if mid < 117 then Y116 else if mid < 118 then Y117 else Y118 else if mid < 131 then if mid < 125 then if mid < 122 then if mid < 120 then Y119 else if mid < 121 then Y120 else Y121 else if mid < 123 then Y122 else if mid < 124 then Y123 else Y124 else if mid < 128 then if mid < 126 then Y125 else if mid < 127 then Y126 else Y127 else if mid < 129 then Y128 else if mid < 130 then Y129 else Y130 else if mid < 137 then if mid < 134 then if mid < 132 then Y131 else if mid < 133 then Y132 else Y133 else if mid < 135 then Y134 else if mid < 136 then Y135 else Y136 else if mid < 140 then if mid < 138 then Y137 else if mid < 139 then Y138 else Y139 else if mid < 141 then Y140 else if mid < 142 then Y141 else Y142 else if mid < 167 then if mid < 155 then if mid < 149 then if mid < 146 then if mid < 144 then Y143 else if mid < 145 then Y144 else Y145 else if mid < 147 then Y146 else if mid < 148 then Y147 else Y148 else if mid < 152 then if mid < 150 then Y149 else if mid < 151 then Y150 else Y151 else if mid < 153 then Y152 else if mid < 154 then Y153 else Y154 else if mid < 161 then if mid < 158 then if mid < 156 then Y155 else if mid < 157 then Y156 else Y157 else if mid < 159 then Y158 else if mid < 160 then Y159 else Y160 else if mid < 164 then if mid < 162 then Y161 else if mid < 163 then Y162 else Y163 else if mid < 165 then Y164 else if mid < 166 then Y165 else Y166 else if mid < 179 then if mid < 173 then if mid < 170 then if mid < 168 then Y167 else if mid < 169 then Y168 else Y169 else if mid < 171 then Y170 else if mid < 172 then Y171 else Y172 else if mid < 176 then if mid < 174 then Y173 else if mid < 175 then Y174 else Y175 else if mid < 177 then Y176 else if mid < 178 then Y177 else Y178 else if mid < 185 then if mid < 182 then if mid < 180 then Y179 else if mid < 181 then Y180 else Y181 else if mid < 183 then Y182 else if mid < 184 then Y183 else Y184 else if mid < 188 then if mid < 186 then Y185 else if mid < 187 then Y186 else Y187 else if mid < 189 then Y188 else if mid < 190 then Y189 else Y190
theorem xt_1 {w : Cond} (h : w ∈ tables_1_1) : w ∈ tables_1 := List.mem_append_left _ h
theorem xt_2 {w : Cond} (h : w ∈ tables_1_2) : w ∈ tables_1 := List.mem_append_right _ (List.mem_append_left _ h)
theorem xt_3 {w : Cond} (h : w ∈ tables_1_3) : w ∈ tables_1 := List.mem_append_right _ (List.mem_append_right _ (List.mem_append_left _ h))
theorem xt_4 {w : Cond} (h : w ∈ tables_1_4) : w ∈ tables_1 := List.mem_append_right _ (List.mem_append_right _ (List.mem_append_right _ (List.mem_append_left _ h)))
theorem xt_5 {w : Cond} (h : w ∈ tables_1_5) : w ∈ tables_1 := List.mem_append_right _ (List.mem_append_right _ (List.mem_append_right _ (List.mem_append_right _ (h))))
theorem xmem {w : Cond} (h : w ∈ tables_1) (g : xgd w = true) : w ∈ xtbl := List.mem_append_right _ (List.mem_filter.mpr ⟨h, g⟩)
def xlk : List (Nat × XI) → Nat → XI
  | [], _ => fun _ _ _ => xbad
  | (k, i) :: l, pc => if pc = k then i else xlk l pc
theorem xlk_ok {xm : Nat → XY} {scr : Nat × (Nat → Int32)} {Y : XY} : ∀ {l : List (Nat × XI)}, (∀ q ∈ l, XSnd xm scr Y q.1 q.2) → ∀ pc, XSnd xm scr Y pc (xlk l pc)
  | [], _, _ => XSnd_bad
  | (k, i) :: l, h, pc => by
    unfold xlk
    split
    · rename_i e
      subst e
      exact h _ List.mem_cons_self
    · exact xlk_ok (fun q hq => h q (List.mem_cons_of_mem _ hq)) pc
theorem xcons {xm : Nat → XY} {scr : Nat × (Nat → Int32)} {Y : XY} {pc : Nat} {i : XI} {l : List (Nat × XI)} (h1 : XSnd xm scr Y pc i) (h2 : ∀ q ∈ l, XSnd xm scr Y q.1 q.2) : ∀ q ∈ (pc, i) :: l, XSnd xm scr Y q.1 q.2 := List.forall_mem_cons.mpr ⟨h1, h2⟩
theorem xnil {xm : Nat → XY} {scr : Nat × (Nat → Int32)} {Y : XY} : ∀ q ∈ ([] : List (Nat × XI)), XSnd xm scr Y q.1 q.2 := fun _ h => absurd h List.not_mem_nil
theorem xite {xm : Nat → XY} {scr : Nat × (Nat → Int32)} {Y : XY} {pc : Nat} {p : Prop} [Decidable p] {a b : XI} (h1 : XSnd xm scr Y pc a) (h2 : XSnd xm scr Y pc b) : XSnd xm scr Y pc (if p then a else b) := by
  split
  · exact h1
  · exact h2
def x_mmax (n : Nat) : XI := xiN fun L st h => match st with
  | .inl y :: .inl x :: st => if st.length ≤ 8 then some (n, L, .inl (if x < y then y else x) :: st, h) else none
  | _ => none
def x_mmin (n : Nat) : XI := xiN fun L st h => match st with
  | .inl y :: .inl x :: st => if st.length ≤ 8 then some (n, L, .inl (if y < x then y else x) :: st, h) else none
  | _ => none
theorem s_mmax {xm : Nat → XY} {scr : Nat × (Nat → Int32)} {Y : XY} {pc : Nat} {idx : Nat} (hw : Cond.methodLink Y.1.cls idx Lib.Math.max.name ∈ xtbl) (hw1 : Cond.static Lib.Math.max.name ∈ xtbl) (hw2 : Cond.initialized "java/lang/Math" ∈ xtbl) (hw3 : Cond.code Lib.Math.max.name Lib.Math.max.code 2 (some .int) ∈ xtbl) (hd : decode Y.2.1 pc = .ok (.invokestatic idx, 3)) : XSnd xm scr Y pc (x_mmax (pc + 3)) := by
  refine XSnd_P fun L st h pc1 L1 st1 h1 ee => ?_
  split at ee
  · split at ee
    · rename_i y x st0 hc
      cases ee
      refine ⟨rfl, fun p l e R s m args below meth c β D cA d m0 z0 Q X hm0 hz0 hmR hzR k H locs ls hP hF hl => ?_⟩
      obtain ⟨hx, hb, hml, hown, hts, hK, hnm, hbs, hfr, hlo, -⟩ := X
      exact va_mmax (rest := xst β st0) hx hb (hml.trans hl.1.symm) hown (hts _ hw) (hts _ hw1) (hts _ hw2) (hts _ hw3) (by omega) (by rw [xst_sum β st0]; omega) hmR hzR hd (k H locs ls hP hF hl)
    · cases ee
  · cases ee
theorem s_mmin {xm : Nat → XY} {scr : Nat × (Nat → Int32)} {Y : XY} {pc : Nat} {idx : Nat} (hw : Cond.methodLink Y.1.cls idx Lib.Math.min.name ∈ xtbl) (hw1 : Cond.static Lib.Math.min.name ∈ xtbl) (hw2 : Cond.initialized "java/lang/Math" ∈ xtbl) (hw3 : Cond.code Lib.Math.min.name Lib.Math.min.code 2 (some .int) ∈ xtbl) (hd : decode Y.2.1 pc = .ok (.invokestatic idx, 3)) : XSnd xm scr Y pc (x_mmin (pc + 3)) := by
  refine XSnd_P fun L st h pc1 L1 st1 h1 ee => ?_
  split at ee
  · split at ee
    · rename_i y x st0 hc
      cases ee
      refine ⟨rfl, fun p l e R s m args below meth c β D cA d m0 z0 Q X hm0 hz0 hmR hzR k H locs ls hP hF hl => ?_⟩
      obtain ⟨hx, hb, hml, hown, hts, hK, hnm, hbs, hfr, hlo, -⟩ := X
      exact va_mmin (rest := xst β st0) hx hb (hml.trans hl.1.symm) hown (hts _ hw) (hts _ hw1) (hts _ hw2) (hts _ hw3) (by omega) (by rw [xst_sum β st0]; omega) hmR hzR hd (k H locs ls hP hF hl)
    · cases ee
  · cases ee
set_option maxRecDepth 100000 in
theorem xw_0 : Cond.fieldLink "ActorTrees$Actor" 36 "ActorTrees$Actor" "parent" "I" ∈ xtbl := xmem (xt_1 (List.mem_of_getElem? (i := 94) rfl)) rfl
set_option maxRecDepth 100000 in
theorem xw_1 : Cond.fieldLink "ActorTrees$Actor" 40 "ActorTrees$Actor" "own" "I" ∈ xtbl := xmem (xt_1 (List.mem_of_getElem? (i := 97) rfl)) rfl
set_option maxRecDepth 100000 in
theorem xw_2 : Cond.fieldLink "ActorTrees$Actor" 43 "ActorTrees$Actor" "count" "I" ∈ xtbl := xmem (xt_1 (List.mem_of_getElem? (i := 108) rfl)) rfl
set_option maxRecDepth 100000 in
theorem xw_3 : Cond.fieldLink "ActorTrees$Actor" 46 "ActorTrees$Actor" "live" "Z" ∈ xtbl := xmem (xt_1 (List.mem_of_getElem? (i := 111) rfl)) rfl
set_option maxRecDepth 100000 in
theorem xw_4 : Cond.fieldLink "ActorTrees$Actor" 23 "ActorTrees$Actor" "mailbox" "LActorTrees$Pairs;" ∈ xtbl := xmem (xt_1 (List.mem_of_getElem? (i := 117) rfl)) rfl
set_option maxRecDepth 100000 in
theorem xw_5 : Cond.fieldLink "ActorTrees$Actor" 50 "ActorTrees$Pairs" "size" "I" ∈ xtbl := xmem (xt_1 (List.mem_of_getElem? (i := 59) rfl)) rfl
set_option maxRecDepth 100000 in
theorem xw_6 : Cond.fieldLink "ActorTrees$Actor" 27 "ActorTrees$Actor" "stash" "LActorTrees$Pairs;" ∈ xtbl := xmem (xt_1 (List.mem_of_getElem? (i := 120) rfl)) rfl
set_option maxRecDepth 100000 in
theorem xw_7 : Cond.fieldLink "ActorTrees$Actor" 30 "ActorTrees$Actor" "watchers" "LActorTrees$Numbers;" ∈ xtbl := xmem (xt_1 (List.mem_of_getElem? (i := 123) rfl)) rfl
set_option maxRecDepth 100000 in
theorem xw_8 : Cond.fieldLink "ActorTrees$Actor" 53 "ActorTrees$Numbers" "size" "I" ∈ xtbl := xmem (xt_1 (List.mem_of_getElem? (i := 83) rfl)) rfl
set_option maxRecDepth 100000 in
theorem xw_9 : Cond.code yX0_keepOwnOnly prog_2_method_3_code 1 (Option.none) ∈ xtbl := xmem (xt_2 (List.mem_of_getElem? (i := 56) rfl)) rfl
set_option maxRecDepth 100000 in
theorem xw_10 : Cond.initialized "ActorTrees$Actor" ∈ xtbl := xmem (xt_1 (List.mem_of_getElem? (i := 5) rfl)) rfl
set_option maxRecDepth 100000 in
theorem xw_11 : Cond.methodLink "ActorTrees$Actor" 54 yX0_keepOwnOnly ∈ xtbl := xmem (xt_2 (List.mem_of_getElem? (i := 53) rfl)) rfl
set_option maxRecDepth 100000 in
theorem xw_12 : Cond.instanceMethod yX0_keepOwnOnly ∈ xtbl := xmem (xt_2 (List.mem_of_getElem? (i := 54) rfl)) rfl
set_option maxRecDepth 100000 in
theorem xw_13 : Cond.selects "ActorTrees$Actor" yX0_keepOwnOnly yX0_keepOwnOnly ∈ xtbl := xmem (xt_2 (List.mem_of_getElem? (i := 55) rfl)) rfl
set_option maxRecDepth 100000 in
theorem xw_14 : Cond.fieldLink "ActorTrees$Actor" 61 "ActorTrees$Actor" "strategy" "I" ∈ xtbl := xmem (xt_1 (List.mem_of_getElem? (i := 99) rfl)) rfl
set_option maxRecDepth 100000 in
theorem xw_15 : Cond.fieldLink "ActorTrees$Actor" 64 "ActorTrees$Actor" "budget" "I" ∈ xtbl := xmem (xt_1 (List.mem_of_getElem? (i := 102) rfl)) rfl
set_option maxRecDepth 100000 in
theorem xw_16 : Cond.fieldLink "ActorTrees$Actor" 67 "ActorTrees$Actor" "window" "I" ∈ xtbl := xmem (xt_1 (List.mem_of_getElem? (i := 105) rfl)) rfl
set_option maxRecDepth 100000 in
theorem xw_17 : Cond.fieldLink "ActorTrees$Actor" 14 "ActorTrees$Actor" "stack" "LActorTrees$Numbers;" ∈ xtbl := xmem (xt_1 (List.mem_of_getElem? (i := 114) rfl)) rfl
set_option maxRecDepth 100000 in
theorem xw_18 : Cond.code yX2_copyFrom prog_4_method_10_code 2 (Option.none) ∈ xtbl := xmem (xt_3 (List.mem_of_getElem? (i := 78) rfl)) rfl
set_option maxRecDepth 100000 in
theorem xw_19 : Cond.initialized "ActorTrees$Numbers" ∈ xtbl := xmem (xt_1 (List.mem_of_getElem? (i := 6) rfl)) rfl
set_option maxRecDepth 100000 in
theorem xw_20 : Cond.methodLink "ActorTrees$Actor" 70 yX2_copyFrom ∈ xtbl := xmem (xt_3 (List.mem_of_getElem? (i := 75) rfl)) rfl
set_option maxRecDepth 100000 in
theorem xw_21 : Cond.instanceMethod yX2_copyFrom ∈ xtbl := xmem (xt_3 (List.mem_of_getElem? (i := 76) rfl)) rfl
set_option maxRecDepth 100000 in
theorem xw_22 : Cond.selects "ActorTrees$Numbers" yX2_copyFrom yX2_copyFrom ∈ xtbl := xmem (xt_3 (List.mem_of_getElem? (i := 77) rfl)) rfl
set_option maxRecDepth 100000 in
theorem xw_23 : Cond.code yX3_copyFrom prog_5_method_8_code 2 (Option.none) ∈ xtbl := xmem (xt_3 (List.mem_of_getElem? (i := 87) rfl)) rfl
set_option maxRecDepth 100000 in
theorem xw_24 : Cond.initialized "ActorTrees$Pairs" ∈ xtbl := xmem (xt_1 (List.mem_of_getElem? (i := 4) rfl)) rfl
set_option maxRecDepth 100000 in
theorem xw_25 : Cond.methodLink "ActorTrees$Actor" 74 yX3_copyFrom ∈ xtbl := xmem (xt_3 (List.mem_of_getElem? (i := 84) rfl)) rfl
set_option maxRecDepth 100000 in
theorem xw_26 : Cond.instanceMethod yX3_copyFrom ∈ xtbl := xmem (xt_3 (List.mem_of_getElem? (i := 85) rfl)) rfl
set_option maxRecDepth 100000 in
theorem xw_27 : Cond.selects "ActorTrees$Pairs" yX3_copyFrom yX3_copyFrom ∈ xtbl := xmem (xt_3 (List.mem_of_getElem? (i := 86) rfl)) rfl
set_option maxRecDepth 100000 in
theorem xw_28 : Cond.fieldLink "ActorTrees$Actor" 33 "ActorTrees$Actor" "notes" "LActorTrees$Numbers;" ∈ xtbl := xmem (xt_1 (List.mem_of_getElem? (i := 126) rfl)) rfl
set_option maxRecDepth 100000 in
theorem xw_29 : Cond.methodLink "ActorTrees$Actor" 3 objectInit ∈ xtbl := xmem (xt_1 (List.mem_of_getElem? (i := 74) rfl)) rfl
set_option maxRecDepth 100000 in
theorem xw_30 : Cond.instanceMethod objectInit ∈ xtbl := xmem (xt_1 (List.mem_of_getElem? (i := 19) rfl)) rfl
set_option maxRecDepth 100000 in
theorem xw_31 : Cond.code objectInit object_method_1_code 1 (Option.none) ∈ xtbl := xmem (xt_1 (List.mem_of_getElem? (i := 20) rfl)) rfl
set_option maxRecDepth 100000 in
theorem xw_32 : Cond.classLink "ActorTrees$Actor" 9 "ActorTrees$Numbers" ∈ xtbl := xmem (xt_1 (List.mem_of_getElem? (i := 75) rfl)) rfl
set_option maxRecDepth 100000 in
theorem xw_33 : Cond.instantiable "ActorTrees$Numbers" 2 ∈ xtbl := xmem (xt_1 (List.mem_of_getElem? (i := 76) rfl)) rfl
set_option maxRecDepth 100000 in
theorem xw_34 : Cond.code yX2_init prog_4_method_1_code 2 (Option.none) ∈ xtbl := xmem (xt_1 (List.mem_of_getElem? (i := 79) rfl)) rfl
set_option maxRecDepth 100000 in
theorem xw_35 : Cond.methodLink "ActorTrees$Actor" 11 yX2_init ∈ xtbl := xmem (xt_1 (List.mem_of_getElem? (i := 77) rfl)) rfl
set_option maxRecDepth 100000 in
theorem xw_36 : Cond.instanceMethod yX2_init ∈ xtbl := xmem (xt_1 (List.mem_of_getElem? (i := 78) rfl)) rfl
set_option maxRecDepth 100000 in
theorem xw_37 : Cond.classLink "ActorTrees$Actor" 20 "ActorTrees$Pairs" ∈ xtbl := xmem (xt_1 (List.mem_of_getElem? (i := 92) rfl)) rfl
set_option maxRecDepth 100000 in
theorem xw_38 : Cond.instantiable "ActorTrees$Pairs" 3 ∈ xtbl := xmem (xt_1 (List.mem_of_getElem? (i := 52) rfl)) rfl
set_option maxRecDepth 100000 in
theorem xw_39 : Cond.code yX3_init prog_5_method_1_code 2 (Option.none) ∈ xtbl := xmem (xt_1 (List.mem_of_getElem? (i := 55) rfl)) rfl
set_option maxRecDepth 100000 in
theorem xw_40 : Cond.methodLink "ActorTrees$Actor" 22 yX3_init ∈ xtbl := xmem (xt_1 (List.mem_of_getElem? (i := 93) rfl)) rfl
set_option maxRecDepth 100000 in
theorem xw_41 : Cond.instanceMethod yX3_init ∈ xtbl := xmem (xt_1 (List.mem_of_getElem? (i := 54) rfl)) rfl
set_option maxRecDepth 100000 in
theorem xw_42 : Cond.code yX2_add prog_4_method_4_code 2 (Option.some FieldType.boolean) ∈ xtbl := xmem (xt_2 (List.mem_of_getElem? (i := 60) rfl)) rfl
set_option maxRecDepth 100000 in
theorem xw_43 : Cond.methodLink "ActorTrees$Actor" 57 yX2_add ∈ xtbl := xmem (xt_2 (List.mem_of_getElem? (i := 57) rfl)) rfl
set_option maxRecDepth 100000 in
theorem xw_44 : Cond.instanceMethod yX2_add ∈ xtbl := xmem (xt_2 (List.mem_of_getElem? (i := 58) rfl)) rfl
set_option maxRecDepth 100000 in
theorem xw_45 : Cond.selects "ActorTrees$Numbers" yX2_add yX2_add ∈ xtbl := xmem (xt_2 (List.mem_of_getElem? (i := 59) rfl)) rfl
set_option maxRecDepth 100000 in
theorem xw_46 : Cond.methodLink "ActorTrees$Handle" 3 objectInit ∈ xtbl := xmem (xt_1 (List.mem_of_getElem? (i := 237) rfl)) rfl
set_option maxRecDepth 100000 in
theorem xw_47 : Cond.classLink "ActorTrees$Handle" 9 "ActorTrees$Numbers" ∈ xtbl := xmem (xt_1 (List.mem_of_getElem? (i := 238) rfl)) rfl
set_option maxRecDepth 100000 in
theorem xw_48 : Cond.methodLink "ActorTrees$Handle" 11 yX2_init ∈ xtbl := xmem (xt_1 (List.mem_of_getElem? (i := 239) rfl)) rfl
set_option maxRecDepth 100000 in
theorem xw_49 : Cond.fieldLink "ActorTrees$Handle" 14 "ActorTrees$Handle" "items" "LActorTrees$Numbers;" ∈ xtbl := xmem (xt_2 (List.mem_of_getElem? (i := 0) rfl)) rfl
set_option maxRecDepth 100000 in
theorem xw_50 : Cond.fieldLink "ActorTrees$Numbers" 13 "ActorTrees$Numbers" "size" "I" ∈ xtbl := xmem (xt_1 (List.mem_of_getElem? (i := 84) rfl)) rfl
set_option maxRecDepth 100000 in
theorem xw_51 : Cond.fieldLink "ActorTrees$Numbers" 7 "ActorTrees$Numbers" "items" "[I" ∈ xtbl := xmem (xt_1 (List.mem_of_getElem? (i := 81) rfl)) rfl
set_option maxRecDepth 100000 in
theorem xw_52 : Cond.methodLink "ActorTrees$Numbers" 17 yJ9_min_7cf53 ∈ xtbl := xmem (xt_3 (List.mem_of_getElem? (i := 79) rfl)) rfl
set_option maxRecDepth 100000 in
theorem xw_53 : Cond.static yJ9_min_7cf53 ∈ xtbl := xmem (xt_3 (List.mem_of_getElem? (i := 29) rfl)) rfl
set_option maxRecDepth 100000 in
theorem xw_54 : Cond.initialized "java/lang/Math" ∈ xtbl := xmem (xt_1 (List.mem_of_getElem? (i := 11) rfl)) rfl
set_option maxRecDepth 100000 in
theorem xw_55 : Cond.code yJ9_min_7cf53 prog_12_method_69_code 2 (Option.some FieldType.int) ∈ xtbl := xmem (xt_3 (List.mem_of_getElem? (i := 30) rfl)) rfl
set_option maxRecDepth 100000 in
theorem xw_56 : Cond.methodLink "ActorTrees$Numbers" 23 yJ9_max_7cf53 ∈ xtbl := xmem (xt_3 (List.mem_of_getElem? (i := 80) rfl)) rfl
set_option maxRecDepth 100000 in
theorem xw_57 : Cond.static yJ9_max_7cf53 ∈ xtbl := xmem (xt_3 (List.mem_of_getElem? (i := 81) rfl)) rfl
set_option maxRecDepth 100000 in
theorem xw_58 : Cond.code yJ9_max_7cf53 prog_12_method_65_code 2 (Option.some FieldType.int) ∈ xtbl := xmem (xt_3 (List.mem_of_getElem? (i := 82) rfl)) rfl
set_option maxRecDepth 100000 in
theorem xw_59 : Cond.methodLink "ActorTrees$Numbers" 26 arraycopyName ∈ xtbl := xmem (xt_3 (List.mem_of_getElem? (i := 83) rfl)) rfl
set_option maxRecDepth 100000 in
theorem xw_60 : Cond.native arraycopyName ∈ xtbl := xmem (xt_2 (List.mem_of_getElem? (i := 223) rfl)) rfl
set_option maxRecDepth 100000 in
theorem xw_61 : Cond.static arraycopyName ∈ xtbl := xmem (xt_2 (List.mem_of_getElem? (i := 222) rfl)) rfl
set_option maxRecDepth 100000 in
theorem xw_62 : Cond.initialized "java/lang/System" ∈ xtbl := xmem (xt_1 (List.mem_of_getElem? (i := 10) rfl)) rfl
set_option maxRecDepth 100000 in
theorem xw_63 : Cond.methodLink "ActorTrees$Numbers" 1 objectInit ∈ xtbl := xmem (xt_1 (List.mem_of_getElem? (i := 80) rfl)) rfl
set_option maxRecDepth 100000 in
theorem xw_64 : Cond.arrayClass .int ∈ xtbl := xmem (xt_1 (List.mem_of_getElem? (i := 50) rfl)) rfl
set_option maxRecDepth 100000 in
theorem xw_65 : Cond.fieldLink "ActorTrees$Pairs" 18 "ActorTrees$Pairs" "size" "I" ∈ xtbl := xmem (xt_1 (List.mem_of_getElem? (i := 61) rfl)) rfl
set_option maxRecDepth 100000 in
theorem xw_66 : Cond.fieldLink "ActorTrees$Pairs" 9 "ActorTrees$Pairs" "firsts" "[I" ∈ xtbl := xmem (xt_1 (List.mem_of_getElem? (i := 57) rfl)) rfl
set_option maxRecDepth 100000 in
theorem xw_67 : Cond.fieldLink "ActorTrees$Pairs" 15 "ActorTrees$Pairs" "seconds" "[I" ∈ xtbl := xmem (xt_1 (List.mem_of_getElem? (i := 58) rfl)) rfl
set_option maxRecDepth 100000 in
theorem xw_68 : Cond.code yX3_removeFirst prog_5_method_6_code 1 (Option.none) ∈ xtbl := xmem (xt_2 (List.mem_of_getElem? (i := 220) rfl)) rfl
set_option maxRecDepth 100000 in
theorem xw_69 : Cond.methodLink "ActorTrees$Pairs" 22 yX3_removeFirst ∈ xtbl := xmem (xt_2 (List.mem_of_getElem? (i := 228) rfl)) rfl
set_option maxRecDepth 100000 in
theorem xw_70 : Cond.instanceMethod yX3_removeFirst ∈ xtbl := xmem (xt_2 (List.mem_of_getElem? (i := 218) rfl)) rfl
set_option maxRecDepth 100000 in
theorem xw_71 : Cond.selects "ActorTrees$Pairs" yX3_removeFirst yX3_removeFirst ∈ xtbl := xmem (xt_2 (List.mem_of_getElem? (i := 219) rfl)) rfl
set_option maxRecDepth 100000 in
theorem xw_72 : Cond.code yX3_add prog_5_method_4_code 3 (Option.some FieldType.boolean) ∈ xtbl := xmem (xt_2 (List.mem_of_getElem? (i := 76) rfl)) rfl
set_option maxRecDepth 100000 in
theorem xw_73 : Cond.methodLink "ActorTrees$Pairs" 25 yX3_add ∈ xtbl := xmem (xt_2 (List.mem_of_getElem? (i := 229) rfl)) rfl
set_option maxRecDepth 100000 in
theorem xw_74 : Cond.instanceMethod yX3_add ∈ xtbl := xmem (xt_2 (List.mem_of_getElem? (i := 74) rfl)) rfl
set_option maxRecDepth 100000 in
theorem xw_75 : Cond.selects "ActorTrees$Pairs" yX3_add yX3_add ∈ xtbl := xmem (xt_2 (List.mem_of_getElem? (i := 75) rfl)) rfl
set_option maxRecDepth 100000 in
theorem xw_76 : Cond.methodLink "ActorTrees$Pairs" 35 yJ9_min_7cf53 ∈ xtbl := xmem (xt_3 (List.mem_of_getElem? (i := 28) rfl)) rfl
set_option maxRecDepth 100000 in
theorem xw_77 : Cond.methodLink "ActorTrees$Pairs" 41 yJ9_max_7cf53 ∈ xtbl := xmem (xt_3 (List.mem_of_getElem? (i := 88) rfl)) rfl
set_option maxRecDepth 100000 in
theorem xw_78 : Cond.methodLink "ActorTrees$Pairs" 29 arraycopyName ∈ xtbl := xmem (xt_2 (List.mem_of_getElem? (i := 221) rfl)) rfl
set_option maxRecDepth 100000 in
theorem xw_79 : Cond.methodLink "ActorTrees$Pairs" 3 objectInit ∈ xtbl := xmem (xt_1 (List.mem_of_getElem? (i := 56) rfl)) rfl
set_option maxRecDepth 100000 in
theorem xw_80 : Cond.fieldLink "ActorTrees$Tape" 23 "ActorTrees$Tape" "place" "I" ∈ xtbl := xmem (xt_1 (List.mem_of_getElem? (i := 220) rfl)) rfl
set_option maxRecDepth 100000 in
theorem xw_81 : Cond.code yX4_readLine prog_6_method_4_code 3 (Option.some FieldType.boolean) ∈ xtbl := xmem (xt_3 (List.mem_of_getElem? (i := 141) rfl)) rfl
set_option maxRecDepth 100000 in
theorem xw_82 : Cond.initialized "ActorTrees$Tape" ∈ xtbl := xmem (xt_1 (List.mem_of_getElem? (i := 7) rfl)) rfl
set_option maxRecDepth 100000 in
theorem xw_83 : Cond.methodLink "ActorTrees$Tape" 30 yX4_readLine ∈ xtbl := xmem (xt_3 (List.mem_of_getElem? (i := 138) rfl)) rfl
set_option maxRecDepth 100000 in
theorem xw_84 : Cond.instanceMethod yX4_readLine ∈ xtbl := xmem (xt_3 (List.mem_of_getElem? (i := 139) rfl)) rfl
set_option maxRecDepth 100000 in
theorem xw_85 : Cond.selects "ActorTrees$Tape" yX4_readLine yX4_readLine ∈ xtbl := xmem (xt_3 (List.mem_of_getElem? (i := 140) rfl)) rfl
set_option maxRecDepth 100000 in
theorem xw_86 : Cond.code yX4_isRead prog_6_method_2_code 1 (Option.some FieldType.boolean) ∈ xtbl := xmem (xt_3 (List.mem_of_getElem? (i := 145) rfl)) rfl
set_option maxRecDepth 100000 in
theorem xw_87 : Cond.methodLink "ActorTrees$Tape" 34 yX4_isRead ∈ xtbl := xmem (xt_3 (List.mem_of_getElem? (i := 142) rfl)) rfl
set_option maxRecDepth 100000 in
theorem xw_88 : Cond.instanceMethod yX4_isRead ∈ xtbl := xmem (xt_3 (List.mem_of_getElem? (i := 143) rfl)) rfl
set_option maxRecDepth 100000 in
theorem xw_89 : Cond.selects "ActorTrees$Tape" yX4_isRead yX4_isRead ∈ xtbl := xmem (xt_3 (List.mem_of_getElem? (i := 144) rfl)) rfl
set_option maxRecDepth 100000 in
theorem xw_90 : Cond.fieldLink "ActorTrees$Tape" 14 "ActorTrees$Tape" "bytes" "LActorTrees$Numbers;" ∈ xtbl := xmem (xt_1 (List.mem_of_getElem? (i := 214) rfl)) rfl
set_option maxRecDepth 100000 in
theorem xw_91 : Cond.code yX2_at prog_4_method_2_code 2 (Option.some FieldType.int) ∈ xtbl := xmem (xt_2 (List.mem_of_getElem? (i := 84) rfl)) rfl
set_option maxRecDepth 100000 in
theorem xw_92 : Cond.methodLink "ActorTrees$Tape" 37 yX2_at ∈ xtbl := xmem (xt_3 (List.mem_of_getElem? (i := 146) rfl)) rfl
set_option maxRecDepth 100000 in
theorem xw_93 : Cond.instanceMethod yX2_at ∈ xtbl := xmem (xt_2 (List.mem_of_getElem? (i := 82) rfl)) rfl
set_option maxRecDepth 100000 in
theorem xw_94 : Cond.selects "ActorTrees$Numbers" yX2_at yX2_at ∈ xtbl := xmem (xt_2 (List.mem_of_getElem? (i := 83) rfl)) rfl
set_option maxRecDepth 100000 in
theorem xw_95 : Cond.methodLink "ActorTrees$Tape" 3 objectInit ∈ xtbl := xmem (xt_1 (List.mem_of_getElem? (i := 211) rfl)) rfl
set_option maxRecDepth 100000 in
theorem xw_96 : Cond.classLink "ActorTrees$Tape" 9 "ActorTrees$Numbers" ∈ xtbl := xmem (xt_1 (List.mem_of_getElem? (i := 212) rfl)) rfl
set_option maxRecDepth 100000 in
theorem xw_97 : Cond.methodLink "ActorTrees$Tape" 11 yX2_init ∈ xtbl := xmem (xt_1 (List.mem_of_getElem? (i := 213) rfl)) rfl
set_option maxRecDepth 100000 in
theorem xw_98 : Cond.fieldLink "ActorTrees$Tape" 20 "ActorTrees$Tape" "numbers" "LActorTrees$Numbers;" ∈ xtbl := xmem (xt_1 (List.mem_of_getElem? (i := 216) rfl)) rfl
set_option maxRecDepth 100000 in
theorem xw_99 : Cond.fieldLink "ActorTrees$Tape" 27 "ActorTrees$Numbers" "size" "I" ∈ xtbl := xmem (xt_1 (List.mem_of_getElem? (i := 82) rfl)) rfl
set_option maxRecDepth 100000 in
theorem xw_100 : Cond.fieldLink "ActorTrees$Tape" 41 "ActorTrees$Tape" "kind" "I" ∈ xtbl := xmem (xt_1 (List.mem_of_getElem? (i := 218) rfl)) rfl
set_option maxRecDepth 100000 in
theorem xw_101 : Cond.code yX4_readNumber prog_6_method_5_code 4 (Option.some FieldType.boolean) ∈ xtbl := xmem (xt_3 (List.mem_of_getElem? (i := 150) rfl)) rfl
set_option maxRecDepth 100000 in
theorem xw_102 : Cond.methodLink "ActorTrees$Tape" 44 yX4_readNumber ∈ xtbl := xmem (xt_3 (List.mem_of_getElem? (i := 147) rfl)) rfl
set_option maxRecDepth 100000 in
theorem xw_103 : Cond.instanceMethod yX4_readNumber ∈ xtbl := xmem (xt_3 (List.mem_of_getElem? (i := 149) rfl)) rfl
theorem xw_104 : Cond.selects "ActorTrees$Tape" yX4_readNumber yX4_readNumber ∈ xtbl := List.mem_append_left _ (List.mem_of_getElem? (i := 13) rfl)
set_option maxRecDepth 100000 in
theorem xw_105 : Cond.code yX4_isNext prog_6_method_6_code 2 (Option.some FieldType.boolean) ∈ xtbl := xmem (xt_3 (List.mem_of_getElem? (i := 154) rfl)) rfl
set_option maxRecDepth 100000 in
theorem xw_106 : Cond.methodLink "ActorTrees$Tape" 48 yX4_isNext ∈ xtbl := xmem (xt_3 (List.mem_of_getElem? (i := 151) rfl)) rfl
set_option maxRecDepth 100000 in
theorem xw_107 : Cond.instanceMethod yX4_isNext ∈ xtbl := xmem (xt_3 (List.mem_of_getElem? (i := 153) rfl)) rfl
theorem xw_108 : Cond.selects "ActorTrees$Tape" yX4_isNext yX4_isNext ∈ xtbl := List.mem_append_left _ (List.mem_of_getElem? (i := 14) rfl)
set_option maxRecDepth 100000 in
theorem xw_109 : Cond.code yX4_isDigitNext prog_6_method_7_code 1 (Option.some FieldType.boolean) ∈ xtbl := xmem (xt_3 (List.mem_of_getElem? (i := 158) rfl)) rfl
set_option maxRecDepth 100000 in
theorem xw_110 : Cond.methodLink "ActorTrees$Tape" 52 yX4_isDigitNext ∈ xtbl := xmem (xt_3 (List.mem_of_getElem? (i := 155) rfl)) rfl
set_option maxRecDepth 100000 in
theorem xw_111 : Cond.instanceMethod yX4_isDigitNext ∈ xtbl := xmem (xt_3 (List.mem_of_getElem? (i := 157) rfl)) rfl
theorem xw_112 : Cond.selects "ActorTrees$Tape" yX4_isDigitNext yX4_isDigitNext ∈ xtbl := List.mem_append_left _ (List.mem_of_getElem? (i := 15) rfl)
set_option maxRecDepth 100000 in
theorem xw_113 : Cond.methodLink "ActorTrees$Tape" 55 yX2_add ∈ xtbl := xmem (xt_3 (List.mem_of_getElem? (i := 159) rfl)) rfl
set_option maxRecDepth 100000 in
theorem xw_114 : Cond.fieldLink "ActorTrees$Timers" 21 "ActorTrees$Timers" "size" "I" ∈ xtbl := xmem (xt_1 (List.mem_of_getElem? (i := 38) rfl)) rfl
set_option maxRecDepth 100000 in
theorem xw_115 : Cond.methodLink "ActorTrees$Timers" 29 yJ9_min_7cf53 ∈ xtbl := xmem (xt_3 (List.mem_of_getElem? (i := 93) rfl)) rfl
set_option maxRecDepth 100000 in
theorem xw_116 : Cond.methodLink "ActorTrees$Timers" 35 yJ9_max_7cf53 ∈ xtbl := xmem (xt_3 (List.mem_of_getElem? (i := 94) rfl)) rfl
set_option maxRecDepth 100000 in
theorem xw_117 : Cond.fieldLink "ActorTrees$Timers" 9 "ActorTrees$Timers" "owners" "[I" ∈ xtbl := xmem (xt_1 (List.mem_of_getElem? (i := 35) rfl)) rfl
set_option maxRecDepth 100000 in
theorem xw_118 : Cond.methodLink "ActorTrees$Timers" 38 arraycopyName ∈ xtbl := xmem (xt_3 (List.mem_of_getElem? (i := 95) rfl)) rfl
set_option maxRecDepth 100000 in
theorem xw_119 : Cond.fieldLink "ActorTrees$Timers" 15 "ActorTrees$Timers" "dues" "[I" ∈ xtbl := xmem (xt_1 (List.mem_of_getElem? (i := 36) rfl)) rfl
set_option maxRecDepth 100000 in
theorem xw_120 : Cond.fieldLink "ActorTrees$Timers" 18 "ActorTrees$Timers" "numbers" "[I" ∈ xtbl := xmem (xt_1 (List.mem_of_getElem? (i := 37) rfl)) rfl
set_option maxRecDepth 100000 in
theorem xw_121 : Cond.methodLink "ActorTrees$Timers" 3 objectInit ∈ xtbl := xmem (xt_1 (List.mem_of_getElem? (i := 34) rfl)) rfl
set_option maxRecDepth 100000 in
theorem xw_122 : Cond.code yX5_move prog_7_method_9_code 3 (Option.none) ∈ xtbl := xmem (xt_2 (List.mem_of_getElem? (i := 170) rfl)) rfl
set_option maxRecDepth 100000 in
theorem xw_123 : Cond.initialized "ActorTrees$Timers" ∈ xtbl := xmem (xt_1 (List.mem_of_getElem? (i := 3) rfl)) rfl
set_option maxRecDepth 100000 in
theorem xw_124 : Cond.methodLink "ActorTrees$Timers" 25 yX5_move ∈ xtbl := xmem (xt_2 (List.mem_of_getElem? (i := 167) rfl)) rfl
set_option maxRecDepth 100000 in
theorem xw_125 : Cond.instanceMethod yX5_move ∈ xtbl := xmem (xt_2 (List.mem_of_getElem? (i := 169) rfl)) rfl
theorem xw_126 : Cond.selects "ActorTrees$Timers" yX5_move yX5_move ∈ xtbl := List.mem_append_left _ (List.mem_of_getElem? (i := 1) rfl)
set_option maxRecDepth 100000 in
theorem xw_127 : Cond.fieldLink "ActorTrees$World" 44 "ActorTrees$World" "came" "I" ∈ xtbl := xmem (xt_1 (List.mem_of_getElem? (i := 162) rfl)) rfl
set_option maxRecDepth 100000 in
theorem xw_128 : Cond.code yX6_isActor prog_8_method_3_code 2 (Option.some FieldType.boolean) ∈ xtbl := xmem (xt_2 (List.mem_of_getElem? (i := 44) rfl)) rfl
set_option maxRecDepth 100000 in
theorem xw_129 : Cond.initialized "ActorTrees$World" ∈ xtbl := xmem (xt_1 (List.mem_of_getElem? (i := 2) rfl)) rfl
set_option maxRecDepth 100000 in
theorem xw_130 : Cond.methodLink "ActorTrees$World" 82 yX6_isActor ∈ xtbl := xmem (xt_2 (List.mem_of_getElem? (i := 41) rfl)) rfl
set_option maxRecDepth 100000 in
theorem xw_131 : Cond.instanceMethod yX6_isActor ∈ xtbl := xmem (xt_2 (List.mem_of_getElem? (i := 42) rfl)) rfl
set_option maxRecDepth 100000 in
theorem xw_132 : Cond.selects "ActorTrees$World" yX6_isActor yX6_isActor ∈ xtbl := xmem (xt_2 (List.mem_of_getElem? (i := 43) rfl)) rfl
set_option maxRecDepth 100000 in
theorem xw_133 : Cond.code yX6_isLive prog_8_method_4_code 2 (Option.some FieldType.boolean) ∈ xtbl := xmem (xt_2 (List.mem_of_getElem? (i := 48) rfl)) rfl
set_option maxRecDepth 100000 in
theorem xw_134 : Cond.methodLink "ActorTrees$World" 86 yX6_isLive ∈ xtbl := xmem (xt_2 (List.mem_of_getElem? (i := 45) rfl)) rfl
set_option maxRecDepth 100000 in
theorem xw_135 : Cond.instanceMethod yX6_isLive ∈ xtbl := xmem (xt_2 (List.mem_of_getElem? (i := 46) rfl)) rfl
set_option maxRecDepth 100000 in
theorem xw_136 : Cond.selects "ActorTrees$World" yX6_isLive yX6_isLive ∈ xtbl := xmem (xt_2 (List.mem_of_getElem? (i := 47) rfl)) rfl
set_option maxRecDepth 100000 in
theorem xw_137 : Cond.fieldLink "ActorTrees$World" 11 "ActorTrees$World" "actors" "[LActorTrees$Actor;" ∈ xtbl := xmem (xt_1 (List.mem_of_getElem? (i := 154) rfl)) rfl
set_option maxRecDepth 100000 in
theorem xw_138 : Cond.code yX0_begin prog_2_method_2_code 3 (Option.none) ∈ xtbl := xmem (xt_2 (List.mem_of_getElem? (i := 52) rfl)) rfl
set_option maxRecDepth 100000 in
theorem xw_139 : Cond.methodLink "ActorTrees$World" 89 yX0_begin ∈ xtbl := xmem (xt_2 (List.mem_of_getElem? (i := 49) rfl)) rfl
set_option maxRecDepth 100000 in
theorem xw_140 : Cond.instanceMethod yX0_begin ∈ xtbl := xmem (xt_2 (List.mem_of_getElem? (i := 50) rfl)) rfl
set_option maxRecDepth 100000 in
theorem xw_141 : Cond.selects "ActorTrees$Actor" yX0_begin yX0_begin ∈ xtbl := xmem (xt_2 (List.mem_of_getElem? (i := 51) rfl)) rfl
set_option maxRecDepth 100000 in
theorem xw_142 : Cond.fieldLink "ActorTrees$World" 93 "ActorTrees$Actor" "strategy" "I" ∈ xtbl := xmem (xt_1 (List.mem_of_getElem? (i := 101) rfl)) rfl
set_option maxRecDepth 100000 in
theorem xw_143 : Cond.fieldLink "ActorTrees$World" 96 "ActorTrees$Actor" "budget" "I" ∈ xtbl := xmem (xt_1 (List.mem_of_getElem? (i := 104) rfl)) rfl
set_option maxRecDepth 100000 in
theorem xw_144 : Cond.fieldLink "ActorTrees$World" 99 "ActorTrees$Actor" "window" "I" ∈ xtbl := xmem (xt_1 (List.mem_of_getElem? (i := 107) rfl)) rfl
set_option maxRecDepth 100000 in
theorem xw_145 : Cond.fieldLink "ActorTrees$World" 73 "ActorTrees$Actor" "parent" "I" ∈ xtbl := xmem (xt_1 (List.mem_of_getElem? (i := 96) rfl)) rfl
set_option maxRecDepth 100000 in
theorem xw_146 : Cond.code yX0_copyFrom prog_2_method_4_code 2 (Option.none) ∈ xtbl := xmem (xt_3 (List.mem_of_getElem? (i := 74) rfl)) rfl
set_option maxRecDepth 100000 in
theorem xw_147 : Cond.methodLink "ActorTrees$World" 47 yX0_copyFrom ∈ xtbl := xmem (xt_3 (List.mem_of_getElem? (i := 71) rfl)) rfl
set_option maxRecDepth 100000 in
theorem xw_148 : Cond.instanceMethod yX0_copyFrom ∈ xtbl := xmem (xt_3 (List.mem_of_getElem? (i := 72) rfl)) rfl
set_option maxRecDepth 100000 in
theorem xw_149 : Cond.selects "ActorTrees$Actor" yX0_copyFrom yX0_copyFrom ∈ xtbl := xmem (xt_3 (List.mem_of_getElem? (i := 73) rfl)) rfl
set_option maxRecDepth 100000 in
theorem xw_150 : Cond.fieldLink "ActorTrees$World" 20 "ActorTrees$World" "timers" "LActorTrees$Timers;" ∈ xtbl := xmem (xt_1 (List.mem_of_getElem? (i := 156) rfl)) rfl
set_option maxRecDepth 100000 in
theorem xw_151 : Cond.code yX5_copyFrom prog_7_method_10_code 2 (Option.none) ∈ xtbl := xmem (xt_3 (List.mem_of_getElem? (i := 92) rfl)) rfl
set_option maxRecDepth 100000 in
theorem xw_152 : Cond.methodLink "ActorTrees$World" 51 yX5_copyFrom ∈ xtbl := xmem (xt_3 (List.mem_of_getElem? (i := 89) rfl)) rfl
set_option maxRecDepth 100000 in
theorem xw_153 : Cond.instanceMethod yX5_copyFrom ∈ xtbl := xmem (xt_3 (List.mem_of_getElem? (i := 90) rfl)) rfl
set_option maxRecDepth 100000 in
theorem xw_154 : Cond.selects "ActorTrees$Timers" yX5_copyFrom yX5_copyFrom ∈ xtbl := xmem (xt_3 (List.mem_of_getElem? (i := 91) rfl)) rfl
set_option maxRecDepth 100000 in
theorem xw_155 : Cond.fieldLink "ActorTrees$World" 29 "ActorTrees$World" "dealt" "LActorTrees$Pairs;" ∈ xtbl := xmem (xt_1 (List.mem_of_getElem? (i := 158) rfl)) rfl
set_option maxRecDepth 100000 in
theorem xw_156 : Cond.methodLink "ActorTrees$World" 54 yX3_copyFrom ∈ xtbl := xmem (xt_3 (List.mem_of_getElem? (i := 96) rfl)) rfl
set_option maxRecDepth 100000 in
theorem xw_157 : Cond.fieldLink "ActorTrees$World" 33 "ActorTrees$World" "causes" "LActorTrees$Pairs;" ∈ xtbl := xmem (xt_1 (List.mem_of_getElem? (i := 160) rfl)) rfl
set_option maxRecDepth 100000 in
theorem xw_158 : Cond.fieldLink "ActorTrees$World" 36 "ActorTrees$World" "latest" "I" ∈ xtbl := xmem (xt_1 (List.mem_of_getElem? (i := 164) rfl)) rfl
set_option maxRecDepth 100000 in
theorem xw_159 : Cond.fieldLink "ActorTrees$World" 57 "ActorTrees$World" "time" "I" ∈ xtbl := xmem (xt_1 (List.mem_of_getElem? (i := 165) rfl)) rfl
set_option maxRecDepth 100000 in
theorem xw_160 : Cond.fieldLink "ActorTrees$World" 60 "ActorTrees$World" "clock" "I" ∈ xtbl := xmem (xt_1 (List.mem_of_getElem? (i := 167) rfl)) rfl
set_option maxRecDepth 100000 in
theorem xw_161 : Cond.fieldLink "ActorTrees$World" 63 "ActorTrees$World" "deadLetters" "I" ∈ xtbl := xmem (xt_1 (List.mem_of_getElem? (i := 169) rfl)) rfl
set_option maxRecDepth 100000 in
theorem xw_162 : Cond.fieldLink "ActorTrees$World" 40 "ActorTrees$World" "seed" "I" ∈ xtbl := xmem (xt_1 (List.mem_of_getElem? (i := 171) rfl)) rfl
set_option maxRecDepth 100000 in
theorem xw_163 : Cond.fieldLink "ActorTrees$World" 66 "ActorTrees$World" "ended" "I" ∈ xtbl := xmem (xt_1 (List.mem_of_getElem? (i := 173) rfl)) rfl
set_option maxRecDepth 100000 in
theorem xw_164 : Cond.fieldLink "ActorTrees$World" 158 "ActorTrees$Actor" "stack" "LActorTrees$Numbers;" ∈ xtbl := xmem (xt_1 (List.mem_of_getElem? (i := 116) rfl)) rfl
set_option maxRecDepth 100000 in
theorem xw_165 : Cond.fieldLink "ActorTrees$World" 162 "ActorTrees$Numbers" "size" "I" ∈ xtbl := xmem (xt_1 (List.mem_of_getElem? (i := 86) rfl)) rfl
set_option maxRecDepth 100000 in
theorem xw_166 : Cond.methodLink "ActorTrees$World" 165 yX2_at ∈ xtbl := xmem (xt_2 (List.mem_of_getElem? (i := 175) rfl)) rfl
set_option maxRecDepth 100000 in
theorem xw_167 : Cond.code yX6_dealLater prog_8_method_19_code 5 (Option.some FieldType.int) ∈ xtbl := xmem (xt_2 (List.mem_of_getElem? (i := 237) rfl)) rfl
set_option maxRecDepth 100000 in
theorem xw_168 : Cond.methodLink "ActorTrees$World" 168 yX6_dealLater ∈ xtbl := xmem (xt_2 (List.mem_of_getElem? (i := 234) rfl)) rfl
set_option maxRecDepth 100000 in
theorem xw_169 : Cond.instanceMethod yX6_dealLater ∈ xtbl := xmem (xt_2 (List.mem_of_getElem? (i := 236) rfl)) rfl
theorem xw_170 : Cond.selects "ActorTrees$World" yX6_dealLater yX6_dealLater ∈ xtbl := List.mem_append_left _ (List.mem_of_getElem? (i := 5) rfl)
set_option maxRecDepth 100000 in
theorem xw_171 : Cond.code yX6_dealEarlier prog_8_method_18_code 6 (Option.some FieldType.int) ∈ xtbl := xmem (xt_3 (List.mem_of_getElem? (i := 19) rfl)) rfl
set_option maxRecDepth 100000 in
theorem xw_172 : Cond.methodLink "ActorTrees$World" 171 yX6_dealEarlier ∈ xtbl := xmem (xt_3 (List.mem_of_getElem? (i := 16) rfl)) rfl
set_option maxRecDepth 100000 in
theorem xw_173 : Cond.instanceMethod yX6_dealEarlier ∈ xtbl := xmem (xt_3 (List.mem_of_getElem? (i := 18) rfl)) rfl
theorem xw_174 : Cond.selects "ActorTrees$World" yX6_dealEarlier yX6_dealEarlier ∈ xtbl := List.mem_append_left _ (List.mem_of_getElem? (i := 8) rfl)
set_option maxRecDepth 100000 in
theorem xw_175 : Cond.fieldLink "ActorTrees$World" 175 "ActorTrees$Actor" "count" "I" ∈ xtbl := xmem (xt_1 (List.mem_of_getElem? (i := 110) rfl)) rfl
set_option maxRecDepth 100000 in
theorem xw_176 : Cond.code yX6_sendDown prog_8_method_20_code 6 (Option.none) ∈ xtbl := xmem (xt_3 (List.mem_of_getElem? (i := 5) rfl)) rfl
set_option maxRecDepth 100000 in
theorem xw_177 : Cond.methodLink "ActorTrees$World" 178 yX6_sendDown ∈ xtbl := xmem (xt_3 (List.mem_of_getElem? (i := 2) rfl)) rfl
set_option maxRecDepth 100000 in
theorem xw_178 : Cond.instanceMethod yX6_sendDown ∈ xtbl := xmem (xt_3 (List.mem_of_getElem? (i := 4) rfl)) rfl
theorem xw_179 : Cond.selects "ActorTrees$World" yX6_sendDown yX6_sendDown ∈ xtbl := List.mem_append_left _ (List.mem_of_getElem? (i := 6) rfl)
set_option maxRecDepth 100000 in
theorem xw_180 : Cond.code yX6_send prog_8_method_10_code 5 (Option.some FieldType.boolean) ∈ xtbl := xmem (xt_2 (List.mem_of_getElem? (i := 72) rfl)) rfl
set_option maxRecDepth 100000 in
theorem xw_181 : Cond.methodLink "ActorTrees$World" 154 yX6_send ∈ xtbl := xmem (xt_2 (List.mem_of_getElem? (i := 176) rfl)) rfl
set_option maxRecDepth 100000 in
theorem xw_182 : Cond.instanceMethod yX6_send ∈ xtbl := xmem (xt_2 (List.mem_of_getElem? (i := 70) rfl)) rfl
set_option maxRecDepth 100000 in
theorem xw_183 : Cond.selects "ActorTrees$World" yX6_send yX6_send ∈ xtbl := xmem (xt_2 (List.mem_of_getElem? (i := 71) rfl)) rfl
set_option maxRecDepth 100000 in
theorem xw_184 : Cond.fieldLink "ActorTrees$World" 182 "ActorTrees$Actor" "stash" "LActorTrees$Pairs;" ∈ xtbl := xmem (xt_1 (List.mem_of_getElem? (i := 122) rfl)) rfl
set_option maxRecDepth 100000 in
theorem xw_185 : Cond.methodLink "ActorTrees$World" 102 yX3_add ∈ xtbl := xmem (xt_2 (List.mem_of_getElem? (i := 73) rfl)) rfl
set_option maxRecDepth 100000 in
theorem xw_186 : Cond.code yX6_unstash prog_8_method_21_code 2 (Option.none) ∈ xtbl := xmem (xt_3 (List.mem_of_getElem? (i := 23) rfl)) rfl
set_option maxRecDepth 100000 in
theorem xw_187 : Cond.methodLink "ActorTrees$World" 185 yX6_unstash ∈ xtbl := xmem (xt_3 (List.mem_of_getElem? (i := 20) rfl)) rfl
set_option maxRecDepth 100000 in
theorem xw_188 : Cond.instanceMethod yX6_unstash ∈ xtbl := xmem (xt_3 (List.mem_of_getElem? (i := 22) rfl)) rfl
theorem xw_189 : Cond.selects "ActorTrees$World" yX6_unstash yX6_unstash ∈ xtbl := List.mem_append_left _ (List.mem_of_getElem? (i := 9) rfl)
set_option maxRecDepth 100000 in
theorem xw_190 : Cond.methodLink "ActorTrees$World" 188 yX2_add ∈ xtbl := xmem (xt_3 (List.mem_of_getElem? (i := 14) rfl)) rfl
set_option maxRecDepth 100000 in
theorem xw_191 : Cond.code yX5_set prog_7_method_6_code 5 (Option.none) ∈ xtbl := xmem (xt_3 (List.mem_of_getElem? (i := 1) rfl)) rfl
set_option maxRecDepth 100000 in
theorem xw_192 : Cond.methodLink "ActorTrees$World" 190 yX5_set ∈ xtbl := xmem (xt_2 (List.mem_of_getElem? (i := 238) rfl)) rfl
set_option maxRecDepth 100000 in
theorem xw_193 : Cond.instanceMethod yX5_set ∈ xtbl := xmem (xt_2 (List.mem_of_getElem? (i := 239) rfl)) rfl
set_option maxRecDepth 100000 in
theorem xw_194 : Cond.selects "ActorTrees$Timers" yX5_set yX5_set ∈ xtbl := xmem (xt_3 (List.mem_of_getElem? (i := 0) rfl)) rfl
set_option maxRecDepth 100000 in
theorem xw_195 : Cond.code yX6_watch prog_8_method_22_code 4 (Option.none) ∈ xtbl := xmem (xt_3 (List.mem_of_getElem? (i := 9) rfl)) rfl
set_option maxRecDepth 100000 in
theorem xw_196 : Cond.methodLink "ActorTrees$World" 193 yX6_watch ∈ xtbl := xmem (xt_3 (List.mem_of_getElem? (i := 6) rfl)) rfl
set_option maxRecDepth 100000 in
theorem xw_197 : Cond.instanceMethod yX6_watch ∈ xtbl := xmem (xt_3 (List.mem_of_getElem? (i := 8) rfl)) rfl
theorem xw_198 : Cond.selects "ActorTrees$World" yX6_watch yX6_watch ∈ xtbl := List.mem_append_left _ (List.mem_of_getElem? (i := 7) rfl)
set_option maxRecDepth 100000 in
theorem xw_199 : Cond.code yX6_halt prog_8_method_27_code 8 (Option.some FieldType.int) ∈ xtbl := xmem (xt_2 (List.mem_of_getElem? (i := 153) rfl)) rfl
set_option maxRecDepth 100000 in
theorem xw_200 : Cond.methodLink "ActorTrees$World" 196 yX6_halt ∈ xtbl := xmem (xt_3 (List.mem_of_getElem? (i := 15) rfl)) rfl
set_option maxRecDepth 100000 in
theorem xw_201 : Cond.instanceMethod yX6_halt ∈ xtbl := xmem (xt_2 (List.mem_of_getElem? (i := 151) rfl)) rfl
set_option maxRecDepth 100000 in
theorem xw_202 : Cond.selects "ActorTrees$World" yX6_halt yX6_halt ∈ xtbl := xmem (xt_2 (List.mem_of_getElem? (i := 152) rfl)) rfl
set_option maxRecDepth 100000 in
theorem xw_203 : Cond.fieldLink "ActorTrees$World" 212 "ActorTrees$World" "hasFailed" "Z" ∈ xtbl := xmem (xt_1 (List.mem_of_getElem? (i := 176) rfl)) rfl
set_option maxRecDepth 100000 in
theorem xw_204 : Cond.fieldLink "ActorTrees$World" 79 "ActorTrees$Pairs" "size" "I" ∈ xtbl := xmem (xt_1 (List.mem_of_getElem? (i := 62) rfl)) rfl
set_option maxRecDepth 100000 in
theorem xw_205 : Cond.code yX6_isOverBudgetAbove prog_8_method_24_code 3 (Option.some FieldType.boolean) ∈ xtbl := xmem (xt_3 (List.mem_of_getElem? (i := 38) rfl)) rfl
set_option maxRecDepth 100000 in
theorem xw_206 : Cond.methodLink "ActorTrees$World" 215 yX6_isOverBudgetAbove ∈ xtbl := xmem (xt_3 (List.mem_of_getElem? (i := 35) rfl)) rfl
set_option maxRecDepth 100000 in
theorem xw_207 : Cond.instanceMethod yX6_isOverBudgetAbove ∈ xtbl := xmem (xt_3 (List.mem_of_getElem? (i := 37) rfl)) rfl
theorem xw_208 : Cond.selects "ActorTrees$World" yX6_isOverBudgetAbove yX6_isOverBudgetAbove ∈ xtbl := List.mem_append_left _ (List.mem_of_getElem? (i := 10) rfl)
set_option maxRecDepth 100000 in
theorem xw_209 : Cond.code yX6_isRestartedWith prog_8_method_25_code 4 (Option.some FieldType.boolean) ∈ xtbl := xmem (xt_3 (List.mem_of_getElem? (i := 46) rfl)) rfl
set_option maxRecDepth 100000 in
theorem xw_210 : Cond.methodLink "ActorTrees$World" 218 yX6_isRestartedWith ∈ xtbl := xmem (xt_3 (List.mem_of_getElem? (i := 43) rfl)) rfl
set_option maxRecDepth 100000 in
theorem xw_211 : Cond.instanceMethod yX6_isRestartedWith ∈ xtbl := xmem (xt_3 (List.mem_of_getElem? (i := 45) rfl)) rfl
theorem xw_212 : Cond.selects "ActorTrees$World" yX6_isRestartedWith yX6_isRestartedWith ∈ xtbl := List.mem_append_left _ (List.mem_of_getElem? (i := 11) rfl)
set_option maxRecDepth 100000 in
theorem xw_213 : Cond.code yX6_restart prog_8_method_26_code 3 (Option.none) ∈ xtbl := xmem (xt_3 (List.mem_of_getElem? (i := 50) rfl)) rfl
set_option maxRecDepth 100000 in
theorem xw_214 : Cond.methodLink "ActorTrees$World" 221 yX6_restart ∈ xtbl := xmem (xt_3 (List.mem_of_getElem? (i := 47) rfl)) rfl
set_option maxRecDepth 100000 in
theorem xw_215 : Cond.instanceMethod yX6_restart ∈ xtbl := xmem (xt_3 (List.mem_of_getElem? (i := 49) rfl)) rfl
theorem xw_216 : Cond.selects "ActorTrees$World" yX6_restart yX6_restart ∈ xtbl := List.mem_append_left _ (List.mem_of_getElem? (i := 12) rfl)
set_option maxRecDepth 100000 in
theorem xw_217 : Cond.fieldLink "ActorTrees$World" 117 "ActorTrees$Timers" "size" "I" ∈ xtbl := xmem (xt_1 (List.mem_of_getElem? (i := 40) rfl)) rfl
set_option maxRecDepth 100000 in
theorem xw_218 : Cond.code yX5_ownerAt prog_7_method_2_code 2 (Option.some FieldType.int) ∈ xtbl := xmem (xt_2 (List.mem_of_getElem? (i := 136) rfl)) rfl
set_option maxRecDepth 100000 in
theorem xw_219 : Cond.methodLink "ActorTrees$World" 144 yX5_ownerAt ∈ xtbl := xmem (xt_2 (List.mem_of_getElem? (i := 208) rfl)) rfl
set_option maxRecDepth 100000 in
theorem xw_220 : Cond.instanceMethod yX5_ownerAt ∈ xtbl := xmem (xt_2 (List.mem_of_getElem? (i := 134) rfl)) rfl
set_option maxRecDepth 100000 in
theorem xw_221 : Cond.selects "ActorTrees$Timers" yX5_ownerAt yX5_ownerAt ∈ xtbl := xmem (xt_2 (List.mem_of_getElem? (i := 135) rfl)) rfl
set_option maxRecDepth 100000 in
theorem xw_222 : Cond.code yX5_numberAt prog_7_method_4_code 2 (Option.some FieldType.int) ∈ xtbl := xmem (xt_2 (List.mem_of_getElem? (i := 144) rfl)) rfl
set_option maxRecDepth 100000 in
theorem xw_223 : Cond.methodLink "ActorTrees$World" 147 yX5_numberAt ∈ xtbl := xmem (xt_2 (List.mem_of_getElem? (i := 209) rfl)) rfl
set_option maxRecDepth 100000 in
theorem xw_224 : Cond.instanceMethod yX5_numberAt ∈ xtbl := xmem (xt_2 (List.mem_of_getElem? (i := 142) rfl)) rfl
set_option maxRecDepth 100000 in
theorem xw_225 : Cond.selects "ActorTrees$Timers" yX5_numberAt yX5_numberAt ∈ xtbl := xmem (xt_2 (List.mem_of_getElem? (i := 143) rfl)) rfl
set_option maxRecDepth 100000 in
theorem xw_226 : Cond.code yX5_dueAt prog_7_method_3_code 2 (Option.some FieldType.int) ∈ xtbl := xmem (xt_2 (List.mem_of_getElem? (i := 140) rfl)) rfl
set_option maxRecDepth 100000 in
theorem xw_227 : Cond.methodLink "ActorTrees$World" 150 yX5_dueAt ∈ xtbl := xmem (xt_2 (List.mem_of_getElem? (i := 210) rfl)) rfl
set_option maxRecDepth 100000 in
theorem xw_228 : Cond.instanceMethod yX5_dueAt ∈ xtbl := xmem (xt_2 (List.mem_of_getElem? (i := 138) rfl)) rfl
set_option maxRecDepth 100000 in
theorem xw_229 : Cond.selects "ActorTrees$Timers" yX5_dueAt yX5_dueAt ∈ xtbl := xmem (xt_2 (List.mem_of_getElem? (i := 139) rfl)) rfl
set_option maxRecDepth 100000 in
theorem xw_230 : Cond.code yX5_removeFirst prog_7_method_8_code 2 (Option.none) ∈ xtbl := xmem (xt_2 (List.mem_of_getElem? (i := 214) rfl)) rfl
set_option maxRecDepth 100000 in
theorem xw_231 : Cond.methodLink "ActorTrees$World" 153 yX5_removeFirst ∈ xtbl := xmem (xt_2 (List.mem_of_getElem? (i := 211) rfl)) rfl
set_option maxRecDepth 100000 in
theorem xw_232 : Cond.instanceMethod yX5_removeFirst ∈ xtbl := xmem (xt_2 (List.mem_of_getElem? (i := 212) rfl)) rfl
set_option maxRecDepth 100000 in
theorem xw_233 : Cond.selects "ActorTrees$Timers" yX5_removeFirst yX5_removeFirst ∈ xtbl := xmem (xt_2 (List.mem_of_getElem? (i := 213) rfl)) rfl
set_option maxRecDepth 100000 in
theorem xw_234 : Cond.code yX6_isLiveChild prog_8_method_5_code 3 (Option.some FieldType.boolean) ∈ xtbl := xmem (xt_2 (List.mem_of_getElem? (i := 161) rfl)) rfl
set_option maxRecDepth 100000 in
theorem xw_235 : Cond.methodLink "ActorTrees$World" 199 yX6_isLiveChild ∈ xtbl := xmem (xt_2 (List.mem_of_getElem? (i := 158) rfl)) rfl
set_option maxRecDepth 100000 in
theorem xw_236 : Cond.instanceMethod yX6_isLiveChild ∈ xtbl := xmem (xt_2 (List.mem_of_getElem? (i := 159) rfl)) rfl
set_option maxRecDepth 100000 in
theorem xw_237 : Cond.selects "ActorTrees$World" yX6_isLiveChild yX6_isLiveChild ∈ xtbl := xmem (xt_2 (List.mem_of_getElem? (i := 160) rfl)) rfl
set_option maxRecDepth 100000 in
theorem xw_238 : Cond.code yX6_greatestLiveChild prog_8_method_28_code 3 (Option.some FieldType.int) ∈ xtbl := xmem (xt_2 (List.mem_of_getElem? (i := 157) rfl)) rfl
set_option maxRecDepth 100000 in
theorem xw_239 : Cond.methodLink "ActorTrees$World" 239 yX6_greatestLiveChild ∈ xtbl := xmem (xt_2 (List.mem_of_getElem? (i := 154) rfl)) rfl
set_option maxRecDepth 100000 in
theorem xw_240 : Cond.instanceMethod yX6_greatestLiveChild ∈ xtbl := xmem (xt_2 (List.mem_of_getElem? (i := 156) rfl)) rfl
theorem xw_241 : Cond.selects "ActorTrees$World" yX6_greatestLiveChild yX6_greatestLiveChild ∈ xtbl := List.mem_append_left _ (List.mem_of_getElem? (i := 0) rfl)
set_option maxRecDepth 100000 in
theorem xw_242 : Cond.fieldLink "ActorTrees$World" 69 "ActorTrees$Actor" "live" "Z" ∈ xtbl := xmem (xt_1 (List.mem_of_getElem? (i := 112) rfl)) rfl
set_option maxRecDepth 100000 in
theorem xw_243 : Cond.fieldLink "ActorTrees$World" 76 "ActorTrees$Actor" "mailbox" "LActorTrees$Pairs;" ∈ xtbl := xmem (xt_1 (List.mem_of_getElem? (i := 119) rfl)) rfl
set_option maxRecDepth 100000 in
theorem xw_244 : Cond.methodLink "ActorTrees$World" 233 yX0_keepOwnOnly ∈ xtbl := xmem (xt_2 (List.mem_of_getElem? (i := 162) rfl)) rfl
set_option maxRecDepth 100000 in
theorem xw_245 : Cond.code yX5_removeOf prog_7_method_7_code 4 (Option.none) ∈ xtbl := xmem (xt_2 (List.mem_of_getElem? (i := 166) rfl)) rfl
set_option maxRecDepth 100000 in
theorem xw_246 : Cond.methodLink "ActorTrees$World" 236 yX5_removeOf ∈ xtbl := xmem (xt_2 (List.mem_of_getElem? (i := 163) rfl)) rfl
set_option maxRecDepth 100000 in
theorem xw_247 : Cond.instanceMethod yX5_removeOf ∈ xtbl := xmem (xt_2 (List.mem_of_getElem? (i := 164) rfl)) rfl
set_option maxRecDepth 100000 in
theorem xw_248 : Cond.selects "ActorTrees$Timers" yX5_removeOf yX5_removeOf ∈ xtbl := xmem (xt_2 (List.mem_of_getElem? (i := 165) rfl)) rfl
set_option maxRecDepth 100000 in
theorem xw_249 : Cond.fieldLink "ActorTrees$World" 206 "ActorTrees$Actor" "watchers" "LActorTrees$Numbers;" ∈ xtbl := xmem (xt_1 (List.mem_of_getElem? (i := 125) rfl)) rfl
set_option maxRecDepth 100000 in
theorem xw_250 : Cond.code yX2_remove prog_4_method_6_code 4 (Option.none) ∈ xtbl := xmem (xt_2 (List.mem_of_getElem? (i := 174) rfl)) rfl
set_option maxRecDepth 100000 in
theorem xw_251 : Cond.methodLink "ActorTrees$World" 242 yX2_remove ∈ xtbl := xmem (xt_2 (List.mem_of_getElem? (i := 171) rfl)) rfl
set_option maxRecDepth 100000 in
theorem xw_252 : Cond.instanceMethod yX2_remove ∈ xtbl := xmem (xt_2 (List.mem_of_getElem? (i := 172) rfl)) rfl
set_option maxRecDepth 100000 in
theorem xw_253 : Cond.selects "ActorTrees$Numbers" yX2_remove yX2_remove ∈ xtbl := xmem (xt_2 (List.mem_of_getElem? (i := 173) rfl)) rfl
set_option maxRecDepth 100000 in
theorem xw_254 : Cond.code yX6_nextDealer prog_8_method_14_code 3 (Option.some FieldType.int) ∈ xtbl := xmem (xt_2 (List.mem_of_getElem? (i := 199) rfl)) rfl
set_option maxRecDepth 100000 in
theorem xw_255 : Cond.methodLink "ActorTrees$World" 118 yX6_nextDealer ∈ xtbl := xmem (xt_2 (List.mem_of_getElem? (i := 196) rfl)) rfl
set_option maxRecDepth 100000 in
theorem xw_256 : Cond.instanceMethod yX6_nextDealer ∈ xtbl := xmem (xt_2 (List.mem_of_getElem? (i := 198) rfl)) rfl
theorem xw_257 : Cond.selects "ActorTrees$World" yX6_nextDealer yX6_nextDealer ∈ xtbl := List.mem_append_left _ (List.mem_of_getElem? (i := 3) rfl)
set_option maxRecDepth 100000 in
theorem xw_258 : Cond.code yX6_hasStep prog_8_method_13_code 1 (Option.some FieldType.boolean) ∈ xtbl := xmem (xt_2 (List.mem_of_getElem? (i := 195) rfl)) rfl
set_option maxRecDepth 100000 in
theorem xw_259 : Cond.methodLink "ActorTrees$World" 114 yX6_hasStep ∈ xtbl := xmem (xt_2 (List.mem_of_getElem? (i := 192) rfl)) rfl
set_option maxRecDepth 100000 in
theorem xw_260 : Cond.instanceMethod yX6_hasStep ∈ xtbl := xmem (xt_2 (List.mem_of_getElem? (i := 193) rfl)) rfl
set_option maxRecDepth 100000 in
theorem xw_261 : Cond.selects "ActorTrees$World" yX6_hasStep yX6_hasStep ∈ xtbl := xmem (xt_2 (List.mem_of_getElem? (i := 194) rfl)) rfl
set_option maxRecDepth 100000 in
theorem xw_262 : Cond.methodLink "ActorTrees$World" 3 objectInit ∈ xtbl := xmem (xt_1 (List.mem_of_getElem? (i := 26) rfl)) rfl
set_option maxRecDepth 100000 in
theorem xw_263 : Cond.classLink "ActorTrees$World" 9 "ActorTrees$Actor" ∈ xtbl := xmem (xt_1 (List.mem_of_getElem? (i := 27) rfl)) rfl
set_option maxRecDepth 100000 in
theorem xw_264 : Cond.classLink "ActorTrees$World" 17 "ActorTrees$Timers" ∈ xtbl := xmem (xt_1 (List.mem_of_getElem? (i := 29) rfl)) rfl
set_option maxRecDepth 100000 in
theorem xw_265 : Cond.instantiable "ActorTrees$Timers" 4 ∈ xtbl := xmem (xt_1 (List.mem_of_getElem? (i := 30) rfl)) rfl
set_option maxRecDepth 100000 in
theorem xw_266 : Cond.code yX5_init prog_7_method_1_code 1 (Option.none) ∈ xtbl := xmem (xt_1 (List.mem_of_getElem? (i := 33) rfl)) rfl
set_option maxRecDepth 100000 in
theorem xw_267 : Cond.instanceMethod yX5_init ∈ xtbl := xmem (xt_1 (List.mem_of_getElem? (i := 32) rfl)) rfl
set_option maxRecDepth 100000 in
theorem xw_268 : Cond.classLink "ActorTrees$World" 24 "ActorTrees$Pairs" ∈ xtbl := xmem (xt_1 (List.mem_of_getElem? (i := 51) rfl)) rfl
set_option maxRecDepth 100000 in
theorem xw_269 : Cond.methodLink "ActorTrees$World" 26 yX3_init ∈ xtbl := xmem (xt_1 (List.mem_of_getElem? (i := 53) rfl)) rfl
set_option maxRecDepth 100000 in
theorem xw_270 : Cond.instantiable "ActorTrees$Actor" 12 ∈ xtbl := xmem (xt_1 (List.mem_of_getElem? (i := 70) rfl)) rfl
set_option maxRecDepth 100000 in
theorem xw_271 : Cond.code yX0_init prog_2_method_1_code 1 (Option.none) ∈ xtbl := xmem (xt_1 (List.mem_of_getElem? (i := 73) rfl)) rfl
set_option maxRecDepth 100000 in
theorem xw_272 : Cond.instanceMethod yX0_init ∈ xtbl := xmem (xt_1 (List.mem_of_getElem? (i := 72) rfl)) rfl
set_option maxRecDepth 100000 in
theorem xw_273 : Cond.fieldLink "ActorTrees$World" 224 "ActorTrees$Actor" "notes" "LActorTrees$Numbers;" ∈ xtbl := xmem (xt_1 (List.mem_of_getElem? (i := 128) rfl)) rfl
set_option maxRecDepth 100000 in
theorem xw_274 : Cond.code yX2_removeBelow prog_4_method_7_code 4 (Option.none) ∈ xtbl := xmem (xt_3 (List.mem_of_getElem? (i := 42) rfl)) rfl
set_option maxRecDepth 100000 in
theorem xw_275 : Cond.methodLink "ActorTrees$World" 227 yX2_removeBelow ∈ xtbl := xmem (xt_3 (List.mem_of_getElem? (i := 39) rfl)) rfl
set_option maxRecDepth 100000 in
theorem xw_276 : Cond.instanceMethod yX2_removeBelow ∈ xtbl := xmem (xt_3 (List.mem_of_getElem? (i := 40) rfl)) rfl
set_option maxRecDepth 100000 in
theorem xw_277 : Cond.selects "ActorTrees$Numbers" yX2_removeBelow yX2_removeBelow ∈ xtbl := xmem (xt_3 (List.mem_of_getElem? (i := 41) rfl)) rfl
set_option maxRecDepth 100000 in
theorem xw_278 : Cond.code yX6_howItStands prog_8_method_12_code 1 (Option.some FieldType.int) ∈ xtbl := xmem (xt_2 (List.mem_of_getElem? (i := 191) rfl)) rfl
set_option maxRecDepth 100000 in
theorem xw_279 : Cond.methodLink "ActorTrees$World" 106 yX6_howItStands ∈ xtbl := xmem (xt_2 (List.mem_of_getElem? (i := 188) rfl)) rfl
set_option maxRecDepth 100000 in
theorem xw_280 : Cond.instanceMethod yX6_howItStands ∈ xtbl := xmem (xt_2 (List.mem_of_getElem? (i := 190) rfl)) rfl
theorem xw_281 : Cond.selects "ActorTrees$World" yX6_howItStands yX6_howItStands ∈ xtbl := List.mem_append_left _ (List.mem_of_getElem? (i := 2) rfl)
set_option maxRecDepth 100000 in
theorem xw_282 : Cond.code yX6_step prog_8_method_15_code 6 (Option.some FieldType.boolean) ∈ xtbl := xmem (xt_2 (List.mem_of_getElem? (i := 203) rfl)) rfl
set_option maxRecDepth 100000 in
theorem xw_283 : Cond.methodLink "ActorTrees$World" 110 yX6_step ∈ xtbl := xmem (xt_2 (List.mem_of_getElem? (i := 200) rfl)) rfl
set_option maxRecDepth 100000 in
theorem xw_284 : Cond.instanceMethod yX6_step ∈ xtbl := xmem (xt_2 (List.mem_of_getElem? (i := 201) rfl)) rfl
set_option maxRecDepth 100000 in
theorem xw_285 : Cond.selects "ActorTrees$World" yX6_step yX6_step ∈ xtbl := xmem (xt_2 (List.mem_of_getElem? (i := 202) rfl)) rfl
set_option maxRecDepth 100000 in
theorem xw_286 : Cond.fieldLink "ActorTrees$World" 230 "ActorTrees$World" "restarted" "I" ∈ xtbl := xmem (xt_1 (List.mem_of_getElem? (i := 178) rfl)) rfl
set_option maxRecDepth 100000 in
theorem xw_287 : Cond.code yX6_fireTimer prog_8_method_16_code 3 (Option.some FieldType.boolean) ∈ xtbl := xmem (xt_2 (List.mem_of_getElem? (i := 207) rfl)) rfl
set_option maxRecDepth 100000 in
theorem xw_288 : Cond.methodLink "ActorTrees$World" 121 yX6_fireTimer ∈ xtbl := xmem (xt_2 (List.mem_of_getElem? (i := 204) rfl)) rfl
set_option maxRecDepth 100000 in
theorem xw_289 : Cond.instanceMethod yX6_fireTimer ∈ xtbl := xmem (xt_2 (List.mem_of_getElem? (i := 206) rfl)) rfl
theorem xw_290 : Cond.selects "ActorTrees$World" yX6_fireTimer yX6_fireTimer ∈ xtbl := List.mem_append_left _ (List.mem_of_getElem? (i := 4) rfl)
set_option maxRecDepth 100000 in
theorem xw_291 : Cond.code yX3_firstAt prog_5_method_2_code 2 (Option.some FieldType.int) ∈ xtbl := xmem (xt_2 (List.mem_of_getElem? (i := 117) rfl)) rfl
set_option maxRecDepth 100000 in
theorem xw_292 : Cond.methodLink "ActorTrees$World" 124 yX3_firstAt ∈ xtbl := xmem (xt_2 (List.mem_of_getElem? (i := 215) rfl)) rfl
set_option maxRecDepth 100000 in
theorem xw_293 : Cond.instanceMethod yX3_firstAt ∈ xtbl := xmem (xt_2 (List.mem_of_getElem? (i := 115) rfl)) rfl
set_option maxRecDepth 100000 in
theorem xw_294 : Cond.selects "ActorTrees$Pairs" yX3_firstAt yX3_firstAt ∈ xtbl := xmem (xt_2 (List.mem_of_getElem? (i := 116) rfl)) rfl
set_option maxRecDepth 100000 in
theorem xw_295 : Cond.code yX3_secondAt prog_5_method_3_code 2 (Option.some FieldType.int) ∈ xtbl := xmem (xt_2 (List.mem_of_getElem? (i := 109) rfl)) rfl
set_option maxRecDepth 100000 in
theorem xw_296 : Cond.methodLink "ActorTrees$World" 128 yX3_secondAt ∈ xtbl := xmem (xt_2 (List.mem_of_getElem? (i := 216) rfl)) rfl
set_option maxRecDepth 100000 in
theorem xw_297 : Cond.instanceMethod yX3_secondAt ∈ xtbl := xmem (xt_2 (List.mem_of_getElem? (i := 107) rfl)) rfl
set_option maxRecDepth 100000 in
theorem xw_298 : Cond.selects "ActorTrees$Pairs" yX3_secondAt yX3_secondAt ∈ xtbl := xmem (xt_2 (List.mem_of_getElem? (i := 108) rfl)) rfl
set_option maxRecDepth 100000 in
theorem xw_299 : Cond.methodLink "ActorTrees$World" 131 yX3_removeFirst ∈ xtbl := xmem (xt_2 (List.mem_of_getElem? (i := 217) rfl)) rfl
set_option maxRecDepth 100000 in
theorem xw_300 : Cond.code yX3_addDroppingOldest prog_5_method_5_code 3 (Option.none) ∈ xtbl := xmem (xt_2 (List.mem_of_getElem? (i := 227) rfl)) rfl
set_option maxRecDepth 100000 in
theorem xw_301 : Cond.methodLink "ActorTrees$World" 134 yX3_addDroppingOldest ∈ xtbl := xmem (xt_2 (List.mem_of_getElem? (i := 224) rfl)) rfl
set_option maxRecDepth 100000 in
theorem xw_302 : Cond.instanceMethod yX3_addDroppingOldest ∈ xtbl := xmem (xt_2 (List.mem_of_getElem? (i := 225) rfl)) rfl
set_option maxRecDepth 100000 in
theorem xw_303 : Cond.selects "ActorTrees$Pairs" yX3_addDroppingOldest yX3_addDroppingOldest ∈ xtbl := xmem (xt_2 (List.mem_of_getElem? (i := 226) rfl)) rfl
set_option maxRecDepth 100000 in
theorem xw_304 : Cond.code yX6_deal prog_8_method_17_code 6 (Option.some FieldType.int) ∈ xtbl := xmem (xt_2 (List.mem_of_getElem? (i := 233) rfl)) rfl
set_option maxRecDepth 100000 in
theorem xw_305 : Cond.methodLink "ActorTrees$World" 137 yX6_deal ∈ xtbl := xmem (xt_2 (List.mem_of_getElem? (i := 230) rfl)) rfl
set_option maxRecDepth 100000 in
theorem xw_306 : Cond.instanceMethod yX6_deal ∈ xtbl := xmem (xt_2 (List.mem_of_getElem? (i := 231) rfl)) rfl
set_option maxRecDepth 100000 in
theorem xw_307 : Cond.selects "ActorTrees$World" yX6_deal yX6_deal ∈ xtbl := xmem (xt_2 (List.mem_of_getElem? (i := 232) rfl)) rfl
set_option maxRecDepth 100000 in
theorem xw_308 : Cond.code yX6_fail prog_8_method_23_code 5 (Option.none) ∈ xtbl := xmem (xt_3 (List.mem_of_getElem? (i := 34) rfl)) rfl
set_option maxRecDepth 100000 in
theorem xw_309 : Cond.methodLink "ActorTrees$World" 141 yX6_fail ∈ xtbl := xmem (xt_3 (List.mem_of_getElem? (i := 31) rfl)) rfl
set_option maxRecDepth 100000 in
theorem xw_310 : Cond.instanceMethod yX6_fail ∈ xtbl := xmem (xt_3 (List.mem_of_getElem? (i := 32) rfl)) rfl
set_option maxRecDepth 100000 in
theorem xw_311 : Cond.selects "ActorTrees$World" yX6_fail yX6_fail ∈ xtbl := xmem (xt_3 (List.mem_of_getElem? (i := 33) rfl)) rfl
set_option maxRecDepth 100000 in
theorem xw_312 : Cond.code yX3_putAhead prog_5_method_7_code 3 (Option.some FieldType.int) ∈ xtbl := xmem (xt_3 (List.mem_of_getElem? (i := 27) rfl)) rfl
set_option maxRecDepth 100000 in
theorem xw_313 : Cond.methodLink "ActorTrees$World" 202 yX3_putAhead ∈ xtbl := xmem (xt_3 (List.mem_of_getElem? (i := 24) rfl)) rfl
set_option maxRecDepth 100000 in
theorem xw_314 : Cond.instanceMethod yX3_putAhead ∈ xtbl := xmem (xt_3 (List.mem_of_getElem? (i := 25) rfl)) rfl
set_option maxRecDepth 100000 in
theorem xw_315 : Cond.selects "ActorTrees$Pairs" yX3_putAhead yX3_putAhead ∈ xtbl := xmem (xt_3 (List.mem_of_getElem? (i := 26) rfl)) rfl
set_option maxRecDepth 100000 in
theorem xw_316 : Cond.code yX2_has prog_4_method_5_code 3 (Option.some FieldType.boolean) ∈ xtbl := xmem (xt_3 (List.mem_of_getElem? (i := 13) rfl)) rfl
set_option maxRecDepth 100000 in
theorem xw_317 : Cond.methodLink "ActorTrees$World" 209 yX2_has ∈ xtbl := xmem (xt_3 (List.mem_of_getElem? (i := 10) rfl)) rfl
set_option maxRecDepth 100000 in
theorem xw_318 : Cond.instanceMethod yX2_has ∈ xtbl := xmem (xt_3 (List.mem_of_getElem? (i := 11) rfl)) rfl
set_option maxRecDepth 100000 in
theorem xw_319 : Cond.selects "ActorTrees$Numbers" yX2_has yX2_has ∈ xtbl := xmem (xt_3 (List.mem_of_getElem? (i := 12) rfl)) rfl
set_option maxRecDepth 100000 in
theorem xw_320 : Cond.fieldLink "ActorTrees" 10 "ActorTrees" "now" "LActorTrees$World;" ∈ xtbl := xmem (xt_2 (List.mem_of_getElem? (i := 11) rfl)) rfl
set_option maxRecDepth 100000 in
theorem xw_321 : Cond.code yX6_addActor prog_8_method_9_code 8 (Option.some FieldType.int) ∈ xtbl := xmem (xt_2 (List.mem_of_getElem? (i := 40) rfl)) rfl
set_option maxRecDepth 100000 in
theorem xw_322 : Cond.methodLink "ActorTrees" 39 yX6_addActor ∈ xtbl := xmem (xt_2 (List.mem_of_getElem? (i := 37) rfl)) rfl
set_option maxRecDepth 100000 in
theorem xw_323 : Cond.instanceMethod yX6_addActor ∈ xtbl := xmem (xt_2 (List.mem_of_getElem? (i := 38) rfl)) rfl
set_option maxRecDepth 100000 in
theorem xw_324 : Cond.selects "ActorTrees$World" yX6_addActor yX6_addActor ∈ xtbl := xmem (xt_2 (List.mem_of_getElem? (i := 39) rfl)) rfl
set_option maxRecDepth 100000 in
theorem xw_325 : Cond.fieldLink "ActorTrees" 244 "ActorTrees" "hasImage" "Z" ∈ xtbl := xmem (xt_2 (List.mem_of_getElem? (i := 17) rfl)) rfl
set_option maxRecDepth 100000 in
theorem xw_326 : Cond.fieldLink "ActorTrees" 19 "ActorTrees" "kept" "LActorTrees$World;" ∈ xtbl := xmem (xt_2 (List.mem_of_getElem? (i := 13) rfl)) rfl
set_option maxRecDepth 100000 in
theorem xw_327 : Cond.code yX6_copyFrom prog_8_method_2_code 3 (Option.none) ∈ xtbl := xmem (xt_3 (List.mem_of_getElem? (i := 70) rfl)) rfl
set_option maxRecDepth 100000 in
theorem xw_328 : Cond.methodLink "ActorTrees" 172 yX6_copyFrom ∈ xtbl := xmem (xt_3 (List.mem_of_getElem? (i := 67) rfl)) rfl
set_option maxRecDepth 100000 in
theorem xw_329 : Cond.instanceMethod yX6_copyFrom ∈ xtbl := xmem (xt_3 (List.mem_of_getElem? (i := 68) rfl)) rfl
set_option maxRecDepth 100000 in
theorem xw_330 : Cond.selects "ActorTrees$World" yX6_copyFrom yX6_copyFrom ∈ xtbl := xmem (xt_3 (List.mem_of_getElem? (i := 69) rfl)) rfl
set_option maxRecDepth 100000 in
theorem xw_331 : Cond.fieldLink "ActorTrees" 34 "ActorTrees" "handles" "[LActorTrees$Handle;" ∈ xtbl := xmem (xt_2 (List.mem_of_getElem? (i := 16) rfl)) rfl
set_option maxRecDepth 100000 in
theorem xw_332 : Cond.fieldLink "ActorTrees" 235 "ActorTrees$Handle" "sort" "I" ∈ xtbl := xmem (xt_2 (List.mem_of_getElem? (i := 2) rfl)) rfl
set_option maxRecDepth 100000 in
theorem xw_333 : Cond.fieldLink "ActorTrees" 247 "ActorTrees$Handle" "actor" "I" ∈ xtbl := xmem (xt_2 (List.mem_of_getElem? (i := 3) rfl)) rfl
set_option maxRecDepth 100000 in
theorem xw_334 : Cond.methodLink "ActorTrees" 43 yX6_isActor ∈ xtbl := xmem (xt_2 (List.mem_of_getElem? (i := 65) rfl)) rfl
set_option maxRecDepth 100000 in
theorem xw_335 : Cond.fieldLink "ActorTrees" 225 "ActorTrees$World" "came" "I" ∈ xtbl := xmem (xt_1 (List.mem_of_getElem? (i := 163) rfl)) rfl
set_option maxRecDepth 100000 in
theorem xw_336 : Cond.methodLink "ActorTrees" 151 yX6_isLive ∈ xtbl := xmem (xt_2 (List.mem_of_getElem? (i := 149) rfl)) rfl
set_option maxRecDepth 100000 in
theorem xw_337 : Cond.constant "ActorTrees" 130 (-2000000000) ∈ xtbl := xmem (xt_2 (List.mem_of_getElem? (i := 101) rfl)) rfl
set_option maxRecDepth 100000 in
theorem xw_338 : Cond.fieldLink "ActorTrees" 16 "ActorTrees" "thought" "LActorTrees$World;" ∈ xtbl := xmem (xt_2 (List.mem_of_getElem? (i := 12) rfl)) rfl
set_option maxRecDepth 100000 in
theorem xw_339 : Cond.fieldLink "ActorTrees" 204 "ActorTrees$World" "restarted" "I" ∈ xtbl := xmem (xt_1 (List.mem_of_getElem? (i := 177) rfl)) rfl
set_option maxRecDepth 100000 in
theorem xw_340 : Cond.methodLink "ActorTrees" 200 yX6_fail ∈ xtbl := xmem (xt_3 (List.mem_of_getElem? (i := 116) rfl)) rfl
set_option maxRecDepth 100000 in
theorem xw_341 : Cond.code yX6_liveBits prog_8_method_7_code 3 (Option.some FieldType.int) ∈ xtbl := xmem (xt_3 (List.mem_of_getElem? (i := 100) rfl)) rfl
set_option maxRecDepth 100000 in
theorem xw_342 : Cond.methodLink "ActorTrees" 176 yX6_liveBits ∈ xtbl := xmem (xt_3 (List.mem_of_getElem? (i := 97) rfl)) rfl
set_option maxRecDepth 100000 in
theorem xw_343 : Cond.instanceMethod yX6_liveBits ∈ xtbl := xmem (xt_3 (List.mem_of_getElem? (i := 98) rfl)) rfl
set_option maxRecDepth 100000 in
theorem xw_344 : Cond.selects "ActorTrees$World" yX6_liveBits yX6_liveBits ∈ xtbl := xmem (xt_3 (List.mem_of_getElem? (i := 99) rfl)) rfl
set_option maxRecDepth 100000 in
theorem xw_345 : Cond.fieldLink "ActorTrees" 169 "ActorTrees$World" "causes" "LActorTrees$Pairs;" ∈ xtbl := xmem (xt_1 (List.mem_of_getElem? (i := 161) rfl)) rfl
set_option maxRecDepth 100000 in
theorem xw_346 : Cond.fieldLink "ActorTrees" 64 "ActorTrees$Pairs" "size" "I" ∈ xtbl := xmem (xt_1 (List.mem_of_getElem? (i := 60) rfl)) rfl
set_option maxRecDepth 100000 in
theorem xw_347 : Cond.methodLink "ActorTrees" 134 yX3_firstAt ∈ xtbl := xmem (xt_2 (List.mem_of_getElem? (i := 114) rfl)) rfl
set_option maxRecDepth 100000 in
theorem xw_348 : Cond.methodLink "ActorTrees" 131 yX3_secondAt ∈ xtbl := xmem (xt_2 (List.mem_of_getElem? (i := 106) rfl)) rfl
set_option maxRecDepth 100000 in
theorem xw_349 : Cond.code yJ6_bitCount_0f7a4 prog_11_method_49_code 1 (Option.some FieldType.int) ∈ xtbl := xmem (xt_3 (List.mem_of_getElem? (i := 221) rfl)) rfl
set_option maxRecDepth 100000 in
theorem xw_350 : Cond.initialized "java/lang/Integer" ∈ xtbl := xmem (xt_1 (List.mem_of_getElem? (i := 12) rfl)) rfl
set_option maxRecDepth 100000 in
theorem xw_351 : Cond.methodLink "ActorTrees" 258 yJ6_bitCount_0f7a4 ∈ xtbl := xmem (xt_3 (List.mem_of_getElem? (i := 219) rfl)) rfl
set_option maxRecDepth 100000 in
theorem xw_352 : Cond.static yJ6_bitCount_0f7a4 ∈ xtbl := xmem (xt_3 (List.mem_of_getElem? (i := 220) rfl)) rfl
set_option maxRecDepth 100000 in
theorem xw_353 : Cond.code yX6_mailed prog_8_method_8_code 3 (Option.some FieldType.int) ∈ xtbl := xmem (xt_3 (List.mem_of_getElem? (i := 232) rfl)) rfl
set_option maxRecDepth 100000 in
theorem xw_354 : Cond.methodLink "ActorTrees" 263 yX6_mailed ∈ xtbl := xmem (xt_3 (List.mem_of_getElem? (i := 229) rfl)) rfl
set_option maxRecDepth 100000 in
theorem xw_355 : Cond.instanceMethod yX6_mailed ∈ xtbl := xmem (xt_3 (List.mem_of_getElem? (i := 230) rfl)) rfl
set_option maxRecDepth 100000 in
theorem xw_356 : Cond.selects "ActorTrees$World" yX6_mailed yX6_mailed ∈ xtbl := xmem (xt_3 (List.mem_of_getElem? (i := 231) rfl)) rfl
set_option maxRecDepth 100000 in
theorem xw_357 : Cond.fieldLink "ActorTrees" 106 "ActorTrees$World" "timers" "LActorTrees$Timers;" ∈ xtbl := xmem (xt_1 (List.mem_of_getElem? (i := 157) rfl)) rfl
set_option maxRecDepth 100000 in
theorem xw_358 : Cond.fieldLink "ActorTrees" 141 "ActorTrees$Timers" "size" "I" ∈ xtbl := xmem (xt_1 (List.mem_of_getElem? (i := 39) rfl)) rfl
set_option maxRecDepth 100000 in
theorem xw_359 : Cond.fieldLink "ActorTrees" 180 "ActorTrees$World" "deadLetters" "I" ∈ xtbl := xmem (xt_1 (List.mem_of_getElem? (i := 170) rfl)) rfl
set_option maxRecDepth 100000 in
theorem xw_360 : Cond.fieldLink "ActorTrees" 183 "ActorTrees$World" "clock" "I" ∈ xtbl := xmem (xt_1 (List.mem_of_getElem? (i := 168) rfl)) rfl
set_option maxRecDepth 100000 in
theorem xw_361 : Cond.fieldLink "ActorTrees" 118 "ActorTrees$World" "time" "I" ∈ xtbl := xmem (xt_1 (List.mem_of_getElem? (i := 166) rfl)) rfl
set_option maxRecDepth 100000 in
theorem xw_362 : Cond.fieldLink "ActorTrees" 166 "ActorTrees$World" "dealt" "LActorTrees$Pairs;" ∈ xtbl := xmem (xt_1 (List.mem_of_getElem? (i := 159) rfl)) rfl
set_option maxRecDepth 100000 in
theorem xw_363 : Cond.fieldLink "ActorTrees" 28 "ActorTrees" "tape" "LActorTrees$Tape;" ∈ xtbl := xmem (xt_2 (List.mem_of_getElem? (i := 15) rfl)) rfl
set_option maxRecDepth 100000 in
theorem xw_364 : Cond.fieldLink "ActorTrees" 207 "ActorTrees$Tape" "bytes" "LActorTrees$Numbers;" ∈ xtbl := xmem (xt_1 (List.mem_of_getElem? (i := 215) rfl)) rfl
set_option maxRecDepth 100000 in
theorem xw_365 : Cond.fieldLink "ActorTrees" 93 "ActorTrees$Numbers" "size" "I" ∈ xtbl := xmem (xt_1 (List.mem_of_getElem? (i := 85) rfl)) rfl
set_option maxRecDepth 100000 in
theorem xw_366 : Cond.fieldLink "ActorTrees" 54 "ActorTrees$World" "actors" "[LActorTrees$Actor;" ∈ xtbl := xmem (xt_1 (List.mem_of_getElem? (i := 155) rfl)) rfl
set_option maxRecDepth 100000 in
theorem xw_367 : Cond.fieldLink "ActorTrees" 127 "ActorTrees$Actor" "count" "I" ∈ xtbl := xmem (xt_1 (List.mem_of_getElem? (i := 109) rfl)) rfl
set_option maxRecDepth 100000 in
theorem xw_368 : Cond.methodLink "ActorTrees" 266 yX4_readLine ∈ xtbl := xmem (xt_3 (List.mem_of_getElem? (i := 165) rfl)) rfl
set_option maxRecDepth 100000 in
theorem xw_369 : Cond.fieldLink "ActorTrees" 216 "ActorTrees$Tape" "place" "I" ∈ xtbl := xmem (xt_1 (List.mem_of_getElem? (i := 221) rfl)) rfl
set_option maxRecDepth 100000 in
theorem xw_370 : Cond.fieldLink "ActorTrees" 269 "ActorTrees$Tape" "numbers" "LActorTrees$Numbers;" ∈ xtbl := xmem (xt_1 (List.mem_of_getElem? (i := 217) rfl)) rfl
set_option maxRecDepth 100000 in
theorem xw_371 : Cond.methodLink "ActorTrees" 96 yX2_at ∈ xtbl := xmem (xt_2 (List.mem_of_getElem? (i := 81) rfl)) rfl
set_option maxRecDepth 100000 in
theorem xw_372 : Cond.fieldLink "ActorTrees" 272 "ActorTrees$Tape" "kind" "I" ∈ xtbl := xmem (xt_1 (List.mem_of_getElem? (i := 219) rfl)) rfl
set_option maxRecDepth 100000 in
theorem xw_373 : Cond.methodLink "ActorTrees" 50 yX6_send ∈ xtbl := xmem (xt_2 (List.mem_of_getElem? (i := 69) rfl)) rfl
set_option maxRecDepth 100000 in
theorem xw_374 : Cond.fieldLink "ActorTrees" 228 "ActorTrees$World" "seed" "I" ∈ xtbl := xmem (xt_1 (List.mem_of_getElem? (i := 172) rfl)) rfl
set_option maxRecDepth 100000 in
theorem xw_375 : Cond.constant "ActorTrees" 231 (1103515245) ∈ xtbl := xmem (xt_3 (List.mem_of_getElem? (i := 170) rfl)) rfl
set_option maxRecDepth 100000 in
theorem xw_376 : Cond.code yX7_isSteps prog_1_method_35_code 1 (Option.some FieldType.boolean) ∈ xtbl := xmem (xt_2 (List.mem_of_getElem? (i := 183) rfl)) rfl
set_option maxRecDepth 100000 in
theorem xw_377 : Cond.initialized "ActorTrees" ∈ xtbl := xmem (xt_1 (List.mem_of_getElem? (i := 1) rfl)) rfl
set_option maxRecDepth 100000 in
theorem xw_378 : Cond.methodLink "ActorTrees" 157 yX7_isSteps ∈ xtbl := xmem (xt_2 (List.mem_of_getElem? (i := 181) rfl)) rfl
set_option maxRecDepth 100000 in
theorem xw_379 : Cond.static yX7_isSteps ∈ xtbl := xmem (xt_2 (List.mem_of_getElem? (i := 182) rfl)) rfl
set_option maxRecDepth 100000 in
theorem xw_380 : Cond.code yX6_makeSteps prog_8_method_11_code 3 (Option.some FieldType.int) ∈ xtbl := xmem (xt_2 (List.mem_of_getElem? (i := 187) rfl)) rfl
set_option maxRecDepth 100000 in
theorem xw_381 : Cond.methodLink "ActorTrees" 160 yX6_makeSteps ∈ xtbl := xmem (xt_2 (List.mem_of_getElem? (i := 184) rfl)) rfl
set_option maxRecDepth 100000 in
theorem xw_382 : Cond.instanceMethod yX6_makeSteps ∈ xtbl := xmem (xt_2 (List.mem_of_getElem? (i := 185) rfl)) rfl
set_option maxRecDepth 100000 in
theorem xw_383 : Cond.selects "ActorTrees$World" yX6_makeSteps yX6_makeSteps ∈ xtbl := xmem (xt_2 (List.mem_of_getElem? (i := 186) rfl)) rfl
set_option maxRecDepth 100000 in
theorem xw_384 : Cond.fieldLink "ActorTrees" 163 "ActorTrees$World" "ended" "I" ∈ xtbl := xmem (xt_1 (List.mem_of_getElem? (i := 174) rfl)) rfl
set_option maxRecDepth 100000 in
theorem xw_385 : Cond.methodLink "ActorTrees" 210 yX2_add ∈ xtbl := xmem (xt_3 (List.mem_of_getElem? (i := 129) rfl)) rfl
set_option maxRecDepth 100000 in
theorem xw_386 : Cond.fieldLink "ActorTrees" 186 "ActorTrees$World" "hasFailed" "Z" ∈ xtbl := xmem (xt_1 (List.mem_of_getElem? (i := 175) rfl)) rfl
set_option maxRecDepth 100000 in
theorem xw_387 : Cond.methodLink "ActorTrees" 189 yX6_step ∈ xtbl := xmem (xt_3 (List.mem_of_getElem? (i := 105) rfl)) rfl
set_option maxRecDepth 100000 in
theorem xw_388 : Cond.code yX7_isHandle prog_1_method_36_code 1 (Option.some FieldType.boolean) ∈ xtbl := xmem (xt_3 (List.mem_of_getElem? (i := 181) rfl)) rfl
set_option maxRecDepth 100000 in
theorem xw_389 : Cond.methodLink "ActorTrees" 232 yX7_isHandle ∈ xtbl := xmem (xt_3 (List.mem_of_getElem? (i := 179) rfl)) rfl
set_option maxRecDepth 100000 in
theorem xw_390 : Cond.static yX7_isHandle ∈ xtbl := xmem (xt_3 (List.mem_of_getElem? (i := 180) rfl)) rfl
set_option maxRecDepth 100000 in
theorem xw_391 : Cond.methodLink "ActorTrees" 1 objectInit ∈ xtbl := xmem (xt_1 (List.mem_of_getElem? (i := 18) rfl)) rfl
set_option maxRecDepth 100000 in
theorem xw_392 : Cond.classLink "ActorTrees" 7 "ActorTrees$World" ∈ xtbl := xmem (xt_1 (List.mem_of_getElem? (i := 21) rfl)) rfl
set_option maxRecDepth 100000 in
theorem xw_393 : Cond.instantiable "ActorTrees$World" 13 ∈ xtbl := xmem (xt_1 (List.mem_of_getElem? (i := 22) rfl)) rfl
set_option maxRecDepth 100000 in
theorem xw_394 : Cond.code yX6_init prog_8_method_1_code 2 (Option.none) ∈ xtbl := xmem (xt_1 (List.mem_of_getElem? (i := 25) rfl)) rfl
set_option maxRecDepth 100000 in
theorem xw_395 : Cond.methodLink "ActorTrees" 9 yX6_init ∈ xtbl := xmem (xt_1 (List.mem_of_getElem? (i := 23) rfl)) rfl
set_option maxRecDepth 100000 in
theorem xw_396 : Cond.instanceMethod yX6_init ∈ xtbl := xmem (xt_1 (List.mem_of_getElem? (i := 24) rfl)) rfl
set_option maxRecDepth 100000 in
theorem xw_397 : Cond.fieldLink "ActorTrees" 22 "ActorTrees" "ahead" "LActorTrees$World;" ∈ xtbl := xmem (xt_2 (List.mem_of_getElem? (i := 14) rfl)) rfl
set_option maxRecDepth 100000 in
theorem xw_398 : Cond.classLink "ActorTrees" 25 "ActorTrees$Tape" ∈ xtbl := xmem (xt_1 (List.mem_of_getElem? (i := 206) rfl)) rfl
set_option maxRecDepth 100000 in
theorem xw_399 : Cond.instantiable "ActorTrees$Tape" 4 ∈ xtbl := xmem (xt_1 (List.mem_of_getElem? (i := 207) rfl)) rfl
set_option maxRecDepth 100000 in
theorem xw_400 : Cond.code yX4_init prog_6_method_1_code 1 (Option.none) ∈ xtbl := xmem (xt_1 (List.mem_of_getElem? (i := 210) rfl)) rfl
set_option maxRecDepth 100000 in
theorem xw_401 : Cond.instanceMethod yX4_init ∈ xtbl := xmem (xt_1 (List.mem_of_getElem? (i := 209) rfl)) rfl
set_option maxRecDepth 100000 in
theorem xw_402 : Cond.classLink "ActorTrees" 32 "ActorTrees$Handle" ∈ xtbl := xmem (xt_1 (List.mem_of_getElem? (i := 231) rfl)) rfl
set_option maxRecDepth 100000 in
theorem xw_403 : Cond.instantiable "ActorTrees$Handle" 3 ∈ xtbl := xmem (xt_1 (List.mem_of_getElem? (i := 233) rfl)) rfl
set_option maxRecDepth 100000 in
theorem xw_404 : Cond.initialized "ActorTrees$Handle" ∈ xtbl := xmem (xt_1 (List.mem_of_getElem? (i := 8) rfl)) rfl
set_option maxRecDepth 100000 in
theorem xw_405 : Cond.code yX1_init prog_3_method_1_code 1 (Option.none) ∈ xtbl := xmem (xt_1 (List.mem_of_getElem? (i := 236) rfl)) rfl
set_option maxRecDepth 100000 in
theorem xw_406 : Cond.instanceMethod yX1_init ∈ xtbl := xmem (xt_1 (List.mem_of_getElem? (i := 235) rfl)) rfl
set_option maxRecDepth 100000 in
theorem xw_407 : Cond.fieldLink "ActorTrees" 100 "ActorTrees$Actor" "stash" "LActorTrees$Pairs;" ∈ xtbl := xmem (xt_1 (List.mem_of_getElem? (i := 121) rfl)) rfl
set_option maxRecDepth 100000 in
theorem xw_408 : Cond.fieldLink "ActorTrees" 58 "ActorTrees$Actor" "mailbox" "LActorTrees$Pairs;" ∈ xtbl := xmem (xt_1 (List.mem_of_getElem? (i := 118) rfl)) rfl
set_option maxRecDepth 100000 in
theorem xw_409 : Cond.fieldLink "ActorTrees" 70 "ActorTrees$Actor" "parent" "I" ∈ xtbl := xmem (xt_1 (List.mem_of_getElem? (i := 95) rfl)) rfl
set_option maxRecDepth 100000 in
theorem xw_410 : Cond.fieldLink "ActorTrees" 73 "ActorTrees$Actor" "own" "I" ∈ xtbl := xmem (xt_1 (List.mem_of_getElem? (i := 98) rfl)) rfl
set_option maxRecDepth 100000 in
theorem xw_411 : Cond.fieldLink "ActorTrees" 76 "ActorTrees$Actor" "strategy" "I" ∈ xtbl := xmem (xt_1 (List.mem_of_getElem? (i := 100) rfl)) rfl
set_option maxRecDepth 100000 in
theorem xw_412 : Cond.fieldLink "ActorTrees" 79 "ActorTrees$Actor" "budget" "I" ∈ xtbl := xmem (xt_1 (List.mem_of_getElem? (i := 103) rfl)) rfl
set_option maxRecDepth 100000 in
theorem xw_413 : Cond.fieldLink "ActorTrees" 82 "ActorTrees$Actor" "window" "I" ∈ xtbl := xmem (xt_1 (List.mem_of_getElem? (i := 106) rfl)) rfl
set_option maxRecDepth 100000 in
theorem xw_414 : Cond.fieldLink "ActorTrees" 85 "ActorTrees$Actor" "live" "Z" ∈ xtbl := xmem (xt_1 (List.mem_of_getElem? (i := 113) rfl)) rfl
set_option maxRecDepth 100000 in
theorem xw_415 : Cond.fieldLink "ActorTrees" 89 "ActorTrees$Actor" "stack" "LActorTrees$Numbers;" ∈ xtbl := xmem (xt_1 (List.mem_of_getElem? (i := 115) rfl)) rfl
set_option maxRecDepth 100000 in
theorem xw_416 : Cond.fieldLink "ActorTrees" 103 "ActorTrees$Actor" "watchers" "LActorTrees$Numbers;" ∈ xtbl := xmem (xt_1 (List.mem_of_getElem? (i := 124) rfl)) rfl
set_option maxRecDepth 100000 in
theorem xw_417 : Cond.code yX5_countOf prog_7_method_5_code 4 (Option.some FieldType.int) ∈ xtbl := xmem (xt_2 (List.mem_of_getElem? (i := 88) rfl)) rfl
set_option maxRecDepth 100000 in
theorem xw_418 : Cond.methodLink "ActorTrees" 110 yX5_countOf ∈ xtbl := xmem (xt_2 (List.mem_of_getElem? (i := 85) rfl)) rfl
set_option maxRecDepth 100000 in
theorem xw_419 : Cond.instanceMethod yX5_countOf ∈ xtbl := xmem (xt_2 (List.mem_of_getElem? (i := 86) rfl)) rfl
set_option maxRecDepth 100000 in
theorem xw_420 : Cond.selects "ActorTrees$Timers" yX5_countOf yX5_countOf ∈ xtbl := xmem (xt_2 (List.mem_of_getElem? (i := 87) rfl)) rfl
set_option maxRecDepth 100000 in
theorem xw_421 : Cond.fieldLink "ActorTrees" 115 "ActorTrees$Actor" "notes" "LActorTrees$Numbers;" ∈ xtbl := xmem (xt_1 (List.mem_of_getElem? (i := 127) rfl)) rfl
set_option maxRecDepth 100000 in
theorem xw_422 : Cond.code yX2_countFrom prog_4_method_8_code 4 (Option.some FieldType.int) ∈ xtbl := xmem (xt_2 (List.mem_of_getElem? (i := 92) rfl)) rfl
set_option maxRecDepth 100000 in
theorem xw_423 : Cond.methodLink "ActorTrees" 121 yX2_countFrom ∈ xtbl := xmem (xt_2 (List.mem_of_getElem? (i := 89) rfl)) rfl
set_option maxRecDepth 100000 in
theorem xw_424 : Cond.instanceMethod yX2_countFrom ∈ xtbl := xmem (xt_2 (List.mem_of_getElem? (i := 90) rfl)) rfl
set_option maxRecDepth 100000 in
theorem xw_425 : Cond.selects "ActorTrees$Numbers" yX2_countFrom yX2_countFrom ∈ xtbl := xmem (xt_2 (List.mem_of_getElem? (i := 91) rfl)) rfl
set_option maxRecDepth 100000 in
theorem xw_426 : Cond.code yX6_childBits prog_8_method_6_code 4 (Option.some FieldType.int) ∈ xtbl := xmem (xt_2 (List.mem_of_getElem? (i := 96) rfl)) rfl
set_option maxRecDepth 100000 in
theorem xw_427 : Cond.methodLink "ActorTrees" 124 yX6_childBits ∈ xtbl := xmem (xt_2 (List.mem_of_getElem? (i := 93) rfl)) rfl
set_option maxRecDepth 100000 in
theorem xw_428 : Cond.instanceMethod yX6_childBits ∈ xtbl := xmem (xt_2 (List.mem_of_getElem? (i := 94) rfl)) rfl
set_option maxRecDepth 100000 in
theorem xw_429 : Cond.selects "ActorTrees$World" yX6_childBits yX6_childBits ∈ xtbl := xmem (xt_2 (List.mem_of_getElem? (i := 95) rfl)) rfl
set_option maxRecDepth 100000 in
theorem xw_430 : Cond.fieldLink "ActorTrees" 238 "ActorTrees$Handle" "items" "LActorTrees$Numbers;" ∈ xtbl := xmem (xt_2 (List.mem_of_getElem? (i := 1) rfl)) rfl
set_option maxRecDepth 100000 in
theorem xw_431 : Cond.code yX7_firstOtherwise prog_1_method_39_code 7 (Option.some FieldType.int) ∈ xtbl := xmem (xt_3 (List.mem_of_getElem? (i := 185) rfl)) rfl
set_option maxRecDepth 100000 in
theorem xw_432 : Cond.methodLink "ActorTrees" 241 yX7_firstOtherwise ∈ xtbl := xmem (xt_3 (List.mem_of_getElem? (i := 182) rfl)) rfl
set_option maxRecDepth 100000 in
theorem xw_433 : Cond.instanceMethod yX7_firstOtherwise ∈ xtbl := xmem (xt_3 (List.mem_of_getElem? (i := 184) rfl)) rfl
theorem xw_434 : Cond.selects "ActorTrees" yX7_firstOtherwise yX7_firstOtherwise ∈ xtbl := List.mem_append_left _ (List.mem_of_getElem? (i := 17) rfl)
set_option maxRecDepth 100000 in
theorem xw_435 : Cond.code yX2_change prog_4_method_3_code 3 (Option.none) ∈ xtbl := xmem (xt_3 (List.mem_of_getElem? (i := 213) rfl)) rfl
set_option maxRecDepth 100000 in
theorem xw_436 : Cond.methodLink "ActorTrees" 254 yX2_change ∈ xtbl := xmem (xt_3 (List.mem_of_getElem? (i := 210) rfl)) rfl
set_option maxRecDepth 100000 in
theorem xw_437 : Cond.instanceMethod yX2_change ∈ xtbl := xmem (xt_3 (List.mem_of_getElem? (i := 211) rfl)) rfl
set_option maxRecDepth 100000 in
theorem xw_438 : Cond.selects "ActorTrees$Numbers" yX2_change yX2_change ∈ xtbl := xmem (xt_3 (List.mem_of_getElem? (i := 212) rfl)) rfl
set_option maxRecDepth 100000 in
theorem xw_439 : Cond.methodLink "ActorTrees" 193 yX6_hasStep ∈ xtbl := xmem (xt_3 (List.mem_of_getElem? (i := 110) rfl)) rfl
set_option maxRecDepth 100000 in
theorem xw_440 : Cond.code yX2_fillWithZeros prog_4_method_9_code 3 (Option.none) ∈ xtbl := xmem (xt_3 (List.mem_of_getElem? (i := 205) rfl)) rfl
set_option maxRecDepth 100000 in
theorem xw_441 : Cond.methodLink "ActorTrees" 250 yX2_fillWithZeros ∈ xtbl := xmem (xt_3 (List.mem_of_getElem? (i := 202) rfl)) rfl
set_option maxRecDepth 100000 in
theorem xw_442 : Cond.instanceMethod yX2_fillWithZeros ∈ xtbl := xmem (xt_3 (List.mem_of_getElem? (i := 203) rfl)) rfl
set_option maxRecDepth 100000 in
theorem xw_443 : Cond.selects "ActorTrees$Numbers" yX2_fillWithZeros yX2_fillWithZeros ∈ xtbl := xmem (xt_3 (List.mem_of_getElem? (i := 204) rfl)) rfl
set_option maxRecDepth 100000 in
theorem xw_444 : Cond.code yX4_faultOfForm prog_6_method_3_code 2 (Option.some FieldType.int) ∈ xtbl := xmem (xt_3 (List.mem_of_getElem? (i := 137) rfl)) rfl
set_option maxRecDepth 100000 in
theorem xw_445 : Cond.methodLink "ActorTrees" 213 yX4_faultOfForm ∈ xtbl := xmem (xt_3 (List.mem_of_getElem? (i := 134) rfl)) rfl
set_option maxRecDepth 100000 in
theorem xw_446 : Cond.instanceMethod yX4_faultOfForm ∈ xtbl := xmem (xt_3 (List.mem_of_getElem? (i := 135) rfl)) rfl
set_option maxRecDepth 100000 in
theorem xw_447 : Cond.selects "ActorTrees$Tape" yX4_faultOfForm yX4_faultOfForm ∈ xtbl := xmem (xt_3 (List.mem_of_getElem? (i := 136) rfl)) rfl
set_option maxRecDepth 100000 in
theorem xw_448 : Cond.methodLink "ActorTrees" 219 yX4_isRead ∈ xtbl := xmem (xt_3 (List.mem_of_getElem? (i := 160) rfl)) rfl
set_option maxRecDepth 100000 in
theorem xw_449 : Cond.code yX7_doLineButSteps prog_1_method_38_code 4 (Option.some FieldType.int) ∈ xtbl := xmem (xt_3 (List.mem_of_getElem? (i := 164) rfl)) rfl
set_option maxRecDepth 100000 in
theorem xw_450 : Cond.methodLink "ActorTrees" 222 yX7_doLineButSteps ∈ xtbl := xmem (xt_3 (List.mem_of_getElem? (i := 161) rfl)) rfl
set_option maxRecDepth 100000 in
theorem xw_451 : Cond.instanceMethod yX7_doLineButSteps ∈ xtbl := xmem (xt_3 (List.mem_of_getElem? (i := 163) rfl)) rfl
theorem xw_452 : Cond.selects "ActorTrees" yX7_doLineButSteps yX7_doLineButSteps ∈ xtbl := List.mem_append_left _ (List.mem_of_getElem? (i := 16) rfl)
set_option maxRecDepth 100000 in
theorem xw_453 : Cond.code yX7_itemOf prog_1_method_37_code 2 (Option.some FieldType.int) ∈ xtbl := xmem (xt_2 (List.mem_of_getElem? (i := 124) rfl)) rfl
set_option maxRecDepth 100000 in
theorem xw_454 : Cond.methodLink "ActorTrees" 137 yX7_itemOf ∈ xtbl := xmem (xt_2 (List.mem_of_getElem? (i := 122) rfl)) rfl
set_option maxRecDepth 100000 in
theorem xw_455 : Cond.static yX7_itemOf ∈ xtbl := xmem (xt_2 (List.mem_of_getElem? (i := 123) rfl)) rfl
set_option maxRecDepth 100000 in
theorem xw_456 : Cond.methodLink "ActorTrees" 154 yX6_halt ∈ xtbl := xmem (xt_2 (List.mem_of_getElem? (i := 150) rfl)) rfl
set_option maxRecDepth 100000 in
theorem xw_457 : Cond.code yX7_isNumber prog_1_method_34_code 1 (Option.some FieldType.boolean) ∈ xtbl := xmem (xt_2 (List.mem_of_getElem? (i := 68) rfl)) rfl
set_option maxRecDepth 100000 in
theorem xw_458 : Cond.methodLink "ActorTrees" 47 yX7_isNumber ∈ xtbl := xmem (xt_2 (List.mem_of_getElem? (i := 66) rfl)) rfl
set_option maxRecDepth 100000 in
theorem xw_459 : Cond.static yX7_isNumber ∈ xtbl := xmem (xt_2 (List.mem_of_getElem? (i := 67) rfl)) rfl
set_option maxRecDepth 100000 in
theorem xw_460 : Cond.constant "ActorTrees" 257 (-2000000012) ∈ xtbl := xmem (xt_3 (List.mem_of_getElem? (i := 218) rfl)) rfl
set_option maxRecDepth 100000 in
theorem xw_461 : Cond.methodLink "ActorTrees" 142 yX5_ownerAt ∈ xtbl := xmem (xt_2 (List.mem_of_getElem? (i := 133) rfl)) rfl
set_option maxRecDepth 100000 in
theorem xw_462 : Cond.methodLink "ActorTrees" 145 yX5_dueAt ∈ xtbl := xmem (xt_2 (List.mem_of_getElem? (i := 137) rfl)) rfl
set_option maxRecDepth 100000 in
theorem xw_463 : Cond.methodLink "ActorTrees" 148 yX5_numberAt ∈ xtbl := xmem (xt_2 (List.mem_of_getElem? (i := 141) rfl)) rfl
set_option maxRecDepth 100000 in
theorem xw_464 : Cond.methodLink "ActorTrees" 196 yX6_deal ∈ xtbl := xmem (xt_3 (List.mem_of_getElem? (i := 115) rfl)) rfl
set_option maxRecDepth 100000 in
theorem xw_465 : Cond.code yX8_canBe prog_10_method_35_code 4 (Option.some FieldType.int) ∈ xtbl := xmem (xt_4 (List.mem_of_getElem? (i := 75) rfl)) rfl
set_option maxRecDepth 100000 in
theorem xw_466 : Cond.initialized "ActorTreesModel" ∈ xtbl := xmem (xt_1 (List.mem_of_getElem? (i := 9) rfl)) rfl
set_option maxRecDepth 100000 in
theorem xw_467 : Cond.methodLink "ActorTreesModel" 173 yX8_canBe ∈ xtbl := xmem (xt_4 (List.mem_of_getElem? (i := 72) rfl)) rfl
set_option maxRecDepth 100000 in
theorem xw_468 : Cond.instanceMethod yX8_canBe ∈ xtbl := xmem (xt_4 (List.mem_of_getElem? (i := 74) rfl)) rfl
theorem xw_469 : Cond.selects "ActorTreesModel" yX8_canBe yX8_canBe ∈ xtbl := List.mem_append_left _ (List.mem_of_getElem? (i := 18) rfl)
set_option maxRecDepth 100000 in
theorem xw_470 : Cond.fieldLink "ActorTreesModel" 9 "ActorTreesModel" "g" "[I" ∈ xtbl := xmem (xt_4 (List.mem_of_getElem? (i := 1) rfl)) rfl
set_option maxRecDepth 100000 in
theorem xw_471 : Cond.code yX8_sets prog_10_method_5_code 4 (Option.none) ∈ xtbl := xmem (xt_4 (List.mem_of_getElem? (i := 97) rfl)) rfl
set_option maxRecDepth 100000 in
theorem xw_472 : Cond.methodLink "ActorTreesModel" 63 yX8_sets ∈ xtbl := xmem (xt_4 (List.mem_of_getElem? (i := 94) rfl)) rfl
set_option maxRecDepth 100000 in
theorem xw_473 : Cond.instanceMethod yX8_sets ∈ xtbl := xmem (xt_4 (List.mem_of_getElem? (i := 96) rfl)) rfl
theorem xw_474 : Cond.selects "ActorTreesModel" yX8_sets yX8_sets ∈ xtbl := List.mem_append_left _ (List.mem_of_getElem? (i := 22) rfl)
set_option maxRecDepth 100000 in
theorem xw_475 : Cond.fieldLink "ActorTreesModel" 248 "ActorTreesModel" "isKept" "Z" ∈ xtbl := xmem (xt_4 (List.mem_of_getElem? (i := 5) rfl)) rfl
set_option maxRecDepth 100000 in
theorem xw_476 : Cond.fieldLink "ActorTreesModel" 19 "ActorTreesModel" "kept" "[I" ∈ xtbl := xmem (xt_4 (List.mem_of_getElem? (i := 4) rfl)) rfl
set_option maxRecDepth 100000 in
theorem xw_477 : Cond.code yX8_take prog_10_method_3_code 3 (Option.none) ∈ xtbl := xmem (xt_5 (List.mem_of_getElem? (i := 42) rfl)) rfl
set_option maxRecDepth 100000 in
theorem xw_478 : Cond.methodLink "ActorTreesModel" 200 yX8_take ∈ xtbl := xmem (xt_5 (List.mem_of_getElem? (i := 40) rfl)) rfl
set_option maxRecDepth 100000 in
theorem xw_479 : Cond.static yX8_take ∈ xtbl := xmem (xt_5 (List.mem_of_getElem? (i := 41) rfl)) rfl
set_option maxRecDepth 100000 in
theorem xw_480 : Cond.fieldLink "ActorTreesModel" 28 "ActorTreesModel" "held" "[I" ∈ xtbl := xmem (xt_4 (List.mem_of_getElem? (i := 13) rfl)) rfl
set_option maxRecDepth 100000 in
theorem xw_481 : Cond.fieldLink "ActorTreesModel" 31 "ActorTreesModel" "heldActor" "[I" ∈ xtbl := xmem (xt_4 (List.mem_of_getElem? (i := 14) rfl)) rfl
set_option maxRecDepth 100000 in
theorem xw_482 : Cond.code yX8_isActor prog_10_method_6_code 2 (Option.some FieldType.boolean) ∈ xtbl := xmem (xt_4 (List.mem_of_getElem? (i := 79) rfl)) rfl
set_option maxRecDepth 100000 in
theorem xw_483 : Cond.methodLink "ActorTreesModel" 167 yX8_isActor ∈ xtbl := xmem (xt_4 (List.mem_of_getElem? (i := 76) rfl)) rfl
set_option maxRecDepth 100000 in
theorem xw_484 : Cond.instanceMethod yX8_isActor ∈ xtbl := xmem (xt_4 (List.mem_of_getElem? (i := 78) rfl)) rfl
theorem xw_485 : Cond.selects "ActorTreesModel" yX8_isActor yX8_isActor ∈ xtbl := List.mem_append_left _ (List.mem_of_getElem? (i := 19) rfl)
set_option maxRecDepth 100000 in
theorem xw_486 : Cond.code yX8_in prog_10_method_2_code 3 (Option.some FieldType.boolean) ∈ xtbl := xmem (xt_4 (List.mem_of_getElem? (i := 82) rfl)) rfl
set_option maxRecDepth 100000 in
theorem xw_487 : Cond.methodLink "ActorTreesModel" 51 yX8_in ∈ xtbl := xmem (xt_4 (List.mem_of_getElem? (i := 80) rfl)) rfl
set_option maxRecDepth 100000 in
theorem xw_488 : Cond.static yX8_in ∈ xtbl := xmem (xt_4 (List.mem_of_getElem? (i := 81) rfl)) rfl
set_option maxRecDepth 100000 in
theorem xw_489 : Cond.code yX8_isLive prog_10_method_7_code 2 (Option.some FieldType.boolean) ∈ xtbl := xmem (xt_4 (List.mem_of_getElem? (i := 89) rfl)) rfl
set_option maxRecDepth 100000 in
theorem xw_490 : Cond.methodLink "ActorTreesModel" 59 yX8_isLive ∈ xtbl := xmem (xt_4 (List.mem_of_getElem? (i := 86) rfl)) rfl
set_option maxRecDepth 100000 in
theorem xw_491 : Cond.instanceMethod yX8_isLive ∈ xtbl := xmem (xt_4 (List.mem_of_getElem? (i := 88) rfl)) rfl
theorem xw_492 : Cond.selects "ActorTreesModel" yX8_isLive yX8_isLive ∈ xtbl := List.mem_append_left _ (List.mem_of_getElem? (i := 20) rfl)
set_option maxRecDepth 100000 in
theorem xw_493 : Cond.constant "ActorTreesModel" 186 (-2000000000) ∈ xtbl := xmem (xt_4 (List.mem_of_getElem? (i := 133) rfl)) rfl
set_option maxRecDepth 100000 in
theorem xw_494 : Cond.fieldLink "ActorTreesModel" 13 "ActorTreesModel" "saved" "[I" ∈ xtbl := xmem (xt_4 (List.mem_of_getElem? (i := 2) rfl)) rfl
set_option maxRecDepth 100000 in
theorem xw_495 : Cond.code yX8_liveOnes prog_10_method_49_code 3 (Option.some FieldType.int) ∈ xtbl := xmem (xt_4 (List.mem_of_getElem? (i := 165) rfl)) rfl
set_option maxRecDepth 100000 in
theorem xw_496 : Cond.methodLink "ActorTreesModel" 191 yX8_liveOnes ∈ xtbl := xmem (xt_4 (List.mem_of_getElem? (i := 162) rfl)) rfl
set_option maxRecDepth 100000 in
theorem xw_497 : Cond.instanceMethod yX8_liveOnes ∈ xtbl := xmem (xt_4 (List.mem_of_getElem? (i := 164) rfl)) rfl
theorem xw_498 : Cond.selects "ActorTreesModel" yX8_liveOnes yX8_liveOnes ∈ xtbl := List.mem_append_left _ (List.mem_of_getElem? (i := 29) rfl)
set_option maxRecDepth 100000 in
theorem xw_499 : Cond.fieldLink "ActorTreesModel" 90 "ActorTreesModel" "restarted" "I" ∈ xtbl := xmem (xt_4 (List.mem_of_getElem? (i := 7) rfl)) rfl
set_option maxRecDepth 100000 in
theorem xw_500 : Cond.code yX8_fails prog_10_method_18_code 9 (Option.none) ∈ xtbl := xmem (xt_4 (List.mem_of_getElem? (i := 227) rfl)) rfl
set_option maxRecDepth 100000 in
theorem xw_501 : Cond.methodLink "ActorTreesModel" 111 yX8_fails ∈ xtbl := xmem (xt_4 (List.mem_of_getElem? (i := 224) rfl)) rfl
set_option maxRecDepth 100000 in
theorem xw_502 : Cond.instanceMethod yX8_fails ∈ xtbl := xmem (xt_4 (List.mem_of_getElem? (i := 226) rfl)) rfl
theorem xw_503 : Cond.selects "ActorTreesModel" yX8_fails yX8_fails ∈ xtbl := List.mem_append_left _ (List.mem_of_getElem? (i := 42) rfl)
set_option maxRecDepth 100000 in
theorem xw_504 : Cond.code yX8_isRule prog_10_method_34_code 1 (Option.some FieldType.boolean) ∈ xtbl := xmem (xt_4 (List.mem_of_getElem? (i := 85) rfl)) rfl
set_option maxRecDepth 100000 in
theorem xw_505 : Cond.methodLink "ActorTreesModel" 170 yX8_isRule ∈ xtbl := xmem (xt_4 (List.mem_of_getElem? (i := 83) rfl)) rfl
set_option maxRecDepth 100000 in
theorem xw_506 : Cond.static yX8_isRule ∈ xtbl := xmem (xt_4 (List.mem_of_getElem? (i := 84) rfl)) rfl
set_option maxRecDepth 100000 in
theorem xw_507 : Cond.code yX8_at prog_10_method_4_code 3 (Option.some FieldType.int) ∈ xtbl := xmem (xt_4 (List.mem_of_getElem? (i := 93) rfl)) rfl
set_option maxRecDepth 100000 in
theorem xw_508 : Cond.methodLink "ActorTreesModel" 55 yX8_at ∈ xtbl := xmem (xt_4 (List.mem_of_getElem? (i := 90) rfl)) rfl
set_option maxRecDepth 100000 in
theorem xw_509 : Cond.instanceMethod yX8_at ∈ xtbl := xmem (xt_4 (List.mem_of_getElem? (i := 92) rfl)) rfl
theorem xw_510 : Cond.selects "ActorTreesModel" yX8_at yX8_at ∈ xtbl := List.mem_append_left _ (List.mem_of_getElem? (i := 21) rfl)
set_option maxRecDepth 100000 in
theorem xw_511 : Cond.code yX8_bits prog_10_method_50_code 3 (Option.some FieldType.int) ∈ xtbl := xmem (xt_4 (List.mem_of_getElem? (i := 168) rfl)) rfl
set_option maxRecDepth 100000 in
theorem xw_512 : Cond.methodLink "ActorTreesModel" 194 yX8_bits ∈ xtbl := xmem (xt_4 (List.mem_of_getElem? (i := 166) rfl)) rfl
set_option maxRecDepth 100000 in
theorem xw_513 : Cond.static yX8_bits ∈ xtbl := xmem (xt_4 (List.mem_of_getElem? (i := 167) rfl)) rfl
set_option maxRecDepth 100000 in
theorem xw_514 : Cond.fieldLink "ActorTreesModel" 207 "ActorTreesModel" "tapeMany" "I" ∈ xtbl := xmem (xt_4 (List.mem_of_getElem? (i := 12) rfl)) rfl
set_option maxRecDepth 100000 in
theorem xw_515 : Cond.code yX8_doing prog_10_method_24_code 2 (Option.some FieldType.int) ∈ xtbl := xmem (xt_4 (List.mem_of_getElem? (i := 116) rfl)) rfl
set_option maxRecDepth 100000 in
theorem xw_516 : Cond.methodLink "ActorTreesModel" 115 yX8_doing ∈ xtbl := xmem (xt_4 (List.mem_of_getElem? (i := 113) rfl)) rfl
set_option maxRecDepth 100000 in
theorem xw_517 : Cond.instanceMethod yX8_doing ∈ xtbl := xmem (xt_4 (List.mem_of_getElem? (i := 115) rfl)) rfl
theorem xw_518 : Cond.selects "ActorTreesModel" yX8_doing yX8_doing ∈ xtbl := List.mem_append_left _ (List.mem_of_getElem? (i := 24) rfl)
set_option maxRecDepth 100000 in
theorem xw_519 : Cond.code yX8_pass prog_10_method_19_code 5 (Option.none) ∈ xtbl := xmem (xt_5 (List.mem_of_getElem? (i := 3) rfl)) rfl
set_option maxRecDepth 100000 in
theorem xw_520 : Cond.methodLink "ActorTreesModel" 119 yX8_pass ∈ xtbl := xmem (xt_5 (List.mem_of_getElem? (i := 0) rfl)) rfl
set_option maxRecDepth 100000 in
theorem xw_521 : Cond.instanceMethod yX8_pass ∈ xtbl := xmem (xt_5 (List.mem_of_getElem? (i := 2) rfl)) rfl
theorem xw_522 : Cond.selects "ActorTreesModel" yX8_pass yX8_pass ∈ xtbl := List.mem_append_left _ (List.mem_of_getElem? (i := 46) rfl)
set_option maxRecDepth 100000 in
theorem xw_523 : Cond.code yX8_sends prog_10_method_9_code 5 (Option.some FieldType.boolean) ∈ xtbl := xmem (xt_4 (List.mem_of_getElem? (i := 108) rfl)) rfl
set_option maxRecDepth 100000 in
theorem xw_524 : Cond.methodLink "ActorTreesModel" 84 yX8_sends ∈ xtbl := xmem (xt_4 (List.mem_of_getElem? (i := 105) rfl)) rfl
set_option maxRecDepth 100000 in
theorem xw_525 : Cond.instanceMethod yX8_sends ∈ xtbl := xmem (xt_4 (List.mem_of_getElem? (i := 107) rfl)) rfl
theorem xw_526 : Cond.selects "ActorTreesModel" yX8_sends yX8_sends ∈ xtbl := List.mem_append_left _ (List.mem_of_getElem? (i := 23) rfl)
set_option maxRecDepth 100000 in
theorem xw_527 : Cond.code yX8_holds prog_10_method_20_code 5 (Option.none) ∈ xtbl := xmem (xt_5 (List.mem_of_getElem? (i := 7) rfl)) rfl
set_option maxRecDepth 100000 in
theorem xw_528 : Cond.methodLink "ActorTreesModel" 123 yX8_holds ∈ xtbl := xmem (xt_5 (List.mem_of_getElem? (i := 4) rfl)) rfl
set_option maxRecDepth 100000 in
theorem xw_529 : Cond.instanceMethod yX8_holds ∈ xtbl := xmem (xt_5 (List.mem_of_getElem? (i := 6) rfl)) rfl
theorem xw_530 : Cond.selects "ActorTreesModel" yX8_holds yX8_holds ∈ xtbl := List.mem_append_left _ (List.mem_of_getElem? (i := 47) rfl)
set_option maxRecDepth 100000 in
theorem xw_531 : Cond.code yX8_switches prog_10_method_21_code 4 (Option.none) ∈ xtbl := xmem (xt_5 (List.mem_of_getElem? (i := 11) rfl)) rfl
set_option maxRecDepth 100000 in
theorem xw_532 : Cond.methodLink "ActorTreesModel" 126 yX8_switches ∈ xtbl := xmem (xt_5 (List.mem_of_getElem? (i := 8) rfl)) rfl
set_option maxRecDepth 100000 in
theorem xw_533 : Cond.instanceMethod yX8_switches ∈ xtbl := xmem (xt_5 (List.mem_of_getElem? (i := 10) rfl)) rfl
theorem xw_534 : Cond.selects "ActorTreesModel" yX8_switches yX8_switches ∈ xtbl := List.mem_append_left _ (List.mem_of_getElem? (i := 48) rfl)
set_option maxRecDepth 100000 in
theorem xw_535 : Cond.code yX8_delays prog_10_method_22_code 4 (Option.none) ∈ xtbl := xmem (xt_5 (List.mem_of_getElem? (i := 15) rfl)) rfl
set_option maxRecDepth 100000 in
theorem xw_536 : Cond.methodLink "ActorTreesModel" 129 yX8_delays ∈ xtbl := xmem (xt_5 (List.mem_of_getElem? (i := 12) rfl)) rfl
set_option maxRecDepth 100000 in
theorem xw_537 : Cond.instanceMethod yX8_delays ∈ xtbl := xmem (xt_5 (List.mem_of_getElem? (i := 14) rfl)) rfl
theorem xw_538 : Cond.selects "ActorTreesModel" yX8_delays yX8_delays ∈ xtbl := List.mem_append_left _ (List.mem_of_getElem? (i := 49) rfl)
set_option maxRecDepth 100000 in
theorem xw_539 : Cond.code yX8_watches prog_10_method_23_code 6 (Option.none) ∈ xtbl := xmem (xt_5 (List.mem_of_getElem? (i := 19) rfl)) rfl
set_option maxRecDepth 100000 in
theorem xw_540 : Cond.methodLink "ActorTreesModel" 132 yX8_watches ∈ xtbl := xmem (xt_5 (List.mem_of_getElem? (i := 16) rfl)) rfl
set_option maxRecDepth 100000 in
theorem xw_541 : Cond.instanceMethod yX8_watches ∈ xtbl := xmem (xt_5 (List.mem_of_getElem? (i := 18) rfl)) rfl
theorem xw_542 : Cond.selects "ActorTreesModel" yX8_watches yX8_watches ∈ xtbl := List.mem_append_left _ (List.mem_of_getElem? (i := 50) rfl)
set_option maxRecDepth 100000 in
theorem xw_543 : Cond.code yX8_stops prog_10_method_14_code 4 (Option.none) ∈ xtbl := xmem (xt_4 (List.mem_of_getElem? (i := 172) rfl)) rfl
set_option maxRecDepth 100000 in
theorem xw_544 : Cond.methodLink "ActorTreesModel" 71 yX8_stops ∈ xtbl := xmem (xt_4 (List.mem_of_getElem? (i := 169) rfl)) rfl
set_option maxRecDepth 100000 in
theorem xw_545 : Cond.instanceMethod yX8_stops ∈ xtbl := xmem (xt_4 (List.mem_of_getElem? (i := 171) rfl)) rfl
theorem xw_546 : Cond.selects "ActorTreesModel" yX8_stops yX8_stops ∈ xtbl := List.mem_append_left _ (List.mem_of_getElem? (i := 30) rfl)
set_option maxRecDepth 100000 in
theorem xw_547 : Cond.fieldLink "ActorTreesModel" 48 "ActorTreesModel" "told" "[I" ∈ xtbl := xmem (xt_4 (List.mem_of_getElem? (i := 22) rfl)) rfl
set_option maxRecDepth 100000 in
theorem xw_548 : Cond.code yX8_actor prog_10_method_36_code 7 (Option.some FieldType.int) ∈ xtbl := xmem (xt_4 (List.mem_of_getElem? (i := 71) rfl)) rfl
set_option maxRecDepth 100000 in
theorem xw_549 : Cond.methodLink "ActorTreesModel" 229 yX8_actor ∈ xtbl := xmem (xt_5 (List.mem_of_getElem? (i := 99) rfl)) rfl
set_option maxRecDepth 100000 in
theorem xw_550 : Cond.instanceMethod yX8_actor ∈ xtbl := xmem (xt_4 (List.mem_of_getElem? (i := 69) rfl)) rfl
set_option maxRecDepth 100000 in
theorem xw_551 : Cond.selects "ActorTreesModel" yX8_actor yX8_actor ∈ xtbl := xmem (xt_4 (List.mem_of_getElem? (i := 70) rfl)) rfl
set_option maxRecDepth 100000 in
theorem xw_552 : Cond.code yX8_run prog_10_method_52_code 3 (Option.some FieldType.int) ∈ xtbl := xmem (xt_4 (List.mem_of_getElem? (i := 192) rfl)) rfl
set_option maxRecDepth 100000 in
theorem xw_553 : Cond.methodLink "ActorTreesModel" 232 yX8_run ∈ xtbl := xmem (xt_5 (List.mem_of_getElem? (i := 100) rfl)) rfl
set_option maxRecDepth 100000 in
theorem xw_554 : Cond.instanceMethod yX8_run ∈ xtbl := xmem (xt_4 (List.mem_of_getElem? (i := 190) rfl)) rfl
set_option maxRecDepth 100000 in
theorem xw_555 : Cond.selects "ActorTreesModel" yX8_run yX8_run ∈ xtbl := xmem (xt_4 (List.mem_of_getElem? (i := 191) rfl)) rfl
set_option maxRecDepth 100000 in
theorem xw_556 : Cond.constant "ActorTreesModel" 241 (1103515245) ∈ xtbl := xmem (xt_5 (List.mem_of_getElem? (i := 105) rfl)) rfl
set_option maxRecDepth 100000 in
theorem xw_557 : Cond.code yX8_runs prog_10_method_33_code 3 (Option.some FieldType.int) ∈ xtbl := xmem (xt_4 (List.mem_of_getElem? (i := 196) rfl)) rfl
set_option maxRecDepth 100000 in
theorem xw_558 : Cond.methodLink "ActorTreesModel" 197 yX8_runs ∈ xtbl := xmem (xt_4 (List.mem_of_getElem? (i := 193) rfl)) rfl
set_option maxRecDepth 100000 in
theorem xw_559 : Cond.instanceMethod yX8_runs ∈ xtbl := xmem (xt_4 (List.mem_of_getElem? (i := 195) rfl)) rfl
theorem xw_560 : Cond.selects "ActorTreesModel" yX8_runs yX8_runs ∈ xtbl := List.mem_append_left _ (List.mem_of_getElem? (i := 35) rfl)
set_option maxRecDepth 100000 in
theorem xw_561 : Cond.fieldLink "ActorTreesModel" 158 "ActorTreesModel" "how" "I" ∈ xtbl := xmem (xt_4 (List.mem_of_getElem? (i := 19) rfl)) rfl
set_option maxRecDepth 100000 in
theorem xw_562 : Cond.fieldLink "ActorTreesModel" 98 "ActorTreesModel" "hasFailed" "Z" ∈ xtbl := xmem (xt_4 (List.mem_of_getElem? (i := 6) rfl)) rfl
set_option maxRecDepth 100000 in
theorem xw_563 : Cond.fieldLink "ActorTreesModel" 102 "ActorTreesModel" "chained" "I" ∈ xtbl := xmem (xt_4 (List.mem_of_getElem? (i := 10) rfl)) rfl
set_option maxRecDepth 100000 in
theorem xw_564 : Cond.fieldLink "ActorTreesModel" 22 "ActorTreesModel" "chain" "[I" ∈ xtbl := xmem (xt_4 (List.mem_of_getElem? (i := 9) rfl)) rfl
set_option maxRecDepth 100000 in
theorem xw_565 : Cond.code yX8_isOverBudget prog_10_method_17_code 3 (Option.some FieldType.boolean) ∈ xtbl := xmem (xt_4 (List.mem_of_getElem? (i := 231) rfl)) rfl
set_option maxRecDepth 100000 in
theorem xw_566 : Cond.methodLink "ActorTreesModel" 105 yX8_isOverBudget ∈ xtbl := xmem (xt_4 (List.mem_of_getElem? (i := 228) rfl)) rfl
set_option maxRecDepth 100000 in
theorem xw_567 : Cond.instanceMethod yX8_isOverBudget ∈ xtbl := xmem (xt_4 (List.mem_of_getElem? (i := 230) rfl)) rfl
theorem xw_568 : Cond.selects "ActorTreesModel" yX8_isOverBudget yX8_isOverBudget ∈ xtbl := List.mem_append_left _ (List.mem_of_getElem? (i := 43) rfl)
set_option maxRecDepth 100000 in
theorem xw_569 : Cond.code yX8_isLiveChild prog_10_method_8_code 3 (Option.some FieldType.boolean) ∈ xtbl := xmem (xt_4 (List.mem_of_getElem? (i := 180) rfl)) rfl
set_option maxRecDepth 100000 in
theorem xw_570 : Cond.methodLink "ActorTreesModel" 67 yX8_isLiveChild ∈ xtbl := xmem (xt_4 (List.mem_of_getElem? (i := 177) rfl)) rfl
set_option maxRecDepth 100000 in
theorem xw_571 : Cond.instanceMethod yX8_isLiveChild ∈ xtbl := xmem (xt_4 (List.mem_of_getElem? (i := 179) rfl)) rfl
theorem xw_572 : Cond.selects "ActorTreesModel" yX8_isLiveChild yX8_isLiveChild ∈ xtbl := List.mem_append_left _ (List.mem_of_getElem? (i := 32) rfl)
set_option maxRecDepth 100000 in
theorem xw_573 : Cond.code yX8_restarts prog_10_method_15_code 2 (Option.none) ∈ xtbl := xmem (xt_4 (List.mem_of_getElem? (i := 235) rfl)) rfl
set_option maxRecDepth 100000 in
theorem xw_574 : Cond.methodLink "ActorTreesModel" 108 yX8_restarts ∈ xtbl := xmem (xt_4 (List.mem_of_getElem? (i := 232) rfl)) rfl
set_option maxRecDepth 100000 in
theorem xw_575 : Cond.instanceMethod yX8_restarts ∈ xtbl := xmem (xt_4 (List.mem_of_getElem? (i := 234) rfl)) rfl
theorem xw_576 : Cond.selects "ActorTreesModel" yX8_restarts yX8_restarts ∈ xtbl := List.mem_append_left _ (List.mem_of_getElem? (i := 44) rfl)
set_option maxRecDepth 100000 in
theorem xw_577 : Cond.fieldLink "ActorTreesModel" 25 "ActorTreesModel" "tape" "[I" ∈ xtbl := xmem (xt_4 (List.mem_of_getElem? (i := 11) rfl)) rfl
set_option maxRecDepth 100000 in
theorem xw_578 : Cond.code yX8_isEnd prog_10_method_32_code 3 (Option.some FieldType.boolean) ∈ xtbl := xmem (xt_4 (List.mem_of_getElem? (i := 200) rfl)) rfl
set_option maxRecDepth 100000 in
theorem xw_579 : Cond.methodLink "ActorTreesModel" 161 yX8_isEnd ∈ xtbl := xmem (xt_4 (List.mem_of_getElem? (i := 197) rfl)) rfl
set_option maxRecDepth 100000 in
theorem xw_580 : Cond.instanceMethod yX8_isEnd ∈ xtbl := xmem (xt_4 (List.mem_of_getElem? (i := 199) rfl)) rfl
theorem xw_581 : Cond.selects "ActorTreesModel" yX8_isEnd yX8_isEnd ∈ xtbl := List.mem_append_left _ (List.mem_of_getElem? (i := 36) rfl)
set_option maxRecDepth 100000 in
theorem xw_582 : Cond.code yX8_step prog_10_method_31_code 6 (Option.none) ∈ xtbl := xmem (xt_4 (List.mem_of_getElem? (i := 212) rfl)) rfl
set_option maxRecDepth 100000 in
theorem xw_583 : Cond.methodLink "ActorTreesModel" 164 yX8_step ∈ xtbl := xmem (xt_4 (List.mem_of_getElem? (i := 209) rfl)) rfl
set_option maxRecDepth 100000 in
theorem xw_584 : Cond.instanceMethod yX8_step ∈ xtbl := xmem (xt_4 (List.mem_of_getElem? (i := 211) rfl)) rfl
theorem xw_585 : Cond.selects "ActorTreesModel" yX8_step yX8_step ∈ xtbl := List.mem_append_left _ (List.mem_of_getElem? (i := 39) rfl)
set_option maxRecDepth 100000 in
theorem xw_586 : Cond.code yX8_nextActor prog_10_method_26_code 3 (Option.some FieldType.int) ∈ xtbl := xmem (xt_4 (List.mem_of_getElem? (i := 208) rfl)) rfl
set_option maxRecDepth 100000 in
theorem xw_587 : Cond.methodLink "ActorTreesModel" 135 yX8_nextActor ∈ xtbl := xmem (xt_4 (List.mem_of_getElem? (i := 205) rfl)) rfl
set_option maxRecDepth 100000 in
theorem xw_588 : Cond.instanceMethod yX8_nextActor ∈ xtbl := xmem (xt_4 (List.mem_of_getElem? (i := 207) rfl)) rfl
theorem xw_589 : Cond.selects "ActorTreesModel" yX8_nextActor yX8_nextActor ∈ xtbl := List.mem_append_left _ (List.mem_of_getElem? (i := 38) rfl)
set_option maxRecDepth 100000 in
theorem xw_590 : Cond.code yX8_isHandle prog_10_method_74_code 2 (Option.some FieldType.boolean) ∈ xtbl := xmem (xt_5 (List.mem_of_getElem? (i := 117) rfl)) rfl
set_option maxRecDepth 100000 in
theorem xw_591 : Cond.methodLink "ActorTreesModel" 242 yX8_isHandle ∈ xtbl := xmem (xt_5 (List.mem_of_getElem? (i := 114) rfl)) rfl
set_option maxRecDepth 100000 in
theorem xw_592 : Cond.instanceMethod yX8_isHandle ∈ xtbl := xmem (xt_5 (List.mem_of_getElem? (i := 116) rfl)) rfl
theorem xw_593 : Cond.selects "ActorTreesModel" yX8_isHandle yX8_isHandle ∈ xtbl := List.mem_append_left _ (List.mem_of_getElem? (i := 59) rfl)
set_option maxRecDepth 100000 in
theorem xw_594 : Cond.code yX8_comesBack prog_10_method_10_code 6 (Option.none) ∈ xtbl := xmem (xt_4 (List.mem_of_getElem? (i := 239) rfl)) rfl
set_option maxRecDepth 100000 in
theorem xw_595 : Cond.methodLink "ActorTreesModel" 87 yX8_comesBack ∈ xtbl := xmem (xt_4 (List.mem_of_getElem? (i := 236) rfl)) rfl
set_option maxRecDepth 100000 in
theorem xw_596 : Cond.instanceMethod yX8_comesBack ∈ xtbl := xmem (xt_4 (List.mem_of_getElem? (i := 238) rfl)) rfl
theorem xw_597 : Cond.selects "ActorTreesModel" yX8_comesBack yX8_comesBack ∈ xtbl := List.mem_append_left _ (List.mem_of_getElem? (i := 45) rfl)
set_option maxRecDepth 100000 in
theorem xw_598 : Cond.methodLink "ActorTreesModel" 3 objectInit ∈ xtbl := xmem (xt_3 (List.mem_of_getElem? (i := 238) rfl)) rfl
set_option maxRecDepth 100000 in
theorem xw_599 : Cond.fieldLink "ActorTreesModel" 16 "ActorTreesModel" "whole" "[I" ∈ xtbl := xmem (xt_4 (List.mem_of_getElem? (i := 3) rfl)) rfl
set_option maxRecDepth 100000 in
theorem xw_600 : Cond.fieldLink "ActorTreesModel" 34 "ActorTreesModel" "rowSize" "[I" ∈ xtbl := xmem (xt_4 (List.mem_of_getElem? (i := 15) rfl)) rfl
set_option maxRecDepth 100000 in
theorem xw_601 : Cond.classLink "ActorTreesModel" 37 "[[I" ∈ xtbl := xmem (xt_3 (List.mem_of_getElem? (i := 239) rfl)) rfl
set_option maxRecDepth 100000 in
theorem xw_602 : Cond.fieldLink "ActorTreesModel" 39 "ActorTreesModel" "rows" "[[I" ∈ xtbl := xmem (xt_4 (List.mem_of_getElem? (i := 16) rfl)) rfl
set_option maxRecDepth 100000 in
theorem xw_603 : Cond.fieldLink "ActorTreesModel" 42 "ActorTreesModel" "queue" "[I" ∈ xtbl := xmem (xt_4 (List.mem_of_getElem? (i := 17) rfl)) rfl
set_option maxRecDepth 100000 in
theorem xw_604 : Cond.fieldLink "ActorTreesModel" 45 "ActorTreesModel" "ways" "[I" ∈ xtbl := xmem (xt_4 (List.mem_of_getElem? (i := 18) rfl)) rfl
set_option maxRecDepth 100000 in
theorem xw_605 : Cond.code yX8_hasStep prog_10_method_28_code 1 (Option.some FieldType.boolean) ∈ xtbl := xmem (xt_4 (List.mem_of_getElem? (i := 204) rfl)) rfl
set_option maxRecDepth 100000 in
theorem xw_606 : Cond.methodLink "ActorTreesModel" 154 yX8_hasStep ∈ xtbl := xmem (xt_4 (List.mem_of_getElem? (i := 201) rfl)) rfl
set_option maxRecDepth 100000 in
theorem xw_607 : Cond.instanceMethod yX8_hasStep ∈ xtbl := xmem (xt_4 (List.mem_of_getElem? (i := 203) rfl)) rfl
theorem xw_608 : Cond.selects "ActorTreesModel" yX8_hasStep yX8_hasStep ∈ xtbl := List.mem_append_left _ (List.mem_of_getElem? (i := 37) rfl)
set_option maxRecDepth 100000 in
theorem xw_609 : Cond.fieldLink "ActorTreesModel" 213 "ActorTreesModel" "spot" "I" ∈ xtbl := xmem (xt_4 (List.mem_of_getElem? (i := 20) rfl)) rfl
set_option maxRecDepth 100000 in
theorem xw_610 : Cond.fieldLink "ActorTreesModel" 210 "ActorTreesModel" "fault" "I" ∈ xtbl := xmem (xt_4 (List.mem_of_getElem? (i := 21) rfl)) rfl
set_option maxRecDepth 100000 in
theorem xw_611 : Cond.code yX8_line prog_10_method_67_code 4 (Option.some FieldType.int) ∈ xtbl := xmem (xt_5 (List.mem_of_getElem? (i := 82) rfl)) rfl
set_option maxRecDepth 100000 in
theorem xw_612 : Cond.methodLink "ActorTreesModel" 226 yX8_line ∈ xtbl := xmem (xt_5 (List.mem_of_getElem? (i := 79) rfl)) rfl
set_option maxRecDepth 100000 in
theorem xw_613 : Cond.instanceMethod yX8_line ∈ xtbl := xmem (xt_5 (List.mem_of_getElem? (i := 81) rfl)) rfl
theorem xw_614 : Cond.selects "ActorTreesModel" yX8_line yX8_line ∈ xtbl := List.mem_append_left _ (List.mem_of_getElem? (i := 54) rfl)
set_option maxRecDepth 100000 in
theorem xw_615 : Cond.code yX8_must prog_10_method_65_code 3 (Option.some FieldType.int) ∈ xtbl := xmem (xt_5 (List.mem_of_getElem? (i := 90) rfl)) rfl
set_option maxRecDepth 100000 in
theorem xw_616 : Cond.methodLink "ActorTreesModel" 219 yX8_must ∈ xtbl := xmem (xt_5 (List.mem_of_getElem? (i := 87) rfl)) rfl
set_option maxRecDepth 100000 in
theorem xw_617 : Cond.instanceMethod yX8_must ∈ xtbl := xmem (xt_5 (List.mem_of_getElem? (i := 89) rfl)) rfl
theorem xw_618 : Cond.selects "ActorTreesModel" yX8_must yX8_must ∈ xtbl := List.mem_append_left _ (List.mem_of_getElem? (i := 56) rfl)
set_option maxRecDepth 100000 in
theorem xw_619 : Cond.code yX8_noted prog_10_method_16_code 7 (Option.some FieldType.int) ∈ xtbl := xmem (xt_4 (List.mem_of_getElem? (i := 124) rfl)) rfl
set_option maxRecDepth 100000 in
theorem xw_620 : Cond.methodLink "ActorTreesModel" 94 yX8_noted ∈ xtbl := xmem (xt_4 (List.mem_of_getElem? (i := 121) rfl)) rfl
set_option maxRecDepth 100000 in
theorem xw_621 : Cond.instanceMethod yX8_noted ∈ xtbl := xmem (xt_4 (List.mem_of_getElem? (i := 123) rfl)) rfl
theorem xw_622 : Cond.selects "ActorTreesModel" yX8_noted yX8_noted ∈ xtbl := List.mem_append_left _ (List.mem_of_getElem? (i := 26) rfl)
set_option maxRecDepth 100000 in
theorem xw_623 : Cond.code yX8_sees prog_10_method_64_code 3 (Option.some FieldType.boolean) ∈ xtbl := xmem (xt_5 (List.mem_of_getElem? (i := 86) rfl)) rfl
set_option maxRecDepth 100000 in
theorem xw_624 : Cond.methodLink "ActorTreesModel" 216 yX8_sees ∈ xtbl := xmem (xt_5 (List.mem_of_getElem? (i := 83) rfl)) rfl
set_option maxRecDepth 100000 in
theorem xw_625 : Cond.instanceMethod yX8_sees ∈ xtbl := xmem (xt_5 (List.mem_of_getElem? (i := 85) rfl)) rfl
theorem xw_626 : Cond.selects "ActorTreesModel" yX8_sees yX8_sees ∈ xtbl := List.mem_append_left _ (List.mem_of_getElem? (i := 55) rfl)
set_option maxRecDepth 100000 in
theorem xw_627 : Cond.code yX8_number prog_10_method_66_code 4 (Option.some FieldType.int) ∈ xtbl := xmem (xt_5 (List.mem_of_getElem? (i := 94) rfl)) rfl
set_option maxRecDepth 100000 in
theorem xw_628 : Cond.methodLink "ActorTreesModel" 222 yX8_number ∈ xtbl := xmem (xt_5 (List.mem_of_getElem? (i := 91) rfl)) rfl
set_option maxRecDepth 100000 in
theorem xw_629 : Cond.instanceMethod yX8_number ∈ xtbl := xmem (xt_5 (List.mem_of_getElem? (i := 93) rfl)) rfl
theorem xw_630 : Cond.selects "ActorTreesModel" yX8_number yX8_number ∈ xtbl := List.mem_append_left _ (List.mem_of_getElem? (i := 57) rfl)
set_option maxRecDepth 100000 in
theorem xw_631 : Cond.code yX8_toldAs prog_10_method_29_code 1 (Option.some FieldType.int) ∈ xtbl := xmem (xt_4 (List.mem_of_getElem? (i := 219) rfl)) rfl
set_option maxRecDepth 100000 in
theorem xw_632 : Cond.methodLink "ActorTreesModel" 139 yX8_toldAs ∈ xtbl := xmem (xt_4 (List.mem_of_getElem? (i := 217) rfl)) rfl
set_option maxRecDepth 100000 in
theorem xw_633 : Cond.static yX8_toldAs ∈ xtbl := xmem (xt_4 (List.mem_of_getElem? (i := 218) rfl)) rfl
set_option maxRecDepth 100000 in
theorem xw_634 : Cond.fieldLink "ActorTreesModel" 142 "ActorTreesModel" "dealt" "I" ∈ xtbl := xmem (xt_4 (List.mem_of_getElem? (i := 8) rfl)) rfl
set_option maxRecDepth 100000 in
theorem xw_635 : Cond.code yX8_messageAt prog_10_method_43_code 4 (Option.some FieldType.int) ∈ xtbl := xmem (xt_4 (List.mem_of_getElem? (i := 141) rfl)) rfl
set_option maxRecDepth 100000 in
theorem xw_636 : Cond.methodLink "ActorTreesModel" 187 yX8_messageAt ∈ xtbl := xmem (xt_4 (List.mem_of_getElem? (i := 138) rfl)) rfl
set_option maxRecDepth 100000 in
theorem xw_637 : Cond.instanceMethod yX8_messageAt ∈ xtbl := xmem (xt_4 (List.mem_of_getElem? (i := 140) rfl)) rfl
theorem xw_638 : Cond.selects "ActorTreesModel" yX8_messageAt yX8_messageAt ∈ xtbl := List.mem_append_left _ (List.mem_of_getElem? (i := 28) rfl)
set_option maxRecDepth 100000 in
theorem xw_639 : Cond.code yX8_timersOf prog_10_method_39_code 4 (Option.some FieldType.int) ∈ xtbl := xmem (xt_4 (List.mem_of_getElem? (i := 120) rfl)) rfl
set_option maxRecDepth 100000 in
theorem xw_640 : Cond.methodLink "ActorTreesModel" 180 yX8_timersOf ∈ xtbl := xmem (xt_4 (List.mem_of_getElem? (i := 117) rfl)) rfl
set_option maxRecDepth 100000 in
theorem xw_641 : Cond.instanceMethod yX8_timersOf ∈ xtbl := xmem (xt_4 (List.mem_of_getElem? (i := 119) rfl)) rfl
theorem xw_642 : Cond.selects "ActorTreesModel" yX8_timersOf yX8_timersOf ∈ xtbl := List.mem_append_left _ (List.mem_of_getElem? (i := 25) rfl)
set_option maxRecDepth 100000 in
theorem xw_643 : Cond.code yX8_childrenOf prog_10_method_40_code 4 (Option.some FieldType.int) ∈ xtbl := xmem (xt_4 (List.mem_of_getElem? (i := 128) rfl)) rfl
set_option maxRecDepth 100000 in
theorem xw_644 : Cond.methodLink "ActorTreesModel" 183 yX8_childrenOf ∈ xtbl := xmem (xt_4 (List.mem_of_getElem? (i := 125) rfl)) rfl
set_option maxRecDepth 100000 in
theorem xw_645 : Cond.instanceMethod yX8_childrenOf ∈ xtbl := xmem (xt_4 (List.mem_of_getElem? (i := 127) rfl)) rfl
theorem xw_646 : Cond.selects "ActorTreesModel" yX8_childrenOf yX8_childrenOf ∈ xtbl := List.mem_append_left _ (List.mem_of_getElem? (i := 27) rfl)
set_option maxRecDepth 100000 in
theorem xw_647 : Cond.code yX8_ordered prog_10_method_73_code 5 (Option.some FieldType.int) ∈ xtbl := xmem (xt_5 (List.mem_of_getElem? (i := 121) rfl)) rfl
set_option maxRecDepth 100000 in
theorem xw_648 : Cond.methodLink "ActorTreesModel" 245 yX8_ordered ∈ xtbl := xmem (xt_5 (List.mem_of_getElem? (i := 118) rfl)) rfl
set_option maxRecDepth 100000 in
theorem xw_649 : Cond.instanceMethod yX8_ordered ∈ xtbl := xmem (xt_5 (List.mem_of_getElem? (i := 120) rfl)) rfl
theorem xw_650 : Cond.selects "ActorTreesModel" yX8_ordered yX8_ordered ∈ xtbl := List.mem_append_left _ (List.mem_of_getElem? (i := 60) rfl)
set_option maxRecDepth 100000 in
theorem xw_651 : Cond.code yX8_isNext prog_10_method_61_code 3 (Option.some FieldType.boolean) ∈ xtbl := xmem (xt_5 (List.mem_of_getElem? (i := 66) rfl)) rfl
set_option maxRecDepth 100000 in
theorem xw_652 : Cond.methodLink "ActorTreesModel" 204 yX8_isNext ∈ xtbl := xmem (xt_5 (List.mem_of_getElem? (i := 63) rfl)) rfl
set_option maxRecDepth 100000 in
theorem xw_653 : Cond.instanceMethod yX8_isNext ∈ xtbl := xmem (xt_5 (List.mem_of_getElem? (i := 65) rfl)) rfl
theorem xw_654 : Cond.selects "ActorTreesModel" yX8_isNext yX8_isNext ∈ xtbl := List.mem_append_left _ (List.mem_of_getElem? (i := 52) rfl)
set_option maxRecDepth 100000 in
theorem xw_655 : Cond.code yX8_stopsChildren prog_10_method_13_code 3 (Option.none) ∈ xtbl := xmem (xt_4 (List.mem_of_getElem? (i := 176) rfl)) rfl
set_option maxRecDepth 100000 in
theorem xw_656 : Cond.methodLink "ActorTreesModel" 75 yX8_stopsChildren ∈ xtbl := xmem (xt_4 (List.mem_of_getElem? (i := 173) rfl)) rfl
set_option maxRecDepth 100000 in
theorem xw_657 : Cond.instanceMethod yX8_stopsChildren ∈ xtbl := xmem (xt_4 (List.mem_of_getElem? (i := 175) rfl)) rfl
theorem xw_658 : Cond.selects "ActorTreesModel" yX8_stopsChildren yX8_stopsChildren ∈ xtbl := List.mem_append_left _ (List.mem_of_getElem? (i := 31) rfl)
set_option maxRecDepth 100000 in
theorem xw_659 : Cond.code yX8_forgets prog_10_method_11_code 5 (Option.none) ∈ xtbl := xmem (xt_4 (List.mem_of_getElem? (i := 184) rfl)) rfl
set_option maxRecDepth 100000 in
theorem xw_660 : Cond.methodLink "ActorTreesModel" 78 yX8_forgets ∈ xtbl := xmem (xt_4 (List.mem_of_getElem? (i := 181) rfl)) rfl
set_option maxRecDepth 100000 in
theorem xw_661 : Cond.instanceMethod yX8_forgets ∈ xtbl := xmem (xt_4 (List.mem_of_getElem? (i := 183) rfl)) rfl
theorem xw_662 : Cond.selects "ActorTreesModel" yX8_forgets yX8_forgets ∈ xtbl := List.mem_append_left _ (List.mem_of_getElem? (i := 33) rfl)
set_option maxRecDepth 100000 in
theorem xw_663 : Cond.code yX8_isForm prog_10_method_68_code 1 (Option.some FieldType.boolean) ∈ xtbl := xmem (xt_5 (List.mem_of_getElem? (i := 78) rfl)) rfl
set_option maxRecDepth 100000 in
theorem xw_664 : Cond.methodLink "ActorTreesModel" 235 yX8_isForm ∈ xtbl := xmem (xt_5 (List.mem_of_getElem? (i := 75) rfl)) rfl
set_option maxRecDepth 100000 in
theorem xw_665 : Cond.instanceMethod yX8_isForm ∈ xtbl := xmem (xt_5 (List.mem_of_getElem? (i := 77) rfl)) rfl
theorem xw_666 : Cond.selects "ActorTreesModel" yX8_isForm yX8_isForm ∈ xtbl := List.mem_append_left _ (List.mem_of_getElem? (i := 53) rfl)
set_option maxRecDepth 100000 in
theorem xw_667 : Cond.code yX8_does prog_10_method_69_code 4 (Option.some FieldType.boolean) ∈ xtbl := xmem (xt_5 (List.mem_of_getElem? (i := 98) rfl)) rfl
set_option maxRecDepth 100000 in
theorem xw_668 : Cond.methodLink "ActorTreesModel" 238 yX8_does ∈ xtbl := xmem (xt_5 (List.mem_of_getElem? (i := 95) rfl)) rfl
set_option maxRecDepth 100000 in
theorem xw_669 : Cond.instanceMethod yX8_does ∈ xtbl := xmem (xt_5 (List.mem_of_getElem? (i := 97) rfl)) rfl
theorem xw_670 : Cond.selects "ActorTreesModel" yX8_does yX8_does ∈ xtbl := List.mem_append_left _ (List.mem_of_getElem? (i := 58) rfl)
set_option maxRecDepth 100000 in
theorem xw_671 : Cond.code yX8_logs prog_10_method_30_code 4 (Option.none) ∈ xtbl := xmem (xt_4 (List.mem_of_getElem? (i := 216) rfl)) rfl
set_option maxRecDepth 100000 in
theorem xw_672 : Cond.methodLink "ActorTreesModel" 145 yX8_logs ∈ xtbl := xmem (xt_4 (List.mem_of_getElem? (i := 213) rfl)) rfl
set_option maxRecDepth 100000 in
theorem xw_673 : Cond.instanceMethod yX8_logs ∈ xtbl := xmem (xt_4 (List.mem_of_getElem? (i := 215) rfl)) rfl
theorem xw_674 : Cond.selects "ActorTreesModel" yX8_logs yX8_logs ∈ xtbl := List.mem_append_left _ (List.mem_of_getElem? (i := 40) rfl)
set_option maxRecDepth 100000 in
theorem xw_675 : Cond.code yX8_deals prog_10_method_25_code 5 (Option.none) ∈ xtbl := xmem (xt_4 (List.mem_of_getElem? (i := 223) rfl)) rfl
set_option maxRecDepth 100000 in
theorem xw_676 : Cond.methodLink "ActorTreesModel" 148 yX8_deals ∈ xtbl := xmem (xt_4 (List.mem_of_getElem? (i := 220) rfl)) rfl
set_option maxRecDepth 100000 in
theorem xw_677 : Cond.instanceMethod yX8_deals ∈ xtbl := xmem (xt_4 (List.mem_of_getElem? (i := 222) rfl)) rfl
theorem xw_678 : Cond.selects "ActorTreesModel" yX8_deals yX8_deals ∈ xtbl := List.mem_append_left _ (List.mem_of_getElem? (i := 41) rfl)
set_option maxRecDepth 100000 in
theorem xw_679 : Cond.code yX8_firstTimer prog_10_method_27_code 3 (Option.some FieldType.int) ∈ xtbl := xmem (xt_5 (List.mem_of_getElem? (i := 23) rfl)) rfl
set_option maxRecDepth 100000 in
theorem xw_680 : Cond.methodLink "ActorTreesModel" 151 yX8_firstTimer ∈ xtbl := xmem (xt_5 (List.mem_of_getElem? (i := 20) rfl)) rfl
set_option maxRecDepth 100000 in
theorem xw_681 : Cond.instanceMethod yX8_firstTimer ∈ xtbl := xmem (xt_5 (List.mem_of_getElem? (i := 22) rfl)) rfl
theorem xw_682 : Cond.selects "ActorTreesModel" yX8_firstTimer yX8_firstTimer ∈ xtbl := List.mem_append_left _ (List.mem_of_getElem? (i := 51) rfl)
set_option maxRecDepth 100000 in
theorem xw_683 : Cond.code yX8_unwatches prog_10_method_12_code 6 (Option.none) ∈ xtbl := xmem (xt_4 (List.mem_of_getElem? (i := 188) rfl)) rfl
set_option maxRecDepth 100000 in
theorem xw_684 : Cond.methodLink "ActorTreesModel" 81 yX8_unwatches ∈ xtbl := xmem (xt_4 (List.mem_of_getElem? (i := 185) rfl)) rfl
set_option maxRecDepth 100000 in
theorem xw_685 : Cond.instanceMethod yX8_unwatches ∈ xtbl := xmem (xt_4 (List.mem_of_getElem? (i := 187) rfl)) rfl
theorem xw_686 : Cond.selects "ActorTreesModel" yX8_unwatches yX8_unwatches ∈ xtbl := List.mem_append_left _ (List.mem_of_getElem? (i := 34) rfl)
set_option maxRecDepth 100000 in
theorem xw_687 : Cond.code yX8_isNumber prog_10_method_37_code 1 (Option.some FieldType.boolean) ∈ xtbl := xmem (xt_4 (List.mem_of_getElem? (i := 104) rfl)) rfl
set_option maxRecDepth 100000 in
theorem xw_688 : Cond.methodLink "ActorTreesModel" 177 yX8_isNumber ∈ xtbl := xmem (xt_4 (List.mem_of_getElem? (i := 102) rfl)) rfl
set_option maxRecDepth 100000 in
theorem xw_689 : Cond.static yX8_isNumber ∈ xtbl := xmem (xt_4 (List.mem_of_getElem? (i := 103) rfl)) rfl
set_option maxRecDepth 100000 in
theorem xw_690 : Cond.constant "ActorTreesModel" 251 (-2000000012) ∈ xtbl := xmem (xt_5 (List.mem_of_getElem? (i := 146) rfl)) rfl
set_option maxRecDepth 100000 in
theorem xw_691 : Cond.constant "java/lang/Integer" 265 (1431655765) ∈ xtbl := xmem (xt_3 (List.mem_of_getElem? (i := 222) rfl)) rfl
set_option maxRecDepth 100000 in
theorem xw_692 : Cond.constant "java/lang/Integer" 266 (858993459) ∈ xtbl := xmem (xt_3 (List.mem_of_getElem? (i := 223) rfl)) rfl
set_option maxRecDepth 100000 in
theorem xw_693 : Cond.constant "java/lang/Integer" 267 (252645135) ∈ xtbl := xmem (xt_3 (List.mem_of_getElem? (i := 224) rfl)) rfl
set_option maxRecDepth 100000 in
theorem xw_694 : Cond.classLink "ActorTreesLaw" 7 "ActorTrees" ∈ xtbl := xmem (xt_1 (List.mem_of_getElem? (i := 13) rfl)) rfl
set_option maxRecDepth 100000 in
theorem xw_695 : Cond.instantiable "ActorTrees" 7 ∈ xtbl := xmem (xt_1 (List.mem_of_getElem? (i := 14) rfl)) rfl
set_option maxRecDepth 100000 in
theorem xw_696 : Cond.code yX7_init prog_1_method_1_code 2 (Option.none) ∈ xtbl := xmem (xt_1 (List.mem_of_getElem? (i := 17) rfl)) rfl
set_option maxRecDepth 100000 in
theorem xw_697 : Cond.methodLink "ActorTreesLaw" 9 yX7_init ∈ xtbl := xmem (xt_1 (List.mem_of_getElem? (i := 15) rfl)) rfl
set_option maxRecDepth 100000 in
theorem xw_698 : Cond.instanceMethod yX7_init ∈ xtbl := xmem (xt_1 (List.mem_of_getElem? (i := 16) rfl)) rfl
set_option maxRecDepth 100000 in
theorem xw_699 : Cond.classLink "ActorTreesLaw" 10 "ActorTreesModel" ∈ xtbl := xmem (xt_3 (List.mem_of_getElem? (i := 233) rfl)) rfl
set_option maxRecDepth 100000 in
theorem xw_700 : Cond.instantiable "ActorTreesModel" 22 ∈ xtbl := xmem (xt_3 (List.mem_of_getElem? (i := 234) rfl)) rfl
set_option maxRecDepth 100000 in
theorem xw_701 : Cond.code yX8_init prog_10_method_1_code 1 (Option.none) ∈ xtbl := xmem (xt_3 (List.mem_of_getElem? (i := 237) rfl)) rfl
set_option maxRecDepth 100000 in
theorem xw_702 : Cond.methodLink "ActorTreesLaw" 12 yX8_init ∈ xtbl := xmem (xt_3 (List.mem_of_getElem? (i := 235) rfl)) rfl
set_option maxRecDepth 100000 in
theorem xw_703 : Cond.instanceMethod yX8_init ∈ xtbl := xmem (xt_3 (List.mem_of_getElem? (i := 236) rfl)) rfl
set_option maxRecDepth 100000 in
theorem xw_704 : Cond.code yX7_actor prog_1_method_2_code 4 (Option.some FieldType.int) ∈ xtbl := xmem (xt_2 (List.mem_of_getElem? (i := 36) rfl)) rfl
set_option maxRecDepth 100000 in
theorem xw_705 : Cond.methodLink "ActorTreesLaw" 13 yX7_actor ∈ xtbl := xmem (xt_2 (List.mem_of_getElem? (i := 33) rfl)) rfl
set_option maxRecDepth 100000 in
theorem xw_706 : Cond.instanceMethod yX7_actor ∈ xtbl := xmem (xt_2 (List.mem_of_getElem? (i := 34) rfl)) rfl
set_option maxRecDepth 100000 in
theorem xw_707 : Cond.selects "ActorTrees" yX7_actor yX7_actor ∈ xtbl := xmem (xt_2 (List.mem_of_getElem? (i := 35) rfl)) rfl
set_option maxRecDepth 100000 in
theorem xw_708 : Cond.methodLink "ActorTreesLaw" 17 yX8_actor ∈ xtbl := xmem (xt_4 (List.mem_of_getElem? (i := 68) rfl)) rfl
set_option maxRecDepth 100000 in
theorem xw_709 : Cond.code yX7_tell prog_1_method_3_code 4 (Option.some FieldType.int) ∈ xtbl := xmem (xt_2 (List.mem_of_getElem? (i := 64) rfl)) rfl
set_option maxRecDepth 100000 in
theorem xw_710 : Cond.methodLink "ActorTreesLaw" 18 yX7_tell ∈ xtbl := xmem (xt_2 (List.mem_of_getElem? (i := 61) rfl)) rfl
set_option maxRecDepth 100000 in
theorem xw_711 : Cond.instanceMethod yX7_tell ∈ xtbl := xmem (xt_2 (List.mem_of_getElem? (i := 62) rfl)) rfl
set_option maxRecDepth 100000 in
theorem xw_712 : Cond.selects "ActorTrees" yX7_tell yX7_tell ∈ xtbl := xmem (xt_2 (List.mem_of_getElem? (i := 63) rfl)) rfl
set_option maxRecDepth 100000 in
theorem xw_713 : Cond.code yX8_tell prog_10_method_38_code 4 (Option.some FieldType.int) ∈ xtbl := xmem (xt_4 (List.mem_of_getElem? (i := 101) rfl)) rfl
set_option maxRecDepth 100000 in
theorem xw_714 : Cond.methodLink "ActorTreesLaw" 21 yX8_tell ∈ xtbl := xmem (xt_4 (List.mem_of_getElem? (i := 98) rfl)) rfl
set_option maxRecDepth 100000 in
theorem xw_715 : Cond.instanceMethod yX8_tell ∈ xtbl := xmem (xt_4 (List.mem_of_getElem? (i := 99) rfl)) rfl
set_option maxRecDepth 100000 in
theorem xw_716 : Cond.selects "ActorTreesModel" yX8_tell yX8_tell ∈ xtbl := xmem (xt_4 (List.mem_of_getElem? (i := 100) rfl)) rfl
set_option maxRecDepth 100000 in
theorem xw_717 : Cond.code yX7_of prog_1_method_4_code 4 (Option.some FieldType.int) ∈ xtbl := xmem (xt_2 (List.mem_of_getElem? (i := 80) rfl)) rfl
set_option maxRecDepth 100000 in
theorem xw_718 : Cond.methodLink "ActorTreesLaw" 22 yX7_of ∈ xtbl := xmem (xt_2 (List.mem_of_getElem? (i := 77) rfl)) rfl
set_option maxRecDepth 100000 in
theorem xw_719 : Cond.instanceMethod yX7_of ∈ xtbl := xmem (xt_2 (List.mem_of_getElem? (i := 78) rfl)) rfl
set_option maxRecDepth 100000 in
theorem xw_720 : Cond.selects "ActorTrees" yX7_of yX7_of ∈ xtbl := xmem (xt_2 (List.mem_of_getElem? (i := 79) rfl)) rfl
set_option maxRecDepth 100000 in
theorem xw_721 : Cond.code yX8_of prog_10_method_41_code 3 (Option.some FieldType.int) ∈ xtbl := xmem (xt_4 (List.mem_of_getElem? (i := 112) rfl)) rfl
set_option maxRecDepth 100000 in
theorem xw_722 : Cond.methodLink "ActorTreesLaw" 26 yX8_of ∈ xtbl := xmem (xt_4 (List.mem_of_getElem? (i := 109) rfl)) rfl
set_option maxRecDepth 100000 in
theorem xw_723 : Cond.instanceMethod yX8_of ∈ xtbl := xmem (xt_4 (List.mem_of_getElem? (i := 110) rfl)) rfl
set_option maxRecDepth 100000 in
theorem xw_724 : Cond.selects "ActorTreesModel" yX8_of yX8_of ∈ xtbl := xmem (xt_4 (List.mem_of_getElem? (i := 111) rfl)) rfl
set_option maxRecDepth 100000 in
theorem xw_725 : Cond.code yX7_counted prog_1_method_5_code 2 (Option.some FieldType.int) ∈ xtbl := xmem (xt_2 (List.mem_of_getElem? (i := 100) rfl)) rfl
set_option maxRecDepth 100000 in
theorem xw_726 : Cond.methodLink "ActorTreesLaw" 27 yX7_counted ∈ xtbl := xmem (xt_2 (List.mem_of_getElem? (i := 97) rfl)) rfl
set_option maxRecDepth 100000 in
theorem xw_727 : Cond.instanceMethod yX7_counted ∈ xtbl := xmem (xt_2 (List.mem_of_getElem? (i := 98) rfl)) rfl
set_option maxRecDepth 100000 in
theorem xw_728 : Cond.selects "ActorTrees" yX7_counted yX7_counted ∈ xtbl := xmem (xt_2 (List.mem_of_getElem? (i := 99) rfl)) rfl
set_option maxRecDepth 100000 in
theorem xw_729 : Cond.code yX8_counted prog_10_method_42_code 2 (Option.some FieldType.int) ∈ xtbl := xmem (xt_4 (List.mem_of_getElem? (i := 132) rfl)) rfl
set_option maxRecDepth 100000 in
theorem xw_730 : Cond.methodLink "ActorTreesLaw" 31 yX8_counted ∈ xtbl := xmem (xt_4 (List.mem_of_getElem? (i := 129) rfl)) rfl
set_option maxRecDepth 100000 in
theorem xw_731 : Cond.instanceMethod yX8_counted ∈ xtbl := xmem (xt_4 (List.mem_of_getElem? (i := 130) rfl)) rfl
set_option maxRecDepth 100000 in
theorem xw_732 : Cond.selects "ActorTreesModel" yX8_counted yX8_counted ∈ xtbl := xmem (xt_4 (List.mem_of_getElem? (i := 131) rfl)) rfl
set_option maxRecDepth 100000 in
theorem xw_733 : Cond.code yX7_message prog_1_method_6_code 5 (Option.some FieldType.int) ∈ xtbl := xmem (xt_2 (List.mem_of_getElem? (i := 105) rfl)) rfl
set_option maxRecDepth 100000 in
theorem xw_734 : Cond.methodLink "ActorTreesLaw" 32 yX7_message ∈ xtbl := xmem (xt_2 (List.mem_of_getElem? (i := 102) rfl)) rfl
set_option maxRecDepth 100000 in
theorem xw_735 : Cond.instanceMethod yX7_message ∈ xtbl := xmem (xt_2 (List.mem_of_getElem? (i := 103) rfl)) rfl
set_option maxRecDepth 100000 in
theorem xw_736 : Cond.selects "ActorTrees" yX7_message yX7_message ∈ xtbl := xmem (xt_2 (List.mem_of_getElem? (i := 104) rfl)) rfl
set_option maxRecDepth 100000 in
theorem xw_737 : Cond.code yX8_message prog_10_method_44_code 6 (Option.some FieldType.int) ∈ xtbl := xmem (xt_4 (List.mem_of_getElem? (i := 137) rfl)) rfl
set_option maxRecDepth 100000 in
theorem xw_738 : Cond.methodLink "ActorTreesLaw" 36 yX8_message ∈ xtbl := xmem (xt_4 (List.mem_of_getElem? (i := 134) rfl)) rfl
set_option maxRecDepth 100000 in
theorem xw_739 : Cond.instanceMethod yX8_message ∈ xtbl := xmem (xt_4 (List.mem_of_getElem? (i := 135) rfl)) rfl
set_option maxRecDepth 100000 in
theorem xw_740 : Cond.selects "ActorTreesModel" yX8_message yX8_message ∈ xtbl := xmem (xt_4 (List.mem_of_getElem? (i := 136) rfl)) rfl
set_option maxRecDepth 100000 in
theorem xw_741 : Cond.code yX7_sender prog_1_method_7_code 5 (Option.some FieldType.int) ∈ xtbl := xmem (xt_2 (List.mem_of_getElem? (i := 113) rfl)) rfl
set_option maxRecDepth 100000 in
theorem xw_742 : Cond.methodLink "ActorTreesLaw" 37 yX7_sender ∈ xtbl := xmem (xt_2 (List.mem_of_getElem? (i := 110) rfl)) rfl
set_option maxRecDepth 100000 in
theorem xw_743 : Cond.instanceMethod yX7_sender ∈ xtbl := xmem (xt_2 (List.mem_of_getElem? (i := 111) rfl)) rfl
set_option maxRecDepth 100000 in
theorem xw_744 : Cond.selects "ActorTrees" yX7_sender yX7_sender ∈ xtbl := xmem (xt_2 (List.mem_of_getElem? (i := 112) rfl)) rfl
set_option maxRecDepth 100000 in
theorem xw_745 : Cond.code yX8_sender prog_10_method_45_code 5 (Option.some FieldType.int) ∈ xtbl := xmem (xt_4 (List.mem_of_getElem? (i := 145) rfl)) rfl
set_option maxRecDepth 100000 in
theorem xw_746 : Cond.methodLink "ActorTreesLaw" 40 yX8_sender ∈ xtbl := xmem (xt_4 (List.mem_of_getElem? (i := 142) rfl)) rfl
set_option maxRecDepth 100000 in
theorem xw_747 : Cond.instanceMethod yX8_sender ∈ xtbl := xmem (xt_4 (List.mem_of_getElem? (i := 143) rfl)) rfl
set_option maxRecDepth 100000 in
theorem xw_748 : Cond.selects "ActorTreesModel" yX8_sender yX8_sender ∈ xtbl := xmem (xt_4 (List.mem_of_getElem? (i := 144) rfl)) rfl
set_option maxRecDepth 100000 in
theorem xw_749 : Cond.code yX7_stack prog_1_method_8_code 3 (Option.some FieldType.int) ∈ xtbl := xmem (xt_2 (List.mem_of_getElem? (i := 121) rfl)) rfl
set_option maxRecDepth 100000 in
theorem xw_750 : Cond.methodLink "ActorTreesLaw" 41 yX7_stack ∈ xtbl := xmem (xt_2 (List.mem_of_getElem? (i := 118) rfl)) rfl
set_option maxRecDepth 100000 in
theorem xw_751 : Cond.instanceMethod yX7_stack ∈ xtbl := xmem (xt_2 (List.mem_of_getElem? (i := 119) rfl)) rfl
set_option maxRecDepth 100000 in
theorem xw_752 : Cond.selects "ActorTrees" yX7_stack yX7_stack ∈ xtbl := xmem (xt_2 (List.mem_of_getElem? (i := 120) rfl)) rfl
set_option maxRecDepth 100000 in
theorem xw_753 : Cond.code yX8_stack prog_10_method_46_code 3 (Option.some FieldType.int) ∈ xtbl := xmem (xt_4 (List.mem_of_getElem? (i := 149) rfl)) rfl
set_option maxRecDepth 100000 in
theorem xw_754 : Cond.methodLink "ActorTreesLaw" 44 yX8_stack ∈ xtbl := xmem (xt_4 (List.mem_of_getElem? (i := 146) rfl)) rfl
set_option maxRecDepth 100000 in
theorem xw_755 : Cond.instanceMethod yX8_stack ∈ xtbl := xmem (xt_4 (List.mem_of_getElem? (i := 147) rfl)) rfl
set_option maxRecDepth 100000 in
theorem xw_756 : Cond.selects "ActorTreesModel" yX8_stack yX8_stack ∈ xtbl := xmem (xt_4 (List.mem_of_getElem? (i := 148) rfl)) rfl
set_option maxRecDepth 100000 in
theorem xw_757 : Cond.code yX7_watcher prog_1_method_9_code 3 (Option.some FieldType.int) ∈ xtbl := xmem (xt_2 (List.mem_of_getElem? (i := 128) rfl)) rfl
set_option maxRecDepth 100000 in
theorem xw_758 : Cond.methodLink "ActorTreesLaw" 45 yX7_watcher ∈ xtbl := xmem (xt_2 (List.mem_of_getElem? (i := 125) rfl)) rfl
set_option maxRecDepth 100000 in
theorem xw_759 : Cond.instanceMethod yX7_watcher ∈ xtbl := xmem (xt_2 (List.mem_of_getElem? (i := 126) rfl)) rfl
set_option maxRecDepth 100000 in
theorem xw_760 : Cond.selects "ActorTrees" yX7_watcher yX7_watcher ∈ xtbl := xmem (xt_2 (List.mem_of_getElem? (i := 127) rfl)) rfl
set_option maxRecDepth 100000 in
theorem xw_761 : Cond.code yX8_watcher prog_10_method_47_code 3 (Option.some FieldType.int) ∈ xtbl := xmem (xt_4 (List.mem_of_getElem? (i := 153) rfl)) rfl
set_option maxRecDepth 100000 in
theorem xw_762 : Cond.methodLink "ActorTreesLaw" 48 yX8_watcher ∈ xtbl := xmem (xt_4 (List.mem_of_getElem? (i := 150) rfl)) rfl
set_option maxRecDepth 100000 in
theorem xw_763 : Cond.instanceMethod yX8_watcher ∈ xtbl := xmem (xt_4 (List.mem_of_getElem? (i := 151) rfl)) rfl
set_option maxRecDepth 100000 in
theorem xw_764 : Cond.selects "ActorTreesModel" yX8_watcher yX8_watcher ∈ xtbl := xmem (xt_4 (List.mem_of_getElem? (i := 152) rfl)) rfl
set_option maxRecDepth 100000 in
theorem xw_765 : Cond.code yX7_timer prog_1_method_10_code 4 (Option.some FieldType.int) ∈ xtbl := xmem (xt_2 (List.mem_of_getElem? (i := 132) rfl)) rfl
set_option maxRecDepth 100000 in
theorem xw_766 : Cond.methodLink "ActorTreesLaw" 49 yX7_timer ∈ xtbl := xmem (xt_2 (List.mem_of_getElem? (i := 129) rfl)) rfl
set_option maxRecDepth 100000 in
theorem xw_767 : Cond.instanceMethod yX7_timer ∈ xtbl := xmem (xt_2 (List.mem_of_getElem? (i := 130) rfl)) rfl
set_option maxRecDepth 100000 in
theorem xw_768 : Cond.selects "ActorTrees" yX7_timer yX7_timer ∈ xtbl := xmem (xt_2 (List.mem_of_getElem? (i := 131) rfl)) rfl
set_option maxRecDepth 100000 in
theorem xw_769 : Cond.code yX8_timer prog_10_method_48_code 8 (Option.some FieldType.int) ∈ xtbl := xmem (xt_4 (List.mem_of_getElem? (i := 157) rfl)) rfl
set_option maxRecDepth 100000 in
theorem xw_770 : Cond.methodLink "ActorTreesLaw" 52 yX8_timer ∈ xtbl := xmem (xt_4 (List.mem_of_getElem? (i := 154) rfl)) rfl
set_option maxRecDepth 100000 in
theorem xw_771 : Cond.instanceMethod yX8_timer ∈ xtbl := xmem (xt_4 (List.mem_of_getElem? (i := 155) rfl)) rfl
set_option maxRecDepth 100000 in
theorem xw_772 : Cond.selects "ActorTreesModel" yX8_timer yX8_timer ∈ xtbl := xmem (xt_4 (List.mem_of_getElem? (i := 156) rfl)) rfl
set_option maxRecDepth 100000 in
theorem xw_773 : Cond.code yX7_stop prog_1_method_11_code 2 (Option.some FieldType.int) ∈ xtbl := xmem (xt_2 (List.mem_of_getElem? (i := 148) rfl)) rfl
set_option maxRecDepth 100000 in
theorem xw_774 : Cond.methodLink "ActorTreesLaw" 53 yX7_stop ∈ xtbl := xmem (xt_2 (List.mem_of_getElem? (i := 145) rfl)) rfl
set_option maxRecDepth 100000 in
theorem xw_775 : Cond.instanceMethod yX7_stop ∈ xtbl := xmem (xt_2 (List.mem_of_getElem? (i := 146) rfl)) rfl
set_option maxRecDepth 100000 in
theorem xw_776 : Cond.selects "ActorTrees" yX7_stop yX7_stop ∈ xtbl := xmem (xt_2 (List.mem_of_getElem? (i := 147) rfl)) rfl
set_option maxRecDepth 100000 in
theorem xw_777 : Cond.code yX8_stop prog_10_method_51_code 3 (Option.some FieldType.int) ∈ xtbl := xmem (xt_4 (List.mem_of_getElem? (i := 161) rfl)) rfl
set_option maxRecDepth 100000 in
theorem xw_778 : Cond.methodLink "ActorTreesLaw" 56 yX8_stop ∈ xtbl := xmem (xt_4 (List.mem_of_getElem? (i := 158) rfl)) rfl
set_option maxRecDepth 100000 in
theorem xw_779 : Cond.instanceMethod yX8_stop ∈ xtbl := xmem (xt_4 (List.mem_of_getElem? (i := 159) rfl)) rfl
set_option maxRecDepth 100000 in
theorem xw_780 : Cond.selects "ActorTreesModel" yX8_stop yX8_stop ∈ xtbl := xmem (xt_4 (List.mem_of_getElem? (i := 160) rfl)) rfl
set_option maxRecDepth 100000 in
theorem xw_781 : Cond.code yX7_run prog_1_method_12_code 2 (Option.some FieldType.int) ∈ xtbl := xmem (xt_2 (List.mem_of_getElem? (i := 180) rfl)) rfl
set_option maxRecDepth 100000 in
theorem xw_782 : Cond.methodLink "ActorTreesLaw" 57 yX7_run ∈ xtbl := xmem (xt_2 (List.mem_of_getElem? (i := 177) rfl)) rfl
set_option maxRecDepth 100000 in
theorem xw_783 : Cond.instanceMethod yX7_run ∈ xtbl := xmem (xt_2 (List.mem_of_getElem? (i := 178) rfl)) rfl
set_option maxRecDepth 100000 in
theorem xw_784 : Cond.selects "ActorTrees" yX7_run yX7_run ∈ xtbl := xmem (xt_2 (List.mem_of_getElem? (i := 179) rfl)) rfl
set_option maxRecDepth 100000 in
theorem xw_785 : Cond.methodLink "ActorTreesLaw" 60 yX8_run ∈ xtbl := xmem (xt_4 (List.mem_of_getElem? (i := 189) rfl)) rfl
set_option maxRecDepth 100000 in
theorem xw_786 : Cond.code yX7_ended prog_1_method_13_code 1 (Option.some FieldType.int) ∈ xtbl := xmem (xt_3 (List.mem_of_getElem? (i := 54) rfl)) rfl
set_option maxRecDepth 100000 in
theorem xw_787 : Cond.methodLink "ActorTreesLaw" 61 yX7_ended ∈ xtbl := xmem (xt_3 (List.mem_of_getElem? (i := 51) rfl)) rfl
set_option maxRecDepth 100000 in
theorem xw_788 : Cond.instanceMethod yX7_ended ∈ xtbl := xmem (xt_3 (List.mem_of_getElem? (i := 52) rfl)) rfl
set_option maxRecDepth 100000 in
theorem xw_789 : Cond.selects "ActorTrees" yX7_ended yX7_ended ∈ xtbl := xmem (xt_3 (List.mem_of_getElem? (i := 53) rfl)) rfl
set_option maxRecDepth 100000 in
theorem xw_790 : Cond.code yX8_ended prog_10_method_53_code 1 (Option.some FieldType.int) ∈ xtbl := xmem (xt_5 (List.mem_of_getElem? (i := 27) rfl)) rfl
set_option maxRecDepth 100000 in
theorem xw_791 : Cond.methodLink "ActorTreesLaw" 65 yX8_ended ∈ xtbl := xmem (xt_5 (List.mem_of_getElem? (i := 24) rfl)) rfl
set_option maxRecDepth 100000 in
theorem xw_792 : Cond.instanceMethod yX8_ended ∈ xtbl := xmem (xt_5 (List.mem_of_getElem? (i := 25) rfl)) rfl
set_option maxRecDepth 100000 in
theorem xw_793 : Cond.selects "ActorTreesModel" yX8_ended yX8_ended ∈ xtbl := xmem (xt_5 (List.mem_of_getElem? (i := 26) rfl)) rfl
set_option maxRecDepth 100000 in
theorem xw_794 : Cond.code yX7_log prog_1_method_14_code 3 (Option.some FieldType.int) ∈ xtbl := xmem (xt_3 (List.mem_of_getElem? (i := 58) rfl)) rfl
set_option maxRecDepth 100000 in
theorem xw_795 : Cond.methodLink "ActorTreesLaw" 66 yX7_log ∈ xtbl := xmem (xt_3 (List.mem_of_getElem? (i := 55) rfl)) rfl
set_option maxRecDepth 100000 in
theorem xw_796 : Cond.instanceMethod yX7_log ∈ xtbl := xmem (xt_3 (List.mem_of_getElem? (i := 56) rfl)) rfl
set_option maxRecDepth 100000 in
theorem xw_797 : Cond.selects "ActorTrees" yX7_log yX7_log ∈ xtbl := xmem (xt_3 (List.mem_of_getElem? (i := 57) rfl)) rfl
set_option maxRecDepth 100000 in
theorem xw_798 : Cond.code yX8_log prog_10_method_54_code 2 (Option.some FieldType.int) ∈ xtbl := xmem (xt_5 (List.mem_of_getElem? (i := 31) rfl)) rfl
set_option maxRecDepth 100000 in
theorem xw_799 : Cond.methodLink "ActorTreesLaw" 69 yX8_log ∈ xtbl := xmem (xt_5 (List.mem_of_getElem? (i := 28) rfl)) rfl
set_option maxRecDepth 100000 in
theorem xw_800 : Cond.instanceMethod yX8_log ∈ xtbl := xmem (xt_5 (List.mem_of_getElem? (i := 29) rfl)) rfl
set_option maxRecDepth 100000 in
theorem xw_801 : Cond.selects "ActorTreesModel" yX8_log yX8_log ∈ xtbl := xmem (xt_5 (List.mem_of_getElem? (i := 30) rfl)) rfl
set_option maxRecDepth 100000 in
theorem xw_802 : Cond.code yX7_cause prog_1_method_15_code 5 (Option.some FieldType.int) ∈ xtbl := xmem (xt_3 (List.mem_of_getElem? (i := 62) rfl)) rfl
set_option maxRecDepth 100000 in
theorem xw_803 : Cond.methodLink "ActorTreesLaw" 70 yX7_cause ∈ xtbl := xmem (xt_3 (List.mem_of_getElem? (i := 59) rfl)) rfl
set_option maxRecDepth 100000 in
theorem xw_804 : Cond.instanceMethod yX7_cause ∈ xtbl := xmem (xt_3 (List.mem_of_getElem? (i := 60) rfl)) rfl
set_option maxRecDepth 100000 in
theorem xw_805 : Cond.selects "ActorTrees" yX7_cause yX7_cause ∈ xtbl := xmem (xt_3 (List.mem_of_getElem? (i := 61) rfl)) rfl
set_option maxRecDepth 100000 in
theorem xw_806 : Cond.code yX8_cause prog_10_method_55_code 3 (Option.some FieldType.int) ∈ xtbl := xmem (xt_5 (List.mem_of_getElem? (i := 35) rfl)) rfl
set_option maxRecDepth 100000 in
theorem xw_807 : Cond.methodLink "ActorTreesLaw" 73 yX8_cause ∈ xtbl := xmem (xt_5 (List.mem_of_getElem? (i := 32) rfl)) rfl
set_option maxRecDepth 100000 in
theorem xw_808 : Cond.instanceMethod yX8_cause ∈ xtbl := xmem (xt_5 (List.mem_of_getElem? (i := 33) rfl)) rfl
set_option maxRecDepth 100000 in
theorem xw_809 : Cond.selects "ActorTreesModel" yX8_cause yX8_cause ∈ xtbl := xmem (xt_5 (List.mem_of_getElem? (i := 34) rfl)) rfl
set_option maxRecDepth 100000 in
theorem xw_810 : Cond.code yX7_dry prog_1_method_16_code 5 (Option.some FieldType.int) ∈ xtbl := xmem (xt_3 (List.mem_of_getElem? (i := 66) rfl)) rfl
set_option maxRecDepth 100000 in
theorem xw_811 : Cond.methodLink "ActorTreesLaw" 74 yX7_dry ∈ xtbl := xmem (xt_3 (List.mem_of_getElem? (i := 63) rfl)) rfl
set_option maxRecDepth 100000 in
theorem xw_812 : Cond.instanceMethod yX7_dry ∈ xtbl := xmem (xt_3 (List.mem_of_getElem? (i := 64) rfl)) rfl
set_option maxRecDepth 100000 in
theorem xw_813 : Cond.selects "ActorTrees" yX7_dry yX7_dry ∈ xtbl := xmem (xt_3 (List.mem_of_getElem? (i := 65) rfl)) rfl
set_option maxRecDepth 100000 in
theorem xw_814 : Cond.code yX8_dry prog_10_method_56_code 5 (Option.some FieldType.int) ∈ xtbl := xmem (xt_5 (List.mem_of_getElem? (i := 39) rfl)) rfl
set_option maxRecDepth 100000 in
theorem xw_815 : Cond.methodLink "ActorTreesLaw" 77 yX8_dry ∈ xtbl := xmem (xt_5 (List.mem_of_getElem? (i := 36) rfl)) rfl
set_option maxRecDepth 100000 in
theorem xw_816 : Cond.instanceMethod yX8_dry ∈ xtbl := xmem (xt_5 (List.mem_of_getElem? (i := 37) rfl)) rfl
set_option maxRecDepth 100000 in
theorem xw_817 : Cond.selects "ActorTreesModel" yX8_dry yX8_dry ∈ xtbl := xmem (xt_5 (List.mem_of_getElem? (i := 38) rfl)) rfl
set_option maxRecDepth 100000 in
theorem xw_818 : Cond.code yX7_first prog_1_method_17_code 2 (Option.some FieldType.int) ∈ xtbl := xmem (xt_3 (List.mem_of_getElem? (i := 104) rfl)) rfl
set_option maxRecDepth 100000 in
theorem xw_819 : Cond.methodLink "ActorTreesLaw" 78 yX7_first ∈ xtbl := xmem (xt_3 (List.mem_of_getElem? (i := 101) rfl)) rfl
set_option maxRecDepth 100000 in
theorem xw_820 : Cond.instanceMethod yX7_first ∈ xtbl := xmem (xt_3 (List.mem_of_getElem? (i := 102) rfl)) rfl
set_option maxRecDepth 100000 in
theorem xw_821 : Cond.selects "ActorTrees" yX7_first yX7_first ∈ xtbl := xmem (xt_3 (List.mem_of_getElem? (i := 103) rfl)) rfl
set_option maxRecDepth 100000 in
theorem xw_822 : Cond.code yX8_first prog_10_method_57_code 2 (Option.some FieldType.int) ∈ xtbl := xmem (xt_5 (List.mem_of_getElem? (i := 46) rfl)) rfl
set_option maxRecDepth 100000 in
theorem xw_823 : Cond.methodLink "ActorTreesLaw" 81 yX8_first ∈ xtbl := xmem (xt_5 (List.mem_of_getElem? (i := 43) rfl)) rfl
set_option maxRecDepth 100000 in
theorem xw_824 : Cond.instanceMethod yX8_first ∈ xtbl := xmem (xt_5 (List.mem_of_getElem? (i := 44) rfl)) rfl
set_option maxRecDepth 100000 in
theorem xw_825 : Cond.selects "ActorTreesModel" yX8_first yX8_first ∈ xtbl := xmem (xt_5 (List.mem_of_getElem? (i := 45) rfl)) rfl
set_option maxRecDepth 100000 in
theorem xw_826 : Cond.code yX7_quiet prog_1_method_18_code 2 (Option.some FieldType.int) ∈ xtbl := xmem (xt_3 (List.mem_of_getElem? (i := 109) rfl)) rfl
set_option maxRecDepth 100000 in
theorem xw_827 : Cond.methodLink "ActorTreesLaw" 82 yX7_quiet ∈ xtbl := xmem (xt_3 (List.mem_of_getElem? (i := 106) rfl)) rfl
set_option maxRecDepth 100000 in
theorem xw_828 : Cond.instanceMethod yX7_quiet ∈ xtbl := xmem (xt_3 (List.mem_of_getElem? (i := 107) rfl)) rfl
set_option maxRecDepth 100000 in
theorem xw_829 : Cond.selects "ActorTrees" yX7_quiet yX7_quiet ∈ xtbl := xmem (xt_3 (List.mem_of_getElem? (i := 108) rfl)) rfl
set_option maxRecDepth 100000 in
theorem xw_830 : Cond.code yX8_quiet prog_10_method_58_code 3 (Option.some FieldType.int) ∈ xtbl := xmem (xt_5 (List.mem_of_getElem? (i := 50) rfl)) rfl
set_option maxRecDepth 100000 in
theorem xw_831 : Cond.methodLink "ActorTreesLaw" 85 yX8_quiet ∈ xtbl := xmem (xt_5 (List.mem_of_getElem? (i := 47) rfl)) rfl
set_option maxRecDepth 100000 in
theorem xw_832 : Cond.instanceMethod yX8_quiet ∈ xtbl := xmem (xt_5 (List.mem_of_getElem? (i := 48) rfl)) rfl
set_option maxRecDepth 100000 in
theorem xw_833 : Cond.selects "ActorTreesModel" yX8_quiet yX8_quiet ∈ xtbl := xmem (xt_5 (List.mem_of_getElem? (i := 49) rfl)) rfl
set_option maxRecDepth 100000 in
theorem xw_834 : Cond.code yX7_would prog_1_method_19_code 5 (Option.some FieldType.int) ∈ xtbl := xmem (xt_3 (List.mem_of_getElem? (i := 114) rfl)) rfl
set_option maxRecDepth 100000 in
theorem xw_835 : Cond.methodLink "ActorTreesLaw" 86 yX7_would ∈ xtbl := xmem (xt_3 (List.mem_of_getElem? (i := 111) rfl)) rfl
set_option maxRecDepth 100000 in
theorem xw_836 : Cond.instanceMethod yX7_would ∈ xtbl := xmem (xt_3 (List.mem_of_getElem? (i := 112) rfl)) rfl
set_option maxRecDepth 100000 in
theorem xw_837 : Cond.selects "ActorTrees" yX7_would yX7_would ∈ xtbl := xmem (xt_3 (List.mem_of_getElem? (i := 113) rfl)) rfl
set_option maxRecDepth 100000 in
theorem xw_838 : Cond.code yX8_would prog_10_method_59_code 5 (Option.some FieldType.int) ∈ xtbl := xmem (xt_5 (List.mem_of_getElem? (i := 54) rfl)) rfl
set_option maxRecDepth 100000 in
theorem xw_839 : Cond.methodLink "ActorTreesLaw" 89 yX8_would ∈ xtbl := xmem (xt_5 (List.mem_of_getElem? (i := 51) rfl)) rfl
set_option maxRecDepth 100000 in
theorem xw_840 : Cond.instanceMethod yX8_would ∈ xtbl := xmem (xt_5 (List.mem_of_getElem? (i := 52) rfl)) rfl
set_option maxRecDepth 100000 in
theorem xw_841 : Cond.selects "ActorTreesModel" yX8_would yX8_would ∈ xtbl := xmem (xt_5 (List.mem_of_getElem? (i := 53) rfl)) rfl
set_option maxRecDepth 100000 in
theorem xw_842 : Cond.code yX7_brings prog_1_method_20_code 3 (Option.some FieldType.int) ∈ xtbl := xmem (xt_3 (List.mem_of_getElem? (i := 120) rfl)) rfl
set_option maxRecDepth 100000 in
theorem xw_843 : Cond.methodLink "ActorTreesLaw" 90 yX7_brings ∈ xtbl := xmem (xt_3 (List.mem_of_getElem? (i := 117) rfl)) rfl
set_option maxRecDepth 100000 in
theorem xw_844 : Cond.instanceMethod yX7_brings ∈ xtbl := xmem (xt_3 (List.mem_of_getElem? (i := 118) rfl)) rfl
set_option maxRecDepth 100000 in
theorem xw_845 : Cond.selects "ActorTrees" yX7_brings yX7_brings ∈ xtbl := xmem (xt_3 (List.mem_of_getElem? (i := 119) rfl)) rfl
set_option maxRecDepth 100000 in
theorem xw_846 : Cond.code yX8_brings prog_10_method_60_code 5 (Option.some FieldType.int) ∈ xtbl := xmem (xt_5 (List.mem_of_getElem? (i := 58) rfl)) rfl
set_option maxRecDepth 100000 in
theorem xw_847 : Cond.methodLink "ActorTreesLaw" 93 yX8_brings ∈ xtbl := xmem (xt_5 (List.mem_of_getElem? (i := 55) rfl)) rfl
set_option maxRecDepth 100000 in
theorem xw_848 : Cond.instanceMethod yX8_brings ∈ xtbl := xmem (xt_5 (List.mem_of_getElem? (i := 56) rfl)) rfl
set_option maxRecDepth 100000 in
theorem xw_849 : Cond.selects "ActorTreesModel" yX8_brings yX8_brings ∈ xtbl := xmem (xt_5 (List.mem_of_getElem? (i := 57) rfl)) rfl
set_option maxRecDepth 100000 in
theorem xw_850 : Cond.code yX7_reach prog_1_method_21_code 6 (Option.some FieldType.int) ∈ xtbl := xmem (xt_3 (List.mem_of_getElem? (i := 124) rfl)) rfl
set_option maxRecDepth 100000 in
theorem xw_851 : Cond.methodLink "ActorTreesLaw" 94 yX7_reach ∈ xtbl := xmem (xt_3 (List.mem_of_getElem? (i := 121) rfl)) rfl
set_option maxRecDepth 100000 in
theorem xw_852 : Cond.instanceMethod yX7_reach ∈ xtbl := xmem (xt_3 (List.mem_of_getElem? (i := 122) rfl)) rfl
set_option maxRecDepth 100000 in
theorem xw_853 : Cond.selects "ActorTrees" yX7_reach yX7_reach ∈ xtbl := xmem (xt_3 (List.mem_of_getElem? (i := 123) rfl)) rfl
set_option maxRecDepth 100000 in
theorem xw_854 : Cond.code yX8_reach prog_10_method_62_code 6 (Option.some FieldType.int) ∈ xtbl := xmem (xt_5 (List.mem_of_getElem? (i := 62) rfl)) rfl
set_option maxRecDepth 100000 in
theorem xw_855 : Cond.methodLink "ActorTreesLaw" 97 yX8_reach ∈ xtbl := xmem (xt_5 (List.mem_of_getElem? (i := 59) rfl)) rfl
set_option maxRecDepth 100000 in
theorem xw_856 : Cond.instanceMethod yX8_reach ∈ xtbl := xmem (xt_5 (List.mem_of_getElem? (i := 60) rfl)) rfl
set_option maxRecDepth 100000 in
theorem xw_857 : Cond.selects "ActorTreesModel" yX8_reach yX8_reach ∈ xtbl := xmem (xt_5 (List.mem_of_getElem? (i := 61) rfl)) rfl
set_option maxRecDepth 100000 in
theorem xw_858 : Cond.code yX7_feed prog_1_method_22_code 2 (Option.some FieldType.int) ∈ xtbl := xmem (xt_3 (List.mem_of_getElem? (i := 128) rfl)) rfl
set_option maxRecDepth 100000 in
theorem xw_859 : Cond.methodLink "ActorTreesLaw" 98 yX7_feed ∈ xtbl := xmem (xt_3 (List.mem_of_getElem? (i := 125) rfl)) rfl
set_option maxRecDepth 100000 in
theorem xw_860 : Cond.instanceMethod yX7_feed ∈ xtbl := xmem (xt_3 (List.mem_of_getElem? (i := 126) rfl)) rfl
set_option maxRecDepth 100000 in
theorem xw_861 : Cond.selects "ActorTrees" yX7_feed yX7_feed ∈ xtbl := xmem (xt_3 (List.mem_of_getElem? (i := 127) rfl)) rfl
set_option maxRecDepth 100000 in
theorem xw_862 : Cond.code yX8_feed prog_10_method_63_code 2 (Option.some FieldType.int) ∈ xtbl := xmem (xt_5 (List.mem_of_getElem? (i := 70) rfl)) rfl
set_option maxRecDepth 100000 in
theorem xw_863 : Cond.methodLink "ActorTreesLaw" 101 yX8_feed ∈ xtbl := xmem (xt_5 (List.mem_of_getElem? (i := 67) rfl)) rfl
set_option maxRecDepth 100000 in
theorem xw_864 : Cond.instanceMethod yX8_feed ∈ xtbl := xmem (xt_5 (List.mem_of_getElem? (i := 68) rfl)) rfl
set_option maxRecDepth 100000 in
theorem xw_865 : Cond.selects "ActorTreesModel" yX8_feed yX8_feed ∈ xtbl := xmem (xt_5 (List.mem_of_getElem? (i := 69) rfl)) rfl
set_option maxRecDepth 100000 in
theorem xw_866 : Cond.code yX7_script prog_1_method_23_code 4 (Option.some FieldType.int) ∈ xtbl := xmem (xt_3 (List.mem_of_getElem? (i := 133) rfl)) rfl
set_option maxRecDepth 100000 in
theorem xw_867 : Cond.methodLink "ActorTreesLaw" 102 yX7_script ∈ xtbl := xmem (xt_3 (List.mem_of_getElem? (i := 130) rfl)) rfl
set_option maxRecDepth 100000 in
theorem xw_868 : Cond.instanceMethod yX7_script ∈ xtbl := xmem (xt_3 (List.mem_of_getElem? (i := 131) rfl)) rfl
set_option maxRecDepth 100000 in
theorem xw_869 : Cond.selects "ActorTrees" yX7_script yX7_script ∈ xtbl := xmem (xt_3 (List.mem_of_getElem? (i := 132) rfl)) rfl
set_option maxRecDepth 100000 in
theorem xw_870 : Cond.code yX8_script prog_10_method_70_code 3 (Option.some FieldType.int) ∈ xtbl := xmem (xt_5 (List.mem_of_getElem? (i := 74) rfl)) rfl
set_option maxRecDepth 100000 in
theorem xw_871 : Cond.methodLink "ActorTreesLaw" 105 yX8_script ∈ xtbl := xmem (xt_5 (List.mem_of_getElem? (i := 71) rfl)) rfl
set_option maxRecDepth 100000 in
theorem xw_872 : Cond.instanceMethod yX8_script ∈ xtbl := xmem (xt_5 (List.mem_of_getElem? (i := 72) rfl)) rfl
set_option maxRecDepth 100000 in
theorem xw_873 : Cond.selects "ActorTreesModel" yX8_script yX8_script ∈ xtbl := xmem (xt_5 (List.mem_of_getElem? (i := 73) rfl)) rfl
set_option maxRecDepth 100000 in
theorem xw_874 : Cond.code yX7_drawn prog_1_method_24_code 5 (Option.some FieldType.int) ∈ xtbl := xmem (xt_3 (List.mem_of_getElem? (i := 169) rfl)) rfl
set_option maxRecDepth 100000 in
theorem xw_875 : Cond.methodLink "ActorTreesLaw" 106 yX7_drawn ∈ xtbl := xmem (xt_3 (List.mem_of_getElem? (i := 166) rfl)) rfl
set_option maxRecDepth 100000 in
theorem xw_876 : Cond.instanceMethod yX7_drawn ∈ xtbl := xmem (xt_3 (List.mem_of_getElem? (i := 167) rfl)) rfl
set_option maxRecDepth 100000 in
theorem xw_877 : Cond.selects "ActorTrees" yX7_drawn yX7_drawn ∈ xtbl := xmem (xt_3 (List.mem_of_getElem? (i := 168) rfl)) rfl
set_option maxRecDepth 100000 in
theorem xw_878 : Cond.code yX8_drawn prog_10_method_71_code 5 (Option.some FieldType.int) ∈ xtbl := xmem (xt_5 (List.mem_of_getElem? (i := 104) rfl)) rfl
set_option maxRecDepth 100000 in
theorem xw_879 : Cond.methodLink "ActorTreesLaw" 109 yX8_drawn ∈ xtbl := xmem (xt_5 (List.mem_of_getElem? (i := 101) rfl)) rfl
set_option maxRecDepth 100000 in
theorem xw_880 : Cond.instanceMethod yX8_drawn ∈ xtbl := xmem (xt_5 (List.mem_of_getElem? (i := 102) rfl)) rfl
set_option maxRecDepth 100000 in
theorem xw_881 : Cond.selects "ActorTreesModel" yX8_drawn yX8_drawn ∈ xtbl := xmem (xt_5 (List.mem_of_getElem? (i := 103) rfl)) rfl
set_option maxRecDepth 100000 in
theorem xw_882 : Cond.code yX7_seed prog_1_method_25_code 3 (Option.some FieldType.int) ∈ xtbl := xmem (xt_3 (List.mem_of_getElem? (i := 174) rfl)) rfl
set_option maxRecDepth 100000 in
theorem xw_883 : Cond.methodLink "ActorTreesLaw" 110 yX7_seed ∈ xtbl := xmem (xt_3 (List.mem_of_getElem? (i := 171) rfl)) rfl
set_option maxRecDepth 100000 in
theorem xw_884 : Cond.instanceMethod yX7_seed ∈ xtbl := xmem (xt_3 (List.mem_of_getElem? (i := 172) rfl)) rfl
set_option maxRecDepth 100000 in
theorem xw_885 : Cond.selects "ActorTrees" yX7_seed yX7_seed ∈ xtbl := xmem (xt_3 (List.mem_of_getElem? (i := 173) rfl)) rfl
set_option maxRecDepth 100000 in
theorem xw_886 : Cond.code yX8_seed prog_10_method_72_code 3 (Option.some FieldType.int) ∈ xtbl := xmem (xt_5 (List.mem_of_getElem? (i := 109) rfl)) rfl
set_option maxRecDepth 100000 in
theorem xw_887 : Cond.methodLink "ActorTreesLaw" 113 yX8_seed ∈ xtbl := xmem (xt_5 (List.mem_of_getElem? (i := 106) rfl)) rfl
set_option maxRecDepth 100000 in
theorem xw_888 : Cond.instanceMethod yX8_seed ∈ xtbl := xmem (xt_5 (List.mem_of_getElem? (i := 107) rfl)) rfl
set_option maxRecDepth 100000 in
theorem xw_889 : Cond.selects "ActorTreesModel" yX8_seed yX8_seed ∈ xtbl := xmem (xt_5 (List.mem_of_getElem? (i := 108) rfl)) rfl
set_option maxRecDepth 100000 in
theorem xw_890 : Cond.code yX7_order prog_1_method_26_code 4 (Option.some FieldType.int) ∈ xtbl := xmem (xt_3 (List.mem_of_getElem? (i := 178) rfl)) rfl
set_option maxRecDepth 100000 in
theorem xw_891 : Cond.methodLink "ActorTreesLaw" 114 yX7_order ∈ xtbl := xmem (xt_3 (List.mem_of_getElem? (i := 175) rfl)) rfl
set_option maxRecDepth 100000 in
theorem xw_892 : Cond.instanceMethod yX7_order ∈ xtbl := xmem (xt_3 (List.mem_of_getElem? (i := 176) rfl)) rfl
set_option maxRecDepth 100000 in
theorem xw_893 : Cond.selects "ActorTrees" yX7_order yX7_order ∈ xtbl := xmem (xt_3 (List.mem_of_getElem? (i := 177) rfl)) rfl
set_option maxRecDepth 100000 in
theorem xw_894 : Cond.code yX8_order prog_10_method_75_code 4 (Option.some FieldType.int) ∈ xtbl := xmem (xt_5 (List.mem_of_getElem? (i := 113) rfl)) rfl
set_option maxRecDepth 100000 in
theorem xw_895 : Cond.methodLink "ActorTreesLaw" 117 yX8_order ∈ xtbl := xmem (xt_5 (List.mem_of_getElem? (i := 110) rfl)) rfl
set_option maxRecDepth 100000 in
theorem xw_896 : Cond.instanceMethod yX8_order ∈ xtbl := xmem (xt_5 (List.mem_of_getElem? (i := 111) rfl)) rfl
set_option maxRecDepth 100000 in
theorem xw_897 : Cond.selects "ActorTreesModel" yX8_order yX8_order ∈ xtbl := xmem (xt_5 (List.mem_of_getElem? (i := 112) rfl)) rfl
set_option maxRecDepth 100000 in
theorem xw_898 : Cond.code yX7_image prog_1_method_27_code 1 (Option.some FieldType.int) ∈ xtbl := xmem (xt_3 (List.mem_of_getElem? (i := 189) rfl)) rfl
set_option maxRecDepth 100000 in
theorem xw_899 : Cond.methodLink "ActorTreesLaw" 118 yX7_image ∈ xtbl := xmem (xt_3 (List.mem_of_getElem? (i := 186) rfl)) rfl
set_option maxRecDepth 100000 in
theorem xw_900 : Cond.instanceMethod yX7_image ∈ xtbl := xmem (xt_3 (List.mem_of_getElem? (i := 187) rfl)) rfl
set_option maxRecDepth 100000 in
theorem xw_901 : Cond.selects "ActorTrees" yX7_image yX7_image ∈ xtbl := xmem (xt_3 (List.mem_of_getElem? (i := 188) rfl)) rfl
set_option maxRecDepth 100000 in
theorem xw_902 : Cond.code yX8_image prog_10_method_76_code 1 (Option.some FieldType.int) ∈ xtbl := xmem (xt_5 (List.mem_of_getElem? (i := 125) rfl)) rfl
set_option maxRecDepth 100000 in
theorem xw_903 : Cond.methodLink "ActorTreesLaw" 121 yX8_image ∈ xtbl := xmem (xt_5 (List.mem_of_getElem? (i := 122) rfl)) rfl
set_option maxRecDepth 100000 in
theorem xw_904 : Cond.instanceMethod yX8_image ∈ xtbl := xmem (xt_5 (List.mem_of_getElem? (i := 123) rfl)) rfl
set_option maxRecDepth 100000 in
theorem xw_905 : Cond.selects "ActorTreesModel" yX8_image yX8_image ∈ xtbl := xmem (xt_5 (List.mem_of_getElem? (i := 124) rfl)) rfl
set_option maxRecDepth 100000 in
theorem xw_906 : Cond.code yX7_back prog_1_method_28_code 2 (Option.some FieldType.int) ∈ xtbl := xmem (xt_3 (List.mem_of_getElem? (i := 193) rfl)) rfl
set_option maxRecDepth 100000 in
theorem xw_907 : Cond.methodLink "ActorTreesLaw" 122 yX7_back ∈ xtbl := xmem (xt_3 (List.mem_of_getElem? (i := 190) rfl)) rfl
set_option maxRecDepth 100000 in
theorem xw_908 : Cond.instanceMethod yX7_back ∈ xtbl := xmem (xt_3 (List.mem_of_getElem? (i := 191) rfl)) rfl
set_option maxRecDepth 100000 in
theorem xw_909 : Cond.selects "ActorTrees" yX7_back yX7_back ∈ xtbl := xmem (xt_3 (List.mem_of_getElem? (i := 192) rfl)) rfl
set_option maxRecDepth 100000 in
theorem xw_910 : Cond.code yX8_back prog_10_method_77_code 2 (Option.some FieldType.int) ∈ xtbl := xmem (xt_5 (List.mem_of_getElem? (i := 129) rfl)) rfl
set_option maxRecDepth 100000 in
theorem xw_911 : Cond.methodLink "ActorTreesLaw" 125 yX8_back ∈ xtbl := xmem (xt_5 (List.mem_of_getElem? (i := 126) rfl)) rfl
set_option maxRecDepth 100000 in
theorem xw_912 : Cond.instanceMethod yX8_back ∈ xtbl := xmem (xt_5 (List.mem_of_getElem? (i := 127) rfl)) rfl
set_option maxRecDepth 100000 in
theorem xw_913 : Cond.selects "ActorTreesModel" yX8_back yX8_back ∈ xtbl := xmem (xt_5 (List.mem_of_getElem? (i := 128) rfl)) rfl
set_option maxRecDepth 100000 in
theorem xw_914 : Cond.code yX7_hold prog_1_method_29_code 3 (Option.some FieldType.int) ∈ xtbl := xmem (xt_3 (List.mem_of_getElem? (i := 197) rfl)) rfl
set_option maxRecDepth 100000 in
theorem xw_915 : Cond.methodLink "ActorTreesLaw" 126 yX7_hold ∈ xtbl := xmem (xt_3 (List.mem_of_getElem? (i := 194) rfl)) rfl
set_option maxRecDepth 100000 in
theorem xw_916 : Cond.instanceMethod yX7_hold ∈ xtbl := xmem (xt_3 (List.mem_of_getElem? (i := 195) rfl)) rfl
set_option maxRecDepth 100000 in
theorem xw_917 : Cond.selects "ActorTrees" yX7_hold yX7_hold ∈ xtbl := xmem (xt_3 (List.mem_of_getElem? (i := 196) rfl)) rfl
set_option maxRecDepth 100000 in
theorem xw_918 : Cond.code yX8_hold prog_10_method_78_code 3 (Option.some FieldType.int) ∈ xtbl := xmem (xt_5 (List.mem_of_getElem? (i := 133) rfl)) rfl
set_option maxRecDepth 100000 in
theorem xw_919 : Cond.methodLink "ActorTreesLaw" 129 yX8_hold ∈ xtbl := xmem (xt_5 (List.mem_of_getElem? (i := 130) rfl)) rfl
set_option maxRecDepth 100000 in
theorem xw_920 : Cond.instanceMethod yX8_hold ∈ xtbl := xmem (xt_5 (List.mem_of_getElem? (i := 131) rfl)) rfl
set_option maxRecDepth 100000 in
theorem xw_921 : Cond.selects "ActorTreesModel" yX8_hold yX8_hold ∈ xtbl := xmem (xt_5 (List.mem_of_getElem? (i := 132) rfl)) rfl
set_option maxRecDepth 100000 in
theorem xw_922 : Cond.code yX7_row prog_1_method_30_code 3 (Option.some FieldType.int) ∈ xtbl := xmem (xt_3 (List.mem_of_getElem? (i := 201) rfl)) rfl
set_option maxRecDepth 100000 in
theorem xw_923 : Cond.methodLink "ActorTreesLaw" 130 yX7_row ∈ xtbl := xmem (xt_3 (List.mem_of_getElem? (i := 198) rfl)) rfl
set_option maxRecDepth 100000 in
theorem xw_924 : Cond.instanceMethod yX7_row ∈ xtbl := xmem (xt_3 (List.mem_of_getElem? (i := 199) rfl)) rfl
set_option maxRecDepth 100000 in
theorem xw_925 : Cond.selects "ActorTrees" yX7_row yX7_row ∈ xtbl := xmem (xt_3 (List.mem_of_getElem? (i := 200) rfl)) rfl
set_option maxRecDepth 100000 in
theorem xw_926 : Cond.code yX8_row prog_10_method_79_code 4 (Option.some FieldType.int) ∈ xtbl := xmem (xt_5 (List.mem_of_getElem? (i := 137) rfl)) rfl
set_option maxRecDepth 100000 in
theorem xw_927 : Cond.methodLink "ActorTreesLaw" 133 yX8_row ∈ xtbl := xmem (xt_5 (List.mem_of_getElem? (i := 134) rfl)) rfl
set_option maxRecDepth 100000 in
theorem xw_928 : Cond.instanceMethod yX8_row ∈ xtbl := xmem (xt_5 (List.mem_of_getElem? (i := 135) rfl)) rfl
set_option maxRecDepth 100000 in
theorem xw_929 : Cond.selects "ActorTreesModel" yX8_row yX8_row ∈ xtbl := xmem (xt_5 (List.mem_of_getElem? (i := 136) rfl)) rfl
set_option maxRecDepth 100000 in
theorem xw_930 : Cond.code yX7_put prog_1_method_31_code 6 (Option.some FieldType.int) ∈ xtbl := xmem (xt_3 (List.mem_of_getElem? (i := 209) rfl)) rfl
set_option maxRecDepth 100000 in
theorem xw_931 : Cond.methodLink "ActorTreesLaw" 134 yX7_put ∈ xtbl := xmem (xt_3 (List.mem_of_getElem? (i := 206) rfl)) rfl
set_option maxRecDepth 100000 in
theorem xw_932 : Cond.instanceMethod yX7_put ∈ xtbl := xmem (xt_3 (List.mem_of_getElem? (i := 207) rfl)) rfl
set_option maxRecDepth 100000 in
theorem xw_933 : Cond.selects "ActorTrees" yX7_put yX7_put ∈ xtbl := xmem (xt_3 (List.mem_of_getElem? (i := 208) rfl)) rfl
set_option maxRecDepth 100000 in
theorem xw_934 : Cond.code yX8_put prog_10_method_80_code 5 (Option.some FieldType.int) ∈ xtbl := xmem (xt_5 (List.mem_of_getElem? (i := 141) rfl)) rfl
set_option maxRecDepth 100000 in
theorem xw_935 : Cond.methodLink "ActorTreesLaw" 137 yX8_put ∈ xtbl := xmem (xt_5 (List.mem_of_getElem? (i := 138) rfl)) rfl
set_option maxRecDepth 100000 in
theorem xw_936 : Cond.instanceMethod yX8_put ∈ xtbl := xmem (xt_5 (List.mem_of_getElem? (i := 139) rfl)) rfl
set_option maxRecDepth 100000 in
theorem xw_937 : Cond.selects "ActorTreesModel" yX8_put yX8_put ∈ xtbl := xmem (xt_5 (List.mem_of_getElem? (i := 140) rfl)) rfl
set_option maxRecDepth 100000 in
theorem xw_938 : Cond.code yX7_tells prog_1_method_32_code 6 (Option.some FieldType.int) ∈ xtbl := xmem (xt_3 (List.mem_of_getElem? (i := 217) rfl)) rfl
set_option maxRecDepth 100000 in
theorem xw_939 : Cond.methodLink "ActorTreesLaw" 138 yX7_tells ∈ xtbl := xmem (xt_3 (List.mem_of_getElem? (i := 214) rfl)) rfl
set_option maxRecDepth 100000 in
theorem xw_940 : Cond.instanceMethod yX7_tells ∈ xtbl := xmem (xt_3 (List.mem_of_getElem? (i := 215) rfl)) rfl
set_option maxRecDepth 100000 in
theorem xw_941 : Cond.selects "ActorTrees" yX7_tells yX7_tells ∈ xtbl := xmem (xt_3 (List.mem_of_getElem? (i := 216) rfl)) rfl
set_option maxRecDepth 100000 in
theorem xw_942 : Cond.code yX8_tells prog_10_method_81_code 5 (Option.some FieldType.int) ∈ xtbl := xmem (xt_5 (List.mem_of_getElem? (i := 145) rfl)) rfl
set_option maxRecDepth 100000 in
theorem xw_943 : Cond.methodLink "ActorTreesLaw" 141 yX8_tells ∈ xtbl := xmem (xt_5 (List.mem_of_getElem? (i := 142) rfl)) rfl
set_option maxRecDepth 100000 in
theorem xw_944 : Cond.instanceMethod yX8_tells ∈ xtbl := xmem (xt_5 (List.mem_of_getElem? (i := 143) rfl)) rfl
set_option maxRecDepth 100000 in
theorem xw_945 : Cond.selects "ActorTreesModel" yX8_tells yX8_tells ∈ xtbl := xmem (xt_5 (List.mem_of_getElem? (i := 144) rfl)) rfl
set_option maxRecDepth 100000 in
theorem xw_946 : Cond.code yX7_count prog_1_method_33_code 2 (Option.some FieldType.int) ∈ xtbl := xmem (xt_3 (List.mem_of_getElem? (i := 228) rfl)) rfl
set_option maxRecDepth 100000 in
theorem xw_947 : Cond.methodLink "ActorTreesLaw" 142 yX7_count ∈ xtbl := xmem (xt_3 (List.mem_of_getElem? (i := 225) rfl)) rfl
set_option maxRecDepth 100000 in
theorem xw_948 : Cond.instanceMethod yX7_count ∈ xtbl := xmem (xt_3 (List.mem_of_getElem? (i := 226) rfl)) rfl
set_option maxRecDepth 100000 in
theorem xw_949 : Cond.selects "ActorTrees" yX7_count yX7_count ∈ xtbl := xmem (xt_3 (List.mem_of_getElem? (i := 227) rfl)) rfl
set_option maxRecDepth 100000 in
theorem xw_950 : Cond.code yX8_count prog_10_method_82_code 4 (Option.some FieldType.int) ∈ xtbl := xmem (xt_5 (List.mem_of_getElem? (i := 150) rfl)) rfl
set_option maxRecDepth 100000 in
theorem xw_951 : Cond.methodLink "ActorTreesLaw" 145 yX8_count ∈ xtbl := xmem (xt_5 (List.mem_of_getElem? (i := 147) rfl)) rfl
set_option maxRecDepth 100000 in
theorem xw_952 : Cond.instanceMethod yX8_count ∈ xtbl := xmem (xt_5 (List.mem_of_getElem? (i := 148) rfl)) rfl
set_option maxRecDepth 100000 in
theorem xw_953 : Cond.selects "ActorTreesModel" yX8_count yX8_count ∈ xtbl := xmem (xt_5 (List.mem_of_getElem? (i := 149) rfl)) rfl
theorem xcal_of {mid k n : Nat} {Y : XY} (e : xm mid = Y) (h : XCal (fun _ => Y) mid k n) : XCal xm mid k n := by
  subst e
  unfold XCal at h ⊢
  exact h
theorem kc_0 : plainName RX0 = true := by decide +kernel
theorem kh_0 : RX0 ≠ "java/lang/invoke/MethodHandle" ∧ RX0 ≠ "java/lang/invoke/VarHandle" := ⟨by decide +kernel, by decide +kernel⟩
theorem kc_1 : plainName RX2 = true := by decide +kernel
theorem kh_1 : RX2 ≠ "java/lang/invoke/MethodHandle" ∧ RX2 ≠ "java/lang/invoke/VarHandle" := ⟨by decide +kernel, by decide +kernel⟩
theorem kc_2 : plainName RX3 = true := by decide +kernel
theorem kh_2 : RX3 ≠ "java/lang/invoke/MethodHandle" ∧ RX3 ≠ "java/lang/invoke/VarHandle" := ⟨by decide +kernel, by decide +kernel⟩
theorem kc_3 : plainName RX4 = true := by decide +kernel
theorem kh_3 : RX4 ≠ "java/lang/invoke/MethodHandle" ∧ RX4 ≠ "java/lang/invoke/VarHandle" := ⟨by decide +kernel, by decide +kernel⟩
theorem kc_4 : plainName RX5 = true := by decide +kernel
theorem kh_4 : RX5 ≠ "java/lang/invoke/MethodHandle" ∧ RX5 ≠ "java/lang/invoke/VarHandle" := ⟨by decide +kernel, by decide +kernel⟩
theorem kc_5 : plainName RX6 = true := by decide +kernel
theorem kh_5 : RX6 ≠ "java/lang/invoke/MethodHandle" ∧ RX6 ≠ "java/lang/invoke/VarHandle" := ⟨by decide +kernel, by decide +kernel⟩
theorem kc_6 : plainName RJ6 = true := by decide +kernel
theorem kh_6 : RJ6 ≠ "java/lang/invoke/MethodHandle" ∧ RJ6 ≠ "java/lang/invoke/VarHandle" := ⟨by decide +kernel, by decide +kernel⟩
theorem kc_7 : plainName RX7 = true := by decide +kernel
theorem kh_7 : RX7 ≠ "java/lang/invoke/MethodHandle" ∧ RX7 ≠ "java/lang/invoke/VarHandle" := ⟨by decide +kernel, by decide +kernel⟩
theorem kc_8 : plainName RX1 = true := by decide +kernel
theorem kh_8 : RX1 ≠ "java/lang/invoke/MethodHandle" ∧ RX1 ≠ "java/lang/invoke/VarHandle" := ⟨by decide +kernel, by decide +kernel⟩
theorem kc_9 : plainName RX8 = true := by decide +kernel
theorem kh_9 : RX8 ≠ "java/lang/invoke/MethodHandle" ∧ RX8 ≠ "java/lang/invoke/VarHandle" := ⟨by decide +kernel, by decide +kernel⟩
theorem kn_0 : "keepOwnOnly" ≠ "law" := by decide +kernel
theorem kn_1 : "copyFrom" ≠ "law" := by decide +kernel
theorem kn_2 : "<init>" ≠ "law" := by decide +kernel
theorem kn_3 : "add" ≠ "law" := by decide +kernel
theorem kn_4 : "removeFirst" ≠ "law" := by decide +kernel
theorem kn_5 : "readLine" ≠ "law" := by decide +kernel
theorem kn_6 : "isRead" ≠ "law" := by decide +kernel
theorem kn_7 : "at" ≠ "law" := by decide +kernel
theorem kn_8 : "readNumber" ≠ "law" := by decide +kernel
theorem kn_9 : "isNext" ≠ "law" := by decide +kernel
theorem kn_10 : "isDigitNext" ≠ "law" := by decide +kernel
theorem kn_11 : "move" ≠ "law" := by decide +kernel
theorem kn_12 : "isActor" ≠ "law" := by decide +kernel
theorem kn_13 : "isLive" ≠ "law" := by decide +kernel
theorem kn_14 : "begin" ≠ "law" := by decide +kernel
theorem kn_15 : "dealLater" ≠ "law" := by decide +kernel
theorem kn_16 : "dealEarlier" ≠ "law" := by decide +kernel
theorem kn_17 : "sendDown" ≠ "law" := by decide +kernel
theorem kn_18 : "send" ≠ "law" := by decide +kernel
theorem kn_19 : "unstash" ≠ "law" := by decide +kernel
theorem kn_20 : "set" ≠ "law" := by decide +kernel
theorem kn_21 : "watch" ≠ "law" := by decide +kernel
theorem kn_22 : "halt" ≠ "law" := by decide +kernel
theorem kn_23 : "isOverBudgetAbove" ≠ "law" := by decide +kernel
theorem kn_24 : "isRestartedWith" ≠ "law" := by decide +kernel
theorem kn_25 : "restart" ≠ "law" := by decide +kernel
theorem kn_26 : "ownerAt" ≠ "law" := by decide +kernel
theorem kn_27 : "numberAt" ≠ "law" := by decide +kernel
theorem kn_28 : "dueAt" ≠ "law" := by decide +kernel
theorem kn_29 : "isLiveChild" ≠ "law" := by decide +kernel
theorem kn_30 : "greatestLiveChild" ≠ "law" := by decide +kernel
theorem kn_31 : "removeOf" ≠ "law" := by decide +kernel
theorem kn_32 : "remove" ≠ "law" := by decide +kernel
theorem kn_33 : "nextDealer" ≠ "law" := by decide +kernel
theorem kn_34 : "hasStep" ≠ "law" := by decide +kernel
theorem kn_35 : "removeBelow" ≠ "law" := by decide +kernel
theorem kn_36 : "howItStands" ≠ "law" := by decide +kernel
theorem kn_37 : "step" ≠ "law" := by decide +kernel
theorem kn_38 : "fireTimer" ≠ "law" := by decide +kernel
theorem kn_39 : "firstAt" ≠ "law" := by decide +kernel
theorem kn_40 : "secondAt" ≠ "law" := by decide +kernel
theorem kn_41 : "addDroppingOldest" ≠ "law" := by decide +kernel
theorem kn_42 : "deal" ≠ "law" := by decide +kernel
theorem kn_43 : "fail" ≠ "law" := by decide +kernel
theorem kn_44 : "putAhead" ≠ "law" := by decide +kernel
theorem kn_45 : "has" ≠ "law" := by decide +kernel
theorem kn_46 : "addActor" ≠ "law" := by decide +kernel
theorem kn_47 : "liveBits" ≠ "law" := by decide +kernel
theorem kn_48 : "bitCount" ≠ "law" := by decide +kernel
theorem kn_49 : "mailed" ≠ "law" := by decide +kernel
theorem kn_50 : "isSteps" ≠ "law" := by decide +kernel
theorem kn_51 : "makeSteps" ≠ "law" := by decide +kernel
theorem kn_52 : "isHandle" ≠ "law" := by decide +kernel
theorem kn_53 : "countOf" ≠ "law" := by decide +kernel
theorem kn_54 : "countFrom" ≠ "law" := by decide +kernel
theorem kn_55 : "childBits" ≠ "law" := by decide +kernel
theorem kn_56 : "firstOtherwise" ≠ "law" := by decide +kernel
theorem kn_57 : "change" ≠ "law" := by decide +kernel
theorem kn_58 : "fillWithZeros" ≠ "law" := by decide +kernel
theorem kn_59 : "faultOfForm" ≠ "law" := by decide +kernel
theorem kn_60 : "doLineButSteps" ≠ "law" := by decide +kernel
theorem kn_61 : "itemOf" ≠ "law" := by decide +kernel
theorem kn_62 : "isNumber" ≠ "law" := by decide +kernel
theorem kn_63 : "canBe" ≠ "law" := by decide +kernel
theorem kn_64 : "sets" ≠ "law" := by decide +kernel
theorem kn_65 : "take" ≠ "law" := by decide +kernel
theorem kn_66 : "in" ≠ "law" := by decide +kernel
theorem kn_67 : "liveOnes" ≠ "law" := by decide +kernel
theorem kn_68 : "fails" ≠ "law" := by decide +kernel
theorem kn_69 : "isRule" ≠ "law" := by decide +kernel
theorem kn_70 : "bits" ≠ "law" := by decide +kernel
theorem kn_71 : "doing" ≠ "law" := by decide +kernel
theorem kn_72 : "pass" ≠ "law" := by decide +kernel
theorem kn_73 : "sends" ≠ "law" := by decide +kernel
theorem kn_74 : "holds" ≠ "law" := by decide +kernel
theorem kn_75 : "switches" ≠ "law" := by decide +kernel
theorem kn_76 : "delays" ≠ "law" := by decide +kernel
theorem kn_77 : "watches" ≠ "law" := by decide +kernel
theorem kn_78 : "stops" ≠ "law" := by decide +kernel
theorem kn_79 : "actor" ≠ "law" := by decide +kernel
theorem kn_80 : "run" ≠ "law" := by decide +kernel
theorem kn_81 : "runs" ≠ "law" := by decide +kernel
theorem kn_82 : "isOverBudget" ≠ "law" := by decide +kernel
theorem kn_83 : "restarts" ≠ "law" := by decide +kernel
theorem kn_84 : "isEnd" ≠ "law" := by decide +kernel
theorem kn_85 : "nextActor" ≠ "law" := by decide +kernel
theorem kn_86 : "comesBack" ≠ "law" := by decide +kernel
theorem kn_87 : "line" ≠ "law" := by decide +kernel
theorem kn_88 : "must" ≠ "law" := by decide +kernel
theorem kn_89 : "noted" ≠ "law" := by decide +kernel
theorem kn_90 : "sees" ≠ "law" := by decide +kernel
theorem kn_91 : "number" ≠ "law" := by decide +kernel
theorem kn_92 : "toldAs" ≠ "law" := by decide +kernel
theorem kn_93 : "messageAt" ≠ "law" := by decide +kernel
theorem kn_94 : "timersOf" ≠ "law" := by decide +kernel
theorem kn_95 : "childrenOf" ≠ "law" := by decide +kernel
theorem kn_96 : "ordered" ≠ "law" := by decide +kernel
theorem kn_97 : "stopsChildren" ≠ "law" := by decide +kernel
theorem kn_98 : "forgets" ≠ "law" := by decide +kernel
theorem kn_99 : "isForm" ≠ "law" := by decide +kernel
theorem kn_100 : "does" ≠ "law" := by decide +kernel
theorem kn_101 : "logs" ≠ "law" := by decide +kernel
theorem kn_102 : "deals" ≠ "law" := by decide +kernel
theorem kn_103 : "firstTimer" ≠ "law" := by decide +kernel
theorem kn_104 : "unwatches" ≠ "law" := by decide +kernel
theorem kn_105 : "tell" ≠ "law" := by decide +kernel
theorem kn_106 : "of" ≠ "law" := by decide +kernel
theorem kn_107 : "counted" ≠ "law" := by decide +kernel
theorem kn_108 : "message" ≠ "law" := by decide +kernel
theorem kn_109 : "sender" ≠ "law" := by decide +kernel
theorem kn_110 : "stack" ≠ "law" := by decide +kernel
theorem kn_111 : "watcher" ≠ "law" := by decide +kernel
theorem kn_112 : "timer" ≠ "law" := by decide +kernel
theorem kn_113 : "stop" ≠ "law" := by decide +kernel
theorem kn_114 : "ended" ≠ "law" := by decide +kernel
theorem kn_115 : "log" ≠ "law" := by decide +kernel
theorem kn_116 : "cause" ≠ "law" := by decide +kernel
theorem kn_117 : "dry" ≠ "law" := by decide +kernel
theorem kn_118 : "first" ≠ "law" := by decide +kernel
theorem kn_119 : "quiet" ≠ "law" := by decide +kernel
theorem kn_120 : "would" ≠ "law" := by decide +kernel
theorem kn_121 : "brings" ≠ "law" := by decide +kernel
theorem kn_122 : "reach" ≠ "law" := by decide +kernel
theorem kn_123 : "feed" ≠ "law" := by decide +kernel
theorem kn_124 : "script" ≠ "law" := by decide +kernel
theorem kn_125 : "drawn" ≠ "law" := by decide +kernel
theorem kn_126 : "seed" ≠ "law" := by decide +kernel
theorem kn_127 : "order" ≠ "law" := by decide +kernel
theorem kn_128 : "image" ≠ "law" := by decide +kernel
theorem kn_129 : "back" ≠ "law" := by decide +kernel
theorem kn_130 : "hold" ≠ "law" := by decide +kernel
theorem kn_131 : "row" ≠ "law" := by decide +kernel
theorem kn_132 : "put" ≠ "law" := by decide +kernel
theorem kn_133 : "tells" ≠ "law" := by decide +kernel
theorem kn_134 : "count" ≠ "law" := by decide +kernel
theorem kd_0 : (parseMethodDescriptor "()V").map (fun d => d.parameters.length) = some 0 := by decide +kernel
theorem kd_1 : (parseMethodDescriptor "(LActorTrees$Numbers;)V").map (fun d => d.parameters.length) = some 1 := by decide +kernel
theorem kd_2 : (parseMethodDescriptor "(LActorTrees$Pairs;)V").map (fun d => d.parameters.length) = some 1 := by decide +kernel
theorem kd_3 : (parseMethodDescriptor "(I)V").map (fun d => d.parameters.length) = some 1 := by decide +kernel
theorem kd_4 : (parseMethodDescriptor "(I)Z").map (fun d => d.parameters.length) = some 1 := by decide +kernel
theorem kd_5 : (parseMethodDescriptor "(II)Z").map (fun d => d.parameters.length) = some 2 := by decide +kernel
theorem kd_6 : (parseMethodDescriptor "()Z").map (fun d => d.parameters.length) = some 0 := by decide +kernel
theorem kd_7 : (parseMethodDescriptor "(I)I").map (fun d => d.parameters.length) = some 1 := by decide +kernel
theorem kd_8 : (parseMethodDescriptor "(Z)Z").map (fun d => d.parameters.length) = some 1 := by decide +kernel
theorem kd_9 : (parseMethodDescriptor "(C)Z").map (fun d => d.parameters.length) = some 1 := by decide +kernel
theorem kd_10 : (parseMethodDescriptor "(II)V").map (fun d => d.parameters.length) = some 2 := by decide +kernel
theorem kd_11 : (parseMethodDescriptor "(LActorTrees$Actor;)V").map (fun d => d.parameters.length) = some 1 := by decide +kernel
theorem kd_12 : (parseMethodDescriptor "(LActorTrees$Timers;)V").map (fun d => d.parameters.length) = some 1 := by decide +kernel
theorem kd_13 : (parseMethodDescriptor "(III)I").map (fun d => d.parameters.length) = some 3 := by decide +kernel
theorem kd_14 : (parseMethodDescriptor "(IIII)I").map (fun d => d.parameters.length) = some 4 := by decide +kernel
theorem kd_15 : (parseMethodDescriptor "(III)V").map (fun d => d.parameters.length) = some 3 := by decide +kernel
theorem kd_16 : (parseMethodDescriptor "(III)Z").map (fun d => d.parameters.length) = some 3 := by decide +kernel
theorem kd_17 : (parseMethodDescriptor "()I").map (fun d => d.parameters.length) = some 0 := by decide +kernel
theorem kd_18 : (parseMethodDescriptor "(LActorTrees$Pairs;)I").map (fun d => d.parameters.length) = some 1 := by decide +kernel
theorem kd_19 : (parseMethodDescriptor "(IIIII)I").map (fun d => d.parameters.length) = some 5 := by decide +kernel
theorem kd_20 : (parseMethodDescriptor "(LActorTrees$World;)V").map (fun d => d.parameters.length) = some 1 := by decide +kernel
theorem kd_21 : (parseMethodDescriptor "(LActorTrees$Numbers;I)I").map (fun d => d.parameters.length) = some 2 := by decide +kernel
theorem kd_22 : (parseMethodDescriptor "([I[I)V").map (fun d => d.parameters.length) = some 2 := by decide +kernel
theorem kd_23 : (parseMethodDescriptor "(II)I").map (fun d => d.parameters.length) = some 2 := by decide +kernel
theorem kd_24 : (parseMethodDescriptor "(IIZ)V").map (fun d => d.parameters.length) = some 3 := by decide +kernel
theorem kd_25 : (parseMethodDescriptor "(IZ)I").map (fun d => d.parameters.length) = some 2 := by decide +kernel
theorem kd_26 : (parseMethodDescriptor "(Z)I").map (fun d => d.parameters.length) = some 1 := by decide +kernel
theorem kd_27 : (parseMethodDescriptor "(IIZ)I").map (fun d => d.parameters.length) = some 3 := by decide +kernel
theorem cal_3 : XCal xm 3 0 1 := xcal_of (Y := Y3) rfl ⟨by decide +kernel, by decide +kernel, kc_0, kn_0, xw_9, xw_10, kh_0, kd_0⟩
theorem cal_8 : XCal xm 8 1 2 := xcal_of (Y := Y8) rfl ⟨by decide +kernel, by decide +kernel, kc_1, kn_1, xw_18, xw_19, kh_1, kd_1⟩
theorem cal_17 : XCal xm 17 1 2 := xcal_of (Y := Y17) rfl ⟨by decide +kernel, by decide +kernel, kc_2, kn_1, xw_23, xw_24, kh_2, kd_2⟩
theorem cal_12 : XCal xm 12 1 2 := xcal_of (Y := Y12) rfl ⟨by decide +kernel, by decide +kernel, kc_1, kn_2, xw_34, xw_19, kh_1, kd_3⟩
theorem cal_19 : XCal xm 19 1 2 := xcal_of (Y := Y19) rfl ⟨by decide +kernel, by decide +kernel, kc_2, kn_2, xw_39, xw_24, kh_2, kd_3⟩
theorem cal_5 : XCal xm 5 1 2 := xcal_of (Y := Y5) rfl ⟨by decide +kernel, by decide +kernel, kc_1, kn_3, xw_42, xw_19, kh_1, kd_4⟩
theorem cal_21 : XCal xm 21 0 1 := xcal_of (Y := Y21) rfl ⟨by decide +kernel, by decide +kernel, kc_2, kn_4, xw_68, xw_24, kh_2, kd_0⟩
theorem cal_15 : XCal xm 15 2 3 := xcal_of (Y := Y15) rfl ⟨by decide +kernel, by decide +kernel, kc_2, kn_3, xw_72, xw_24, kh_2, kd_5⟩
theorem cal_28 : XCal xm 28 0 1 := xcal_of (Y := Y28) rfl ⟨by decide +kernel, by decide +kernel, kc_3, kn_5, xw_81, xw_82, kh_3, kd_6⟩
theorem cal_27 : XCal xm 27 0 1 := xcal_of (Y := Y27) rfl ⟨by decide +kernel, by decide +kernel, kc_3, kn_6, xw_86, xw_82, kh_3, kd_6⟩
theorem cal_6 : XCal xm 6 1 2 := xcal_of (Y := Y6) rfl ⟨by decide +kernel, by decide +kernel, kc_1, kn_7, xw_91, xw_19, kh_1, kd_7⟩
theorem cal_29 : XCal xm 29 1 2 := xcal_of (Y := Y29) rfl ⟨by decide +kernel, by decide +kernel, kc_3, kn_8, xw_101, xw_82, kh_3, kd_8⟩
theorem cal_26 : XCal xm 26 1 2 := xcal_of (Y := Y26) rfl ⟨by decide +kernel, by decide +kernel, kc_3, kn_9, xw_105, xw_82, kh_3, kd_9⟩
theorem cal_25 : XCal xm 25 0 1 := xcal_of (Y := Y25) rfl ⟨by decide +kernel, by decide +kernel, kc_3, kn_10, xw_109, xw_82, kh_3, kd_6⟩
theorem cal_34 : XCal xm 34 2 3 := xcal_of (Y := Y34) rfl ⟨by decide +kernel, by decide +kernel, kc_4, kn_11, xw_122, xw_123, kh_4, kd_10⟩
theorem cal_53 : XCal xm 53 1 2 := xcal_of (Y := Y53) rfl ⟨by decide +kernel, by decide +kernel, kc_5, kn_12, xw_128, xw_129, kh_5, kd_4⟩
theorem cal_54 : XCal xm 54 1 2 := xcal_of (Y := Y54) rfl ⟨by decide +kernel, by decide +kernel, kc_5, kn_13, xw_133, xw_129, kh_5, kd_4⟩
theorem cal_0 : XCal xm 0 2 3 := xcal_of (Y := Y0) rfl ⟨by decide +kernel, by decide +kernel, kc_0, kn_14, xw_138, xw_10, kh_0, kd_10⟩
theorem cal_1 : XCal xm 1 1 2 := xcal_of (Y := Y1) rfl ⟨by decide +kernel, by decide +kernel, kc_0, kn_1, xw_146, xw_10, kh_0, kd_11⟩
theorem cal_30 : XCal xm 30 1 2 := xcal_of (Y := Y30) rfl ⟨by decide +kernel, by decide +kernel, kc_4, kn_1, xw_151, xw_123, kh_4, kd_12⟩
theorem cal_45 : XCal xm 45 3 4 := xcal_of (Y := Y45) rfl ⟨by decide +kernel, by decide +kernel, kc_5, kn_15, xw_167, xw_129, kh_5, kd_13⟩
theorem cal_44 : XCal xm 44 4 5 := xcal_of (Y := Y44) rfl ⟨by decide +kernel, by decide +kernel, kc_5, kn_16, xw_171, xw_129, kh_5, kd_14⟩
theorem cal_64 : XCal xm 64 3 4 := xcal_of (Y := Y64) rfl ⟨by decide +kernel, by decide +kernel, kc_5, kn_17, xw_176, xw_129, kh_5, kd_15⟩
theorem cal_63 : XCal xm 63 3 4 := xcal_of (Y := Y63) rfl ⟨by decide +kernel, by decide +kernel, kc_5, kn_18, xw_180, xw_129, kh_5, kd_16⟩
theorem cal_66 : XCal xm 66 1 2 := xcal_of (Y := Y66) rfl ⟨by decide +kernel, by decide +kernel, kc_5, kn_19, xw_186, xw_129, kh_5, kd_11⟩
theorem cal_39 : XCal xm 39 3 4 := xcal_of (Y := Y39) rfl ⟨by decide +kernel, by decide +kernel, kc_4, kn_20, xw_191, xw_123, kh_4, kd_15⟩
theorem cal_67 : XCal xm 67 2 3 := xcal_of (Y := Y67) rfl ⟨by decide +kernel, by decide +kernel, kc_5, kn_21, xw_195, xw_129, kh_5, kd_10⟩
theorem cal_49 : XCal xm 49 1 2 := xcal_of (Y := Y49) rfl ⟨by decide +kernel, by decide +kernel, kc_5, kn_22, xw_199, xw_129, kh_5, kd_7⟩
theorem cal_56 : XCal xm 56 1 2 := xcal_of (Y := Y56) rfl ⟨by decide +kernel, by decide +kernel, kc_5, kn_23, xw_205, xw_129, kh_5, kd_4⟩
theorem cal_57 : XCal xm 57 2 3 := xcal_of (Y := Y57) rfl ⟨by decide +kernel, by decide +kernel, kc_5, kn_24, xw_209, xw_129, kh_5, kd_5⟩
theorem cal_62 : XCal xm 62 1 2 := xcal_of (Y := Y62) rfl ⟨by decide +kernel, by decide +kernel, kc_5, kn_25, xw_213, xw_129, kh_5, kd_3⟩
theorem cal_36 : XCal xm 36 1 2 := xcal_of (Y := Y36) rfl ⟨by decide +kernel, by decide +kernel, kc_4, kn_26, xw_218, xw_123, kh_4, kd_7⟩
theorem cal_35 : XCal xm 35 1 2 := xcal_of (Y := Y35) rfl ⟨by decide +kernel, by decide +kernel, kc_4, kn_27, xw_222, xw_123, kh_4, kd_7⟩
theorem cal_32 : XCal xm 32 1 2 := xcal_of (Y := Y32) rfl ⟨by decide +kernel, by decide +kernel, kc_4, kn_28, xw_226, xw_123, kh_4, kd_7⟩
theorem cal_37 : XCal xm 37 0 1 := xcal_of (Y := Y37) rfl ⟨by decide +kernel, by decide +kernel, kc_4, kn_4, xw_230, xw_123, kh_4, kd_0⟩
theorem cal_55 : XCal xm 55 2 3 := xcal_of (Y := Y55) rfl ⟨by decide +kernel, by decide +kernel, kc_5, kn_29, xw_234, xw_129, kh_5, kd_5⟩
theorem cal_48 : XCal xm 48 1 2 := xcal_of (Y := Y48) rfl ⟨by decide +kernel, by decide +kernel, kc_5, kn_30, xw_238, xw_129, kh_5, kd_7⟩
theorem cal_38 : XCal xm 38 1 2 := xcal_of (Y := Y38) rfl ⟨by decide +kernel, by decide +kernel, kc_4, kn_31, xw_245, xw_123, kh_4, kd_3⟩
theorem cal_13 : XCal xm 13 1 2 := xcal_of (Y := Y13) rfl ⟨by decide +kernel, by decide +kernel, kc_1, kn_32, xw_250, xw_19, kh_1, kd_3⟩
theorem cal_61 : XCal xm 61 0 1 := xcal_of (Y := Y61) rfl ⟨by decide +kernel, by decide +kernel, kc_5, kn_33, xw_254, xw_129, kh_5, kd_17⟩
theorem cal_50 : XCal xm 50 0 1 := xcal_of (Y := Y50) rfl ⟨by decide +kernel, by decide +kernel, kc_5, kn_34, xw_258, xw_129, kh_5, kd_6⟩
theorem cal_33 : XCal xm 33 0 1 := xcal_of (Y := Y33) rfl ⟨by decide +kernel, by decide +kernel, kc_4, kn_2, xw_266, xw_123, kh_4, kd_0⟩
theorem cal_2 : XCal xm 2 0 1 := xcal_of (Y := Y2) rfl ⟨by decide +kernel, by decide +kernel, kc_0, kn_2, xw_271, xw_10, kh_0, kd_0⟩
theorem cal_14 : XCal xm 14 1 2 := xcal_of (Y := Y14) rfl ⟨by decide +kernel, by decide +kernel, kc_1, kn_35, xw_274, xw_19, kh_1, kd_3⟩
theorem cal_51 : XCal xm 51 0 1 := xcal_of (Y := Y51) rfl ⟨by decide +kernel, by decide +kernel, kc_5, kn_36, xw_278, xw_129, kh_5, kd_17⟩
theorem cal_65 : XCal xm 65 0 1 := xcal_of (Y := Y65) rfl ⟨by decide +kernel, by decide +kernel, kc_5, kn_37, xw_282, xw_129, kh_5, kd_6⟩
theorem cal_47 : XCal xm 47 0 1 := xcal_of (Y := Y47) rfl ⟨by decide +kernel, by decide +kernel, kc_5, kn_38, xw_287, xw_129, kh_5, kd_6⟩
theorem cal_18 : XCal xm 18 1 2 := xcal_of (Y := Y18) rfl ⟨by decide +kernel, by decide +kernel, kc_2, kn_39, xw_291, xw_24, kh_2, kd_7⟩
theorem cal_22 : XCal xm 22 1 2 := xcal_of (Y := Y22) rfl ⟨by decide +kernel, by decide +kernel, kc_2, kn_40, xw_295, xw_24, kh_2, kd_7⟩
theorem cal_16 : XCal xm 16 2 3 := xcal_of (Y := Y16) rfl ⟨by decide +kernel, by decide +kernel, kc_2, kn_41, xw_300, xw_24, kh_2, kd_10⟩
theorem cal_43 : XCal xm 43 3 4 := xcal_of (Y := Y43) rfl ⟨by decide +kernel, by decide +kernel, kc_5, kn_42, xw_304, xw_129, kh_5, kd_13⟩
theorem cal_46 : XCal xm 46 2 3 := xcal_of (Y := Y46) rfl ⟨by decide +kernel, by decide +kernel, kc_5, kn_43, xw_308, xw_129, kh_5, kd_10⟩
theorem cal_20 : XCal xm 20 1 2 := xcal_of (Y := Y20) rfl ⟨by decide +kernel, by decide +kernel, kc_2, kn_44, xw_312, xw_24, kh_2, kd_18⟩
theorem cal_11 : XCal xm 11 1 2 := xcal_of (Y := Y11) rfl ⟨by decide +kernel, by decide +kernel, kc_1, kn_45, xw_316, xw_19, kh_1, kd_4⟩
theorem cal_40 : XCal xm 40 5 6 := xcal_of (Y := Y40) rfl ⟨by decide +kernel, by decide +kernel, kc_5, kn_46, xw_321, xw_129, kh_5, kd_19⟩
theorem cal_42 : XCal xm 42 1 2 := xcal_of (Y := Y42) rfl ⟨by decide +kernel, by decide +kernel, kc_5, kn_1, xw_327, xw_129, kh_5, kd_20⟩
theorem cal_58 : XCal xm 58 0 1 := xcal_of (Y := Y58) rfl ⟨by decide +kernel, by decide +kernel, kc_5, kn_47, xw_341, xw_129, kh_5, kd_17⟩
theorem cal_189 : XCal xm 189 1 1 := xcal_of (Y := Y189) rfl ⟨by decide +kernel, by decide +kernel, kc_6, kn_48, xw_349, xw_350, kh_6, kd_7⟩
theorem cal_59 : XCal xm 59 0 1 := xcal_of (Y := Y59) rfl ⟨by decide +kernel, by decide +kernel, kc_5, kn_49, xw_353, xw_129, kh_5, kd_17⟩
theorem cal_86 : XCal xm 86 1 1 := xcal_of (Y := Y86) rfl ⟨by decide +kernel, by decide +kernel, kc_7, kn_50, xw_376, xw_377, kh_7, kd_4⟩
theorem cal_60 : XCal xm 60 1 2 := xcal_of (Y := Y60) rfl ⟨by decide +kernel, by decide +kernel, kc_5, kn_51, xw_380, xw_129, kh_5, kd_7⟩
theorem cal_84 : XCal xm 84 1 1 := xcal_of (Y := Y84) rfl ⟨by decide +kernel, by decide +kernel, kc_7, kn_52, xw_388, xw_377, kh_7, kd_4⟩
theorem cal_52 : XCal xm 52 0 1 := xcal_of (Y := Y52) rfl ⟨by decide +kernel, by decide +kernel, kc_5, kn_2, xw_394, xw_129, kh_5, kd_0⟩
theorem cal_24 : XCal xm 24 0 1 := xcal_of (Y := Y24) rfl ⟨by decide +kernel, by decide +kernel, kc_3, kn_2, xw_400, xw_82, kh_3, kd_0⟩
theorem cal_4 : XCal xm 4 0 1 := xcal_of (Y := Y4) rfl ⟨by decide +kernel, by decide +kernel, kc_8, kn_2, xw_405, xw_404, kh_8, kd_0⟩
theorem cal_31 : XCal xm 31 1 2 := xcal_of (Y := Y31) rfl ⟨by decide +kernel, by decide +kernel, kc_4, kn_53, xw_417, xw_123, kh_4, kd_7⟩
theorem cal_9 : XCal xm 9 1 2 := xcal_of (Y := Y9) rfl ⟨by decide +kernel, by decide +kernel, kc_1, kn_54, xw_422, xw_19, kh_1, kd_7⟩
theorem cal_41 : XCal xm 41 1 2 := xcal_of (Y := Y41) rfl ⟨by decide +kernel, by decide +kernel, kc_5, kn_55, xw_426, xw_129, kh_5, kd_7⟩
theorem cal_80 : XCal xm 80 2 3 := xcal_of (Y := Y80) rfl ⟨by decide +kernel, by decide +kernel, kc_7, kn_56, xw_431, xw_377, kh_7, kd_21⟩
theorem cal_7 : XCal xm 7 2 3 := xcal_of (Y := Y7) rfl ⟨by decide +kernel, by decide +kernel, kc_1, kn_57, xw_435, xw_19, kh_1, kd_10⟩
theorem cal_10 : XCal xm 10 1 2 := xcal_of (Y := Y10) rfl ⟨by decide +kernel, by decide +kernel, kc_1, kn_58, xw_440, xw_19, kh_1, kd_3⟩
theorem cal_23 : XCal xm 23 0 1 := xcal_of (Y := Y23) rfl ⟨by decide +kernel, by decide +kernel, kc_3, kn_59, xw_444, xw_82, kh_3, kd_17⟩
theorem cal_74 : XCal xm 74 0 1 := xcal_of (Y := Y74) rfl ⟨by decide +kernel, by decide +kernel, kc_7, kn_60, xw_449, xw_377, kh_7, kd_17⟩
theorem cal_87 : XCal xm 87 2 2 := xcal_of (Y := Y87) rfl ⟨by decide +kernel, by decide +kernel, kc_7, kn_61, xw_453, xw_377, kh_7, kd_21⟩
theorem cal_85 : XCal xm 85 1 1 := xcal_of (Y := Y85) rfl ⟨by decide +kernel, by decide +kernel, kc_7, kn_62, xw_457, xw_377, kh_7, kd_4⟩
theorem cal_112 : XCal xm 112 3 4 := xcal_of (Y := Y112) rfl ⟨by decide +kernel, by decide +kernel, kc_9, kn_63, xw_465, xw_466, kh_9, kd_13⟩
theorem cal_172 : XCal xm 172 3 4 := xcal_of (Y := Y172) rfl ⟨by decide +kernel, by decide +kernel, kc_9, kn_64, xw_471, xw_466, kh_9, kd_15⟩
theorem cal_179 : XCal xm 179 2 2 := xcal_of (Y := Y179) rfl ⟨by decide +kernel, by decide +kernel, kc_9, kn_65, xw_477, xw_466, kh_9, kd_22⟩
theorem cal_136 : XCal xm 136 1 2 := xcal_of (Y := Y136) rfl ⟨by decide +kernel, by decide +kernel, kc_9, kn_12, xw_482, xw_466, kh_9, kd_4⟩
theorem cal_134 : XCal xm 134 3 3 := xcal_of (Y := Y134) rfl ⟨by decide +kernel, by decide +kernel, kc_9, kn_66, xw_486, xw_466, kh_9, kd_16⟩
theorem cal_140 : XCal xm 140 1 2 := xcal_of (Y := Y140) rfl ⟨by decide +kernel, by decide +kernel, kc_9, kn_13, xw_489, xw_466, kh_9, kd_4⟩
theorem cal_147 : XCal xm 147 0 1 := xcal_of (Y := Y147) rfl ⟨by decide +kernel, by decide +kernel, kc_9, kn_67, xw_495, xw_466, kh_9, kd_17⟩
theorem cal_125 : XCal xm 125 2 3 := xcal_of (Y := Y125) rfl ⟨by decide +kernel, by decide +kernel, kc_9, kn_68, xw_500, xw_466, kh_9, kd_10⟩
theorem cal_145 : XCal xm 145 1 1 := xcal_of (Y := Y145) rfl ⟨by decide +kernel, by decide +kernel, kc_9, kn_69, xw_504, xw_466, kh_9, kd_4⟩
theorem cal_108 : XCal xm 108 2 3 := xcal_of (Y := Y108) rfl ⟨by decide +kernel, by decide +kernel, kc_9, kn_7, xw_507, xw_466, kh_9, kd_23⟩
theorem cal_110 : XCal xm 110 1 1 := xcal_of (Y := Y110) rfl ⟨by decide +kernel, by decide +kernel, kc_9, kn_70, xw_511, xw_466, kh_9, kd_7⟩
theorem cal_121 : XCal xm 121 1 2 := xcal_of (Y := Y121) rfl ⟨by decide +kernel, by decide +kernel, kc_9, kn_71, xw_515, xw_466, kh_9, kd_7⟩
theorem cal_159 : XCal xm 159 3 4 := xcal_of (Y := Y159) rfl ⟨by decide +kernel, by decide +kernel, kc_9, kn_72, xw_519, xw_466, kh_9, kd_24⟩
theorem cal_171 : XCal xm 171 3 4 := xcal_of (Y := Y171) rfl ⟨by decide +kernel, by decide +kernel, kc_9, kn_73, xw_523, xw_466, kh_9, kd_16⟩
theorem cal_132 : XCal xm 132 3 4 := xcal_of (Y := Y132) rfl ⟨by decide +kernel, by decide +kernel, kc_9, kn_74, xw_527, xw_466, kh_9, kd_15⟩
theorem cal_178 : XCal xm 178 2 3 := xcal_of (Y := Y178) rfl ⟨by decide +kernel, by decide +kernel, kc_9, kn_75, xw_531, xw_466, kh_9, kd_10⟩
theorem cal_119 : XCal xm 119 2 3 := xcal_of (Y := Y119) rfl ⟨by decide +kernel, by decide +kernel, kc_9, kn_76, xw_535, xw_466, kh_9, kd_10⟩
theorem cal_187 : XCal xm 187 2 3 := xcal_of (Y := Y187) rfl ⟨by decide +kernel, by decide +kernel, kc_9, kn_77, xw_539, xw_466, kh_9, kd_10⟩
theorem cal_176 : XCal xm 176 1 2 := xcal_of (Y := Y176) rfl ⟨by decide +kernel, by decide +kernel, kc_9, kn_78, xw_543, xw_466, kh_9, kd_3⟩
theorem cal_107 : XCal xm 107 3 4 := xcal_of (Y := Y107) rfl ⟨by decide +kernel, by decide +kernel, kc_9, kn_79, xw_548, xw_466, kh_9, kd_13⟩
theorem cal_165 : XCal xm 165 1 2 := xcal_of (Y := Y165) rfl ⟨by decide +kernel, by decide +kernel, kc_9, kn_80, xw_552, xw_466, kh_9, kd_7⟩
theorem cal_166 : XCal xm 166 1 2 := xcal_of (Y := Y166) rfl ⟨by decide +kernel, by decide +kernel, kc_9, kn_81, xw_557, xw_466, kh_9, kd_7⟩
theorem cal_144 : XCal xm 144 1 2 := xcal_of (Y := Y144) rfl ⟨by decide +kernel, by decide +kernel, kc_9, kn_82, xw_565, xw_466, kh_9, kd_4⟩
theorem cal_141 : XCal xm 141 2 3 := xcal_of (Y := Y141) rfl ⟨by decide +kernel, by decide +kernel, kc_9, kn_29, xw_569, xw_466, kh_9, kd_5⟩
theorem cal_163 : XCal xm 163 1 2 := xcal_of (Y := Y163) rfl ⟨by decide +kernel, by decide +kernel, kc_9, kn_83, xw_573, xw_466, kh_9, kd_3⟩
theorem cal_137 : XCal xm 137 2 3 := xcal_of (Y := Y137) rfl ⟨by decide +kernel, by decide +kernel, kc_9, kn_84, xw_578, xw_466, kh_9, kd_5⟩
theorem cal_174 : XCal xm 174 0 1 := xcal_of (Y := Y174) rfl ⟨by decide +kernel, by decide +kernel, kc_9, kn_37, xw_582, xw_466, kh_9, kd_0⟩
theorem cal_153 : XCal xm 153 0 1 := xcal_of (Y := Y153) rfl ⟨by decide +kernel, by decide +kernel, kc_9, kn_85, xw_586, xw_466, kh_9, kd_17⟩
theorem cal_139 : XCal xm 139 1 2 := xcal_of (Y := Y139) rfl ⟨by decide +kernel, by decide +kernel, kc_9, kn_52, xw_590, xw_466, kh_9, kd_4⟩
theorem cal_115 : XCal xm 115 1 2 := xcal_of (Y := Y115) rfl ⟨by decide +kernel, by decide +kernel, kc_9, kn_86, xw_594, xw_466, kh_9, kd_3⟩
theorem cal_130 : XCal xm 130 0 1 := xcal_of (Y := Y130) rfl ⟨by decide +kernel, by decide +kernel, kc_9, kn_34, xw_605, xw_466, kh_9, kd_6⟩
theorem cal_146 : XCal xm 146 0 1 := xcal_of (Y := Y146) rfl ⟨by decide +kernel, by decide +kernel, kc_9, kn_87, xw_611, xw_466, kh_9, kd_17⟩
theorem cal_152 : XCal xm 152 2 3 := xcal_of (Y := Y152) rfl ⟨by decide +kernel, by decide +kernel, kc_9, kn_88, xw_615, xw_466, kh_9, kd_23⟩
theorem cal_154 : XCal xm 154 2 3 := xcal_of (Y := Y154) rfl ⟨by decide +kernel, by decide +kernel, kc_9, kn_89, xw_619, xw_466, kh_9, kd_25⟩
theorem cal_169 : XCal xm 169 2 3 := xcal_of (Y := Y169) rfl ⟨by decide +kernel, by decide +kernel, kc_9, kn_90, xw_623, xw_466, kh_9, kd_5⟩
theorem cal_155 : XCal xm 155 1 2 := xcal_of (Y := Y155) rfl ⟨by decide +kernel, by decide +kernel, kc_9, kn_91, xw_627, xw_466, kh_9, kd_26⟩
theorem cal_184 : XCal xm 184 1 1 := xcal_of (Y := Y184) rfl ⟨by decide +kernel, by decide +kernel, kc_9, kn_92, xw_631, xw_466, kh_9, kd_7⟩
theorem cal_151 : XCal xm 151 3 4 := xcal_of (Y := Y151) rfl ⟨by decide +kernel, by decide +kernel, kc_9, kn_93, xw_635, xw_466, kh_9, kd_27⟩
theorem cal_183 : XCal xm 183 1 2 := xcal_of (Y := Y183) rfl ⟨by decide +kernel, by decide +kernel, kc_9, kn_94, xw_639, xw_466, kh_9, kd_7⟩
theorem cal_114 : XCal xm 114 1 2 := xcal_of (Y := Y114) rfl ⟨by decide +kernel, by decide +kernel, kc_9, kn_95, xw_643, xw_466, kh_9, kd_7⟩
theorem cal_158 : XCal xm 158 2 3 := xcal_of (Y := Y158) rfl ⟨by decide +kernel, by decide +kernel, kc_9, kn_96, xw_647, xw_466, kh_9, kd_23⟩
theorem cal_142 : XCal xm 142 2 3 := xcal_of (Y := Y142) rfl ⟨by decide +kernel, by decide +kernel, kc_9, kn_9, xw_651, xw_466, kh_9, kd_5⟩
theorem cal_177 : XCal xm 177 1 2 := xcal_of (Y := Y177) rfl ⟨by decide +kernel, by decide +kernel, kc_9, kn_97, xw_655, xw_466, kh_9, kd_3⟩
theorem cal_129 : XCal xm 129 1 2 := xcal_of (Y := Y129) rfl ⟨by decide +kernel, by decide +kernel, kc_9, kn_98, xw_659, xw_466, kh_9, kd_3⟩
theorem cal_138 : XCal xm 138 0 1 := xcal_of (Y := Y138) rfl ⟨by decide +kernel, by decide +kernel, kc_9, kn_99, xw_663, xw_466, kh_9, kd_6⟩
theorem cal_120 : XCal xm 120 1 2 := xcal_of (Y := Y120) rfl ⟨by decide +kernel, by decide +kernel, kc_9, kn_100, xw_667, xw_466, kh_9, kd_4⟩
theorem cal_149 : XCal xm 149 2 3 := xcal_of (Y := Y149) rfl ⟨by decide +kernel, by decide +kernel, kc_9, kn_101, xw_671, xw_466, kh_9, kd_10⟩
theorem cal_118 : XCal xm 118 3 4 := xcal_of (Y := Y118) rfl ⟨by decide +kernel, by decide +kernel, kc_9, kn_102, xw_675, xw_466, kh_9, kd_15⟩
theorem cal_128 : XCal xm 128 0 1 := xcal_of (Y := Y128) rfl ⟨by decide +kernel, by decide +kernel, kc_9, kn_103, xw_679, xw_466, kh_9, kd_17⟩
theorem cal_185 : XCal xm 185 1 2 := xcal_of (Y := Y185) rfl ⟨by decide +kernel, by decide +kernel, kc_9, kn_104, xw_683, xw_466, kh_9, kd_3⟩
theorem cal_143 : XCal xm 143 1 1 := xcal_of (Y := Y143) rfl ⟨by decide +kernel, by decide +kernel, kc_9, kn_62, xw_687, xw_466, kh_9, kd_4⟩
theorem cal_83 : XCal xm 83 0 1 := xcal_of (Y := Y83) rfl ⟨by decide +kernel, by decide +kernel, kc_7, kn_2, xw_696, xw_377, kh_7, kd_0⟩
theorem cal_135 : XCal xm 135 0 1 := xcal_of (Y := Y135) rfl ⟨by decide +kernel, by decide +kernel, kc_9, kn_2, xw_701, xw_466, kh_9, kd_0⟩
theorem cal_68 : XCal xm 68 3 4 := xcal_of (Y := Y68) rfl ⟨by decide +kernel, by decide +kernel, kc_7, kn_79, xw_704, xw_377, kh_7, kd_13⟩
theorem cal_102 : XCal xm 102 3 4 := xcal_of (Y := Y102) rfl ⟨by decide +kernel, by decide +kernel, kc_7, kn_105, xw_709, xw_377, kh_7, kd_13⟩
theorem cal_180 : XCal xm 180 3 4 := xcal_of (Y := Y180) rfl ⟨by decide +kernel, by decide +kernel, kc_9, kn_105, xw_713, xw_466, kh_9, kd_13⟩
theorem cal_90 : XCal xm 90 2 3 := xcal_of (Y := Y90) rfl ⟨by decide +kernel, by decide +kernel, kc_7, kn_106, xw_717, xw_377, kh_7, kd_23⟩
theorem cal_156 : XCal xm 156 2 3 := xcal_of (Y := Y156) rfl ⟨by decide +kernel, by decide +kernel, kc_9, kn_106, xw_721, xw_466, kh_9, kd_23⟩
theorem cal_73 : XCal xm 73 1 2 := xcal_of (Y := Y73) rfl ⟨by decide +kernel, by decide +kernel, kc_7, kn_107, xw_725, xw_377, kh_7, kd_7⟩
theorem cal_117 : XCal xm 117 1 2 := xcal_of (Y := Y117) rfl ⟨by decide +kernel, by decide +kernel, kc_9, kn_107, xw_729, xw_466, kh_9, kd_7⟩
theorem cal_89 : XCal xm 89 3 4 := xcal_of (Y := Y89) rfl ⟨by decide +kernel, by decide +kernel, kc_7, kn_108, xw_733, xw_377, kh_7, kd_27⟩
theorem cal_150 : XCal xm 150 3 4 := xcal_of (Y := Y150) rfl ⟨by decide +kernel, by decide +kernel, kc_9, kn_108, xw_737, xw_466, kh_9, kd_27⟩
theorem cal_99 : XCal xm 99 3 4 := xcal_of (Y := Y99) rfl ⟨by decide +kernel, by decide +kernel, kc_7, kn_109, xw_741, xw_377, kh_7, kd_27⟩
theorem cal_170 : XCal xm 170 3 4 := xcal_of (Y := Y170) rfl ⟨by decide +kernel, by decide +kernel, kc_9, kn_109, xw_745, xw_466, kh_9, kd_27⟩
theorem cal_100 : XCal xm 100 2 3 := xcal_of (Y := Y100) rfl ⟨by decide +kernel, by decide +kernel, kc_7, kn_110, xw_749, xw_377, kh_7, kd_23⟩
theorem cal_173 : XCal xm 173 2 3 := xcal_of (Y := Y173) rfl ⟨by decide +kernel, by decide +kernel, kc_9, kn_110, xw_753, xw_466, kh_9, kd_23⟩
theorem cal_105 : XCal xm 105 2 3 := xcal_of (Y := Y105) rfl ⟨by decide +kernel, by decide +kernel, kc_7, kn_111, xw_757, xw_377, kh_7, kd_23⟩
theorem cal_186 : XCal xm 186 2 3 := xcal_of (Y := Y186) rfl ⟨by decide +kernel, by decide +kernel, kc_9, kn_111, xw_761, xw_466, kh_9, kd_23⟩
theorem cal_104 : XCal xm 104 2 3 := xcal_of (Y := Y104) rfl ⟨by decide +kernel, by decide +kernel, kc_7, kn_112, xw_765, xw_377, kh_7, kd_23⟩
theorem cal_182 : XCal xm 182 2 3 := xcal_of (Y := Y182) rfl ⟨by decide +kernel, by decide +kernel, kc_9, kn_112, xw_769, xw_466, kh_9, kd_23⟩
theorem cal_101 : XCal xm 101 1 2 := xcal_of (Y := Y101) rfl ⟨by decide +kernel, by decide +kernel, kc_7, kn_113, xw_773, xw_377, kh_7, kd_7⟩
theorem cal_175 : XCal xm 175 1 2 := xcal_of (Y := Y175) rfl ⟨by decide +kernel, by decide +kernel, kc_9, kn_113, xw_777, xw_466, kh_9, kd_7⟩
theorem cal_96 : XCal xm 96 1 2 := xcal_of (Y := Y96) rfl ⟨by decide +kernel, by decide +kernel, kc_7, kn_80, xw_781, xw_377, kh_7, kd_7⟩
theorem cal_77 : XCal xm 77 0 1 := xcal_of (Y := Y77) rfl ⟨by decide +kernel, by decide +kernel, kc_7, kn_114, xw_786, xw_377, kh_7, kd_17⟩
theorem cal_124 : XCal xm 124 0 1 := xcal_of (Y := Y124) rfl ⟨by decide +kernel, by decide +kernel, kc_9, kn_114, xw_790, xw_466, kh_9, kd_17⟩
theorem cal_88 : XCal xm 88 1 2 := xcal_of (Y := Y88) rfl ⟨by decide +kernel, by decide +kernel, kc_7, kn_115, xw_794, xw_377, kh_7, kd_7⟩
theorem cal_148 : XCal xm 148 1 2 := xcal_of (Y := Y148) rfl ⟨by decide +kernel, by decide +kernel, kc_9, kn_115, xw_798, xw_466, kh_9, kd_7⟩
theorem cal_71 : XCal xm 71 2 3 := xcal_of (Y := Y71) rfl ⟨by decide +kernel, by decide +kernel, kc_7, kn_116, xw_802, xw_377, kh_7, kd_23⟩
theorem cal_113 : XCal xm 113 2 3 := xcal_of (Y := Y113) rfl ⟨by decide +kernel, by decide +kernel, kc_9, kn_116, xw_806, xw_466, kh_9, kd_23⟩
theorem cal_76 : XCal xm 76 2 3 := xcal_of (Y := Y76) rfl ⟨by decide +kernel, by decide +kernel, kc_7, kn_117, xw_810, xw_377, kh_7, kd_23⟩
theorem cal_123 : XCal xm 123 2 3 := xcal_of (Y := Y123) rfl ⟨by decide +kernel, by decide +kernel, kc_9, kn_117, xw_814, xw_466, kh_9, kd_23⟩
theorem cal_79 : XCal xm 79 0 1 := xcal_of (Y := Y79) rfl ⟨by decide +kernel, by decide +kernel, kc_7, kn_118, xw_818, xw_377, kh_7, kd_17⟩
theorem cal_127 : XCal xm 127 0 1 := xcal_of (Y := Y127) rfl ⟨by decide +kernel, by decide +kernel, kc_9, kn_118, xw_822, xw_466, kh_9, kd_17⟩
theorem cal_93 : XCal xm 93 0 1 := xcal_of (Y := Y93) rfl ⟨by decide +kernel, by decide +kernel, kc_7, kn_119, xw_826, xw_377, kh_7, kd_17⟩
theorem cal_161 : XCal xm 161 0 1 := xcal_of (Y := Y161) rfl ⟨by decide +kernel, by decide +kernel, kc_9, kn_119, xw_830, xw_466, kh_9, kd_17⟩
theorem cal_106 : XCal xm 106 3 4 := xcal_of (Y := Y106) rfl ⟨by decide +kernel, by decide +kernel, kc_7, kn_120, xw_834, xw_377, kh_7, kd_13⟩
theorem cal_188 : XCal xm 188 3 4 := xcal_of (Y := Y188) rfl ⟨by decide +kernel, by decide +kernel, kc_9, kn_120, xw_838, xw_466, kh_9, kd_13⟩
theorem cal_70 : XCal xm 70 2 3 := xcal_of (Y := Y70) rfl ⟨by decide +kernel, by decide +kernel, kc_7, kn_121, xw_842, xw_377, kh_7, kd_23⟩
theorem cal_111 : XCal xm 111 2 3 := xcal_of (Y := Y111) rfl ⟨by decide +kernel, by decide +kernel, kc_9, kn_121, xw_846, xw_466, kh_9, kd_23⟩
theorem cal_94 : XCal xm 94 2 3 := xcal_of (Y := Y94) rfl ⟨by decide +kernel, by decide +kernel, kc_7, kn_122, xw_850, xw_377, kh_7, kd_23⟩
theorem cal_162 : XCal xm 162 2 3 := xcal_of (Y := Y162) rfl ⟨by decide +kernel, by decide +kernel, kc_9, kn_122, xw_854, xw_466, kh_9, kd_23⟩
theorem cal_78 : XCal xm 78 1 2 := xcal_of (Y := Y78) rfl ⟨by decide +kernel, by decide +kernel, kc_7, kn_123, xw_858, xw_377, kh_7, kd_7⟩
theorem cal_126 : XCal xm 126 1 2 := xcal_of (Y := Y126) rfl ⟨by decide +kernel, by decide +kernel, kc_9, kn_123, xw_862, xw_466, kh_9, kd_7⟩
theorem cal_97 : XCal xm 97 0 1 := xcal_of (Y := Y97) rfl ⟨by decide +kernel, by decide +kernel, kc_7, kn_124, xw_866, xw_377, kh_7, kd_17⟩
theorem cal_167 : XCal xm 167 0 1 := xcal_of (Y := Y167) rfl ⟨by decide +kernel, by decide +kernel, kc_9, kn_124, xw_870, xw_466, kh_9, kd_17⟩
theorem cal_75 : XCal xm 75 1 2 := xcal_of (Y := Y75) rfl ⟨by decide +kernel, by decide +kernel, kc_7, kn_125, xw_874, xw_377, kh_7, kd_7⟩
theorem cal_122 : XCal xm 122 1 2 := xcal_of (Y := Y122) rfl ⟨by decide +kernel, by decide +kernel, kc_9, kn_125, xw_878, xw_466, kh_9, kd_7⟩
theorem cal_98 : XCal xm 98 1 2 := xcal_of (Y := Y98) rfl ⟨by decide +kernel, by decide +kernel, kc_7, kn_126, xw_882, xw_377, kh_7, kd_7⟩
theorem cal_168 : XCal xm 168 1 2 := xcal_of (Y := Y168) rfl ⟨by decide +kernel, by decide +kernel, kc_9, kn_126, xw_886, xw_466, kh_9, kd_7⟩
theorem cal_91 : XCal xm 91 2 3 := xcal_of (Y := Y91) rfl ⟨by decide +kernel, by decide +kernel, kc_7, kn_127, xw_890, xw_377, kh_7, kd_23⟩
theorem cal_157 : XCal xm 157 2 3 := xcal_of (Y := Y157) rfl ⟨by decide +kernel, by decide +kernel, kc_9, kn_127, xw_894, xw_466, kh_9, kd_23⟩
theorem cal_82 : XCal xm 82 0 1 := xcal_of (Y := Y82) rfl ⟨by decide +kernel, by decide +kernel, kc_7, kn_128, xw_898, xw_377, kh_7, kd_17⟩
theorem cal_133 : XCal xm 133 0 1 := xcal_of (Y := Y133) rfl ⟨by decide +kernel, by decide +kernel, kc_9, kn_128, xw_902, xw_466, kh_9, kd_17⟩
theorem cal_69 : XCal xm 69 0 1 := xcal_of (Y := Y69) rfl ⟨by decide +kernel, by decide +kernel, kc_7, kn_129, xw_906, xw_377, kh_7, kd_17⟩
theorem cal_109 : XCal xm 109 0 1 := xcal_of (Y := Y109) rfl ⟨by decide +kernel, by decide +kernel, kc_9, kn_129, xw_910, xw_466, kh_9, kd_17⟩
theorem cal_81 : XCal xm 81 2 3 := xcal_of (Y := Y81) rfl ⟨by decide +kernel, by decide +kernel, kc_7, kn_130, xw_914, xw_377, kh_7, kd_23⟩
theorem cal_131 : XCal xm 131 2 3 := xcal_of (Y := Y131) rfl ⟨by decide +kernel, by decide +kernel, kc_9, kn_130, xw_918, xw_466, kh_9, kd_23⟩
theorem cal_95 : XCal xm 95 2 3 := xcal_of (Y := Y95) rfl ⟨by decide +kernel, by decide +kernel, kc_7, kn_131, xw_922, xw_377, kh_7, kd_23⟩
theorem cal_164 : XCal xm 164 2 3 := xcal_of (Y := Y164) rfl ⟨by decide +kernel, by decide +kernel, kc_9, kn_131, xw_926, xw_466, kh_9, kd_23⟩
theorem cal_92 : XCal xm 92 3 4 := xcal_of (Y := Y92) rfl ⟨by decide +kernel, by decide +kernel, kc_7, kn_132, xw_930, xw_377, kh_7, kd_13⟩
theorem cal_160 : XCal xm 160 3 4 := xcal_of (Y := Y160) rfl ⟨by decide +kernel, by decide +kernel, kc_9, kn_132, xw_934, xw_466, kh_9, kd_13⟩
theorem cal_103 : XCal xm 103 2 3 := xcal_of (Y := Y103) rfl ⟨by decide +kernel, by decide +kernel, kc_7, kn_133, xw_938, xw_377, kh_7, kd_23⟩
theorem cal_181 : XCal xm 181 2 3 := xcal_of (Y := Y181) rfl ⟨by decide +kernel, by decide +kernel, kc_9, kn_133, xw_942, xw_466, kh_9, kd_23⟩
theorem cal_72 : XCal xm 72 1 2 := xcal_of (Y := Y72) rfl ⟨by decide +kernel, by decide +kernel, kc_7, kn_134, xw_946, xw_377, kh_7, kd_7⟩
theorem cal_116 : XCal xm 116 1 2 := xcal_of (Y := Y116) rfl ⟨by decide +kernel, by decide +kernel, kc_9, kn_134, xw_950, xw_466, kh_9, kd_7⟩
