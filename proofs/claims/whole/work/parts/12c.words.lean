theorem wc_X14_where : Cond.code yX14_where cX14_where 1 (some FieldType.int) ∈ aTB := aTB_of (wi_9 _ (List.mem_of_getElem? (i := 187) rfl)) rfl
theorem wm_L_53 : Cond.methodLink RL 53 yX14_count ∈ aTB := aTB_of (wi_9 _ (List.mem_of_getElem? (i := 188) rfl)) rfl
theorem wi_X14_count : Cond.instanceMethod yX14_count ∈ aTB := aTB_of (wi_9 _ (List.mem_of_getElem? (i := 189) rfl)) rfl
theorem ws_X14_count : Cond.selects yX14_count.cls yX14_count yX14_count ∈ aTB := aTB_of (wi_9 _ (List.mem_of_getElem? (i := 190) rfl)) rfl
theorem wc_X14_count : Cond.code yX14_count cX14_count 4 (some FieldType.int) ∈ aTB := aTB_of (wi_9 _ (List.mem_of_getElem? (i := 191) rfl)) rfl
theorem wm_X14_468 : Cond.methodLink RX14 468 yX14_isLinear ∈ aTB := aTB_of (wi_9 _ (List.mem_of_getElem? (i := 192) rfl)) rfl
theorem wi_X14_isLinear : Cond.instanceMethod yX14_isLinear ∈ aTB := aTB_of (wi_9 _ (List.mem_of_getElem? (i := 194) rfl)) rfl
theorem wc_X14_isLinear : Cond.code yX14_isLinear cX14_isLinear 6 (some FieldType.boolean) ∈ aTB := aTB_of (wi_9 _ (List.mem_of_getElem? (i := 195) rfl)) rfl
theorem wm_X14_554 : Cond.methodLink RX14 554 yX14_factorsOf ∈ aTB := aTB_of (wi_9 _ (List.mem_of_getElem? (i := 196) rfl)) rfl
theorem wi_X14_factorsOf : Cond.instanceMethod yX14_factorsOf ∈ aTB := aTB_of (wi_9 _ (List.mem_of_getElem? (i := 198) rfl)) rfl
theorem wc_X14_factorsOf : Cond.code yX14_factorsOf cX14_factorsOf 11 none ∈ aTB := aTB_of (wi_9 _ (List.mem_of_getElem? (i := 199) rfl)) rfl
theorem wm_X14_550 : Cond.methodLink RX14 550 yX14_counts ∈ aTB := aTB_of (wi_9 _ (List.mem_of_getElem? (i := 200) rfl)) rfl
theorem wi_X14_counts : Cond.instanceMethod yX14_counts ∈ aTB := aTB_of (wi_9 _ (List.mem_of_getElem? (i := 202) rfl)) rfl
theorem wc_X14_counts : Cond.code yX14_counts cX14_counts 4 none ∈ aTB := aTB_of (wi_9 _ (List.mem_of_getElem? (i := 203) rfl)) rfl
theorem wv_X14_546 : Cond.constantLong RX14 546 (-20) ∈ aTB := aTB_of (wi_9 _ (List.mem_of_getElem? (i := 204) rfl)) rfl
theorem wv_X14_548 : Cond.constantLong RX14 548 (20) ∈ aTB := aTB_of (wi_9 _ (List.mem_of_getElem? (i := 205) rfl)) rfl
theorem wm_L_57 : Cond.methodLink RL 57 yX14_cell ∈ aTB := aTB_of (wi_9 _ (List.mem_of_getElem? (i := 206) rfl)) rfl
theorem wi_X14_cell : Cond.instanceMethod yX14_cell ∈ aTB := aTB_of (wi_9 _ (List.mem_of_getElem? (i := 207) rfl)) rfl
theorem ws_X14_cell : Cond.selects yX14_cell.cls yX14_cell yX14_cell ∈ aTB := aTB_of (wi_9 _ (List.mem_of_getElem? (i := 208) rfl)) rfl
theorem wc_X14_cell : Cond.code yX14_cell cX14_cell 7 (some FieldType.int) ∈ aTB := aTB_of (wi_9 _ (List.mem_of_getElem? (i := 209) rfl)) rfl
theorem wm_L_62 : Cond.methodLink RL 62 yX14_state ∈ aTB := aTB_of (wi_9 _ (List.mem_of_getElem? (i := 210) rfl)) rfl
theorem wi_X14_state : Cond.instanceMethod yX14_state ∈ aTB := aTB_of (wi_9 _ (List.mem_of_getElem? (i := 211) rfl)) rfl
theorem ws_X14_state : Cond.selects yX14_state.cls yX14_state yX14_state ∈ aTB := aTB_of (wi_9 _ (List.mem_of_getElem? (i := 212) rfl)) rfl
theorem wc_X14_state : Cond.code yX14_state cX14_state 3 (some FieldType.int) ∈ aTB := aTB_of (wi_9 _ (List.mem_of_getElem? (i := 213) rfl)) rfl
theorem wm_X14_474 : Cond.methodLink RX14 474 yX14_isCell ∈ aTB := aTB_of (wi_9 _ (List.mem_of_getElem? (i := 214) rfl)) rfl
theorem wi_X14_isCell : Cond.instanceMethod yX14_isCell ∈ aTB := aTB_of (wi_9 _ (List.mem_of_getElem? (i := 216) rfl)) rfl
theorem wc_X14_isCell : Cond.code yX14_isCell cX14_isCell 2 (some FieldType.boolean) ∈ aTB := aTB_of (wi_9 _ (List.mem_of_getElem? (i := 217) rfl)) rfl
theorem wv_X14_162 : Cond.constant RX14 162 (-2147483648) ∈ aTB := aTB_of (wi_9 _ (List.mem_of_getElem? (i := 218) rfl)) rfl
theorem wm_L_66 : Cond.methodLink RL 66 yX14_push ∈ aTB := aTB_of (wi_9 _ (List.mem_of_getElem? (i := 219) rfl)) rfl
theorem wi_X14_push : Cond.instanceMethod yX14_push ∈ aTB := aTB_of (wi_9 _ (List.mem_of_getElem? (i := 220) rfl)) rfl
theorem ws_X14_push : Cond.selects yX14_push.cls yX14_push yX14_push ∈ aTB := aTB_of (wi_9 _ (List.mem_of_getElem? (i := 221) rfl)) rfl
theorem wc_X14_push : Cond.code yX14_push cX14_push 3 (some FieldType.int) ∈ aTB := aTB_of (wi_9 _ (List.mem_of_getElem? (i := 222) rfl)) rfl
theorem wm_X14_477 : Cond.methodLink RX14 477 yX14_isPush ∈ aTB := aTB_of (wi_9 _ (List.mem_of_getElem? (i := 223) rfl)) rfl
theorem wi_X14_isPush : Cond.instanceMethod yX14_isPush ∈ aTB := aTB_of (wi_9 _ (List.mem_of_getElem? (i := 225) rfl)) rfl
theorem wc_X14_isPush : Cond.code yX14_isPush cX14_isPush 2 (some FieldType.boolean) ∈ aTB := aTB_of (wi_9 _ (List.mem_of_getElem? (i := 226) rfl)) rfl
theorem wm_L_70 : Cond.methodLink RL 70 yX14_next_ ∈ aTB := aTB_of (wi_9 _ (List.mem_of_getElem? (i := 227) rfl)) rfl
theorem wi_X14_next_ : Cond.instanceMethod yX14_next_ ∈ aTB := aTB_of (wi_9 _ (List.mem_of_getElem? (i := 228) rfl)) rfl
theorem ws_X14_next_ : Cond.selects yX14_next_.cls yX14_next_ yX14_next_ ∈ aTB := aTB_of (wi_9 _ (List.mem_of_getElem? (i := 229) rfl)) rfl
theorem wc_X14_next_ : Cond.code yX14_next_ cX14_next_ 4 (some FieldType.int) ∈ aTB := aTB_of (wi_9 _ (List.mem_of_getElem? (i := 230) rfl)) rfl
theorem wm_X14_480 : Cond.methodLink RX14 480 yX14_isWorld ∈ aTB := aTB_of (wi_9 _ (List.mem_of_getElem? (i := 231) rfl)) rfl
theorem wi_X14_isWorld : Cond.instanceMethod yX14_isWorld ∈ aTB := aTB_of (wi_9 _ (List.mem_of_getElem? (i := 233) rfl)) rfl
theorem wc_X14_isWorld : Cond.code yX14_isWorld cX14_isWorld 2 (some FieldType.boolean) ∈ aTB := aTB_of (wi_9 _ (List.mem_of_getElem? (i := 234) rfl)) rfl
theorem wm_X14_483 : Cond.methodLink RX14 483 yX14_to ∈ aTB := aTB_of (wi_9 _ (List.mem_of_getElem? (i := 235) rfl)) rfl
theorem wi_X14_to : Cond.instanceMethod yX14_to ∈ aTB := aTB_of (wi_9 _ (List.mem_of_getElem? (i := 237) rfl)) rfl
theorem wc_X14_to : Cond.code yX14_to cX14_to 4 (some FieldType.int) ∈ aTB := aTB_of (wi_9 _ (List.mem_of_getElem? (i := 238) rfl)) rfl
theorem wm_L_75 : Cond.methodLink RL 75 yX14_sight ∈ aTB := aTB_of (wi_9 _ (List.mem_of_getElem? (i := 239) rfl)) rfl
theorem wi_X14_sight : Cond.instanceMethod yX14_sight ∈ aTB := aTB_of (wi_10 _ (List.mem_of_getElem? (i := 0) rfl)) rfl
theorem ws_X14_sight : Cond.selects yX14_sight.cls yX14_sight yX14_sight ∈ aTB := aTB_of (wi_10 _ (List.mem_of_getElem? (i := 1) rfl)) rfl
theorem wc_X14_sight : Cond.code yX14_sight cX14_sight 5 (some FieldType.int) ∈ aTB := aTB_of (wi_10 _ (List.mem_of_getElem? (i := 2) rfl)) rfl
theorem wm_X14_486 : Cond.methodLink RX14 486 yX14_isSight ∈ aTB := aTB_of (wi_10 _ (List.mem_of_getElem? (i := 3) rfl)) rfl
theorem wi_X14_isSight : Cond.instanceMethod yX14_isSight ∈ aTB := aTB_of (wi_10 _ (List.mem_of_getElem? (i := 5) rfl)) rfl
theorem wc_X14_isSight : Cond.code yX14_isSight cX14_isSight 2 (some FieldType.boolean) ∈ aTB := aTB_of (wi_10 _ (List.mem_of_getElem? (i := 6) rfl)) rfl
theorem wm_X14_489 : Cond.methodLink RX14 489 yX14_sightHere ∈ aTB := aTB_of (wi_10 _ (List.mem_of_getElem? (i := 7) rfl)) rfl
theorem wi_X14_sightHere : Cond.instanceMethod yX14_sightHere ∈ aTB := aTB_of (wi_10 _ (List.mem_of_getElem? (i := 9) rfl)) rfl
theorem wc_X14_sightHere : Cond.code yX14_sightHere cX14_sightHere 2 (some FieldType.int) ∈ aTB := aTB_of (wi_10 _ (List.mem_of_getElem? (i := 10) rfl)) rfl
theorem wm_L_79 : Cond.methodLink RL 79 yX14_safe ∈ aTB := aTB_of (wi_10 _ (List.mem_of_getElem? (i := 11) rfl)) rfl
theorem wi_X14_safe : Cond.instanceMethod yX14_safe ∈ aTB := aTB_of (wi_10 _ (List.mem_of_getElem? (i := 12) rfl)) rfl
theorem ws_X14_safe : Cond.selects yX14_safe.cls yX14_safe yX14_safe ∈ aTB := aTB_of (wi_10 _ (List.mem_of_getElem? (i := 13) rfl)) rfl
theorem wc_X14_safe : Cond.code yX14_safe cX14_safe 3 (some FieldType.int) ∈ aTB := aTB_of (wi_10 _ (List.mem_of_getElem? (i := 14) rfl)) rfl
theorem wm_X14_534 : Cond.methodLink RX14 534 yX14_finds ∈ aTB := aTB_of (wi_10 _ (List.mem_of_getElem? (i := 15) rfl)) rfl
theorem wi_X14_finds : Cond.instanceMethod yX14_finds ∈ aTB := aTB_of (wi_10 _ (List.mem_of_getElem? (i := 17) rfl)) rfl
theorem wc_X14_finds : Cond.code yX14_finds cX14_finds 2 none ∈ aTB := aTB_of (wi_10 _ (List.mem_of_getElem? (i := 18) rfl)) rfl
theorem wm_X14_525 : Cond.methodLink RX14 525 yX14_keeps ∈ aTB := aTB_of (wi_10 _ (List.mem_of_getElem? (i := 19) rfl)) rfl
theorem wi_X14_keeps : Cond.instanceMethod yX14_keeps ∈ aTB := aTB_of (wi_10 _ (List.mem_of_getElem? (i := 21) rfl)) rfl
theorem wc_X14_keeps : Cond.code yX14_keeps cX14_keeps 5 none ∈ aTB := aTB_of (wi_10 _ (List.mem_of_getElem? (i := 22) rfl)) rfl
theorem wm_X14_500 : Cond.methodLink RX14 500 yX14_spreadsOut ∈ aTB := aTB_of (wi_10 _ (List.mem_of_getElem? (i := 23) rfl)) rfl
theorem wi_X14_spreadsOut : Cond.instanceMethod yX14_spreadsOut ∈ aTB := aTB_of (wi_10 _ (List.mem_of_getElem? (i := 25) rfl)) rfl
theorem wc_X14_spreadsOut : Cond.code yX14_spreadsOut cX14_spreadsOut 10 none ∈ aTB := aTB_of (wi_10 _ (List.mem_of_getElem? (i := 26) rfl)) rfl
theorem wm_X14_492 : Cond.methodLink RX14 492 yX14_puts ∈ aTB := aTB_of (wi_10 _ (List.mem_of_getElem? (i := 27) rfl)) rfl
theorem wt_X14_puts : Cond.static yX14_puts ∈ aTB := aTB_of (wi_10 _ (List.mem_of_getElem? (i := 28) rfl)) rfl
theorem wc_X14_puts : Cond.code yX14_puts cX14_puts 3 none ∈ aTB := aTB_of (wi_10 _ (List.mem_of_getElem? (i := 29) rfl)) rfl
theorem wm_X14_503 : Cond.methodLink RX14 503 yX14_isIn ∈ aTB := aTB_of (wi_10 _ (List.mem_of_getElem? (i := 30) rfl)) rfl
theorem wt_X14_isIn : Cond.static yX14_isIn ∈ aTB := aTB_of (wi_10 _ (List.mem_of_getElem? (i := 31) rfl)) rfl
theorem wc_X14_isIn : Cond.code yX14_isIn cX14_isIn 3 (some FieldType.boolean) ∈ aTB := aTB_of (wi_10 _ (List.mem_of_getElem? (i := 32) rfl)) rfl
theorem wm_X14_507 : Cond.methodLink RX14 507 yX14_canGo ∈ aTB := aTB_of (wi_10 _ (List.mem_of_getElem? (i := 33) rfl)) rfl
theorem wi_X14_canGo : Cond.instanceMethod yX14_canGo ∈ aTB := aTB_of (wi_10 _ (List.mem_of_getElem? (i := 35) rfl)) rfl
theorem wc_X14_canGo : Cond.code yX14_canGo cX14_canGo 5 (some FieldType.boolean) ∈ aTB := aTB_of (wi_10 _ (List.mem_of_getElem? (i := 36) rfl)) rfl
theorem wm_X14_496 : Cond.methodLink RX14 496 yX14_leadsInto ∈ aTB := aTB_of (wi_10 _ (List.mem_of_getElem? (i := 37) rfl)) rfl
theorem wi_X14_leadsInto : Cond.instanceMethod yX14_leadsInto ∈ aTB := aTB_of (wi_10 _ (List.mem_of_getElem? (i := 39) rfl)) rfl
theorem wc_X14_leadsInto : Cond.code yX14_leadsInto cX14_leadsInto 7 (some FieldType.boolean) ∈ aTB := aTB_of (wi_10 _ (List.mem_of_getElem? (i := 40) rfl)) rfl
theorem wm_X14_528 : Cond.methodLink RX14 528 yX14_reaches ∈ aTB := aTB_of (wi_10 _ (List.mem_of_getElem? (i := 41) rfl)) rfl
theorem wi_X14_reaches : Cond.instanceMethod yX14_reaches ∈ aTB := aTB_of (wi_10 _ (List.mem_of_getElem? (i := 43) rfl)) rfl
theorem wc_X14_reaches : Cond.code yX14_reaches cX14_reaches 5 none ∈ aTB := aTB_of (wi_10 _ (List.mem_of_getElem? (i := 44) rfl)) rfl
theorem wm_X14_531 : Cond.methodLink RX14 531 yX14_pays ∈ aTB := aTB_of (wi_10 _ (List.mem_of_getElem? (i := 45) rfl)) rfl
theorem wi_X14_pays : Cond.instanceMethod yX14_pays ∈ aTB := aTB_of (wi_10 _ (List.mem_of_getElem? (i := 47) rfl)) rfl
theorem wc_X14_pays : Cond.code yX14_pays cX14_pays 6 none ∈ aTB := aTB_of (wi_10 _ (List.mem_of_getElem? (i := 48) rfl)) rfl
theorem wv_X14_518 : Cond.constant RX14 518 (1000000) ∈ aTB := aTB_of (wi_10 _ (List.mem_of_getElem? (i := 49) rfl)) rfl
theorem wm_X14_522 : Cond.methodLink RX14 522 yX14_paidBy ∈ aTB := aTB_of (wi_10 _ (List.mem_of_getElem? (i := 50) rfl)) rfl
theorem wi_X14_paidBy : Cond.instanceMethod yX14_paidBy ∈ aTB := aTB_of (wi_10 _ (List.mem_of_getElem? (i := 52) rfl)) rfl
theorem wc_X14_paidBy : Cond.code yX14_paidBy cX14_paidBy 6 (some FieldType.int) ∈ aTB := aTB_of (wi_10 _ (List.mem_of_getElem? (i := 53) rfl)) rfl
theorem wm_X14_515 : Cond.methodLink RX14 515 yX14_ahead ∈ aTB := aTB_of (wi_10 _ (List.mem_of_getElem? (i := 54) rfl)) rfl
theorem wi_X14_ahead : Cond.instanceMethod yX14_ahead ∈ aTB := aTB_of (wi_10 _ (List.mem_of_getElem? (i := 56) rfl)) rfl
theorem wc_X14_ahead : Cond.code yX14_ahead cX14_ahead 3 (some FieldType.int) ∈ aTB := aTB_of (wi_10 _ (List.mem_of_getElem? (i := 57) rfl)) rfl
theorem wm_X14_513 : Cond.methodLink RX14 513 Lib.Math.max.name ∈ aTB := aTB_of (wi_10 _ (List.mem_of_getElem? (i := 58) rfl)) rfl
theorem wm_X14_519 : Cond.methodLink RX14 519 yX14_costOf ∈ aTB := aTB_of (wi_10 _ (List.mem_of_getElem? (i := 59) rfl)) rfl
theorem wi_X14_costOf : Cond.instanceMethod yX14_costOf ∈ aTB := aTB_of (wi_10 _ (List.mem_of_getElem? (i := 61) rfl)) rfl
theorem wc_X14_costOf : Cond.code yX14_costOf cX14_costOf 3 (some FieldType.int) ∈ aTB := aTB_of (wi_10 _ (List.mem_of_getElem? (i := 62) rfl)) rfl
theorem wm_X14_511 : Cond.methodLink RX14 511 Lib.Math.min.name ∈ aTB := aTB_of (wi_10 _ (List.mem_of_getElem? (i := 63) rfl)) rfl
theorem wm_X14_537 : Cond.methodLink RX14 537 yX14_isSafe ∈ aTB := aTB_of (wi_10 _ (List.mem_of_getElem? (i := 64) rfl)) rfl
theorem wi_X14_isSafe : Cond.instanceMethod yX14_isSafe ∈ aTB := aTB_of (wi_10 _ (List.mem_of_getElem? (i := 66) rfl)) rfl
theorem wc_X14_isSafe : Cond.code yX14_isSafe cX14_isSafe 2 (some FieldType.boolean) ∈ aTB := aTB_of (wi_10 _ (List.mem_of_getElem? (i := 67) rfl)) rfl
theorem wm_L_83 : Cond.methodLink RL 83 yX14_layer ∈ aTB := aTB_of (wi_10 _ (List.mem_of_getElem? (i := 68) rfl)) rfl
theorem wi_X14_layer : Cond.instanceMethod yX14_layer ∈ aTB := aTB_of (wi_10 _ (List.mem_of_getElem? (i := 69) rfl)) rfl
theorem ws_X14_layer : Cond.selects yX14_layer.cls yX14_layer yX14_layer ∈ aTB := aTB_of (wi_10 _ (List.mem_of_getElem? (i := 70) rfl)) rfl
theorem wc_X14_layer : Cond.code yX14_layer cX14_layer 2 (some FieldType.int) ∈ aTB := aTB_of (wi_10 _ (List.mem_of_getElem? (i := 71) rfl)) rfl
theorem wm_L_87 : Cond.methodLink RL 87 yX14_allowed ∈ aTB := aTB_of (wi_10 _ (List.mem_of_getElem? (i := 72) rfl)) rfl
theorem wi_X14_allowed : Cond.instanceMethod yX14_allowed ∈ aTB := aTB_of (wi_10 _ (List.mem_of_getElem? (i := 73) rfl)) rfl
theorem ws_X14_allowed : Cond.selects yX14_allowed.cls yX14_allowed yX14_allowed ∈ aTB := aTB_of (wi_10 _ (List.mem_of_getElem? (i := 74) rfl)) rfl
theorem wc_X14_allowed : Cond.code yX14_allowed cX14_allowed 2 (some FieldType.int) ∈ aTB := aTB_of (wi_10 _ (List.mem_of_getElem? (i := 75) rfl)) rfl
theorem wm_X14_540 : Cond.methodLink RX14 540 yX14_allowedOf ∈ aTB := aTB_of (wi_10 _ (List.mem_of_getElem? (i := 76) rfl)) rfl
theorem wi_X14_allowedOf : Cond.instanceMethod yX14_allowedOf ∈ aTB := aTB_of (wi_10 _ (List.mem_of_getElem? (i := 78) rfl)) rfl
theorem wc_X14_allowedOf : Cond.code yX14_allowedOf cX14_allowedOf 4 (some FieldType.int) ∈ aTB := aTB_of (wi_10 _ (List.mem_of_getElem? (i := 79) rfl)) rfl
theorem wm_L_91 : Cond.methodLink RL 91 yX14_ticks ∈ aTB := aTB_of (wi_10 _ (List.mem_of_getElem? (i := 80) rfl)) rfl
theorem wi_X14_ticks : Cond.instanceMethod yX14_ticks ∈ aTB := aTB_of (wi_10 _ (List.mem_of_getElem? (i := 81) rfl)) rfl
theorem ws_X14_ticks : Cond.selects yX14_ticks.cls yX14_ticks yX14_ticks ∈ aTB := aTB_of (wi_10 _ (List.mem_of_getElem? (i := 82) rfl)) rfl
theorem wc_X14_ticks : Cond.code yX14_ticks cX14_ticks 2 (some FieldType.int) ∈ aTB := aTB_of (wi_10 _ (List.mem_of_getElem? (i := 83) rfl)) rfl
theorem wm_L_95 : Cond.methodLink RL 95 yX14_law ∈ aTB := aTB_of (wi_10 _ (List.mem_of_getElem? (i := 84) rfl)) rfl
theorem wi_X14_law : Cond.instanceMethod yX14_law ∈ aTB := aTB_of (wi_10 _ (List.mem_of_getElem? (i := 85) rfl)) rfl
theorem ws_X14_law : Cond.selects yX14_law.cls yX14_law yX14_law ∈ aTB := aTB_of (wi_10 _ (List.mem_of_getElem? (i := 86) rfl)) rfl
theorem wc_X14_law : Cond.code yX14_law cX14_law 2 (some FieldType.int) ∈ aTB := aTB_of (wi_10 _ (List.mem_of_getElem? (i := 87) rfl)) rfl
theorem wm_L_99 : Cond.methodLink RL 99 yX14_best ∈ aTB := aTB_of (wi_10 _ (List.mem_of_getElem? (i := 88) rfl)) rfl
theorem wi_X14_best : Cond.instanceMethod yX14_best ∈ aTB := aTB_of (wi_10 _ (List.mem_of_getElem? (i := 89) rfl)) rfl
theorem ws_X14_best : Cond.selects yX14_best.cls yX14_best yX14_best ∈ aTB := aTB_of (wi_10 _ (List.mem_of_getElem? (i := 90) rfl)) rfl
theorem wc_X14_best : Cond.code yX14_best cX14_best 3 (some FieldType.int) ∈ aTB := aTB_of (wi_10 _ (List.mem_of_getElem? (i := 91) rfl)) rfl
theorem wm_L_103 : Cond.methodLink RL 103 yX14_bestLaw ∈ aTB := aTB_of (wi_10 _ (List.mem_of_getElem? (i := 92) rfl)) rfl
theorem wi_X14_bestLaw : Cond.instanceMethod yX14_bestLaw ∈ aTB := aTB_of (wi_10 _ (List.mem_of_getElem? (i := 93) rfl)) rfl
theorem ws_X14_bestLaw : Cond.selects yX14_bestLaw.cls yX14_bestLaw yX14_bestLaw ∈ aTB := aTB_of (wi_10 _ (List.mem_of_getElem? (i := 94) rfl)) rfl
theorem wc_X14_bestLaw : Cond.code yX14_bestLaw cX14_bestLaw 3 (some FieldType.int) ∈ aTB := aTB_of (wi_10 _ (List.mem_of_getElem? (i := 95) rfl)) rfl
theorem wm_L_109 : Cond.methodLink RL 109 yX14_worst ∈ aTB := aTB_of (wi_10 _ (List.mem_of_getElem? (i := 96) rfl)) rfl
theorem wi_X14_worst : Cond.instanceMethod yX14_worst ∈ aTB := aTB_of (wi_10 _ (List.mem_of_getElem? (i := 97) rfl)) rfl
theorem ws_X14_worst : Cond.selects yX14_worst.cls yX14_worst yX14_worst ∈ aTB := aTB_of (wi_10 _ (List.mem_of_getElem? (i := 98) rfl)) rfl
theorem wc_X14_worst : Cond.code yX14_worst cX14_worst 10 (some FieldType.int) ∈ aTB := aTB_of (wi_10 _ (List.mem_of_getElem? (i := 99) rfl)) rfl
theorem wm_L_116 : Cond.methodLink RL 116 yX14_margin ∈ aTB := aTB_of (wi_10 _ (List.mem_of_getElem? (i := 100) rfl)) rfl
theorem wi_X14_margin : Cond.instanceMethod yX14_margin ∈ aTB := aTB_of (wi_10 _ (List.mem_of_getElem? (i := 101) rfl)) rfl
theorem ws_X14_margin : Cond.selects yX14_margin.cls yX14_margin yX14_margin ∈ aTB := aTB_of (wi_10 _ (List.mem_of_getElem? (i := 102) rfl)) rfl
theorem wc_X14_margin : Cond.code yX14_margin cX14_margin 3 (some FieldType.int) ∈ aTB := aTB_of (wi_10 _ (List.mem_of_getElem? (i := 103) rfl)) rfl
theorem wm_L_121 : Cond.methodLink RL 121 yX14_rank ∈ aTB := aTB_of (wi_10 _ (List.mem_of_getElem? (i := 104) rfl)) rfl
theorem wi_X14_rank : Cond.instanceMethod yX14_rank ∈ aTB := aTB_of (wi_10 _ (List.mem_of_getElem? (i := 105) rfl)) rfl
theorem ws_X14_rank : Cond.selects yX14_rank.cls yX14_rank yX14_rank ∈ aTB := aTB_of (wi_10 _ (List.mem_of_getElem? (i := 106) rfl)) rfl
theorem wc_X14_rank : Cond.code yX14_rank cX14_rank 2 (some FieldType.int) ∈ aTB := aTB_of (wi_10 _ (List.mem_of_getElem? (i := 107) rfl)) rfl
theorem wm_X14_570 : Cond.methodLink RX14 570 yX14_columns ∈ aTB := aTB_of (wi_10 _ (List.mem_of_getElem? (i := 108) rfl)) rfl
theorem wi_X14_columns : Cond.instanceMethod yX14_columns ∈ aTB := aTB_of (wi_10 _ (List.mem_of_getElem? (i := 110) rfl)) rfl
theorem wc_X14_columns : Cond.code yX14_columns cX14_columns 6 (some FieldType.int) ∈ aTB := aTB_of (wi_10 _ (List.mem_of_getElem? (i := 111) rfl)) rfl
theorem wm_X14_566 : Cond.methodLink RX14 566 yX14_carries ∈ aTB := aTB_of (wi_10 _ (List.mem_of_getElem? (i := 112) rfl)) rfl
theorem wi_X14_carries : Cond.instanceMethod yX14_carries ∈ aTB := aTB_of (wi_10 _ (List.mem_of_getElem? (i := 114) rfl)) rfl
theorem wc_X14_carries : Cond.code yX14_carries cX14_carries 8 none ∈ aTB := aTB_of (wi_10 _ (List.mem_of_getElem? (i := 115) rfl)) rfl
theorem wm_X14_574 : Cond.methodLink RX14 574 yX14_rankOf ∈ aTB := aTB_of (wi_10 _ (List.mem_of_getElem? (i := 116) rfl)) rfl
theorem wi_X14_rankOf : Cond.instanceMethod yX14_rankOf ∈ aTB := aTB_of (wi_10 _ (List.mem_of_getElem? (i := 118) rfl)) rfl
theorem wc_X14_rankOf : Cond.code yX14_rankOf cX14_rankOf 6 (some FieldType.int) ∈ aTB := aTB_of (wi_10 _ (List.mem_of_getElem? (i := 119) rfl)) rfl
theorem wm_X14_558 : Cond.methodLink RX14 558 yX14_areApart ∈ aTB := aTB_of (wi_10 _ (List.mem_of_getElem? (i := 120) rfl)) rfl
theorem wi_X14_areApart : Cond.instanceMethod yX14_areApart ∈ aTB := aTB_of (wi_10 _ (List.mem_of_getElem? (i := 122) rfl)) rfl
theorem wc_X14_areApart : Cond.code yX14_areApart cX14_areApart 5 (some FieldType.boolean) ∈ aTB := aTB_of (wi_10 _ (List.mem_of_getElem? (i := 123) rfl)) rfl
theorem wm_X14_562 : Cond.methodLink RX14 562 yX14_three ∈ aTB := aTB_of (wi_10 _ (List.mem_of_getElem? (i := 124) rfl)) rfl
theorem wi_X14_three : Cond.instanceMethod yX14_three ∈ aTB := aTB_of (wi_10 _ (List.mem_of_getElem? (i := 126) rfl)) rfl
theorem wc_X14_three : Cond.code yX14_three cX14_three 7 (some FieldType.long) ∈ aTB := aTB_of (wi_10 _ (List.mem_of_getElem? (i := 127) rfl)) rfl
theorem wm_L_125 : Cond.methodLink RL 125 yX14_form ∈ aTB := aTB_of (wi_10 _ (List.mem_of_getElem? (i := 128) rfl)) rfl
theorem wi_X14_form : Cond.instanceMethod yX14_form ∈ aTB := aTB_of (wi_10 _ (List.mem_of_getElem? (i := 129) rfl)) rfl
theorem ws_X14_form : Cond.selects yX14_form.cls yX14_form yX14_form ∈ aTB := aTB_of (wi_10 _ (List.mem_of_getElem? (i := 130) rfl)) rfl
theorem wc_X14_form : Cond.code yX14_form cX14_form 2 (some FieldType.int) ∈ aTB := aTB_of (wi_10 _ (List.mem_of_getElem? (i := 131) rfl)) rfl
theorem wm_X14_577 : Cond.methodLink RX14 577 yX14_lost ∈ aTB := aTB_of (wi_10 _ (List.mem_of_getElem? (i := 132) rfl)) rfl
theorem wi_X14_lost : Cond.instanceMethod yX14_lost ∈ aTB := aTB_of (wi_10 _ (List.mem_of_getElem? (i := 134) rfl)) rfl
theorem wc_X14_lost : Cond.code yX14_lost cX14_lost 2 (some FieldType.int) ∈ aTB := aTB_of (wi_10 _ (List.mem_of_getElem? (i := 135) rfl)) rfl
theorem wm_X14_580 : Cond.methodLink RX14 580 yX14_formOf ∈ aTB := aTB_of (wi_10 _ (List.mem_of_getElem? (i := 136) rfl)) rfl
theorem wi_X14_formOf : Cond.instanceMethod yX14_formOf ∈ aTB := aTB_of (wi_10 _ (List.mem_of_getElem? (i := 138) rfl)) rfl
theorem wc_X14_formOf : Cond.code yX14_formOf cX14_formOf 7 (some FieldType.int) ∈ aTB := aTB_of (wi_10 _ (List.mem_of_getElem? (i := 139) rfl)) rfl
theorem wm_L_129 : Cond.methodLink RL 129 yX14_place ∈ aTB := aTB_of (wi_10 _ (List.mem_of_getElem? (i := 140) rfl)) rfl
theorem wi_X14_place : Cond.instanceMethod yX14_place ∈ aTB := aTB_of (wi_10 _ (List.mem_of_getElem? (i := 141) rfl)) rfl
theorem ws_X14_place : Cond.selects yX14_place.cls yX14_place yX14_place ∈ aTB := aTB_of (wi_10 _ (List.mem_of_getElem? (i := 142) rfl)) rfl
theorem wc_X14_place : Cond.code yX14_place cX14_place 11 (some FieldType.int) ∈ aTB := aTB_of (wi_10 _ (List.mem_of_getElem? (i := 143) rfl)) rfl
theorem wm_X14_583 : Cond.methodLink RX14 583 yX14_raises ∈ aTB := aTB_of (wi_10 _ (List.mem_of_getElem? (i := 144) rfl)) rfl
theorem wi_X14_raises : Cond.instanceMethod yX14_raises ∈ aTB := aTB_of (wi_10 _ (List.mem_of_getElem? (i := 146) rfl)) rfl
theorem wc_X14_raises : Cond.code yX14_raises cX14_raises 3 none ∈ aTB := aTB_of (wi_10 _ (List.mem_of_getElem? (i := 147) rfl)) rfl
theorem wm_X14_586 : Cond.methodLink RX14 586 yX14_last ∈ aTB := aTB_of (wi_10 _ (List.mem_of_getElem? (i := 148) rfl)) rfl
theorem wi_X14_last : Cond.instanceMethod yX14_last ∈ aTB := aTB_of (wi_10 _ (List.mem_of_getElem? (i := 150) rfl)) rfl
theorem wc_X14_last : Cond.code yX14_last cX14_last 5 (some FieldType.long) ∈ aTB := aTB_of (wi_10 _ (List.mem_of_getElem? (i := 151) rfl)) rfl
theorem wm_X14_590 : Cond.methodLink RX14 590 yX14_reduces ∈ aTB := aTB_of (wi_10 _ (List.mem_of_getElem? (i := 152) rfl)) rfl
theorem wi_X14_reduces : Cond.instanceMethod yX14_reduces ∈ aTB := aTB_of (wi_10 _ (List.mem_of_getElem? (i := 154) rfl)) rfl
theorem wc_X14_reduces : Cond.code yX14_reduces cX14_reduces 8 none ∈ aTB := aTB_of (wi_10 _ (List.mem_of_getElem? (i := 155) rfl)) rfl
theorem wm_X14_596 : Cond.methodLink RX14 596 Lib.MathLoose.abs_long.x ∈ aTB := aTB_of (wi_10 _ (List.mem_of_getElem? (i := 156) rfl)) rfl
theorem wm_L_134 : Cond.methodLink RL 134 yX14_gain ∈ aTB := aTB_of (wi_10 _ (List.mem_of_getElem? (i := 157) rfl)) rfl
theorem wi_X14_gain : Cond.instanceMethod yX14_gain ∈ aTB := aTB_of (wi_10 _ (List.mem_of_getElem? (i := 158) rfl)) rfl
theorem ws_X14_gain : Cond.selects yX14_gain.cls yX14_gain yX14_gain ∈ aTB := aTB_of (wi_10 _ (List.mem_of_getElem? (i := 159) rfl)) rfl
theorem wc_X14_gain : Cond.code yX14_gain cX14_gain 3 (some FieldType.long) ∈ aTB := aTB_of (wi_10 _ (List.mem_of_getElem? (i := 160) rfl)) rfl
theorem wv_X14_602 : Cond.constantLong RX14 602 (-9223372036854775808) ∈ aTB := aTB_of (wi_10 _ (List.mem_of_getElem? (i := 161) rfl)) rfl
theorem wm_L_138 : Cond.methodLink RL 138 yX14_stays ∈ aTB := aTB_of (wi_10 _ (List.mem_of_getElem? (i := 162) rfl)) rfl
theorem wi_X14_stays : Cond.instanceMethod yX14_stays ∈ aTB := aTB_of (wi_10 _ (List.mem_of_getElem? (i := 163) rfl)) rfl
theorem ws_X14_stays : Cond.selects yX14_stays.cls yX14_stays yX14_stays ∈ aTB := aTB_of (wi_10 _ (List.mem_of_getElem? (i := 164) rfl)) rfl
theorem wc_X14_stays : Cond.code yX14_stays cX14_stays 11 (some FieldType.int) ∈ aTB := aTB_of (wi_10 _ (List.mem_of_getElem? (i := 165) rfl)) rfl
theorem wm_L_142 : Cond.methodLink RL 142 yX14_tick ∈ aTB := aTB_of (wi_10 _ (List.mem_of_getElem? (i := 166) rfl)) rfl
theorem wi_X14_tick : Cond.instanceMethod yX14_tick ∈ aTB := aTB_of (wi_10 _ (List.mem_of_getElem? (i := 167) rfl)) rfl
theorem ws_X14_tick : Cond.selects yX14_tick.cls yX14_tick yX14_tick ∈ aTB := aTB_of (wi_10 _ (List.mem_of_getElem? (i := 168) rfl)) rfl
theorem wc_X14_tick : Cond.code yX14_tick cX14_tick 2 (some FieldType.int) ∈ aTB := aTB_of (wi_10 _ (List.mem_of_getElem? (i := 169) rfl)) rfl
theorem wm_L_147 : Cond.methodLink RL 147 yX14_told ∈ aTB := aTB_of (wi_10 _ (List.mem_of_getElem? (i := 170) rfl)) rfl
theorem wi_X14_told : Cond.instanceMethod yX14_told ∈ aTB := aTB_of (wi_10 _ (List.mem_of_getElem? (i := 171) rfl)) rfl
theorem ws_X14_told : Cond.selects yX14_told.cls yX14_told yX14_told ∈ aTB := aTB_of (wi_10 _ (List.mem_of_getElem? (i := 172) rfl)) rfl
theorem wc_X14_told : Cond.code yX14_told cX14_told 5 (some FieldType.boolean) ∈ aTB := aTB_of (wi_10 _ (List.mem_of_getElem? (i := 173) rfl)) rfl
theorem wm_X14_604 : Cond.methodLink RX14 604 yX14_denied ∈ aTB := aTB_of (wi_10 _ (List.mem_of_getElem? (i := 174) rfl)) rfl
theorem wi_X14_denied : Cond.instanceMethod yX14_denied ∈ aTB := aTB_of (wi_10 _ (List.mem_of_getElem? (i := 176) rfl)) rfl
theorem wc_X14_denied : Cond.code yX14_denied cX14_denied 2 (some FieldType.boolean) ∈ aTB := aTB_of (wi_10 _ (List.mem_of_getElem? (i := 177) rfl)) rfl
theorem wm_X14_607 : Cond.methodLink RX14 607 yX14_granted ∈ aTB := aTB_of (wi_10 _ (List.mem_of_getElem? (i := 178) rfl)) rfl
theorem wi_X14_granted : Cond.instanceMethod yX14_granted ∈ aTB := aTB_of (wi_10 _ (List.mem_of_getElem? (i := 180) rfl)) rfl
theorem wc_X14_granted : Cond.code yX14_granted cX14_granted 1 (some FieldType.boolean) ∈ aTB := aTB_of (wi_10 _ (List.mem_of_getElem? (i := 181) rfl)) rfl
theorem wm_L_151 : Cond.methodLink RL 151 yX14_can ∈ aTB := aTB_of (wi_10 _ (List.mem_of_getElem? (i := 182) rfl)) rfl
theorem wi_X14_can : Cond.instanceMethod yX14_can ∈ aTB := aTB_of (wi_10 _ (List.mem_of_getElem? (i := 183) rfl)) rfl
theorem ws_X14_can : Cond.selects yX14_can.cls yX14_can yX14_can ∈ aTB := aTB_of (wi_10 _ (List.mem_of_getElem? (i := 184) rfl)) rfl
theorem wc_X14_can : Cond.code yX14_can cX14_can 2 (some FieldType.int) ∈ aTB := aTB_of (wi_10 _ (List.mem_of_getElem? (i := 185) rfl)) rfl
theorem wm_X14_620 : Cond.methodLink RX14 620 yX14_faults ∈ aTB := aTB_of (wi_10 _ (List.mem_of_getElem? (i := 186) rfl)) rfl
theorem wi_X14_faults : Cond.instanceMethod yX14_faults ∈ aTB := aTB_of (wi_10 _ (List.mem_of_getElem? (i := 188) rfl)) rfl
theorem wc_X14_faults : Cond.code yX14_faults cX14_faults 1 (some FieldType.int) ∈ aTB := aTB_of (wi_10 _ (List.mem_of_getElem? (i := 189) rfl)) rfl
theorem wm_X14_623 : Cond.methodLink RX14 623 yX14_gathers ∈ aTB := aTB_of (wi_10 _ (List.mem_of_getElem? (i := 190) rfl)) rfl
theorem wi_X14_gathers : Cond.instanceMethod yX14_gathers ∈ aTB := aTB_of (wi_10 _ (List.mem_of_getElem? (i := 192) rfl)) rfl
theorem wc_X14_gathers : Cond.code yX14_gathers cX14_gathers 6 (some FieldType.int) ∈ aTB := aTB_of (wi_10 _ (List.mem_of_getElem? (i := 193) rfl)) rfl
theorem wm_X14_616 : Cond.methodLink RX14 616 yX14_goes ∈ aTB := aTB_of (wi_10 _ (List.mem_of_getElem? (i := 194) rfl)) rfl
theorem wi_X14_goes : Cond.instanceMethod yX14_goes ∈ aTB := aTB_of (wi_10 _ (List.mem_of_getElem? (i := 196) rfl)) rfl
theorem wc_X14_goes : Cond.code yX14_goes cX14_goes 11 (some FieldType.boolean) ∈ aTB := aTB_of (wi_10 _ (List.mem_of_getElem? (i := 197) rfl)) rfl
theorem wm_X14_610 : Cond.methodLink RX14 610 yX14_fitsHere ∈ aTB := aTB_of (wi_10 _ (List.mem_of_getElem? (i := 198) rfl)) rfl
theorem wi_X14_fitsHere : Cond.instanceMethod yX14_fitsHere ∈ aTB := aTB_of (wi_10 _ (List.mem_of_getElem? (i := 200) rfl)) rfl
theorem wc_X14_fitsHere : Cond.code yX14_fitsHere cX14_fitsHere 8 (some FieldType.boolean) ∈ aTB := aTB_of (wi_10 _ (List.mem_of_getElem? (i := 201) rfl)) rfl
theorem wm_X14_613 : Cond.methodLink RX14 613 yX14_handed ∈ aTB := aTB_of (wi_10 _ (List.mem_of_getElem? (i := 202) rfl)) rfl
theorem wi_X14_handed : Cond.instanceMethod yX14_handed ∈ aTB := aTB_of (wi_10 _ (List.mem_of_getElem? (i := 204) rfl)) rfl
theorem wc_X14_handed : Cond.code yX14_handed cX14_handed 5 none ∈ aTB := aTB_of (wi_10 _ (List.mem_of_getElem? (i := 205) rfl)) rfl
theorem wm_L_155 : Cond.methodLink RL 155 yX14_canBe ∈ aTB := aTB_of (wi_10 _ (List.mem_of_getElem? (i := 206) rfl)) rfl
theorem wi_X14_canBe : Cond.instanceMethod yX14_canBe ∈ aTB := aTB_of (wi_10 _ (List.mem_of_getElem? (i := 207) rfl)) rfl
theorem ws_X14_canBe : Cond.selects yX14_canBe.cls yX14_canBe yX14_canBe ∈ aTB := aTB_of (wi_10 _ (List.mem_of_getElem? (i := 208) rfl)) rfl
theorem wc_X14_canBe : Cond.code yX14_canBe cX14_canBe 3 (some FieldType.int) ∈ aTB := aTB_of (wi_10 _ (List.mem_of_getElem? (i := 209) rfl)) rfl
theorem wm_L_160 : Cond.methodLink RL 160 yX14_guess ∈ aTB := aTB_of (wi_10 _ (List.mem_of_getElem? (i := 210) rfl)) rfl
theorem wi_X14_guess : Cond.instanceMethod yX14_guess ∈ aTB := aTB_of (wi_10 _ (List.mem_of_getElem? (i := 211) rfl)) rfl
theorem ws_X14_guess : Cond.selects yX14_guess.cls yX14_guess yX14_guess ∈ aTB := aTB_of (wi_10 _ (List.mem_of_getElem? (i := 212) rfl)) rfl
theorem wc_X14_guess : Cond.code yX14_guess cX14_guess 5 (some FieldType.int) ∈ aTB := aTB_of (wi_10 _ (List.mem_of_getElem? (i := 213) rfl)) rfl
theorem wm_L_164 : Cond.methodLink RL 164 yX14_named ∈ aTB := aTB_of (wi_10 _ (List.mem_of_getElem? (i := 214) rfl)) rfl
theorem wi_X14_named : Cond.instanceMethod yX14_named ∈ aTB := aTB_of (wi_10 _ (List.mem_of_getElem? (i := 215) rfl)) rfl
theorem ws_X14_named : Cond.selects yX14_named.cls yX14_named yX14_named ∈ aTB := aTB_of (wi_10 _ (List.mem_of_getElem? (i := 216) rfl)) rfl
theorem wc_X14_named : Cond.code yX14_named cX14_named 3 (some FieldType.int) ∈ aTB := aTB_of (wi_10 _ (List.mem_of_getElem? (i := 217) rfl)) rfl
theorem wm_L_168 : Cond.methodLink RL 168 yX14_known ∈ aTB := aTB_of (wi_10 _ (List.mem_of_getElem? (i := 218) rfl)) rfl
theorem wi_X14_known : Cond.instanceMethod yX14_known ∈ aTB := aTB_of (wi_10 _ (List.mem_of_getElem? (i := 219) rfl)) rfl
theorem ws_X14_known : Cond.selects yX14_known.cls yX14_known yX14_known ∈ aTB := aTB_of (wi_10 _ (List.mem_of_getElem? (i := 220) rfl)) rfl
theorem wc_X14_known : Cond.code yX14_known cX14_known 2 (some FieldType.int) ∈ aTB := aTB_of (wi_10 _ (List.mem_of_getElem? (i := 221) rfl)) rfl
theorem wm_L_172 : Cond.methodLink RL 172 yX14_fit ∈ aTB := aTB_of (wi_10 _ (List.mem_of_getElem? (i := 222) rfl)) rfl
theorem wi_X14_fit : Cond.instanceMethod yX14_fit ∈ aTB := aTB_of (wi_10 _ (List.mem_of_getElem? (i := 223) rfl)) rfl
theorem ws_X14_fit : Cond.selects yX14_fit.cls yX14_fit yX14_fit ∈ aTB := aTB_of (wi_10 _ (List.mem_of_getElem? (i := 224) rfl)) rfl
theorem wc_X14_fit : Cond.code yX14_fit cX14_fit 3 (some FieldType.int) ∈ aTB := aTB_of (wi_10 _ (List.mem_of_getElem? (i := 225) rfl)) rfl
theorem wm_L_176 : Cond.methodLink RL 176 yX14_probe ∈ aTB := aTB_of (wi_10 _ (List.mem_of_getElem? (i := 226) rfl)) rfl
theorem wi_X14_probe : Cond.instanceMethod yX14_probe ∈ aTB := aTB_of (wi_10 _ (List.mem_of_getElem? (i := 227) rfl)) rfl
theorem ws_X14_probe : Cond.selects yX14_probe.cls yX14_probe yX14_probe ∈ aTB := aTB_of (wi_10 _ (List.mem_of_getElem? (i := 228) rfl)) rfl
theorem wc_X14_probe : Cond.code yX14_probe cX14_probe 7 (some FieldType.int) ∈ aTB := aTB_of (wi_10 _ (List.mem_of_getElem? (i := 229) rfl)) rfl
theorem wm_X14_626 : Cond.methodLink RX14 626 yX14_nextsOf ∈ aTB := aTB_of (wi_10 _ (List.mem_of_getElem? (i := 230) rfl)) rfl
theorem wi_X14_nextsOf : Cond.instanceMethod yX14_nextsOf ∈ aTB := aTB_of (wi_10 _ (List.mem_of_getElem? (i := 232) rfl)) rfl
theorem wc_X14_nextsOf : Cond.code yX14_nextsOf cX14_nextsOf 6 (some FieldType.int) ∈ aTB := aTB_of (wi_10 _ (List.mem_of_getElem? (i := 233) rfl)) rfl
theorem wm_L_180 : Cond.methodLink RL 180 yX14_anew ∈ aTB := aTB_of (wi_10 _ (List.mem_of_getElem? (i := 234) rfl)) rfl
theorem wi_X14_anew : Cond.instanceMethod yX14_anew ∈ aTB := aTB_of (wi_10 _ (List.mem_of_getElem? (i := 235) rfl)) rfl
theorem ws_X14_anew : Cond.selects yX14_anew.cls yX14_anew yX14_anew ∈ aTB := aTB_of (wi_10 _ (List.mem_of_getElem? (i := 236) rfl)) rfl
theorem wc_X14_anew : Cond.code yX14_anew cX14_anew 2 (some FieldType.int) ∈ aTB := aTB_of (wi_10 _ (List.mem_of_getElem? (i := 237) rfl)) rfl
theorem wm_L_185 : Cond.methodLink RL 185 yX14_code ∈ aTB := aTB_of (wi_10 _ (List.mem_of_getElem? (i := 238) rfl)) rfl
theorem wi_X14_code : Cond.instanceMethod yX14_code ∈ aTB := aTB_of (wi_10 _ (List.mem_of_getElem? (i := 239) rfl)) rfl
theorem ws_X14_code : Cond.selects yX14_code.cls yX14_code yX14_code ∈ aTB := aTB_of (wi_11 _ (List.mem_of_getElem? (i := 0) rfl)) rfl
theorem wc_X14_code : Cond.code yX14_code cX14_code 6 (some FieldType.boolean) ∈ aTB := aTB_of (wi_11 _ (List.mem_of_getElem? (i := 1) rfl)) rfl
theorem wm_X14_629 : Cond.methodLink RX14 629 yX14_isOne ∈ aTB := aTB_of (wi_11 _ (List.mem_of_getElem? (i := 2) rfl)) rfl
theorem wi_X14_isOne : Cond.instanceMethod yX14_isOne ∈ aTB := aTB_of (wi_11 _ (List.mem_of_getElem? (i := 4) rfl)) rfl
theorem wc_X14_isOne : Cond.code yX14_isOne cX14_isOne 1 (some FieldType.boolean) ∈ aTB := aTB_of (wi_11 _ (List.mem_of_getElem? (i := 5) rfl)) rfl
theorem wm_L_189 : Cond.methodLink RL 189 yX14_coded ∈ aTB := aTB_of (wi_11 _ (List.mem_of_getElem? (i := 6) rfl)) rfl
theorem wi_X14_coded : Cond.instanceMethod yX14_coded ∈ aTB := aTB_of (wi_11 _ (List.mem_of_getElem? (i := 7) rfl)) rfl
theorem ws_X14_coded : Cond.selects yX14_coded.cls yX14_coded yX14_coded ∈ aTB := aTB_of (wi_11 _ (List.mem_of_getElem? (i := 8) rfl)) rfl
theorem wc_X14_coded : Cond.code yX14_coded cX14_coded 2 (some FieldType.int) ∈ aTB := aTB_of (wi_11 _ (List.mem_of_getElem? (i := 9) rfl)) rfl
theorem wm_X14_632 : Cond.methodLink RX14 632 yX14_codedOf ∈ aTB := aTB_of (wi_11 _ (List.mem_of_getElem? (i := 10) rfl)) rfl
theorem wi_X14_codedOf : Cond.instanceMethod yX14_codedOf ∈ aTB := aTB_of (wi_11 _ (List.mem_of_getElem? (i := 12) rfl)) rfl
theorem wc_X14_codedOf : Cond.code yX14_codedOf cX14_codedOf 4 (some FieldType.int) ∈ aTB := aTB_of (wi_11 _ (List.mem_of_getElem? (i := 13) rfl)) rfl
theorem wm_L_193 : Cond.methodLink RL 193 yX14_strays ∈ aTB := aTB_of (wi_11 _ (List.mem_of_getElem? (i := 14) rfl)) rfl
theorem wi_X14_strays : Cond.instanceMethod yX14_strays ∈ aTB := aTB_of (wi_11 _ (List.mem_of_getElem? (i := 15) rfl)) rfl
theorem ws_X14_strays : Cond.selects yX14_strays.cls yX14_strays yX14_strays ∈ aTB := aTB_of (wi_11 _ (List.mem_of_getElem? (i := 16) rfl)) rfl
theorem wc_X14_strays : Cond.code yX14_strays cX14_strays 3 (some FieldType.int) ∈ aTB := aTB_of (wi_11 _ (List.mem_of_getElem? (i := 17) rfl)) rfl
theorem wm_L_197 : Cond.methodLink RL 197 yX14_walk ∈ aTB := aTB_of (wi_11 _ (List.mem_of_getElem? (i := 18) rfl)) rfl
theorem wi_X14_walk : Cond.instanceMethod yX14_walk ∈ aTB := aTB_of (wi_11 _ (List.mem_of_getElem? (i := 19) rfl)) rfl
theorem ws_X14_walk : Cond.selects yX14_walk.cls yX14_walk yX14_walk ∈ aTB := aTB_of (wi_11 _ (List.mem_of_getElem? (i := 20) rfl)) rfl
theorem wc_X14_walk : Cond.code yX14_walk cX14_walk 4 (some FieldType.int) ∈ aTB := aTB_of (wi_11 _ (List.mem_of_getElem? (i := 21) rfl)) rfl
theorem wm_L_202 : Cond.methodLink RL 202 yX14_claim ∈ aTB := aTB_of (wi_11 _ (List.mem_of_getElem? (i := 22) rfl)) rfl
theorem wi_X14_claim : Cond.instanceMethod yX14_claim ∈ aTB := aTB_of (wi_11 _ (List.mem_of_getElem? (i := 23) rfl)) rfl
theorem ws_X14_claim : Cond.selects yX14_claim.cls yX14_claim yX14_claim ∈ aTB := aTB_of (wi_11 _ (List.mem_of_getElem? (i := 24) rfl)) rfl
theorem wc_X14_claim : Cond.code yX14_claim cX14_claim 3 (some FieldType.boolean) ∈ aTB := aTB_of (wi_11 _ (List.mem_of_getElem? (i := 25) rfl)) rfl
theorem wm_L_206 : Cond.methodLink RL 206 yX14_proved ∈ aTB := aTB_of (wi_11 _ (List.mem_of_getElem? (i := 26) rfl)) rfl
theorem wi_X14_proved : Cond.instanceMethod yX14_proved ∈ aTB := aTB_of (wi_11 _ (List.mem_of_getElem? (i := 27) rfl)) rfl
theorem ws_X14_proved : Cond.selects yX14_proved.cls yX14_proved yX14_proved ∈ aTB := aTB_of (wi_11 _ (List.mem_of_getElem? (i := 28) rfl)) rfl
theorem wc_X14_proved : Cond.code yX14_proved cX14_proved 2 (some FieldType.int) ∈ aTB := aTB_of (wi_11 _ (List.mem_of_getElem? (i := 29) rfl)) rfl
theorem wm_X14_638 : Cond.methodLink RX14 638 yX14_firstBreak ∈ aTB := aTB_of (wi_11 _ (List.mem_of_getElem? (i := 30) rfl)) rfl
theorem wi_X14_firstBreak : Cond.instanceMethod yX14_firstBreak ∈ aTB := aTB_of (wi_11 _ (List.mem_of_getElem? (i := 32) rfl)) rfl
theorem wc_X14_firstBreak : Cond.code yX14_firstBreak cX14_firstBreak 2 (some FieldType.int) ∈ aTB := aTB_of (wi_11 _ (List.mem_of_getElem? (i := 33) rfl)) rfl
theorem wm_X14_635 : Cond.methodLink RX14 635 yX14_holds ∈ aTB := aTB_of (wi_11 _ (List.mem_of_getElem? (i := 34) rfl)) rfl
theorem wi_X14_holds : Cond.instanceMethod yX14_holds ∈ aTB := aTB_of (wi_11 _ (List.mem_of_getElem? (i := 36) rfl)) rfl
theorem wc_X14_holds : Cond.code yX14_holds cX14_holds 7 (some FieldType.boolean) ∈ aTB := aTB_of (wi_11 _ (List.mem_of_getElem? (i := 37) rfl)) rfl
theorem wm_L_210 : Cond.methodLink RL 210 yX14_breaks ∈ aTB := aTB_of (wi_11 _ (List.mem_of_getElem? (i := 38) rfl)) rfl
theorem wi_X14_breaks : Cond.instanceMethod yX14_breaks ∈ aTB := aTB_of (wi_11 _ (List.mem_of_getElem? (i := 39) rfl)) rfl
theorem ws_X14_breaks : Cond.selects yX14_breaks.cls yX14_breaks yX14_breaks ∈ aTB := aTB_of (wi_11 _ (List.mem_of_getElem? (i := 40) rfl)) rfl
theorem wc_X14_breaks : Cond.code yX14_breaks cX14_breaks 1 (some FieldType.int) ∈ aTB := aTB_of (wi_11 _ (List.mem_of_getElem? (i := 41) rfl)) rfl
theorem wm_L_214 : Cond.methodLink RL 214 yX14_trouble ∈ aTB := aTB_of (wi_11 _ (List.mem_of_getElem? (i := 42) rfl)) rfl
theorem wi_X14_trouble : Cond.instanceMethod yX14_trouble ∈ aTB := aTB_of (wi_11 _ (List.mem_of_getElem? (i := 43) rfl)) rfl
theorem ws_X14_trouble : Cond.selects yX14_trouble.cls yX14_trouble yX14_trouble ∈ aTB := aTB_of (wi_11 _ (List.mem_of_getElem? (i := 44) rfl)) rfl
theorem wc_X14_trouble : Cond.code yX14_trouble cX14_trouble 1 (some FieldType.int) ∈ aTB := aTB_of (wi_11 _ (List.mem_of_getElem? (i := 45) rfl)) rfl
theorem wq_SteeringHouse_java_lang_Object : Cond.castable RX11 "java/lang/Object" ∈ lw_tbl := wi_11 _ (List.mem_of_getElem? (i := 47) rfl)
theorem wq_SteeringHouse_Model_java_lang_Object : Cond.castable RX2 "java/lang/Object" ∈ lw_tbl := wi_11 _ (List.mem_of_getElem? (i := 48) rfl)
theorem wq_SteeringHouse_Formulas_java_lang_Object : Cond.castable RX0 "java/lang/Object" ∈ lw_tbl := wi_11 _ (List.mem_of_getElem? (i := 49) rfl)
theorem wq_SteeringHouse_Reader_java_lang_Object : Cond.castable RX6 "java/lang/Object" ∈ lw_tbl := wi_11 _ (List.mem_of_getElem? (i := 50) rfl)
theorem wq_SteeringHouse_Tokens_java_lang_Object : Cond.castable RX8 "java/lang/Object" ∈ lw_tbl := wi_11 _ (List.mem_of_getElem? (i := 51) rfl)
theorem wq_SteeringHouse_Moves_java_lang_Object : Cond.castable RX3 "java/lang/Object" ∈ lw_tbl := wi_11 _ (List.mem_of_getElem? (i := 52) rfl)
theorem wq_SteeringHouse_Wishes_java_lang_Object : Cond.castable RX10 "java/lang/Object" ∈ lw_tbl := wi_11 _ (List.mem_of_getElem? (i := 53) rfl)
theorem wq_SteeringHouse_Safety_java_lang_Object : Cond.castable RX7 "java/lang/Object" ∈ lw_tbl := wi_11 _ (List.mem_of_getElem? (i := 54) rfl)
theorem wq_SteeringHouse_Payments_java_lang_Object : Cond.castable RX4 "java/lang/Object" ∈ lw_tbl := wi_11 _ (List.mem_of_getElem? (i := 55) rfl)
theorem wq_SteeringHouse_Linear_java_lang_Object : Cond.castable RX1 "java/lang/Object" ∈ lw_tbl := wi_11 _ (List.mem_of_getElem? (i := 56) rfl)
theorem wq_SteeringHouse_Watcher_java_lang_Object : Cond.castable RX9 "java/lang/Object" ∈ lw_tbl := wi_11 _ (List.mem_of_getElem? (i := 57) rfl)
theorem wq_SteeringHouse_Proofs_java_lang_Object : Cond.castable RX5 "java/lang/Object" ∈ lw_tbl := wi_11 _ (List.mem_of_getElem? (i := 58) rfl)
theorem wq_SteeringHouseModel_java_lang_Object : Cond.castable RX14 "java/lang/Object" ∈ lw_tbl := wi_11 _ (List.mem_of_getElem? (i := 59) rfl)
theorem wq_SteeringHouseModel_Thing_java_lang_Object : Cond.castable RX13 "java/lang/Object" ∈ lw_tbl := wi_11 _ (List.mem_of_getElem? (i := 60) rfl)
theorem wq_SteeringHouseModel_Stop_java_lang_Object : Cond.castable RX12 "java/lang/Object" ∈ lw_tbl := wi_11 _ (List.mem_of_getElem? (i := 61) rfl)
theorem wq_java_util_NoSuchElementException_java_lang_Object : Cond.castable "java/util/NoSuchElementException" "java/lang/Object" ∈ lw_tbl := wi_11 _ (List.mem_of_getElem? (i := 62) rfl)
theorem wq_java_lang_Throwable_java_lang_Object : Cond.castable "java/lang/Throwable" "java/lang/Object" ∈ lw_tbl := wi_11 _ (List.mem_of_getElem? (i := 63) rfl)
theorem wq_java_lang_String_java_lang_Object : Cond.castable RJ0 "java/lang/Object" ∈ lw_tbl := wi_11 _ (List.mem_of_getElem? (i := 64) rfl)
theorem wf_J0_9 : Cond.fieldLink RJ0 9 "java/lang/String" "value" "[B" ∈ aTB := aTB_of (wi_11 _ (List.mem_of_getElem? (i := 65) rfl)) rfl
theorem wf_J0_15 : Cond.fieldLink RJ0 15 "java/lang/String" "coder" "B" ∈ aTB := aTB_of (wi_11 _ (List.mem_of_getElem? (i := 66) rfl)) rfl
theorem ws_X11_takeFour : Cond.selects yX11_takeFour.cls yX11_takeFour yX11_takeFour ∈ aTB := aTB_of (wip_1 _ (List.mem_of_getElem? (i := 0) rfl)) rfl
theorem ws_X11_refused : Cond.selects yX11_refused.cls yX11_refused yX11_refused ∈ aTB := aTB_of (wip_1 _ (List.mem_of_getElem? (i := 1) rfl)) rfl
theorem ws_X6_readThing : Cond.selects yX6_readThing.cls yX6_readThing yX6_readThing ∈ aTB := aTB_of (wip_1 _ (List.mem_of_getElem? (i := 2) rfl)) rfl
theorem ws_X2_clear : Cond.selects yX2_clear.cls yX2_clear yX2_clear ∈ aTB := aTB_of (wip_1 _ (List.mem_of_getElem? (i := 3) rfl)) rfl
theorem ws_X0_clear : Cond.selects yX0_clear.cls yX0_clear yX0_clear ∈ aTB := aTB_of (wip_1 _ (List.mem_of_getElem? (i := 4) rfl)) rfl
theorem ws_X6_begin : Cond.selects yX6_begin.cls yX6_begin yX6_begin ∈ aTB := aTB_of (wip_1 _ (List.mem_of_getElem? (i := 5) rfl)) rfl
theorem ws_X8_cut : Cond.selects yX8_cut.cls yX8_cut yX8_cut ∈ aTB := aTB_of (wip_1 _ (List.mem_of_getElem? (i := 6) rfl)) rfl
theorem ws_X8_cutWord : Cond.selects yX8_cutWord.cls yX8_cutWord yX8_cutWord ∈ aTB := aTB_of (wip_1 _ (List.mem_of_getElem? (i := 7) rfl)) rfl
theorem ws_X8_add : Cond.selects yX8_add.cls yX8_add yX8_add ∈ aTB := aTB_of (wip_1 _ (List.mem_of_getElem? (i := 8) rfl)) rfl
theorem ws_X8_cutWhole : Cond.selects yX8_cutWhole.cls yX8_cutWhole yX8_cutWhole ∈ aTB := aTB_of (wip_1 _ (List.mem_of_getElem? (i := 9) rfl)) rfl
theorem ws_X6_line : Cond.selects yX6_line.cls yX6_line yX6_line ∈ aTB := aTB_of (wip_1 _ (List.mem_of_getElem? (i := 10) rfl)) rfl
theorem ws_X6_kind : Cond.selects yX6_kind.cls yX6_kind yX6_kind ∈ aTB := aTB_of (wip_1 _ (List.mem_of_getElem? (i := 11) rfl)) rfl
theorem ws_X6_fail : Cond.selects yX6_fail.cls yX6_fail yX6_fail ∈ aTB := aTB_of (wip_1 _ (List.mem_of_getElem? (i := 12) rfl)) rfl
theorem ws_X6_reserved : Cond.selects yX6_reserved.cls yX6_reserved yX6_reserved ∈ aTB := aTB_of (wip_1 _ (List.mem_of_getElem? (i := 13) rfl)) rfl
theorem ws_X6_sightLine : Cond.selects yX6_sightLine.cls yX6_sightLine yX6_sightLine ∈ aTB := aTB_of (wip_1 _ (List.mem_of_getElem? (i := 14) rfl)) rfl
theorem ws_X6_newName : Cond.selects yX6_newName.cls yX6_newName yX6_newName ∈ aTB := aTB_of (wip_1 _ (List.mem_of_getElem? (i := 15) rfl)) rfl
theorem ws_X6_meaning : Cond.selects yX6_meaning.cls yX6_meaning yX6_meaning ∈ aTB := aTB_of (wip_2 _ (List.mem_of_getElem? (i := 0) rfl)) rfl
theorem ws_X2_slotOf : Cond.selects yX2_slotOf.cls yX2_slotOf yX2_slotOf ∈ aTB := aTB_of (wip_2 _ (List.mem_of_getElem? (i := 1) rfl)) rfl
theorem ws_X2_addName : Cond.selects yX2_addName.cls yX2_addName yX2_addName ∈ aTB := aTB_of (wip_2 _ (List.mem_of_getElem? (i := 2) rfl)) rfl
theorem ws_X6_pass : Cond.selects yX6_pass.cls yX6_pass yX6_pass ∈ aTB := aTB_of (wip_2 _ (List.mem_of_getElem? (i := 3) rfl)) rfl
theorem ws_X6_sum : Cond.selects yX6_sum.cls yX6_sum yX6_sum ∈ aTB := aTB_of (wip_2 _ (List.mem_of_getElem? (i := 4) rfl)) rfl
theorem ws_X6_factor : Cond.selects yX6_factor.cls yX6_factor yX6_factor ∈ aTB := aTB_of (wip_2 _ (List.mem_of_getElem? (i := 5) rfl)) rfl
theorem ws_X0_isFull : Cond.selects yX0_isFull.cls yX0_isFull yX0_isFull ∈ aTB := aTB_of (wip_2 _ (List.mem_of_getElem? (i := 6) rfl)) rfl
theorem ws_X0_addFactor : Cond.selects yX0_addFactor.cls yX0_addFactor yX0_addFactor ∈ aTB := aTB_of (wip_2 _ (List.mem_of_getElem? (i := 7) rfl)) rfl
theorem ws_X6_spanLine : Cond.selects yX6_spanLine.cls yX6_spanLine yX6_spanLine ∈ aTB := aTB_of (wip_2 _ (List.mem_of_getElem? (i := 8) rfl)) rfl
theorem ws_X6_integer : Cond.selects yX6_integer.cls yX6_integer yX6_integer ∈ aTB := aTB_of (wip_2 _ (List.mem_of_getElem? (i := 9) rfl)) rfl
theorem ws_X6_isWord : Cond.selects yX6_isWord.cls yX6_isWord yX6_isWord ∈ aTB := aTB_of (wip_2 _ (List.mem_of_getElem? (i := 10) rfl)) rfl
theorem ws_X6_stepLine : Cond.selects yX6_stepLine.cls yX6_stepLine yX6_stepLine ∈ aTB := aTB_of (wip_2 _ (List.mem_of_getElem? (i := 11) rfl)) rfl
theorem ws_X6_test : Cond.selects yX6_test.cls yX6_test yX6_test ∈ aTB := aTB_of (wip_2 _ (List.mem_of_getElem? (i := 12) rfl)) rfl
theorem ws_X0_addOne : Cond.selects yX0_addOne.cls yX0_addOne yX0_addOne ∈ aTB := aTB_of (wip_2 _ (List.mem_of_getElem? (i := 13) rfl)) rfl
theorem ws_X2_addStep : Cond.selects yX2_addStep.cls yX2_addStep yX2_addStep ∈ aTB := aTB_of (wip_2 _ (List.mem_of_getElem? (i := 14) rfl)) rfl
theorem ws_X2_fits : Cond.selects yX2_fits.cls yX2_fits yX2_fits ∈ aTB := aTB_of (wip_2 _ (List.mem_of_getElem? (i := 15) rfl)) rfl
theorem ws_X2_measure : Cond.selects yX2_measure.cls yX2_measure yX2_measure ∈ aTB := aTB_of (wip_3 _ (List.mem_of_getElem? (i := 0) rfl)) rfl
theorem ws_X2_parts : Cond.selects yX2_parts.cls yX2_parts yX2_parts ∈ aTB := aTB_of (wip_3 _ (List.mem_of_getElem? (i := 1) rfl)) rfl
theorem ws_X2_width : Cond.selects yX2_width.cls yX2_width yX2_width ∈ aTB := aTB_of (wip_3 _ (List.mem_of_getElem? (i := 2) rfl)) rfl
theorem ws_X11_settled : Cond.selects yX11_settled.cls yX11_settled yX11_settled ∈ aTB := aTB_of (wip_3 _ (List.mem_of_getElem? (i := 3) rfl)) rfl
theorem ws_X2_take : Cond.selects yX2_take.cls yX2_take yX2_take ∈ aTB := aTB_of (wip_3 _ (List.mem_of_getElem? (i := 4) rfl)) rfl
theorem ws_X0_take : Cond.selects yX0_take.cls yX0_take yX0_take ∈ aTB := aTB_of (wip_3 _ (List.mem_of_getElem? (i := 5) rfl)) rfl
theorem ws_X3_forget : Cond.selects yX3_forget.cls yX3_forget yX3_forget ∈ aTB := aTB_of (wip_3 _ (List.mem_of_getElem? (i := 6) rfl)) rfl
theorem ws_X10_renew : Cond.selects yX10_renew.cls yX10_renew yX10_renew ∈ aTB := aTB_of (wip_3 _ (List.mem_of_getElem? (i := 7) rfl)) rfl
theorem ws_X5_renew : Cond.selects yX5_renew.cls yX5_renew yX5_renew ∈ aTB := aTB_of (wip_3 _ (List.mem_of_getElem? (i := 8) rfl)) rfl
theorem ws_X5_setCode : Cond.selects yX5_setCode.cls yX5_setCode yX5_setCode ∈ aTB := aTB_of (wip_3 _ (List.mem_of_getElem? (i := 9) rfl)) rfl
theorem ws_X1_forget : Cond.selects yX1_forget.cls yX1_forget yX1_forget ∈ aTB := aTB_of (wip_3 _ (List.mem_of_getElem? (i := 10) rfl)) rfl
theorem ws_X9_renew : Cond.selects yX9_renew.cls yX9_renew yX9_renew ∈ aTB := aTB_of (wip_3 _ (List.mem_of_getElem? (i := 11) rfl)) rfl
theorem ws_X9_forget : Cond.selects yX9_forget.cls yX9_forget yX9_forget ∈ aTB := aTB_of (wip_3 _ (List.mem_of_getElem? (i := 12) rfl)) rfl
theorem ws_X7_forget : Cond.selects yX7_forget.cls yX7_forget yX7_forget ∈ aTB := aTB_of (wip_3 _ (List.mem_of_getElem? (i := 13) rfl)) rfl
theorem ws_X4_forget : Cond.selects yX4_forget.cls yX4_forget yX4_forget ∈ aTB := aTB_of (wip_3 _ (List.mem_of_getElem? (i := 14) rfl)) rfl
theorem ws_X11_wishReadable : Cond.selects yX11_wishReadable.cls yX11_wishReadable yX11_wishReadable ∈ aTB := aTB_of (wip_3 _ (List.mem_of_getElem? (i := 15) rfl)) rfl
theorem ws_X6_readTest : Cond.selects yX6_readTest.cls yX6_readTest yX6_readTest ∈ aTB := aTB_of (wip_4 _ (List.mem_of_getElem? (i := 0) rfl)) rfl
theorem ws_X10_setGood : Cond.selects yX10_setGood.cls yX10_setGood yX10_setGood ∈ aTB := aTB_of (wip_4 _ (List.mem_of_getElem? (i := 1) rfl)) rfl
theorem ws_X10_markAll : Cond.selects yX10_markAll.cls yX10_markAll yX10_markAll ∈ aTB := aTB_of (wip_4 _ (List.mem_of_getElem? (i := 2) rfl)) rfl
theorem ws_X2_spread : Cond.selects yX2_spread.cls yX2_spread yX2_spread ∈ aTB := aTB_of (wip_4 _ (List.mem_of_getElem? (i := 3) rfl)) rfl
theorem ws_X0_allHold : Cond.selects yX0_allHold.cls yX0_allHold yX0_allHold ∈ aTB := aTB_of (wip_4 _ (List.mem_of_getElem? (i := 4) rfl)) rfl
theorem ws_X0_sumOf : Cond.selects yX0_sumOf.cls yX0_sumOf yX0_sumOf ∈ aTB := aTB_of (wip_4 _ (List.mem_of_getElem? (i := 5) rfl)) rfl
theorem ws_X10_setGoal : Cond.selects yX10_setGoal.cls yX10_setGoal yX10_setGoal ∈ aTB := aTB_of (wip_4 _ (List.mem_of_getElem? (i := 6) rfl)) rfl
theorem ws_X6_readSum : Cond.selects yX6_readSum.cls yX6_readSum yX6_readSum ∈ aTB := aTB_of (wip_4 _ (List.mem_of_getElem? (i := 7) rfl)) rfl
theorem ws_X10_setCosts : Cond.selects yX10_setCosts.cls yX10_setCosts yX10_setCosts ∈ aTB := aTB_of (wip_4 _ (List.mem_of_getElem? (i := 8) rfl)) rfl
theorem ws_X1_holds : Cond.selects yX1_holds.cls yX1_holds yX1_holds ∈ aTB := aTB_of (wip_4 _ (List.mem_of_getElem? (i := 9) rfl)) rfl
theorem ws_X1_look : Cond.selects yX1_look.cls yX1_look yX1_look ∈ aTB := aTB_of (wip_4 _ (List.mem_of_getElem? (i := 10) rfl)) rfl
theorem ws_X1_addTerms : Cond.selects yX1_addTerms.cls yX1_addTerms yX1_addTerms ∈ aTB := aTB_of (wip_4 _ (List.mem_of_getElem? (i := 11) rfl)) rfl
theorem ws_X1_addTerm : Cond.selects yX1_addTerm.cls yX1_addTerm yX1_addTerm ∈ aTB := aTB_of (wip_4 _ (List.mem_of_getElem? (i := 12) rfl)) rfl
theorem ws_X1_findForm : Cond.selects yX1_findForm.cls yX1_findForm yX1_findForm ∈ aTB := aTB_of (wip_4 _ (List.mem_of_getElem? (i := 13) rfl)) rfl
theorem ws_X1_determinant : Cond.selects yX1_determinant.cls yX1_determinant yX1_determinant ∈ aTB := aTB_of (wip_4 _ (List.mem_of_getElem? (i := 14) rfl)) rfl
theorem ws_X2_cellOf : Cond.selects yX2_cellOf.cls yX2_cellOf yX2_cellOf ∈ aTB := aTB_of (wip_4 _ (List.mem_of_getElem? (i := 15) rfl)) rfl
theorem ws_X11_hasCell : Cond.selects yX11_hasCell.cls yX11_hasCell yX11_hasCell ∈ aTB := aTB_of (wip_5 _ (List.mem_of_getElem? (i := 0) rfl)) rfl
theorem ws_X11_hasPush : Cond.selects yX11_hasPush.cls yX11_hasPush yX11_hasPush ∈ aTB := aTB_of (wip_5 _ (List.mem_of_getElem? (i := 1) rfl)) rfl
theorem ws_X11_hasMove : Cond.selects yX11_hasMove.cls yX11_hasMove yX11_hasMove ∈ aTB := aTB_of (wip_5 _ (List.mem_of_getElem? (i := 2) rfl)) rfl
theorem ws_X2_spreadMove : Cond.selects yX2_spreadMove.cls yX2_spreadMove yX2_spreadMove ∈ aTB := aTB_of (wip_5 _ (List.mem_of_getElem? (i := 3) rfl)) rfl
theorem ws_X2_spreadWorld : Cond.selects yX2_spreadWorld.cls yX2_spreadWorld yX2_spreadWorld ∈ aTB := aTB_of (wip_5 _ (List.mem_of_getElem? (i := 4) rfl)) rfl
theorem ws_X2_lead : Cond.selects yX2_lead.cls yX2_lead yX2_lead ∈ aTB := aTB_of (wip_5 _ (List.mem_of_getElem? (i := 5) rfl)) rfl
theorem ws_X2_stepped : Cond.selects yX2_stepped.cls yX2_stepped yX2_stepped ∈ aTB := aTB_of (wip_5 _ (List.mem_of_getElem? (i := 6) rfl)) rfl
theorem ws_X2_seen : Cond.selects yX2_seen.cls yX2_seen yX2_seen ∈ aTB := aTB_of (wip_5 _ (List.mem_of_getElem? (i := 7) rfl)) rfl
theorem ws_X11_readySafety : Cond.selects yX11_readySafety.cls yX11_readySafety yX11_readySafety ∈ aTB := aTB_of (wip_5 _ (List.mem_of_getElem? (i := 8) rfl)) rfl
theorem ws_X3_fill : Cond.selects yX3_fill.cls yX3_fill yX3_fill ∈ aTB := aTB_of (wip_5 _ (List.mem_of_getElem? (i := 9) rfl)) rfl
theorem ws_X3_fillCells : Cond.selects yX3_fillCells.cls yX3_fillCells yX3_fillCells ∈ aTB := aTB_of (wip_5 _ (List.mem_of_getElem? (i := 10) rfl)) rfl
theorem ws_X3_mark : Cond.selects yX3_mark.cls yX3_mark yX3_mark ∈ aTB := aTB_of (wip_5 _ (List.mem_of_getElem? (i := 11) rfl)) rfl
theorem ws_X7_settle : Cond.selects yX7_settle.cls yX7_settle yX7_settle ∈ aTB := aTB_of (wip_5 _ (List.mem_of_getElem? (i := 12) rfl)) rfl
theorem ws_X10_isGood : Cond.selects yX10_isGood.cls yX10_isGood yX10_isGood ∈ aTB := aTB_of (wip_5 _ (List.mem_of_getElem? (i := 13) rfl)) rfl
theorem ws_X7_shrink : Cond.selects yX7_shrink.cls yX7_shrink yX7_shrink ∈ aTB := aTB_of (wip_5 _ (List.mem_of_getElem? (i := 14) rfl)) rfl
theorem ws_X7_keptPushes : Cond.selects yX7_keptPushes.cls yX7_keptPushes yX7_keptPushes ∈ aTB := aTB_of (wip_5 _ (List.mem_of_getElem? (i := 15) rfl)) rfl
theorem ws_X7_nameLayer : Cond.selects yX7_nameLayer.cls yX7_nameLayer yX7_nameLayer ∈ aTB := aTB_of (wip_6 _ (List.mem_of_getElem? (i := 0) rfl)) rfl
theorem ws_X11_readyReaches : Cond.selects yX11_readyReaches.cls yX11_readyReaches yX11_readyReaches ∈ aTB := aTB_of (wip_6 _ (List.mem_of_getElem? (i := 1) rfl)) rfl
theorem ws_X10_settleReaches : Cond.selects yX10_settleReaches.cls yX10_settleReaches yX10_settleReaches ∈ aTB := aTB_of (wip_6 _ (List.mem_of_getElem? (i := 2) rfl)) rfl
theorem ws_X10_isGoal : Cond.selects yX10_isGoal.cls yX10_isGoal yX10_isGoal ∈ aTB := aTB_of (wip_6 _ (List.mem_of_getElem? (i := 3) rfl)) rfl
theorem ws_X10_reachRound : Cond.selects yX10_reachRound.cls yX10_reachRound yX10_reachRound ∈ aTB := aTB_of (wip_6 _ (List.mem_of_getElem? (i := 4) rfl)) rfl
theorem ws_X10_pushIntoDone : Cond.selects yX10_pushIntoDone.cls yX10_pushIntoDone yX10_pushIntoDone ∈ aTB := aTB_of (wip_6 _ (List.mem_of_getElem? (i := 5) rfl)) rfl
theorem ws_X11_readyPayments : Cond.selects yX11_readyPayments.cls yX11_readyPayments yX11_readyPayments ∈ aTB := aTB_of (wip_6 _ (List.mem_of_getElem? (i := 6) rfl)) rfl
theorem ws_X4_settle : Cond.selects yX4_settle.cls yX4_settle yX4_settle ∈ aTB := aTB_of (wip_6 _ (List.mem_of_getElem? (i := 7) rfl)) rfl
theorem ws_X4_choose : Cond.selects yX4_choose.cls yX4_choose yX4_choose ∈ aTB := aTB_of (wip_6 _ (List.mem_of_getElem? (i := 8) rfl)) rfl
theorem ws_X4_mostBehind : Cond.selects yX4_mostBehind.cls yX4_mostBehind yX4_mostBehind ∈ aTB := aTB_of (wip_6 _ (List.mem_of_getElem? (i := 9) rfl)) rfl
theorem ws_X4_behind : Cond.selects yX4_behind.cls yX4_behind yX4_behind ∈ aTB := aTB_of (wip_6 _ (List.mem_of_getElem? (i := 10) rfl)) rfl
theorem ws_X3_leadOf : Cond.selects yX3_leadOf.cls yX3_leadOf yX3_leadOf ∈ aTB := aTB_of (wip_6 _ (List.mem_of_getElem? (i := 11) rfl)) rfl
theorem ws_X4_paid : Cond.selects yX4_paid.cls yX4_paid yX4_paid ∈ aTB := aTB_of (wip_6 _ (List.mem_of_getElem? (i := 12) rfl)) rfl
theorem ws_X4_lawOf : Cond.selects yX4_lawOf.cls yX4_lawOf yX4_lawOf ∈ aTB := aTB_of (wip_6 _ (List.mem_of_getElem? (i := 13) rfl)) rfl
theorem ws_X7_settleMargins : Cond.selects yX7_settleMargins.cls yX7_settleMargins yX7_settleMargins ∈ aTB := aTB_of (wip_6 _ (List.mem_of_getElem? (i := 14) rfl)) rfl
theorem ws_X7_widen : Cond.selects yX7_widen.cls yX7_widen yX7_widen ∈ aTB := aTB_of (wip_6 _ (List.mem_of_getElem? (i := 15) rfl)) rfl
theorem ws_X7_staysByWider : Cond.selects yX7_staysByWider.cls yX7_staysByWider yX7_staysByWider ∈ aTB := aTB_of (wip_7 _ (List.mem_of_getElem? (i := 0) rfl)) rfl
theorem ws_X2_isEdge : Cond.selects yX2_isEdge.cls yX2_isEdge yX2_isEdge ∈ aTB := aTB_of (wip_7 _ (List.mem_of_getElem? (i := 1) rfl)) rfl
theorem ws_X1_rankOf : Cond.selects yX1_rankOf.cls yX1_rankOf yX1_rankOf ∈ aTB := aTB_of (wip_7 _ (List.mem_of_getElem? (i := 2) rfl)) rfl
theorem ws_X1_multiply : Cond.selects yX1_multiply.cls yX1_multiply yX1_multiply ∈ aTB := aTB_of (wip_7 _ (List.mem_of_getElem? (i := 3) rfl)) rfl
theorem ws_X1_anyTriple : Cond.selects yX1_anyTriple.cls yX1_anyTriple yX1_anyTriple ∈ aTB := aTB_of (wip_7 _ (List.mem_of_getElem? (i := 4) rfl)) rfl
theorem ws_X1_anyPair : Cond.selects yX1_anyPair.cls yX1_anyPair yX1_anyPair ∈ aTB := aTB_of (wip_7 _ (List.mem_of_getElem? (i := 5) rfl)) rfl
theorem ws_X1_minor : Cond.selects yX1_minor.cls yX1_minor yX1_minor ∈ aTB := aTB_of (wip_7 _ (List.mem_of_getElem? (i := 6) rfl)) rfl
theorem ws_X1_anyNumber : Cond.selects yX1_anyNumber.cls yX1_anyNumber yX1_anyNumber ∈ aTB := aTB_of (wip_7 _ (List.mem_of_getElem? (i := 7) rfl)) rfl
theorem ws_X1_solve : Cond.selects yX1_solve.cls yX1_solve yX1_solve ∈ aTB := aTB_of (wip_7 _ (List.mem_of_getElem? (i := 8) rfl)) rfl
theorem ws_X1_setGain : Cond.selects yX1_setGain.cls yX1_setGain yX1_setGain ∈ aTB := aTB_of (wip_7 _ (List.mem_of_getElem? (i := 9) rfl)) rfl
theorem ws_X1_swapColumn : Cond.selects yX1_swapColumn.cls yX1_swapColumn yX1_swapColumn ∈ aTB := aTB_of (wip_7 _ (List.mem_of_getElem? (i := 10) rfl)) rfl
theorem ws_X1_rootsWithin : Cond.selects yX1_rootsWithin.cls yX1_rootsWithin yX1_rootsWithin ∈ aTB := aTB_of (wip_7 _ (List.mem_of_getElem? (i := 11) rfl)) rfl
theorem ws_X9_take : Cond.selects yX9_take.cls yX9_take yX9_take ∈ aTB := aTB_of (wip_7 _ (List.mem_of_getElem? (i := 12) rfl)) rfl
theorem ws_X9_hasSight : Cond.selects yX9_hasSight.cls yX9_hasSight yX9_hasSight ∈ aTB := aTB_of (wip_7 _ (List.mem_of_getElem? (i := 13) rfl)) rfl
theorem ws_X9_hear : Cond.selects yX9_hear.cls yX9_hear yX9_hear ∈ aTB := aTB_of (wip_7 _ (List.mem_of_getElem? (i := 14) rfl)) rfl
theorem ws_X11_readyWatcher : Cond.selects yX11_readyWatcher.cls yX11_readyWatcher yX11_readyWatcher ∈ aTB := aTB_of (wip_7 _ (List.mem_of_getElem? (i := 15) rfl)) rfl
theorem ws_X9_cellsBy : Cond.selects yX9_cellsBy.cls yX9_cellsBy yX9_cellsBy ∈ aTB := aTB_of (wip_8 _ (List.mem_of_getElem? (i := 0) rfl)) rfl
theorem ws_X9_bring : Cond.selects yX9_bring.cls yX9_bring yX9_bring ∈ aTB := aTB_of (wip_8 _ (List.mem_of_getElem? (i := 1) rfl)) rfl
theorem ws_X9_startOf : Cond.selects yX9_startOf.cls yX9_startOf yX9_startOf ∈ aTB := aTB_of (wip_8 _ (List.mem_of_getElem? (i := 2) rfl)) rfl
theorem ws_X9_beginLane : Cond.selects yX9_beginLane.cls yX9_beginLane yX9_beginLane ∈ aTB := aTB_of (wip_8 _ (List.mem_of_getElem? (i := 3) rfl)) rfl
theorem ws_X9_agrees : Cond.selects yX9_agrees.cls yX9_agrees yX9_agrees ∈ aTB := aTB_of (wip_8 _ (List.mem_of_getElem? (i := 4) rfl)) rfl
theorem ws_X9_moveLane : Cond.selects yX9_moveLane.cls yX9_moveLane yX9_moveLane ∈ aTB := aTB_of (wip_8 _ (List.mem_of_getElem? (i := 5) rfl)) rfl
theorem ws_X2_failing : Cond.selects yX2_failing.cls yX2_failing yX2_failing ∈ aTB := aTB_of (wip_8 _ (List.mem_of_getElem? (i := 6) rfl)) rfl
theorem ws_X9_cellsIn : Cond.selects yX9_cellsIn.cls yX9_cellsIn yX9_cellsIn ∈ aTB := aTB_of (wip_8 _ (List.mem_of_getElem? (i := 7) rfl)) rfl
theorem ws_X9_mayBe : Cond.selects yX9_mayBe.cls yX9_mayBe yX9_mayBe ∈ aTB := aTB_of (wip_8 _ (List.mem_of_getElem? (i := 8) rfl)) rfl
theorem ws_X9_bound : Cond.selects yX9_bound.cls yX9_bound yX9_bound ∈ aTB := aTB_of (wip_8 _ (List.mem_of_getElem? (i := 9) rfl)) rfl
theorem ws_X9_onlyFault : Cond.selects yX9_onlyFault.cls yX9_onlyFault yX9_onlyFault ∈ aTB := aTB_of (wip_8 _ (List.mem_of_getElem? (i := 10) rfl)) rfl
theorem ws_X9_cellsAsKnown : Cond.selects yX9_cellsAsKnown.cls yX9_cellsAsKnown yX9_cellsAsKnown ∈ aTB := aTB_of (wip_8 _ (List.mem_of_getElem? (i := 11) rfl)) rfl
theorem ws_X9_fitting : Cond.selects yX9_fitting.cls yX9_fitting yX9_fitting ∈ aTB := aTB_of (wip_8 _ (List.mem_of_getElem? (i := 12) rfl)) rfl
theorem ws_X9_telling : Cond.selects yX9_telling.cls yX9_telling yX9_telling ∈ aTB := aTB_of (wip_8 _ (List.mem_of_getElem? (i := 13) rfl)) rfl
theorem ws_X9_differentLeads : Cond.selects yX9_differentLeads.cls yX9_differentLeads yX9_differentLeads ∈ aTB := aTB_of (wip_8 _ (List.mem_of_getElem? (i := 14) rfl)) rfl
theorem ws_X5_codePush : Cond.selects yX5_codePush.cls yX5_codePush yX5_codePush ∈ aTB := aTB_of (wip_8 _ (List.mem_of_getElem? (i := 15) rfl)) rfl
theorem ws_X5_straying : Cond.selects yX5_straying.cls yX5_straying yX5_straying ∈ aTB := aTB_of (wip_9 _ (List.mem_of_getElem? (i := 0) rfl)) rfl
theorem ws_X5_round : Cond.selects yX5_round.cls yX5_round yX5_round ∈ aTB := aTB_of (wip_9 _ (List.mem_of_getElem? (i := 1) rfl)) rfl
theorem ws_X5_setClaim : Cond.selects yX5_setClaim.cls yX5_setClaim yX5_setClaim ∈ aTB := aTB_of (wip_9 _ (List.mem_of_getElem? (i := 2) rfl)) rfl
theorem ws_X5_isClaimed : Cond.selects yX5_isClaimed.cls yX5_isClaimed yX5_isClaimed ∈ aTB := aTB_of (wip_9 _ (List.mem_of_getElem? (i := 3) rfl)) rfl
theorem ws_X5_firstBreak : Cond.selects yX5_firstBreak.cls yX5_firstBreak yX5_firstBreak ∈ aTB := aTB_of (wip_9 _ (List.mem_of_getElem? (i := 4) rfl)) rfl
theorem ws_X5_stands : Cond.selects yX5_stands.cls yX5_stands yX5_stands ∈ aTB := aTB_of (wip_9 _ (List.mem_of_getElem? (i := 5) rfl)) rfl
theorem ws_X5_leadsToLess : Cond.selects yX5_leadsToLess.cls yX5_leadsToLess yX5_leadsToLess ∈ aTB := aTB_of (wip_9 _ (List.mem_of_getElem? (i := 6) rfl)) rfl
theorem ws_X4_hardest : Cond.selects yX4_hardest.cls yX4_hardest yX4_hardest ∈ aTB := aTB_of (wip_9 _ (List.mem_of_getElem? (i := 8) rfl)) rfl
theorem ws_X4_hardestWorld : Cond.selects yX4_hardestWorld.cls yX4_hardestWorld yX4_hardestWorld ∈ aTB := aTB_of (wip_9 _ (List.mem_of_getElem? (i := 9) rfl)) rfl
theorem ws_X14_refused : Cond.selects yX14_refused.cls yX14_refused yX14_refused ∈ aTB := aTB_of (wip_9 _ (List.mem_of_getElem? (i := 10) rfl)) rfl
theorem ws_X14_begins : Cond.selects yX14_begins.cls yX14_begins yX14_begins ∈ aTB := aTB_of (wip_9 _ (List.mem_of_getElem? (i := 11) rfl)) rfl
theorem ws_X14_next : Cond.selects yX14_next.cls yX14_next yX14_next ∈ aTB := aTB_of (wip_9 _ (List.mem_of_getElem? (i := 12) rfl)) rfl
theorem ws_X14_byteAt : Cond.selects yX14_byteAt.cls yX14_byteAt yX14_byteAt ∈ aTB := aTB_of (wip_9 _ (List.mem_of_getElem? (i := 13) rfl)) rfl
theorem ws_X14_readThing : Cond.selects yX14_readThing.cls yX14_readThing yX14_readThing ∈ aTB := aTB_of (wip_9 _ (List.mem_of_getElem? (i := 14) rfl)) rfl
theorem ws_X14_readLine : Cond.selects yX14_readLine.cls yX14_readLine yX14_readLine ∈ aTB := aTB_of (wip_9 _ (List.mem_of_getElem? (i := 15) rfl)) rfl
theorem ws_X14_stop : Cond.selects yX14_stop.cls yX14_stop yX14_stop ∈ aTB := aTB_of (wip_10 _ (List.mem_of_getElem? (i := 0) rfl)) rfl
theorem ws_X14_stopAt : Cond.selects yX14_stopAt.cls yX14_stopAt yX14_stopAt ∈ aTB := aTB_of (wip_10 _ (List.mem_of_getElem? (i := 1) rfl)) rfl
theorem ws_X14_kindHere : Cond.selects yX14_kindHere.cls yX14_kindHere yX14_kindHere ∈ aTB := aTB_of (wip_10 _ (List.mem_of_getElem? (i := 2) rfl)) rfl
theorem ws_X14_isWord : Cond.selects yX14_isWord.cls yX14_isWord yX14_isWord ∈ aTB := aTB_of (wip_10 _ (List.mem_of_getElem? (i := 3) rfl)) rfl
theorem ws_X14_readStep : Cond.selects yX14_readStep.cls yX14_readStep yX14_readStep ∈ aTB := aTB_of (wip_10 _ (List.mem_of_getElem? (i := 4) rfl)) rfl
theorem ws_X14_slotHere : Cond.selects yX14_slotHere.cls yX14_slotHere yX14_slotHere ∈ aTB := aTB_of (wip_10 _ (List.mem_of_getElem? (i := 5) rfl)) rfl
theorem ws_X14_need : Cond.selects yX14_need.cls yX14_need yX14_need ∈ aTB := aTB_of (wip_10 _ (List.mem_of_getElem? (i := 6) rfl)) rfl
theorem ws_X14_is : Cond.selects yX14_is.cls yX14_is yX14_is ∈ aTB := aTB_of (wip_10 _ (List.mem_of_getElem? (i := 7) rfl)) rfl
theorem ws_X14_readSum : Cond.selects yX14_readSum.cls yX14_readSum yX14_readSum ∈ aTB := aTB_of (wip_10 _ (List.mem_of_getElem? (i := 8) rfl)) rfl
theorem ws_X14_readTerm : Cond.selects yX14_readTerm.cls yX14_readTerm yX14_readTerm ∈ aTB := aTB_of (wip_10 _ (List.mem_of_getElem? (i := 9) rfl)) rfl
theorem ws_X14_readFactor : Cond.selects yX14_readFactor.cls yX14_readFactor yX14_readFactor ∈ aTB := aTB_of (wip_10 _ (List.mem_of_getElem? (i := 10) rfl)) rfl
theorem ws_X14_isKept : Cond.selects yX14_isKept.cls yX14_isKept yX14_isKept ∈ aTB := aTB_of (wip_10 _ (List.mem_of_getElem? (i := 11) rfl)) rfl
theorem ws_X14_readTest : Cond.selects yX14_readTest.cls yX14_readTest yX14_readTest ∈ aTB := aTB_of (wip_10 _ (List.mem_of_getElem? (i := 12) rfl)) rfl
theorem ws_X14_readOne : Cond.selects yX14_readOne.cls yX14_readOne yX14_readOne ∈ aTB := aTB_of (wip_10 _ (List.mem_of_getElem? (i := 13) rfl)) rfl
theorem ws_X14_readSpan : Cond.selects yX14_readSpan.cls yX14_readSpan yX14_readSpan ∈ aTB := aTB_of (wip_10 _ (List.mem_of_getElem? (i := 14) rfl)) rfl
theorem ws_X14_readInt : Cond.selects yX14_readInt.cls yX14_readInt yX14_readInt ∈ aTB := aTB_of (wip_10 _ (List.mem_of_getElem? (i := 15) rfl)) rfl
theorem ws_X14_faulty : Cond.selects yX14_faulty.cls yX14_faulty yX14_faulty ∈ aTB := aTB_of (wip_11 _ (List.mem_of_getElem? (i := 0) rfl)) rfl
theorem ws_X14_forgets : Cond.selects yX14_forgets.cls yX14_forgets yX14_forgets ∈ aTB := aTB_of (wip_11 _ (List.mem_of_getElem? (i := 1) rfl)) rfl
theorem ws_X14_leads : Cond.selects yX14_leads.cls yX14_leads yX14_leads ∈ aTB := aTB_of (wip_11 _ (List.mem_of_getElem? (i := 2) rfl)) rfl
theorem ws_X14_lays : Cond.selects yX14_lays.cls yX14_lays yX14_lays ∈ aTB := aTB_of (wip_11 _ (List.mem_of_getElem? (i := 3) rfl)) rfl
theorem ws_X14_spreads : Cond.selects yX14_spreads.cls yX14_spreads yX14_spreads ∈ aTB := aTB_of (wip_11 _ (List.mem_of_getElem? (i := 4) rfl)) rfl
theorem ws_X14_pushed : Cond.selects yX14_pushed.cls yX14_pushed yX14_pushed ∈ aTB := aTB_of (wip_11 _ (List.mem_of_getElem? (i := 5) rfl)) rfl
theorem ws_X14_worlded : Cond.selects yX14_worlded.cls yX14_worlded yX14_worlded ∈ aTB := aTB_of (wip_11 _ (List.mem_of_getElem? (i := 6) rfl)) rfl
theorem ws_X14_nextHere : Cond.selects yX14_nextHere.cls yX14_nextHere yX14_nextHere ∈ aTB := aTB_of (wip_11 _ (List.mem_of_getElem? (i := 7) rfl)) rfl
theorem ws_X14_valueOf : Cond.selects yX14_valueOf.cls yX14_valueOf yX14_valueOf ∈ aTB := aTB_of (wip_11 _ (List.mem_of_getElem? (i := 8) rfl)) rfl
theorem ws_X14_done : Cond.selects yX14_done.cls yX14_done yX14_done ∈ aTB := aTB_of (wip_11 _ (List.mem_of_getElem? (i := 9) rfl)) rfl
theorem ws_X14_reads : Cond.selects yX14_reads.cls yX14_reads yX14_reads ∈ aTB := aTB_of (wip_11 _ (List.mem_of_getElem? (i := 10) rfl)) rfl
theorem ws_X14_marks : Cond.selects yX14_marks.cls yX14_marks yX14_marks ∈ aTB := aTB_of (wip_11 _ (List.mem_of_getElem? (i := 11) rfl)) rfl
theorem ws_X14_isLinear : Cond.selects yX14_isLinear.cls yX14_isLinear yX14_isLinear ∈ aTB := aTB_of (wip_11 _ (List.mem_of_getElem? (i := 12) rfl)) rfl
theorem ws_X14_factorsOf : Cond.selects yX14_factorsOf.cls yX14_factorsOf yX14_factorsOf ∈ aTB := aTB_of (wip_11 _ (List.mem_of_getElem? (i := 13) rfl)) rfl
theorem ws_X14_counts : Cond.selects yX14_counts.cls yX14_counts yX14_counts ∈ aTB := aTB_of (wip_11 _ (List.mem_of_getElem? (i := 14) rfl)) rfl
theorem ws_X14_isCell : Cond.selects yX14_isCell.cls yX14_isCell yX14_isCell ∈ aTB := aTB_of (wip_11 _ (List.mem_of_getElem? (i := 15) rfl)) rfl
theorem ws_X14_isPush : Cond.selects yX14_isPush.cls yX14_isPush yX14_isPush ∈ aTB := aTB_of (wip_12 _ (List.mem_of_getElem? (i := 0) rfl)) rfl
theorem ws_X14_isWorld : Cond.selects yX14_isWorld.cls yX14_isWorld yX14_isWorld ∈ aTB := aTB_of (wip_12 _ (List.mem_of_getElem? (i := 1) rfl)) rfl
theorem ws_X14_to : Cond.selects yX14_to.cls yX14_to yX14_to ∈ aTB := aTB_of (wip_12 _ (List.mem_of_getElem? (i := 2) rfl)) rfl
theorem ws_X14_isSight : Cond.selects yX14_isSight.cls yX14_isSight yX14_isSight ∈ aTB := aTB_of (wip_12 _ (List.mem_of_getElem? (i := 3) rfl)) rfl
theorem ws_X14_sightHere : Cond.selects yX14_sightHere.cls yX14_sightHere yX14_sightHere ∈ aTB := aTB_of (wip_12 _ (List.mem_of_getElem? (i := 4) rfl)) rfl
theorem ws_X14_finds : Cond.selects yX14_finds.cls yX14_finds yX14_finds ∈ aTB := aTB_of (wip_12 _ (List.mem_of_getElem? (i := 5) rfl)) rfl
theorem ws_X14_keeps : Cond.selects yX14_keeps.cls yX14_keeps yX14_keeps ∈ aTB := aTB_of (wip_12 _ (List.mem_of_getElem? (i := 6) rfl)) rfl
theorem ws_X14_spreadsOut : Cond.selects yX14_spreadsOut.cls yX14_spreadsOut yX14_spreadsOut ∈ aTB := aTB_of (wip_12 _ (List.mem_of_getElem? (i := 7) rfl)) rfl
theorem ws_X14_canGo : Cond.selects yX14_canGo.cls yX14_canGo yX14_canGo ∈ aTB := aTB_of (wip_12 _ (List.mem_of_getElem? (i := 8) rfl)) rfl
theorem ws_X14_leadsInto : Cond.selects yX14_leadsInto.cls yX14_leadsInto yX14_leadsInto ∈ aTB := aTB_of (wip_12 _ (List.mem_of_getElem? (i := 9) rfl)) rfl
theorem ws_X14_reaches : Cond.selects yX14_reaches.cls yX14_reaches yX14_reaches ∈ aTB := aTB_of (wip_12 _ (List.mem_of_getElem? (i := 10) rfl)) rfl
theorem ws_X14_pays : Cond.selects yX14_pays.cls yX14_pays yX14_pays ∈ aTB := aTB_of (wip_12 _ (List.mem_of_getElem? (i := 11) rfl)) rfl
theorem ws_X14_paidBy : Cond.selects yX14_paidBy.cls yX14_paidBy yX14_paidBy ∈ aTB := aTB_of (wip_12 _ (List.mem_of_getElem? (i := 12) rfl)) rfl
theorem ws_X14_ahead : Cond.selects yX14_ahead.cls yX14_ahead yX14_ahead ∈ aTB := aTB_of (wip_12 _ (List.mem_of_getElem? (i := 13) rfl)) rfl
theorem ws_X14_costOf : Cond.selects yX14_costOf.cls yX14_costOf yX14_costOf ∈ aTB := aTB_of (wip_12 _ (List.mem_of_getElem? (i := 14) rfl)) rfl
theorem ws_X14_isSafe : Cond.selects yX14_isSafe.cls yX14_isSafe yX14_isSafe ∈ aTB := aTB_of (wip_12 _ (List.mem_of_getElem? (i := 15) rfl)) rfl
theorem ws_X14_allowedOf : Cond.selects yX14_allowedOf.cls yX14_allowedOf yX14_allowedOf ∈ aTB := aTB_of (wip_13 _ (List.mem_of_getElem? (i := 0) rfl)) rfl
theorem ws_X14_columns : Cond.selects yX14_columns.cls yX14_columns yX14_columns ∈ aTB := aTB_of (wip_13 _ (List.mem_of_getElem? (i := 1) rfl)) rfl
theorem ws_X14_carries : Cond.selects yX14_carries.cls yX14_carries yX14_carries ∈ aTB := aTB_of (wip_13 _ (List.mem_of_getElem? (i := 2) rfl)) rfl
theorem ws_X14_rankOf : Cond.selects yX14_rankOf.cls yX14_rankOf yX14_rankOf ∈ aTB := aTB_of (wip_13 _ (List.mem_of_getElem? (i := 3) rfl)) rfl
theorem ws_X14_areApart : Cond.selects yX14_areApart.cls yX14_areApart yX14_areApart ∈ aTB := aTB_of (wip_13 _ (List.mem_of_getElem? (i := 4) rfl)) rfl
theorem ws_X14_three : Cond.selects yX14_three.cls yX14_three yX14_three ∈ aTB := aTB_of (wip_13 _ (List.mem_of_getElem? (i := 5) rfl)) rfl
theorem ws_X14_lost : Cond.selects yX14_lost.cls yX14_lost yX14_lost ∈ aTB := aTB_of (wip_13 _ (List.mem_of_getElem? (i := 6) rfl)) rfl
theorem ws_X14_formOf : Cond.selects yX14_formOf.cls yX14_formOf yX14_formOf ∈ aTB := aTB_of (wip_13 _ (List.mem_of_getElem? (i := 7) rfl)) rfl
theorem ws_X14_raises : Cond.selects yX14_raises.cls yX14_raises yX14_raises ∈ aTB := aTB_of (wip_13 _ (List.mem_of_getElem? (i := 8) rfl)) rfl
theorem ws_X14_last : Cond.selects yX14_last.cls yX14_last yX14_last ∈ aTB := aTB_of (wip_13 _ (List.mem_of_getElem? (i := 9) rfl)) rfl
theorem ws_X14_reduces : Cond.selects yX14_reduces.cls yX14_reduces yX14_reduces ∈ aTB := aTB_of (wip_13 _ (List.mem_of_getElem? (i := 10) rfl)) rfl
theorem ws_X14_denied : Cond.selects yX14_denied.cls yX14_denied yX14_denied ∈ aTB := aTB_of (wip_13 _ (List.mem_of_getElem? (i := 11) rfl)) rfl
theorem ws_X14_granted : Cond.selects yX14_granted.cls yX14_granted yX14_granted ∈ aTB := aTB_of (wip_13 _ (List.mem_of_getElem? (i := 12) rfl)) rfl
theorem ws_X14_faults : Cond.selects yX14_faults.cls yX14_faults yX14_faults ∈ aTB := aTB_of (wip_13 _ (List.mem_of_getElem? (i := 13) rfl)) rfl
theorem ws_X14_gathers : Cond.selects yX14_gathers.cls yX14_gathers yX14_gathers ∈ aTB := aTB_of (wip_13 _ (List.mem_of_getElem? (i := 14) rfl)) rfl
theorem ws_X14_goes : Cond.selects yX14_goes.cls yX14_goes yX14_goes ∈ aTB := aTB_of (wip_13 _ (List.mem_of_getElem? (i := 15) rfl)) rfl
theorem ws_X14_fitsHere : Cond.selects yX14_fitsHere.cls yX14_fitsHere yX14_fitsHere ∈ aTB := aTB_of (wip_14 _ (List.mem_of_getElem? (i := 0) rfl)) rfl
theorem ws_X14_handed : Cond.selects yX14_handed.cls yX14_handed yX14_handed ∈ aTB := aTB_of (wip_14 _ (List.mem_of_getElem? (i := 1) rfl)) rfl
theorem ws_X14_nextsOf : Cond.selects yX14_nextsOf.cls yX14_nextsOf yX14_nextsOf ∈ aTB := aTB_of (wip_14 _ (List.mem_of_getElem? (i := 2) rfl)) rfl
theorem ws_X14_isOne : Cond.selects yX14_isOne.cls yX14_isOne yX14_isOne ∈ aTB := aTB_of (wip_14 _ (List.mem_of_getElem? (i := 3) rfl)) rfl
theorem ws_X14_codedOf : Cond.selects yX14_codedOf.cls yX14_codedOf yX14_codedOf ∈ aTB := aTB_of (wip_14 _ (List.mem_of_getElem? (i := 4) rfl)) rfl
theorem ws_X14_firstBreak : Cond.selects yX14_firstBreak.cls yX14_firstBreak yX14_firstBreak ∈ aTB := aTB_of (wip_14 _ (List.mem_of_getElem? (i := 5) rfl)) rfl
theorem ws_X14_holds : Cond.selects yX14_holds.cls yX14_holds yX14_holds ∈ aTB := aTB_of (wip_14 _ (List.mem_of_getElem? (i := 6) rfl)) rfl
theorem wu_0_0 : u_lay RX0 TX0 0 ∈ aTB := aTB_of (wi_1 _ (List.mem_of_getElem? (i := 65) rfl)) rfl
theorem wu_0_1 : u_lay RX0 TX0 1 ∈ aTB := aTB_of (wi_1 _ (List.mem_of_getElem? (i := 67) rfl)) rfl
theorem wu_0_2 : u_lay RX0 TX0 2 ∈ aTB := aTB_of (wi_1 _ (List.mem_of_getElem? (i := 69) rfl)) rfl
theorem wu_0_3 : u_lay RX0 TX0 3 ∈ aTB := aTB_of (wi_1 _ (List.mem_of_getElem? (i := 71) rfl)) rfl
theorem wu_0_4 : u_lay RX0 TX0 4 ∈ aTB := aTB_of (wi_1 _ (List.mem_of_getElem? (i := 73) rfl)) rfl
theorem wu_0_5 : u_lay RX0 TX0 5 ∈ aTB := aTB_of (wi_1 _ (List.mem_of_getElem? (i := 75) rfl)) rfl
theorem wu_0_6 : u_lay RX0 TX0 6 ∈ aTB := aTB_of (wi_1 _ (List.mem_of_getElem? (i := 77) rfl)) rfl
theorem wu_0_7 : u_lay RX0 TX0 7 ∈ aTB := aTB_of (wi_1 _ (List.mem_of_getElem? (i := 79) rfl)) rfl
theorem wu_0_8 : u_lay RX0 TX0 8 ∈ aTB := aTB_of (wi_1 _ (List.mem_of_getElem? (i := 81) rfl)) rfl
theorem wu_0 : ∀ w ∈ u_ws RX0 TX0 9, w ∈ aTB := (List.forall_mem_cons.mpr ⟨wu_0_0, (List.forall_mem_cons.mpr ⟨wu_0_1, (List.forall_mem_cons.mpr ⟨wu_0_2, (List.forall_mem_cons.mpr ⟨wu_0_3, (List.forall_mem_cons.mpr ⟨wu_0_4, (List.forall_mem_cons.mpr ⟨wu_0_5, (List.forall_mem_cons.mpr ⟨wu_0_6, (List.forall_mem_cons.mpr ⟨wu_0_7, (List.forall_mem_cons.mpr ⟨wu_0_8, (fun _ h => nomatch h)⟩)⟩)⟩)⟩)⟩)⟩)⟩)⟩)⟩)
theorem wu_1_0 : u_lay RX1 TX1 0 ∈ aTB := aTB_of (wi_2 _ (List.mem_of_getElem? (i := 182) rfl)) rfl
theorem wu_1_1 : u_lay RX1 TX1 1 ∈ aTB := aTB_of (wi_2 _ (List.mem_of_getElem? (i := 184) rfl)) rfl
theorem wu_1_2 : u_lay RX1 TX1 2 ∈ aTB := aTB_of (wi_2 _ (List.mem_of_getElem? (i := 186) rfl)) rfl
theorem wu_1_3 : u_lay RX1 TX1 3 ∈ aTB := aTB_of (wi_2 _ (List.mem_of_getElem? (i := 188) rfl)) rfl
theorem wu_1_4 : u_lay RX1 TX1 4 ∈ aTB := aTB_of (wi_2 _ (List.mem_of_getElem? (i := 190) rfl)) rfl
theorem wu_1_5 : u_lay RX1 TX1 5 ∈ aTB := aTB_of (wi_2 _ (List.mem_of_getElem? (i := 192) rfl)) rfl
theorem wu_1_6 : u_lay RX1 TX1 6 ∈ aTB := aTB_of (wi_2 _ (List.mem_of_getElem? (i := 194) rfl)) rfl
theorem wu_1_7 : u_lay RX1 TX1 7 ∈ aTB := aTB_of (wi_2 _ (List.mem_of_getElem? (i := 196) rfl)) rfl
theorem wu_1_8 : u_lay RX1 TX1 8 ∈ aTB := aTB_of (wi_2 _ (List.mem_of_getElem? (i := 198) rfl)) rfl
theorem wu_1_9 : u_lay RX1 TX1 9 ∈ aTB := aTB_of (wi_2 _ (List.mem_of_getElem? (i := 200) rfl)) rfl
theorem wu_1_10 : u_lay RX1 TX1 10 ∈ aTB := aTB_of (wi_2 _ (List.mem_of_getElem? (i := 202) rfl)) rfl
theorem wu_1_11 : u_lay RX1 TX1 11 ∈ aTB := aTB_of (wi_2 _ (List.mem_of_getElem? (i := 204) rfl)) rfl
theorem wu_1_12 : u_lay RX1 TX1 12 ∈ aTB := aTB_of (wi_2 _ (List.mem_of_getElem? (i := 206) rfl)) rfl
theorem wu_1_13 : u_lay RX1 TX1 13 ∈ aTB := aTB_of (wi_2 _ (List.mem_of_getElem? (i := 208) rfl)) rfl
theorem wu_1 : ∀ w ∈ u_ws RX1 TX1 14, w ∈ aTB := (List.forall_mem_cons.mpr ⟨wu_1_0, (List.forall_mem_cons.mpr ⟨wu_1_1, (List.forall_mem_cons.mpr ⟨wu_1_2, (List.forall_mem_cons.mpr ⟨wu_1_3, (List.forall_mem_cons.mpr ⟨wu_1_4, (List.forall_mem_cons.mpr ⟨wu_1_5, (List.forall_mem_cons.mpr ⟨wu_1_6, (List.forall_mem_cons.mpr ⟨wu_1_7, (List.forall_mem_cons.mpr ⟨wu_1_8, (List.forall_mem_cons.mpr ⟨wu_1_9, (List.forall_mem_cons.mpr ⟨wu_1_10, (List.forall_mem_cons.mpr ⟨wu_1_11, (List.forall_mem_cons.mpr ⟨wu_1_12, (List.forall_mem_cons.mpr ⟨wu_1_13, (fun _ h => nomatch h)⟩)⟩)⟩)⟩)⟩)⟩)⟩)⟩)⟩)⟩)⟩)⟩)⟩)⟩)
theorem wu_2_0 : u_lay RX2 TX2 0 ∈ aTB := aTB_of (wi_1 _ (List.mem_of_getElem? (i := 148) rfl)) rfl
theorem wu_2_1 : u_lay RX2 TX2 1 ∈ aTB := aTB_of (wi_1 _ (List.mem_of_getElem? (i := 150) rfl)) rfl
theorem wu_2_2 : u_lay RX2 TX2 2 ∈ aTB := aTB_of (wi_1 _ (List.mem_of_getElem? (i := 152) rfl)) rfl
theorem wu_2_3 : u_lay RX2 TX2 3 ∈ aTB := aTB_of (wi_1 _ (List.mem_of_getElem? (i := 154) rfl)) rfl
theorem wu_2_4 : u_lay RX2 TX2 4 ∈ aTB := aTB_of (wi_1 _ (List.mem_of_getElem? (i := 156) rfl)) rfl
theorem wu_2_5 : u_lay RX2 TX2 5 ∈ aTB := aTB_of (wi_1 _ (List.mem_of_getElem? (i := 158) rfl)) rfl
theorem wu_2_6 : u_lay RX2 TX2 6 ∈ aTB := aTB_of (wi_1 _ (List.mem_of_getElem? (i := 160) rfl)) rfl
theorem wu_2_7 : u_lay RX2 TX2 7 ∈ aTB := aTB_of (wi_1 _ (List.mem_of_getElem? (i := 162) rfl)) rfl
theorem wu_2_8 : u_lay RX2 TX2 8 ∈ aTB := aTB_of (wi_1 _ (List.mem_of_getElem? (i := 164) rfl)) rfl
theorem wu_2_9 : u_lay RX2 TX2 9 ∈ aTB := aTB_of (wi_1 _ (List.mem_of_getElem? (i := 166) rfl)) rfl
theorem wu_2_10 : u_lay RX2 TX2 10 ∈ aTB := aTB_of (wi_1 _ (List.mem_of_getElem? (i := 168) rfl)) rfl
theorem wu_2_11 : u_lay RX2 TX2 11 ∈ aTB := aTB_of (wi_1 _ (List.mem_of_getElem? (i := 170) rfl)) rfl
theorem wu_2_12 : u_lay RX2 TX2 12 ∈ aTB := aTB_of (wi_1 _ (List.mem_of_getElem? (i := 172) rfl)) rfl
theorem wu_2_13 : u_lay RX2 TX2 13 ∈ aTB := aTB_of (wi_1 _ (List.mem_of_getElem? (i := 174) rfl)) rfl
theorem wu_2_14 : u_lay RX2 TX2 14 ∈ aTB := aTB_of (wi_1 _ (List.mem_of_getElem? (i := 176) rfl)) rfl
theorem wu_2_15 : u_lay RX2 TX2 15 ∈ aTB := aTB_of (wi_1 _ (List.mem_of_getElem? (i := 178) rfl)) rfl
theorem wu_2_16 : u_lay RX2 TX2 16 ∈ aTB := aTB_of (wi_1 _ (List.mem_of_getElem? (i := 180) rfl)) rfl
theorem wu_2 : ∀ w ∈ u_ws RX2 TX2 17, w ∈ aTB := (List.forall_mem_cons.mpr ⟨wu_2_0, (List.forall_mem_cons.mpr ⟨wu_2_1, (List.forall_mem_cons.mpr ⟨wu_2_2, (List.forall_mem_cons.mpr ⟨wu_2_3, (List.forall_mem_cons.mpr ⟨wu_2_4, (List.forall_mem_cons.mpr ⟨wu_2_5, (List.forall_mem_cons.mpr ⟨wu_2_6, (List.forall_mem_cons.mpr ⟨wu_2_7, (List.forall_mem_cons.mpr ⟨wu_2_8, (List.forall_mem_cons.mpr ⟨wu_2_9, (List.forall_mem_cons.mpr ⟨wu_2_10, (List.forall_mem_cons.mpr ⟨wu_2_11, (List.forall_mem_cons.mpr ⟨wu_2_12, (List.forall_mem_cons.mpr ⟨wu_2_13, (List.forall_mem_cons.mpr ⟨wu_2_14, (List.forall_mem_cons.mpr ⟨wu_2_15, (List.forall_mem_cons.mpr ⟨wu_2_16, (fun _ h => nomatch h)⟩)⟩)⟩)⟩)⟩)⟩)⟩)⟩)⟩)⟩)⟩)⟩)⟩)⟩)⟩)⟩)⟩)
theorem wu_3_0 : u_lay RX3 TX3 0 ∈ aTB := aTB_of (wi_2 _ (List.mem_of_getElem? (i := 17) rfl)) rfl
theorem wu_3_1 : u_lay RX3 TX3 1 ∈ aTB := aTB_of (wi_2 _ (List.mem_of_getElem? (i := 19) rfl)) rfl
theorem wu_3_2 : u_lay RX3 TX3 2 ∈ aTB := aTB_of (wi_2 _ (List.mem_of_getElem? (i := 21) rfl)) rfl
theorem wu_3_3 : u_lay RX3 TX3 3 ∈ aTB := aTB_of (wi_2 _ (List.mem_of_getElem? (i := 23) rfl)) rfl
theorem wu_3_4 : u_lay RX3 TX3 4 ∈ aTB := aTB_of (wi_2 _ (List.mem_of_getElem? (i := 25) rfl)) rfl
theorem wu_3_5 : u_lay RX3 TX3 5 ∈ aTB := aTB_of (wi_2 _ (List.mem_of_getElem? (i := 27) rfl)) rfl
theorem wu_3 : ∀ w ∈ u_ws RX3 TX3 6, w ∈ aTB := (List.forall_mem_cons.mpr ⟨wu_3_0, (List.forall_mem_cons.mpr ⟨wu_3_1, (List.forall_mem_cons.mpr ⟨wu_3_2, (List.forall_mem_cons.mpr ⟨wu_3_3, (List.forall_mem_cons.mpr ⟨wu_3_4, (List.forall_mem_cons.mpr ⟨wu_3_5, (fun _ h => nomatch h)⟩)⟩)⟩)⟩)⟩)⟩)
theorem wu_4_0 : u_lay RX4 TX4 0 ∈ aTB := aTB_of (wi_2 _ (List.mem_of_getElem? (i := 145) rfl)) rfl
theorem wu_4_1 : u_lay RX4 TX4 1 ∈ aTB := aTB_of (wi_2 _ (List.mem_of_getElem? (i := 147) rfl)) rfl
theorem wu_4_2 : u_lay RX4 TX4 2 ∈ aTB := aTB_of (wi_2 _ (List.mem_of_getElem? (i := 149) rfl)) rfl
theorem wu_4_3 : u_lay RX4 TX4 3 ∈ aTB := aTB_of (wi_2 _ (List.mem_of_getElem? (i := 151) rfl)) rfl
theorem wu_4_4 : u_lay RX4 TX4 4 ∈ aTB := aTB_of (wi_2 _ (List.mem_of_getElem? (i := 153) rfl)) rfl
theorem wu_4_5 : u_lay RX4 TX4 5 ∈ aTB := aTB_of (wi_2 _ (List.mem_of_getElem? (i := 155) rfl)) rfl
theorem wu_4 : ∀ w ∈ u_ws RX4 TX4 6, w ∈ aTB := (List.forall_mem_cons.mpr ⟨wu_4_0, (List.forall_mem_cons.mpr ⟨wu_4_1, (List.forall_mem_cons.mpr ⟨wu_4_2, (List.forall_mem_cons.mpr ⟨wu_4_3, (List.forall_mem_cons.mpr ⟨wu_4_4, (List.forall_mem_cons.mpr ⟨wu_4_5, (fun _ h => nomatch h)⟩)⟩)⟩)⟩)⟩)⟩)
theorem wu_5_0 : u_lay RX5 TX5 0 ∈ aTB := aTB_of (wi_3 _ (List.mem_of_getElem? (i := 30) rfl)) rfl
theorem wu_5_1 : u_lay RX5 TX5 1 ∈ aTB := aTB_of (wi_3 _ (List.mem_of_getElem? (i := 32) rfl)) rfl
theorem wu_5_2 : u_lay RX5 TX5 2 ∈ aTB := aTB_of (wi_3 _ (List.mem_of_getElem? (i := 34) rfl)) rfl
theorem wu_5_3 : u_lay RX5 TX5 3 ∈ aTB := aTB_of (wi_3 _ (List.mem_of_getElem? (i := 36) rfl)) rfl
theorem wu_5_4 : u_lay RX5 TX5 4 ∈ aTB := aTB_of (wi_3 _ (List.mem_of_getElem? (i := 38) rfl)) rfl
theorem wu_5_5 : u_lay RX5 TX5 5 ∈ aTB := aTB_of (wi_3 _ (List.mem_of_getElem? (i := 40) rfl)) rfl
theorem wu_5_6 : u_lay RX5 TX5 6 ∈ aTB := aTB_of (wi_3 _ (List.mem_of_getElem? (i := 42) rfl)) rfl
theorem wu_5_7 : u_lay RX5 TX5 7 ∈ aTB := aTB_of (wi_3 _ (List.mem_of_getElem? (i := 44) rfl)) rfl
theorem wu_5_8 : u_lay RX5 TX5 8 ∈ aTB := aTB_of (wi_3 _ (List.mem_of_getElem? (i := 46) rfl)) rfl
theorem wu_5_9 : u_lay RX5 TX5 9 ∈ aTB := aTB_of (wi_3 _ (List.mem_of_getElem? (i := 48) rfl)) rfl
theorem wu_5_10 : u_lay RX5 TX5 10 ∈ aTB := aTB_of (wi_3 _ (List.mem_of_getElem? (i := 50) rfl)) rfl
theorem wu_5 : ∀ w ∈ u_ws RX5 TX5 11, w ∈ aTB := (List.forall_mem_cons.mpr ⟨wu_5_0, (List.forall_mem_cons.mpr ⟨wu_5_1, (List.forall_mem_cons.mpr ⟨wu_5_2, (List.forall_mem_cons.mpr ⟨wu_5_3, (List.forall_mem_cons.mpr ⟨wu_5_4, (List.forall_mem_cons.mpr ⟨wu_5_5, (List.forall_mem_cons.mpr ⟨wu_5_6, (List.forall_mem_cons.mpr ⟨wu_5_7, (List.forall_mem_cons.mpr ⟨wu_5_8, (List.forall_mem_cons.mpr ⟨wu_5_9, (List.forall_mem_cons.mpr ⟨wu_5_10, (fun _ h => nomatch h)⟩)⟩)⟩)⟩)⟩)⟩)⟩)⟩)⟩)⟩)⟩)
theorem wu_6_0 : u_lay RX6 TX6 0 ∈ aTB := aTB_of (wi_1 _ (List.mem_of_getElem? (i := 224) rfl)) rfl
theorem wu_6_1 : u_lay RX6 TX6 1 ∈ aTB := aTB_of (wi_1 _ (List.mem_of_getElem? (i := 226) rfl)) rfl
theorem wu_6_2 : u_lay RX6 TX6 2 ∈ aTB := aTB_of (wi_1 _ (List.mem_of_getElem? (i := 228) rfl)) rfl
theorem wu_6_3 : u_lay RX6 TX6 3 ∈ aTB := aTB_of (wi_1 _ (List.mem_of_getElem? (i := 230) rfl)) rfl
theorem wu_6_4 : u_lay RX6 TX6 4 ∈ aTB := aTB_of (wi_1 _ (List.mem_of_getElem? (i := 232) rfl)) rfl
theorem wu_6_5 : u_lay RX6 TX6 5 ∈ aTB := aTB_of (wi_1 _ (List.mem_of_getElem? (i := 234) rfl)) rfl
theorem wu_6_6 : u_lay RX6 TX6 6 ∈ aTB := aTB_of (wi_1 _ (List.mem_of_getElem? (i := 236) rfl)) rfl
theorem wu_6_7 : u_lay RX6 TX6 7 ∈ aTB := aTB_of (wi_1 _ (List.mem_of_getElem? (i := 238) rfl)) rfl
theorem wu_6 : ∀ w ∈ u_ws RX6 TX6 8, w ∈ aTB := (List.forall_mem_cons.mpr ⟨wu_6_0, (List.forall_mem_cons.mpr ⟨wu_6_1, (List.forall_mem_cons.mpr ⟨wu_6_2, (List.forall_mem_cons.mpr ⟨wu_6_3, (List.forall_mem_cons.mpr ⟨wu_6_4, (List.forall_mem_cons.mpr ⟨wu_6_5, (List.forall_mem_cons.mpr ⟨wu_6_6, (List.forall_mem_cons.mpr ⟨wu_6_7, (fun _ h => nomatch h)⟩)⟩)⟩)⟩)⟩)⟩)⟩)⟩)
theorem wu_7_0 : u_lay RX7 TX7 0 ∈ aTB := aTB_of (wi_2 _ (List.mem_of_getElem? (i := 104) rfl)) rfl
theorem wu_7_1 : u_lay RX7 TX7 1 ∈ aTB := aTB_of (wi_2 _ (List.mem_of_getElem? (i := 106) rfl)) rfl
theorem wu_7_2 : u_lay RX7 TX7 2 ∈ aTB := aTB_of (wi_2 _ (List.mem_of_getElem? (i := 108) rfl)) rfl
theorem wu_7_3 : u_lay RX7 TX7 3 ∈ aTB := aTB_of (wi_2 _ (List.mem_of_getElem? (i := 110) rfl)) rfl
theorem wu_7_4 : u_lay RX7 TX7 4 ∈ aTB := aTB_of (wi_2 _ (List.mem_of_getElem? (i := 112) rfl)) rfl
theorem wu_7_5 : u_lay RX7 TX7 5 ∈ aTB := aTB_of (wi_2 _ (List.mem_of_getElem? (i := 114) rfl)) rfl
theorem wu_7_6 : u_lay RX7 TX7 6 ∈ aTB := aTB_of (wi_2 _ (List.mem_of_getElem? (i := 116) rfl)) rfl
theorem wu_7_7 : u_lay RX7 TX7 7 ∈ aTB := aTB_of (wi_2 _ (List.mem_of_getElem? (i := 118) rfl)) rfl
theorem wu_7_8 : u_lay RX7 TX7 8 ∈ aTB := aTB_of (wi_2 _ (List.mem_of_getElem? (i := 120) rfl)) rfl
theorem wu_7_9 : u_lay RX7 TX7 9 ∈ aTB := aTB_of (wi_2 _ (List.mem_of_getElem? (i := 122) rfl)) rfl
theorem wu_7_10 : u_lay RX7 TX7 10 ∈ aTB := aTB_of (wi_2 _ (List.mem_of_getElem? (i := 124) rfl)) rfl
theorem wu_7_11 : u_lay RX7 TX7 11 ∈ aTB := aTB_of (wi_2 _ (List.mem_of_getElem? (i := 126) rfl)) rfl
theorem wu_7_12 : u_lay RX7 TX7 12 ∈ aTB := aTB_of (wi_2 _ (List.mem_of_getElem? (i := 128) rfl)) rfl
theorem wu_7_13 : u_lay RX7 TX7 13 ∈ aTB := aTB_of (wi_2 _ (List.mem_of_getElem? (i := 130) rfl)) rfl
theorem wu_7 : ∀ w ∈ u_ws RX7 TX7 14, w ∈ aTB := (List.forall_mem_cons.mpr ⟨wu_7_0, (List.forall_mem_cons.mpr ⟨wu_7_1, (List.forall_mem_cons.mpr ⟨wu_7_2, (List.forall_mem_cons.mpr ⟨wu_7_3, (List.forall_mem_cons.mpr ⟨wu_7_4, (List.forall_mem_cons.mpr ⟨wu_7_5, (List.forall_mem_cons.mpr ⟨wu_7_6, (List.forall_mem_cons.mpr ⟨wu_7_7, (List.forall_mem_cons.mpr ⟨wu_7_8, (List.forall_mem_cons.mpr ⟨wu_7_9, (List.forall_mem_cons.mpr ⟨wu_7_10, (List.forall_mem_cons.mpr ⟨wu_7_11, (List.forall_mem_cons.mpr ⟨wu_7_12, (List.forall_mem_cons.mpr ⟨wu_7_13, (fun _ h => nomatch h)⟩)⟩)⟩)⟩)⟩)⟩)⟩)⟩)⟩)⟩)⟩)⟩)⟩)⟩)
theorem wu_8_0 : u_lay RX8 TX8 0 ∈ aTB := aTB_of (wi_1 _ (List.mem_of_getElem? (i := 205) rfl)) rfl
theorem wu_8_1 : u_lay RX8 TX8 1 ∈ aTB := aTB_of (wi_1 _ (List.mem_of_getElem? (i := 207) rfl)) rfl
theorem wu_8_2 : u_lay RX8 TX8 2 ∈ aTB := aTB_of (wi_1 _ (List.mem_of_getElem? (i := 209) rfl)) rfl
theorem wu_8_3 : u_lay RX8 TX8 3 ∈ aTB := aTB_of (wi_1 _ (List.mem_of_getElem? (i := 211) rfl)) rfl
theorem wu_8 : ∀ w ∈ u_ws RX8 TX8 4, w ∈ aTB := (List.forall_mem_cons.mpr ⟨wu_8_0, (List.forall_mem_cons.mpr ⟨wu_8_1, (List.forall_mem_cons.mpr ⟨wu_8_2, (List.forall_mem_cons.mpr ⟨wu_8_3, (fun _ h => nomatch h)⟩)⟩)⟩)⟩)
theorem wu_9_0 : u_lay RX9 TX9 0 ∈ aTB := aTB_of (wi_2 _ (List.mem_of_getElem? (i := 229) rfl)) rfl
theorem wu_9_1 : u_lay RX9 TX9 1 ∈ aTB := aTB_of (wi_2 _ (List.mem_of_getElem? (i := 231) rfl)) rfl
theorem wu_9_2 : u_lay RX9 TX9 2 ∈ aTB := aTB_of (wi_2 _ (List.mem_of_getElem? (i := 233) rfl)) rfl
theorem wu_9_3 : u_lay RX9 TX9 3 ∈ aTB := aTB_of (wi_2 _ (List.mem_of_getElem? (i := 235) rfl)) rfl
theorem wu_9_4 : u_lay RX9 TX9 4 ∈ aTB := aTB_of (wi_2 _ (List.mem_of_getElem? (i := 237) rfl)) rfl
theorem wu_9_5 : u_lay RX9 TX9 5 ∈ aTB := aTB_of (wi_2 _ (List.mem_of_getElem? (i := 239) rfl)) rfl
theorem wu_9_6 : u_lay RX9 TX9 6 ∈ aTB := aTB_of (wi_3 _ (List.mem_of_getElem? (i := 1) rfl)) rfl
theorem wu_9_7 : u_lay RX9 TX9 7 ∈ aTB := aTB_of (wi_3 _ (List.mem_of_getElem? (i := 3) rfl)) rfl
theorem wu_9_8 : u_lay RX9 TX9 8 ∈ aTB := aTB_of (wi_3 _ (List.mem_of_getElem? (i := 5) rfl)) rfl
theorem wu_9_9 : u_lay RX9 TX9 9 ∈ aTB := aTB_of (wi_3 _ (List.mem_of_getElem? (i := 7) rfl)) rfl
theorem wu_9_10 : u_lay RX9 TX9 10 ∈ aTB := aTB_of (wi_3 _ (List.mem_of_getElem? (i := 9) rfl)) rfl
theorem wu_9 : ∀ w ∈ u_ws RX9 TX9 11, w ∈ aTB := (List.forall_mem_cons.mpr ⟨wu_9_0, (List.forall_mem_cons.mpr ⟨wu_9_1, (List.forall_mem_cons.mpr ⟨wu_9_2, (List.forall_mem_cons.mpr ⟨wu_9_3, (List.forall_mem_cons.mpr ⟨wu_9_4, (List.forall_mem_cons.mpr ⟨wu_9_5, (List.forall_mem_cons.mpr ⟨wu_9_6, (List.forall_mem_cons.mpr ⟨wu_9_7, (List.forall_mem_cons.mpr ⟨wu_9_8, (List.forall_mem_cons.mpr ⟨wu_9_9, (List.forall_mem_cons.mpr ⟨wu_9_10, (fun _ h => nomatch h)⟩)⟩)⟩)⟩)⟩)⟩)⟩)⟩)⟩)⟩)⟩)
theorem wu_10_0 : u_lay RX10 TX10 0 ∈ aTB := aTB_of (wi_2 _ (List.mem_of_getElem? (i := 54) rfl)) rfl
theorem wu_10_1 : u_lay RX10 TX10 1 ∈ aTB := aTB_of (wi_2 _ (List.mem_of_getElem? (i := 56) rfl)) rfl
theorem wu_10_2 : u_lay RX10 TX10 2 ∈ aTB := aTB_of (wi_2 _ (List.mem_of_getElem? (i := 58) rfl)) rfl
theorem wu_10_3 : u_lay RX10 TX10 3 ∈ aTB := aTB_of (wi_2 _ (List.mem_of_getElem? (i := 60) rfl)) rfl
theorem wu_10_4 : u_lay RX10 TX10 4 ∈ aTB := aTB_of (wi_2 _ (List.mem_of_getElem? (i := 62) rfl)) rfl
theorem wu_10_5 : u_lay RX10 TX10 5 ∈ aTB := aTB_of (wi_2 _ (List.mem_of_getElem? (i := 64) rfl)) rfl
theorem wu_10_6 : u_lay RX10 TX10 6 ∈ aTB := aTB_of (wi_2 _ (List.mem_of_getElem? (i := 66) rfl)) rfl
theorem wu_10_7 : u_lay RX10 TX10 7 ∈ aTB := aTB_of (wi_2 _ (List.mem_of_getElem? (i := 68) rfl)) rfl
theorem wu_10_8 : u_lay RX10 TX10 8 ∈ aTB := aTB_of (wi_2 _ (List.mem_of_getElem? (i := 70) rfl)) rfl
theorem wu_10_9 : u_lay RX10 TX10 9 ∈ aTB := aTB_of (wi_2 _ (List.mem_of_getElem? (i := 72) rfl)) rfl
theorem wu_10_10 : u_lay RX10 TX10 10 ∈ aTB := aTB_of (wi_2 _ (List.mem_of_getElem? (i := 74) rfl)) rfl
theorem wu_10_11 : u_lay RX10 TX10 11 ∈ aTB := aTB_of (wi_2 _ (List.mem_of_getElem? (i := 76) rfl)) rfl
theorem wu_10 : ∀ w ∈ u_ws RX10 TX10 12, w ∈ aTB := (List.forall_mem_cons.mpr ⟨wu_10_0, (List.forall_mem_cons.mpr ⟨wu_10_1, (List.forall_mem_cons.mpr ⟨wu_10_2, (List.forall_mem_cons.mpr ⟨wu_10_3, (List.forall_mem_cons.mpr ⟨wu_10_4, (List.forall_mem_cons.mpr ⟨wu_10_5, (List.forall_mem_cons.mpr ⟨wu_10_6, (List.forall_mem_cons.mpr ⟨wu_10_7, (List.forall_mem_cons.mpr ⟨wu_10_8, (List.forall_mem_cons.mpr ⟨wu_10_9, (List.forall_mem_cons.mpr ⟨wu_10_10, (List.forall_mem_cons.mpr ⟨wu_10_11, (fun _ h => nomatch h)⟩)⟩)⟩)⟩)⟩)⟩)⟩)⟩)⟩)⟩)⟩)⟩)
theorem wu_11_0 : u_lay RX11 TX11 0 ∈ aTB := aTB_of (wi_3 _ (List.mem_of_getElem? (i := 71) rfl)) rfl
theorem wu_11_1 : u_lay RX11 TX11 1 ∈ aTB := aTB_of (wi_3 _ (List.mem_of_getElem? (i := 73) rfl)) rfl
theorem wu_11_2 : u_lay RX11 TX11 2 ∈ aTB := aTB_of (wi_3 _ (List.mem_of_getElem? (i := 75) rfl)) rfl
theorem wu_11_3 : u_lay RX11 TX11 3 ∈ aTB := aTB_of (wi_3 _ (List.mem_of_getElem? (i := 77) rfl)) rfl
theorem wu_11_4 : u_lay RX11 TX11 4 ∈ aTB := aTB_of (wi_3 _ (List.mem_of_getElem? (i := 79) rfl)) rfl
theorem wu_11_5 : u_lay RX11 TX11 5 ∈ aTB := aTB_of (wi_3 _ (List.mem_of_getElem? (i := 81) rfl)) rfl
theorem wu_11_6 : u_lay RX11 TX11 6 ∈ aTB := aTB_of (wi_3 _ (List.mem_of_getElem? (i := 83) rfl)) rfl
theorem wu_11_7 : u_lay RX11 TX11 7 ∈ aTB := aTB_of (wi_3 _ (List.mem_of_getElem? (i := 85) rfl)) rfl
theorem wu_11_8 : u_lay RX11 TX11 8 ∈ aTB := aTB_of (wi_3 _ (List.mem_of_getElem? (i := 87) rfl)) rfl
theorem wu_11_9 : u_lay RX11 TX11 9 ∈ aTB := aTB_of (wi_3 _ (List.mem_of_getElem? (i := 89) rfl)) rfl
theorem wu_11_10 : u_lay RX11 TX11 10 ∈ aTB := aTB_of (wi_3 _ (List.mem_of_getElem? (i := 91) rfl)) rfl
theorem wu_11_11 : u_lay RX11 TX11 11 ∈ aTB := aTB_of (wi_3 _ (List.mem_of_getElem? (i := 93) rfl)) rfl
theorem wu_11_12 : u_lay RX11 TX11 12 ∈ aTB := aTB_of (wi_3 _ (List.mem_of_getElem? (i := 95) rfl)) rfl
theorem wu_11_13 : u_lay RX11 TX11 13 ∈ aTB := aTB_of (wi_3 _ (List.mem_of_getElem? (i := 97) rfl)) rfl
theorem wu_11_14 : u_lay RX11 TX11 14 ∈ aTB := aTB_of (wi_3 _ (List.mem_of_getElem? (i := 99) rfl)) rfl
theorem wu_11_15 : u_lay RX11 TX11 15 ∈ aTB := aTB_of (wi_3 _ (List.mem_of_getElem? (i := 101) rfl)) rfl
theorem wu_11_16 : u_lay RX11 TX11 16 ∈ aTB := aTB_of (wi_3 _ (List.mem_of_getElem? (i := 103) rfl)) rfl
theorem wu_11_17 : u_lay RX11 TX11 17 ∈ aTB := aTB_of (wi_3 _ (List.mem_of_getElem? (i := 105) rfl)) rfl
theorem wu_11 : ∀ w ∈ u_ws RX11 TX11 18, w ∈ aTB := (List.forall_mem_cons.mpr ⟨wu_11_0, (List.forall_mem_cons.mpr ⟨wu_11_1, (List.forall_mem_cons.mpr ⟨wu_11_2, (List.forall_mem_cons.mpr ⟨wu_11_3, (List.forall_mem_cons.mpr ⟨wu_11_4, (List.forall_mem_cons.mpr ⟨wu_11_5, (List.forall_mem_cons.mpr ⟨wu_11_6, (List.forall_mem_cons.mpr ⟨wu_11_7, (List.forall_mem_cons.mpr ⟨wu_11_8, (List.forall_mem_cons.mpr ⟨wu_11_9, (List.forall_mem_cons.mpr ⟨wu_11_10, (List.forall_mem_cons.mpr ⟨wu_11_11, (List.forall_mem_cons.mpr ⟨wu_11_12, (List.forall_mem_cons.mpr ⟨wu_11_13, (List.forall_mem_cons.mpr ⟨wu_11_14, (List.forall_mem_cons.mpr ⟨wu_11_15, (List.forall_mem_cons.mpr ⟨wu_11_16, (List.forall_mem_cons.mpr ⟨wu_11_17, (fun _ h => nomatch h)⟩)⟩)⟩)⟩)⟩)⟩)⟩)⟩)⟩)⟩)⟩)⟩)⟩)⟩)⟩)⟩)⟩)⟩)
theorem wu_12_0 : u_lay RX12 TX12 0 ∈ aTB := aTB_of (wi_7 _ (List.mem_of_getElem? (i := 160) rfl)) rfl
theorem wu_12_1 : u_lay RX12 TX12 1 ∈ aTB := aTB_of (wi_7 _ (List.mem_of_getElem? (i := 161) rfl)) rfl
theorem wu_12_2 : u_lay RX12 TX12 2 ∈ aTB := aTB_of (wi_7 _ (List.mem_of_getElem? (i := 162) rfl)) rfl
theorem wu_12_3 : u_lay RX12 TX12 3 ∈ aTB := aTB_of (wi_7 _ (List.mem_of_getElem? (i := 163) rfl)) rfl
theorem wu_12_4 : u_lay RX12 TX12 4 ∈ aTB := aTB_of (wi_7 _ (List.mem_of_getElem? (i := 164) rfl)) rfl
theorem wu_12_5 : u_lay RX12 TX12 5 ∈ aTB := aTB_of (wi_7 _ (List.mem_of_getElem? (i := 183) rfl)) rfl
theorem wu_12_6 : u_lay RX12 TX12 6 ∈ aTB := aTB_of (wi_7 _ (List.mem_of_getElem? (i := 179) rfl)) rfl
theorem wu_12_7 : u_lay RX12 TX12 7 ∈ aTB := aTB_of (wi_7 _ (List.mem_of_getElem? (i := 181) rfl)) rfl
theorem wu_12 : ∀ w ∈ u_ws RX12 TX12 8, w ∈ aTB := (List.forall_mem_cons.mpr ⟨wu_12_0, (List.forall_mem_cons.mpr ⟨wu_12_1, (List.forall_mem_cons.mpr ⟨wu_12_2, (List.forall_mem_cons.mpr ⟨wu_12_3, (List.forall_mem_cons.mpr ⟨wu_12_4, (List.forall_mem_cons.mpr ⟨wu_12_5, (List.forall_mem_cons.mpr ⟨wu_12_6, (List.forall_mem_cons.mpr ⟨wu_12_7, (fun _ h => nomatch h)⟩)⟩)⟩)⟩)⟩)⟩)⟩)⟩)
theorem wu_13_0 : u_lay RX13 TX13 0 ∈ aTB := aTB_of (wi_7 _ (List.mem_of_getElem? (i := 127) rfl)) rfl
theorem wu_13_1 : u_lay RX13 TX13 1 ∈ aTB := aTB_of (wi_7 _ (List.mem_of_getElem? (i := 129) rfl)) rfl
theorem wu_13_2 : u_lay RX13 TX13 2 ∈ aTB := aTB_of (wi_7 _ (List.mem_of_getElem? (i := 131) rfl)) rfl
theorem wu_13_3 : u_lay RX13 TX13 3 ∈ aTB := aTB_of (wi_7 _ (List.mem_of_getElem? (i := 133) rfl)) rfl
theorem wu_13_4 : u_lay RX13 TX13 4 ∈ aTB := aTB_of (wi_7 _ (List.mem_of_getElem? (i := 135) rfl)) rfl
theorem wu_13_5 : u_lay RX13 TX13 5 ∈ aTB := aTB_of (wi_7 _ (List.mem_of_getElem? (i := 137) rfl)) rfl
theorem wu_13_6 : u_lay RX13 TX13 6 ∈ aTB := aTB_of (wi_7 _ (List.mem_of_getElem? (i := 139) rfl)) rfl
theorem wu_13_7 : u_lay RX13 TX13 7 ∈ aTB := aTB_of (wi_7 _ (List.mem_of_getElem? (i := 141) rfl)) rfl
theorem wu_13_8 : u_lay RX13 TX13 8 ∈ aTB := aTB_of (wi_7 _ (List.mem_of_getElem? (i := 143) rfl)) rfl
theorem wu_13_9 : u_lay RX13 TX13 9 ∈ aTB := aTB_of (wi_7 _ (List.mem_of_getElem? (i := 145) rfl)) rfl
theorem wu_13_10 : u_lay RX13 TX13 10 ∈ aTB := aTB_of (wi_7 _ (List.mem_of_getElem? (i := 147) rfl)) rfl
theorem wu_13_11 : u_lay RX13 TX13 11 ∈ aTB := aTB_of (wi_7 _ (List.mem_of_getElem? (i := 149) rfl)) rfl
theorem wu_13_12 : u_lay RX13 TX13 12 ∈ aTB := aTB_of (wi_7 _ (List.mem_of_getElem? (i := 151) rfl)) rfl
theorem wu_13_13 : u_lay RX13 TX13 13 ∈ aTB := aTB_of (wi_7 _ (List.mem_of_getElem? (i := 153) rfl)) rfl
theorem wu_13 : ∀ w ∈ u_ws RX13 TX13 14, w ∈ aTB := (List.forall_mem_cons.mpr ⟨wu_13_0, (List.forall_mem_cons.mpr ⟨wu_13_1, (List.forall_mem_cons.mpr ⟨wu_13_2, (List.forall_mem_cons.mpr ⟨wu_13_3, (List.forall_mem_cons.mpr ⟨wu_13_4, (List.forall_mem_cons.mpr ⟨wu_13_5, (List.forall_mem_cons.mpr ⟨wu_13_6, (List.forall_mem_cons.mpr ⟨wu_13_7, (List.forall_mem_cons.mpr ⟨wu_13_8, (List.forall_mem_cons.mpr ⟨wu_13_9, (List.forall_mem_cons.mpr ⟨wu_13_10, (List.forall_mem_cons.mpr ⟨wu_13_11, (List.forall_mem_cons.mpr ⟨wu_13_12, (List.forall_mem_cons.mpr ⟨wu_13_13, (fun _ h => nomatch h)⟩)⟩)⟩)⟩)⟩)⟩)⟩)⟩)⟩)⟩)⟩)⟩)⟩)⟩)
theorem wu_14_0 : u_lay RX14 TX14 0 ∈ aTB := aTB_of (wi_8 _ (List.mem_of_getElem? (i := 17) rfl)) rfl
theorem wu_14_1 : u_lay RX14 TX14 1 ∈ aTB := aTB_of (wi_8 _ (List.mem_of_getElem? (i := 19) rfl)) rfl
theorem wu_14_2 : u_lay RX14 TX14 2 ∈ aTB := aTB_of (wi_8 _ (List.mem_of_getElem? (i := 21) rfl)) rfl
theorem wu_14_3 : u_lay RX14 TX14 3 ∈ aTB := aTB_of (wi_8 _ (List.mem_of_getElem? (i := 23) rfl)) rfl
