theorem wc_X11_ticks : Cond.code yX11_ticks cX11_ticks 2 (some FieldType.int) ∈ aTB := aTB_of (wi_5 _ (List.mem_of_getElem? (i := 96) rfl)) rfl
theorem wm_X11_243 : Cond.methodLink RX11 243 yX11_readyReaches ∈ aTB := aTB_of (wi_5 _ (List.mem_of_getElem? (i := 97) rfl)) rfl
theorem wi_X11_readyReaches : Cond.instanceMethod yX11_readyReaches ∈ aTB := aTB_of (wi_5 _ (List.mem_of_getElem? (i := 99) rfl)) rfl
theorem wc_X11_readyReaches : Cond.code yX11_readyReaches cX11_readyReaches 1 (some (FieldType.object "SteeringHouse$Wishes")) ∈ aTB := aTB_of (wi_5 _ (List.mem_of_getElem? (i := 100) rfl)) rfl
theorem wn_X11_386 : Cond.methodLinkNest RX11 386 yX10_settleReaches "SteeringHouse" ∈ lw_tbl := wi_5 _ (List.mem_of_getElem? (i := 101) rfl)
theorem wi_X10_settleReaches : Cond.instanceMethod yX10_settleReaches ∈ aTB := aTB_of (wi_5 _ (List.mem_of_getElem? (i := 103) rfl)) rfl
theorem wc_X10_settleReaches : Cond.code yX10_settleReaches cX10_settleReaches 3 none ∈ aTB := aTB_of (wi_5 _ (List.mem_of_getElem? (i := 104) rfl)) rfl
theorem wm_X10_103 : Cond.methodLink RX10 103 yX10_isGood ∈ aTB := aTB_of (wi_5 _ (List.mem_of_getElem? (i := 105) rfl)) rfl
theorem wm_X10_107 : Cond.methodLink RX10 107 yX10_isGoal ∈ aTB := aTB_of (wi_5 _ (List.mem_of_getElem? (i := 106) rfl)) rfl
theorem wi_X10_isGoal : Cond.instanceMethod yX10_isGoal ∈ aTB := aTB_of (wi_5 _ (List.mem_of_getElem? (i := 108) rfl)) rfl
theorem wc_X10_isGoal : Cond.code yX10_isGoal cX10_isGoal 2 (some FieldType.boolean) ∈ aTB := aTB_of (wi_5 _ (List.mem_of_getElem? (i := 109) rfl)) rfl
theorem wm_X10_110 : Cond.methodLink RX10 110 yX10_reachRound ∈ aTB := aTB_of (wi_5 _ (List.mem_of_getElem? (i := 110) rfl)) rfl
theorem wi_X10_reachRound : Cond.instanceMethod yX10_reachRound ∈ aTB := aTB_of (wi_5 _ (List.mem_of_getElem? (i := 112) rfl)) rfl
theorem wc_X10_reachRound : Cond.code yX10_reachRound cX10_reachRound 4 (some FieldType.boolean) ∈ aTB := aTB_of (wi_5 _ (List.mem_of_getElem? (i := 113) rfl)) rfl
theorem wm_X10_113 : Cond.methodLink RX10 113 yX10_pushIntoDone ∈ aTB := aTB_of (wi_5 _ (List.mem_of_getElem? (i := 114) rfl)) rfl
theorem wi_X10_pushIntoDone : Cond.instanceMethod yX10_pushIntoDone ∈ aTB := aTB_of (wi_5 _ (List.mem_of_getElem? (i := 116) rfl)) rfl
theorem wc_X10_pushIntoDone : Cond.code yX10_pushIntoDone cX10_pushIntoDone 5 (some FieldType.int) ∈ aTB := aTB_of (wi_5 _ (List.mem_of_getElem? (i := 117) rfl)) rfl
theorem wm_L_92 : Cond.methodLink RL 92 yX11_law ∈ aTB := aTB_of (wi_5 _ (List.mem_of_getElem? (i := 118) rfl)) rfl
theorem wi_X11_law : Cond.instanceMethod yX11_law ∈ aTB := aTB_of (wi_5 _ (List.mem_of_getElem? (i := 119) rfl)) rfl
theorem ws_X11_law : Cond.selects yX11_law.cls yX11_law yX11_law ∈ aTB := aTB_of (wi_5 _ (List.mem_of_getElem? (i := 120) rfl)) rfl
theorem wc_X11_law : Cond.code yX11_law cX11_law 2 (some FieldType.int) ∈ aTB := aTB_of (wi_5 _ (List.mem_of_getElem? (i := 121) rfl)) rfl
theorem wm_L_96 : Cond.methodLink RL 96 yX11_best ∈ aTB := aTB_of (wi_5 _ (List.mem_of_getElem? (i := 122) rfl)) rfl
theorem wi_X11_best : Cond.instanceMethod yX11_best ∈ aTB := aTB_of (wi_5 _ (List.mem_of_getElem? (i := 123) rfl)) rfl
theorem ws_X11_best : Cond.selects yX11_best.cls yX11_best yX11_best ∈ aTB := aTB_of (wi_5 _ (List.mem_of_getElem? (i := 124) rfl)) rfl
theorem wc_X11_best : Cond.code yX11_best cX11_best 3 (some FieldType.int) ∈ aTB := aTB_of (wi_5 _ (List.mem_of_getElem? (i := 125) rfl)) rfl
theorem wm_X11_253 : Cond.methodLink RX11 253 yX11_readyPayments ∈ aTB := aTB_of (wi_5 _ (List.mem_of_getElem? (i := 126) rfl)) rfl
theorem wi_X11_readyPayments : Cond.instanceMethod yX11_readyPayments ∈ aTB := aTB_of (wi_5 _ (List.mem_of_getElem? (i := 128) rfl)) rfl
theorem wc_X11_readyPayments : Cond.code yX11_readyPayments cX11_readyPayments 2 (some (FieldType.object "SteeringHouse$Payments")) ∈ aTB := aTB_of (wi_5 _ (List.mem_of_getElem? (i := 129) rfl)) rfl
theorem wn_X11_389 : Cond.methodLinkNest RX11 389 yX4_settle "SteeringHouse" ∈ lw_tbl := wi_5 _ (List.mem_of_getElem? (i := 130) rfl)
theorem wi_X4_settle : Cond.instanceMethod yX4_settle ∈ aTB := aTB_of (wi_5 _ (List.mem_of_getElem? (i := 132) rfl)) rfl
theorem wc_X4_settle : Cond.code yX4_settle cX4_settle 5 none ∈ aTB := aTB_of (wi_5 _ (List.mem_of_getElem? (i := 133) rfl)) rfl
theorem wn_X4_39 : Cond.methodLinkNest RX4 39 yX11_longEnough "SteeringHouse" ∈ lw_tbl := wi_5 _ (List.mem_of_getElem? (i := 134) rfl)
theorem wn_X4_43 : Cond.methodLinkNest RX4 43 yX10_isGood "SteeringHouse" ∈ lw_tbl := wi_5 _ (List.mem_of_getElem? (i := 135) rfl)
theorem wv_X4_49 : Cond.constant RX4 49 (1000000) ∈ aTB := aTB_of (wi_5 _ (List.mem_of_getElem? (i := 136) rfl)) rfl
theorem wm_X4_50 : Cond.methodLink RX4 50 yX4_choose ∈ aTB := aTB_of (wi_5 _ (List.mem_of_getElem? (i := 137) rfl)) rfl
theorem wi_X4_choose : Cond.instanceMethod yX4_choose ∈ aTB := aTB_of (wi_5 _ (List.mem_of_getElem? (i := 139) rfl)) rfl
theorem wc_X4_choose : Cond.code yX4_choose cX4_choose 7 none ∈ aTB := aTB_of (wi_5 _ (List.mem_of_getElem? (i := 140) rfl)) rfl
theorem wv_X4_54 : Cond.constant RX4 54 (1000001) ∈ aTB := aTB_of (wi_5 _ (List.mem_of_getElem? (i := 141) rfl)) rfl
theorem wm_X4_61 : Cond.methodLink RX4 61 yX4_mostBehind ∈ aTB := aTB_of (wi_5 _ (List.mem_of_getElem? (i := 142) rfl)) rfl
theorem wi_X4_mostBehind : Cond.instanceMethod yX4_mostBehind ∈ aTB := aTB_of (wi_5 _ (List.mem_of_getElem? (i := 144) rfl)) rfl
theorem wc_X4_mostBehind : Cond.code yX4_mostBehind cX4_mostBehind 6 (some FieldType.int) ∈ aTB := aTB_of (wi_5 _ (List.mem_of_getElem? (i := 145) rfl)) rfl
theorem wm_X4_74 : Cond.methodLink RX4 74 yX4_behind ∈ aTB := aTB_of (wi_5 _ (List.mem_of_getElem? (i := 146) rfl)) rfl
theorem wi_X4_behind : Cond.instanceMethod yX4_behind ∈ aTB := aTB_of (wi_5 _ (List.mem_of_getElem? (i := 148) rfl)) rfl
theorem wc_X4_behind : Cond.code yX4_behind cX4_behind 6 (some FieldType.int) ∈ aTB := aTB_of (wi_5 _ (List.mem_of_getElem? (i := 149) rfl)) rfl
theorem wn_X4_81 : Cond.methodLinkNest RX4 81 yX3_leadOf "SteeringHouse" ∈ lw_tbl := wi_5 _ (List.mem_of_getElem? (i := 150) rfl)
theorem wi_X3_leadOf : Cond.instanceMethod yX3_leadOf ∈ aTB := aTB_of (wi_5 _ (List.mem_of_getElem? (i := 152) rfl)) rfl
theorem wc_X3_leadOf : Cond.code yX3_leadOf cX3_leadOf 4 (some FieldType.int) ∈ aTB := aTB_of (wi_5 _ (List.mem_of_getElem? (i := 153) rfl)) rfl
theorem wm_X4_78 : Cond.methodLink RX4 78 Lib.Math.max.name ∈ aTB := aTB_of (wi_5 _ (List.mem_of_getElem? (i := 154) rfl)) rfl
theorem wm_X4_65 : Cond.methodLink RX4 65 Lib.Math.min.name ∈ aTB := aTB_of (wi_5 _ (List.mem_of_getElem? (i := 155) rfl)) rfl
theorem wn_X11_257 : Cond.methodLinkNest RX11 257 yX4_paid "SteeringHouse" ∈ lw_tbl := wi_5 _ (List.mem_of_getElem? (i := 156) rfl)
theorem wi_X4_paid : Cond.instanceMethod yX4_paid ∈ aTB := aTB_of (wi_5 _ (List.mem_of_getElem? (i := 158) rfl)) rfl
theorem wc_X4_paid : Cond.code yX4_paid cX4_paid 3 (some FieldType.int) ∈ aTB := aTB_of (wi_5 _ (List.mem_of_getElem? (i := 159) rfl)) rfl
theorem wm_L_100 : Cond.methodLink RL 100 yX11_bestLaw ∈ aTB := aTB_of (wi_5 _ (List.mem_of_getElem? (i := 160) rfl)) rfl
theorem wi_X11_bestLaw : Cond.instanceMethod yX11_bestLaw ∈ aTB := aTB_of (wi_5 _ (List.mem_of_getElem? (i := 161) rfl)) rfl
theorem ws_X11_bestLaw : Cond.selects yX11_bestLaw.cls yX11_bestLaw yX11_bestLaw ∈ aTB := aTB_of (wi_5 _ (List.mem_of_getElem? (i := 162) rfl)) rfl
theorem wc_X11_bestLaw : Cond.code yX11_bestLaw cX11_bestLaw 3 (some FieldType.int) ∈ aTB := aTB_of (wi_5 _ (List.mem_of_getElem? (i := 163) rfl)) rfl
theorem wn_X11_261 : Cond.methodLinkNest RX11 261 yX4_lawOf "SteeringHouse" ∈ lw_tbl := wi_5 _ (List.mem_of_getElem? (i := 164) rfl)
theorem wi_X4_lawOf : Cond.instanceMethod yX4_lawOf ∈ aTB := aTB_of (wi_5 _ (List.mem_of_getElem? (i := 166) rfl)) rfl
theorem wc_X4_lawOf : Cond.code yX4_lawOf cX4_lawOf 3 (some FieldType.int) ∈ aTB := aTB_of (wi_5 _ (List.mem_of_getElem? (i := 167) rfl)) rfl
theorem wm_L_113 : Cond.methodLink RL 113 yX11_margin ∈ aTB := aTB_of (wi_5 _ (List.mem_of_getElem? (i := 168) rfl)) rfl
theorem wi_X11_margin : Cond.instanceMethod yX11_margin ∈ aTB := aTB_of (wi_5 _ (List.mem_of_getElem? (i := 169) rfl)) rfl
theorem ws_X11_margin : Cond.selects yX11_margin.cls yX11_margin yX11_margin ∈ aTB := aTB_of (wi_5 _ (List.mem_of_getElem? (i := 170) rfl)) rfl
theorem wc_X11_margin : Cond.code yX11_margin cX11_margin 2 (some FieldType.int) ∈ aTB := aTB_of (wi_5 _ (List.mem_of_getElem? (i := 171) rfl)) rfl
theorem wn_X11_275 : Cond.methodLinkNest RX11 275 yX7_settleMargins "SteeringHouse" ∈ lw_tbl := wi_5 _ (List.mem_of_getElem? (i := 172) rfl)
theorem wi_X7_settleMargins : Cond.instanceMethod yX7_settleMargins ∈ aTB := aTB_of (wi_5 _ (List.mem_of_getElem? (i := 174) rfl)) rfl
theorem wc_X7_settleMargins : Cond.code yX7_settleMargins cX7_settleMargins 4 none ∈ aTB := aTB_of (wi_5 _ (List.mem_of_getElem? (i := 175) rfl)) rfl
theorem wn_X7_111 : Cond.methodLinkNest RX7 111 yX11_longEnough "SteeringHouse" ∈ lw_tbl := wi_5 _ (List.mem_of_getElem? (i := 176) rfl)
theorem wm_X7_115 : Cond.methodLink RX7 115 yX7_widen ∈ aTB := aTB_of (wi_5 _ (List.mem_of_getElem? (i := 177) rfl)) rfl
theorem wi_X7_widen : Cond.instanceMethod yX7_widen ∈ aTB := aTB_of (wi_5 _ (List.mem_of_getElem? (i := 179) rfl)) rfl
theorem wc_X7_widen : Cond.code yX7_widen cX7_widen 4 none ∈ aTB := aTB_of (wi_5 _ (List.mem_of_getElem? (i := 180) rfl)) rfl
theorem wm_X7_118 : Cond.methodLink RX7 118 yX7_staysByWider ∈ aTB := aTB_of (wi_5 _ (List.mem_of_getElem? (i := 181) rfl)) rfl
theorem wi_X7_staysByWider : Cond.instanceMethod yX7_staysByWider ∈ aTB := aTB_of (wi_5 _ (List.mem_of_getElem? (i := 183) rfl)) rfl
theorem wc_X7_staysByWider : Cond.code yX7_staysByWider cX7_staysByWider 7 (some FieldType.boolean) ∈ aTB := aTB_of (wi_5 _ (List.mem_of_getElem? (i := 184) rfl)) rfl
theorem wn_X7_122 : Cond.methodLinkNest RX7 122 yX2_parts "SteeringHouse" ∈ lw_tbl := wi_5 _ (List.mem_of_getElem? (i := 185) rfl)
theorem wn_X7_129 : Cond.methodLinkNest RX7 129 yX2_spread "SteeringHouse" ∈ lw_tbl := wi_5 _ (List.mem_of_getElem? (i := 186) rfl)
theorem wn_X7_133 : Cond.methodLinkNest RX7 133 yX2_spreadWorld "SteeringHouse" ∈ lw_tbl := wi_5 _ (List.mem_of_getElem? (i := 187) rfl)
theorem wn_X7_137 : Cond.methodLinkNest RX7 137 yX2_isEdge "SteeringHouse" ∈ lw_tbl := wi_5 _ (List.mem_of_getElem? (i := 188) rfl)
theorem wi_X2_isEdge : Cond.instanceMethod yX2_isEdge ∈ aTB := aTB_of (wi_5 _ (List.mem_of_getElem? (i := 190) rfl)) rfl
theorem wc_X2_isEdge : Cond.code yX2_isEdge cX2_isEdge 4 (some FieldType.boolean) ∈ aTB := aTB_of (wi_5 _ (List.mem_of_getElem? (i := 191) rfl)) rfl
theorem wn_X7_141 : Cond.methodLinkNest RX7 141 yX2_lead "SteeringHouse" ∈ lw_tbl := wi_5 _ (List.mem_of_getElem? (i := 192) rfl)
theorem wn_X7_145 : Cond.methodLinkNest RX7 145 yX3_mark "SteeringHouse" ∈ lw_tbl := wi_5 _ (List.mem_of_getElem? (i := 193) rfl)
theorem wm_L_117 : Cond.methodLink RL 117 yX11_rank ∈ aTB := aTB_of (wi_5 _ (List.mem_of_getElem? (i := 194) rfl)) rfl
theorem wi_X11_rank : Cond.instanceMethod yX11_rank ∈ aTB := aTB_of (wi_5 _ (List.mem_of_getElem? (i := 195) rfl)) rfl
theorem ws_X11_rank : Cond.selects yX11_rank.cls yX11_rank yX11_rank ∈ aTB := aTB_of (wi_5 _ (List.mem_of_getElem? (i := 196) rfl)) rfl
theorem wc_X11_rank : Cond.code yX11_rank cX11_rank 2 (some FieldType.int) ∈ aTB := aTB_of (wi_5 _ (List.mem_of_getElem? (i := 197) rfl)) rfl
theorem wn_X11_281 : Cond.methodLinkNest RX11 281 yX1_rankOf "SteeringHouse" ∈ lw_tbl := wi_5 _ (List.mem_of_getElem? (i := 198) rfl)
theorem wi_X1_rankOf : Cond.instanceMethod yX1_rankOf ∈ aTB := aTB_of (wi_5 _ (List.mem_of_getElem? (i := 200) rfl)) rfl
theorem wc_X1_rankOf : Cond.code yX1_rankOf cX1_rankOf 6 (some FieldType.int) ∈ aTB := aTB_of (wi_5 _ (List.mem_of_getElem? (i := 201) rfl)) rfl
theorem wm_X1_147 : Cond.methodLink RX1 147 yX1_multiply ∈ aTB := aTB_of (wi_5 _ (List.mem_of_getElem? (i := 202) rfl)) rfl
theorem wi_X1_multiply : Cond.instanceMethod yX1_multiply ∈ aTB := aTB_of (wi_5 _ (List.mem_of_getElem? (i := 204) rfl)) rfl
theorem wc_X1_multiply : Cond.code yX1_multiply cX1_multiply 8 none ∈ aTB := aTB_of (wi_5 _ (List.mem_of_getElem? (i := 205) rfl)) rfl
theorem wm_X1_151 : Cond.methodLink RX1 151 yX1_anyTriple ∈ aTB := aTB_of (wi_5 _ (List.mem_of_getElem? (i := 206) rfl)) rfl
theorem wi_X1_anyTriple : Cond.instanceMethod yX1_anyTriple ∈ aTB := aTB_of (wi_5 _ (List.mem_of_getElem? (i := 208) rfl)) rfl
theorem wc_X1_anyTriple : Cond.code yX1_anyTriple cX1_anyTriple 5 (some FieldType.boolean) ∈ aTB := aTB_of (wi_5 _ (List.mem_of_getElem? (i := 209) rfl)) rfl
theorem wm_X1_155 : Cond.methodLink RX1 155 yX1_anyPair ∈ aTB := aTB_of (wi_5 _ (List.mem_of_getElem? (i := 210) rfl)) rfl
theorem wi_X1_anyPair : Cond.instanceMethod yX1_anyPair ∈ aTB := aTB_of (wi_5 _ (List.mem_of_getElem? (i := 212) rfl)) rfl
theorem wc_X1_anyPair : Cond.code yX1_anyPair cX1_anyPair 4 (some FieldType.boolean) ∈ aTB := aTB_of (wi_5 _ (List.mem_of_getElem? (i := 213) rfl)) rfl
theorem wm_X1_161 : Cond.methodLink RX1 161 yX1_minor ∈ aTB := aTB_of (wi_5 _ (List.mem_of_getElem? (i := 214) rfl)) rfl
theorem wi_X1_minor : Cond.instanceMethod yX1_minor ∈ aTB := aTB_of (wi_5 _ (List.mem_of_getElem? (i := 216) rfl)) rfl
theorem wc_X1_minor : Cond.code yX1_minor cX1_minor 5 (some FieldType.long) ∈ aTB := aTB_of (wi_5 _ (List.mem_of_getElem? (i := 217) rfl)) rfl
theorem wm_X1_158 : Cond.methodLink RX1 158 yX1_anyNumber ∈ aTB := aTB_of (wi_5 _ (List.mem_of_getElem? (i := 218) rfl)) rfl
theorem wi_X1_anyNumber : Cond.instanceMethod yX1_anyNumber ∈ aTB := aTB_of (wi_5 _ (List.mem_of_getElem? (i := 220) rfl)) rfl
theorem wc_X1_anyNumber : Cond.code yX1_anyNumber cX1_anyNumber 6 (some FieldType.boolean) ∈ aTB := aTB_of (wi_5 _ (List.mem_of_getElem? (i := 221) rfl)) rfl
theorem wm_L_122 : Cond.methodLink RL 122 yX11_form ∈ aTB := aTB_of (wi_5 _ (List.mem_of_getElem? (i := 222) rfl)) rfl
theorem wi_X11_form : Cond.instanceMethod yX11_form ∈ aTB := aTB_of (wi_5 _ (List.mem_of_getElem? (i := 223) rfl)) rfl
theorem ws_X11_form : Cond.selects yX11_form.cls yX11_form yX11_form ∈ aTB := aTB_of (wi_5 _ (List.mem_of_getElem? (i := 224) rfl)) rfl
theorem wc_X11_form : Cond.code yX11_form cX11_form 2 (some FieldType.int) ∈ aTB := aTB_of (wi_5 _ (List.mem_of_getElem? (i := 225) rfl)) rfl
theorem wm_L_126 : Cond.methodLink RL 126 yX11_place ∈ aTB := aTB_of (wi_5 _ (List.mem_of_getElem? (i := 226) rfl)) rfl
theorem wi_X11_place : Cond.instanceMethod yX11_place ∈ aTB := aTB_of (wi_5 _ (List.mem_of_getElem? (i := 227) rfl)) rfl
theorem ws_X11_place : Cond.selects yX11_place.cls yX11_place yX11_place ∈ aTB := aTB_of (wi_5 _ (List.mem_of_getElem? (i := 228) rfl)) rfl
theorem wc_X11_place : Cond.code yX11_place cX11_place 5 (some FieldType.int) ∈ aTB := aTB_of (wi_5 _ (List.mem_of_getElem? (i := 229) rfl)) rfl
theorem wm_X11_289 : Cond.methodLink RX11 289 yX11_beyond ∈ aTB := aTB_of (wi_5 _ (List.mem_of_getElem? (i := 230) rfl)) rfl
theorem wt_X11_beyond : Cond.static yX11_beyond ∈ aTB := aTB_of (wi_5 _ (List.mem_of_getElem? (i := 231) rfl)) rfl
theorem wc_X11_beyond : Cond.code yX11_beyond cX11_beyond 2 (some FieldType.boolean) ∈ aTB := aTB_of (wi_5 _ (List.mem_of_getElem? (i := 232) rfl)) rfl
theorem wn_X11_293 : Cond.methodLinkNest RX11 293 yX1_solve "SteeringHouse" ∈ lw_tbl := wi_5 _ (List.mem_of_getElem? (i := 233) rfl)
theorem wi_X1_solve : Cond.instanceMethod yX1_solve ∈ aTB := aTB_of (wi_5 _ (List.mem_of_getElem? (i := 235) rfl)) rfl
theorem wc_X1_solve : Cond.code yX1_solve cX1_solve 8 none ∈ aTB := aTB_of (wi_5 _ (List.mem_of_getElem? (i := 236) rfl)) rfl
theorem wm_X1_168 : Cond.methodLink RX1 168 yX1_setGain ∈ aTB := aTB_of (wi_5 _ (List.mem_of_getElem? (i := 237) rfl)) rfl
theorem wi_X1_setGain : Cond.instanceMethod yX1_setGain ∈ aTB := aTB_of (wi_5 _ (List.mem_of_getElem? (i := 239) rfl)) rfl
theorem wc_X1_setGain : Cond.code yX1_setGain cX1_setGain 10 none ∈ aTB := aTB_of (wi_6 _ (List.mem_of_getElem? (i := 0) rfl)) rfl
theorem wm_X1_172 : Cond.methodLink RX1 172 yX1_swapColumn ∈ aTB := aTB_of (wi_6 _ (List.mem_of_getElem? (i := 1) rfl)) rfl
theorem wi_X1_swapColumn : Cond.instanceMethod yX1_swapColumn ∈ aTB := aTB_of (wi_6 _ (List.mem_of_getElem? (i := 3) rfl)) rfl
theorem wc_X1_swapColumn : Cond.code yX1_swapColumn cX1_swapColumn 5 none ∈ aTB := aTB_of (wi_6 _ (List.mem_of_getElem? (i := 4) rfl)) rfl
theorem wm_X1_176 : Cond.methodLink RX1 176 yX1_sharedFactor ∈ aTB := aTB_of (wi_6 _ (List.mem_of_getElem? (i := 5) rfl)) rfl
theorem wt_X1_sharedFactor : Cond.static yX1_sharedFactor ∈ aTB := aTB_of (wi_6 _ (List.mem_of_getElem? (i := 6) rfl)) rfl
theorem wc_X1_sharedFactor : Cond.code yX1_sharedFactor cX1_sharedFactor 11 (some FieldType.long) ∈ aTB := aTB_of (wi_6 _ (List.mem_of_getElem? (i := 7) rfl)) rfl
theorem wm_X1_184 : Cond.methodLink RX1 184 Lib.MathLoose.abs_long.x ∈ aTB := aTB_of (wi_6 _ (List.mem_of_getElem? (i := 8) rfl)) rfl
theorem wt_mabsL : Cond.static Lib.MathLoose.abs_long.x ∈ aTB := aTB_of (wi_6 _ (List.mem_of_getElem? (i := 9) rfl)) rfl
theorem wc_mabsL : Cond.code Lib.MathLoose.abs_long.x Lib.MathLoose.abs_long.code 2 (some FieldType.long) ∈ aTB := aTB_of (wi_6 _ (List.mem_of_getElem? (i := 10) rfl)) rfl
theorem wm_X1_180 : Cond.methodLink RX1 180 Lib.MathLoose.max_long.x ∈ aTB := aTB_of (wi_6 _ (List.mem_of_getElem? (i := 11) rfl)) rfl
theorem wt_mmaxL : Cond.static Lib.MathLoose.max_long.x ∈ aTB := aTB_of (wi_6 _ (List.mem_of_getElem? (i := 12) rfl)) rfl
theorem wc_mmaxL : Cond.code Lib.MathLoose.max_long.x Lib.MathLoose.max_long.code 4 (some FieldType.long) ∈ aTB := aTB_of (wi_6 _ (List.mem_of_getElem? (i := 13) rfl)) rfl
theorem wv_X1_182 : Cond.constantLong RX1 182 (-1) ∈ aTB := aTB_of (wi_6 _ (List.mem_of_getElem? (i := 14) rfl)) rfl
theorem wm_L_130 : Cond.methodLink RL 130 yX11_gain ∈ aTB := aTB_of (wi_6 _ (List.mem_of_getElem? (i := 15) rfl)) rfl
theorem wi_X11_gain : Cond.instanceMethod yX11_gain ∈ aTB := aTB_of (wi_6 _ (List.mem_of_getElem? (i := 16) rfl)) rfl
theorem ws_X11_gain : Cond.selects yX11_gain.cls yX11_gain yX11_gain ∈ aTB := aTB_of (wi_6 _ (List.mem_of_getElem? (i := 17) rfl)) rfl
theorem wc_X11_gain : Cond.code yX11_gain cX11_gain 3 (some FieldType.long) ∈ aTB := aTB_of (wi_6 _ (List.mem_of_getElem? (i := 18) rfl)) rfl
theorem wv_X11_300 : Cond.constantLong RX11 300 (-9223372036854775808) ∈ aTB := aTB_of (wi_6 _ (List.mem_of_getElem? (i := 19) rfl)) rfl
theorem wm_L_135 : Cond.methodLink RL 135 yX11_stays ∈ aTB := aTB_of (wi_6 _ (List.mem_of_getElem? (i := 20) rfl)) rfl
theorem wi_X11_stays : Cond.instanceMethod yX11_stays ∈ aTB := aTB_of (wi_6 _ (List.mem_of_getElem? (i := 21) rfl)) rfl
theorem ws_X11_stays : Cond.selects yX11_stays.cls yX11_stays yX11_stays ∈ aTB := aTB_of (wi_6 _ (List.mem_of_getElem? (i := 22) rfl)) rfl
theorem wc_X11_stays : Cond.code yX11_stays cX11_stays 6 (some FieldType.int) ∈ aTB := aTB_of (wi_6 _ (List.mem_of_getElem? (i := 23) rfl)) rfl
theorem wn_X11_308 : Cond.methodLinkNest RX11 308 yX1_rootsWithin "SteeringHouse" ∈ lw_tbl := wi_6 _ (List.mem_of_getElem? (i := 24) rfl)
theorem wi_X1_rootsWithin : Cond.instanceMethod yX1_rootsWithin ∈ aTB := aTB_of (wi_6 _ (List.mem_of_getElem? (i := 26) rfl)) rfl
theorem wc_X1_rootsWithin : Cond.code yX1_rootsWithin cX1_rootsWithin 8 (some FieldType.boolean) ∈ aTB := aTB_of (wi_6 _ (List.mem_of_getElem? (i := 27) rfl)) rfl
theorem wm_X1_188 : Cond.methodLink RX1 188 arraycopyName ∈ aTB := aTB_of (wi_6 _ (List.mem_of_getElem? (i := 28) rfl)) rfl
theorem wm_L_139 : Cond.methodLink RL 139 yX11_tick ∈ aTB := aTB_of (wi_6 _ (List.mem_of_getElem? (i := 29) rfl)) rfl
theorem wi_X11_tick : Cond.instanceMethod yX11_tick ∈ aTB := aTB_of (wi_6 _ (List.mem_of_getElem? (i := 30) rfl)) rfl
theorem ws_X11_tick : Cond.selects yX11_tick.cls yX11_tick yX11_tick ∈ aTB := aTB_of (wi_6 _ (List.mem_of_getElem? (i := 31) rfl)) rfl
theorem wc_X11_tick : Cond.code yX11_tick cX11_tick 2 (some FieldType.int) ∈ aTB := aTB_of (wi_6 _ (List.mem_of_getElem? (i := 32) rfl)) rfl
theorem wn_X11_312 : Cond.methodLinkNest RX11 312 yX9_take "SteeringHouse" ∈ lw_tbl := wi_6 _ (List.mem_of_getElem? (i := 33) rfl)
theorem wi_X9_take : Cond.instanceMethod yX9_take ∈ aTB := aTB_of (wi_6 _ (List.mem_of_getElem? (i := 35) rfl)) rfl
theorem wc_X9_take : Cond.code yX9_take cX9_take 2 (some FieldType.int) ∈ aTB := aTB_of (wi_6 _ (List.mem_of_getElem? (i := 36) rfl)) rfl
theorem wm_L_143 : Cond.methodLink RL 143 yX11_told ∈ aTB := aTB_of (wi_6 _ (List.mem_of_getElem? (i := 37) rfl)) rfl
theorem wi_X11_told : Cond.instanceMethod yX11_told ∈ aTB := aTB_of (wi_6 _ (List.mem_of_getElem? (i := 38) rfl)) rfl
theorem ws_X11_told : Cond.selects yX11_told.cls yX11_told yX11_told ∈ aTB := aTB_of (wi_6 _ (List.mem_of_getElem? (i := 39) rfl)) rfl
theorem wc_X11_told : Cond.code yX11_told cX11_told 5 (some FieldType.boolean) ∈ aTB := aTB_of (wi_6 _ (List.mem_of_getElem? (i := 40) rfl)) rfl
theorem wn_X11_314 : Cond.methodLinkNest RX11 314 yX9_hasSight "SteeringHouse" ∈ lw_tbl := wi_6 _ (List.mem_of_getElem? (i := 41) rfl)
theorem wi_X9_hasSight : Cond.instanceMethod yX9_hasSight ∈ aTB := aTB_of (wi_6 _ (List.mem_of_getElem? (i := 43) rfl)) rfl
theorem wc_X9_hasSight : Cond.code yX9_hasSight cX9_hasSight 3 (some FieldType.boolean) ∈ aTB := aTB_of (wi_6 _ (List.mem_of_getElem? (i := 44) rfl)) rfl
theorem wn_X11_317 : Cond.methodLinkNest RX11 317 yX9_hear "SteeringHouse" ∈ lw_tbl := wi_6 _ (List.mem_of_getElem? (i := 45) rfl)
theorem wi_X9_hear : Cond.instanceMethod yX9_hear ∈ aTB := aTB_of (wi_6 _ (List.mem_of_getElem? (i := 47) rfl)) rfl
theorem wc_X9_hear : Cond.code yX9_hear cX9_hear 5 none ∈ aTB := aTB_of (wi_6 _ (List.mem_of_getElem? (i := 48) rfl)) rfl
theorem wm_X9_55 : Cond.methodLink RX9 55 Lib.Math.min.name ∈ aTB := aTB_of (wi_6 _ (List.mem_of_getElem? (i := 49) rfl)) rfl
theorem wm_L_148 : Cond.methodLink RL 148 yX11_can ∈ aTB := aTB_of (wi_6 _ (List.mem_of_getElem? (i := 50) rfl)) rfl
theorem wi_X11_can : Cond.instanceMethod yX11_can ∈ aTB := aTB_of (wi_6 _ (List.mem_of_getElem? (i := 51) rfl)) rfl
theorem ws_X11_can : Cond.selects yX11_can.cls yX11_can yX11_can ∈ aTB := aTB_of (wi_6 _ (List.mem_of_getElem? (i := 52) rfl)) rfl
theorem wc_X11_can : Cond.code yX11_can cX11_can 2 (some FieldType.int) ∈ aTB := aTB_of (wi_6 _ (List.mem_of_getElem? (i := 53) rfl)) rfl
theorem wm_X11_320 : Cond.methodLink RX11 320 yX11_readyWatcher ∈ aTB := aTB_of (wi_6 _ (List.mem_of_getElem? (i := 54) rfl)) rfl
theorem wi_X11_readyWatcher : Cond.instanceMethod yX11_readyWatcher ∈ aTB := aTB_of (wi_6 _ (List.mem_of_getElem? (i := 56) rfl)) rfl
theorem wc_X11_readyWatcher : Cond.code yX11_readyWatcher cX11_readyWatcher 1 (some (FieldType.object "SteeringHouse$Watcher")) ∈ aTB := aTB_of (wi_6 _ (List.mem_of_getElem? (i := 57) rfl)) rfl
theorem wn_X11_324 : Cond.methodLinkNest RX11 324 yX9_cellsBy "SteeringHouse" ∈ lw_tbl := wi_6 _ (List.mem_of_getElem? (i := 58) rfl)
theorem wi_X9_cellsBy : Cond.instanceMethod yX9_cellsBy ∈ aTB := aTB_of (wi_6 _ (List.mem_of_getElem? (i := 60) rfl)) rfl
theorem wc_X9_cellsBy : Cond.code yX9_cellsBy cX9_cellsBy 2 (some FieldType.int) ∈ aTB := aTB_of (wi_6 _ (List.mem_of_getElem? (i := 61) rfl)) rfl
theorem wm_X9_61 : Cond.methodLink RX9 61 yX9_bring ∈ aTB := aTB_of (wi_6 _ (List.mem_of_getElem? (i := 62) rfl)) rfl
theorem wi_X9_bring : Cond.instanceMethod yX9_bring ∈ aTB := aTB_of (wi_6 _ (List.mem_of_getElem? (i := 64) rfl)) rfl
theorem wc_X9_bring : Cond.code yX9_bring cX9_bring 7 none ∈ aTB := aTB_of (wi_6 _ (List.mem_of_getElem? (i := 65) rfl)) rfl
theorem wn_X9_109 : Cond.methodLinkNest RX9 109 yX11_longEnough "SteeringHouse" ∈ lw_tbl := wi_6 _ (List.mem_of_getElem? (i := 66) rfl)
theorem wm_X9_68 : Cond.methodLink RX9 68 yX9_startOf ∈ aTB := aTB_of (wi_6 _ (List.mem_of_getElem? (i := 67) rfl)) rfl
theorem wi_X9_startOf : Cond.instanceMethod yX9_startOf ∈ aTB := aTB_of (wi_6 _ (List.mem_of_getElem? (i := 69) rfl)) rfl
theorem wc_X9_startOf : Cond.code yX9_startOf cX9_startOf 3 (some FieldType.int) ∈ aTB := aTB_of (wi_6 _ (List.mem_of_getElem? (i := 70) rfl)) rfl
theorem wm_X9_113 : Cond.methodLink RX9 113 yJ7_fill_fda19 ∈ aTB := aTB_of (wi_6 _ (List.mem_of_getElem? (i := 71) rfl)) rfl
theorem wm_X9_116 : Cond.methodLink RX9 116 yX9_beginLane ∈ aTB := aTB_of (wi_6 _ (List.mem_of_getElem? (i := 72) rfl)) rfl
theorem wi_X9_beginLane : Cond.instanceMethod yX9_beginLane ∈ aTB := aTB_of (wi_6 _ (List.mem_of_getElem? (i := 74) rfl)) rfl
theorem wc_X9_beginLane : Cond.code yX9_beginLane cX9_beginLane 5 none ∈ aTB := aTB_of (wi_6 _ (List.mem_of_getElem? (i := 75) rfl)) rfl
theorem wn_X9_77 : Cond.methodLinkNest RX9 77 yX2_spread "SteeringHouse" ∈ lw_tbl := wi_6 _ (List.mem_of_getElem? (i := 76) rfl)
theorem wn_X9_124 : Cond.methodLinkNest RX9 124 yX10_isGood "SteeringHouse" ∈ lw_tbl := wi_6 _ (List.mem_of_getElem? (i := 77) rfl)
theorem wm_X9_130 : Cond.methodLink RX9 130 yX9_agrees ∈ aTB := aTB_of (wi_6 _ (List.mem_of_getElem? (i := 78) rfl)) rfl
theorem wi_X9_agrees : Cond.instanceMethod yX9_agrees ∈ aTB := aTB_of (wi_6 _ (List.mem_of_getElem? (i := 80) rfl)) rfl
theorem wc_X9_agrees : Cond.code yX9_agrees cX9_agrees 9 (some FieldType.boolean) ∈ aTB := aTB_of (wi_6 _ (List.mem_of_getElem? (i := 81) rfl)) rfl
theorem wn_X9_148 : Cond.methodLinkNest RX9 148 yX2_seen "SteeringHouse" ∈ lw_tbl := wi_6 _ (List.mem_of_getElem? (i := 82) rfl)
theorem wm_X9_120 : Cond.methodLink RX9 120 yX9_moveLane ∈ aTB := aTB_of (wi_6 _ (List.mem_of_getElem? (i := 83) rfl)) rfl
theorem wi_X9_moveLane : Cond.instanceMethod yX9_moveLane ∈ aTB := aTB_of (wi_6 _ (List.mem_of_getElem? (i := 85) rfl)) rfl
theorem wc_X9_moveLane : Cond.code yX9_moveLane cX9_moveLane 10 none ∈ aTB := aTB_of (wi_6 _ (List.mem_of_getElem? (i := 86) rfl)) rfl
theorem wn_X9_134 : Cond.methodLinkNest RX9 134 yX2_failing "SteeringHouse" ∈ lw_tbl := wi_6 _ (List.mem_of_getElem? (i := 87) rfl)
theorem wi_X2_failing : Cond.instanceMethod yX2_failing ∈ aTB := aTB_of (wi_6 _ (List.mem_of_getElem? (i := 89) rfl)) rfl
theorem wc_X2_failing : Cond.code yX2_failing cX2_failing 8 (some FieldType.int) ∈ aTB := aTB_of (wi_6 _ (List.mem_of_getElem? (i := 90) rfl)) rfl
theorem wm_X2_129 : Cond.methodLink RX2 129 Lib.Math.min.name ∈ aTB := aTB_of (wi_6 _ (List.mem_of_getElem? (i := 91) rfl)) rfl
theorem wm_X9_138 : Cond.methodLink RX9 138 Lib.Math.max.name ∈ aTB := aTB_of (wi_6 _ (List.mem_of_getElem? (i := 92) rfl)) rfl
theorem wn_X9_144 : Cond.methodLinkNest RX9 144 yX2_spreadWorld "SteeringHouse" ∈ lw_tbl := wi_6 _ (List.mem_of_getElem? (i := 93) rfl)
theorem wn_X9_101 : Cond.methodLinkNest RX9 101 yX3_leadOf "SteeringHouse" ∈ lw_tbl := wi_6 _ (List.mem_of_getElem? (i := 94) rfl)
theorem wm_X9_65 : Cond.methodLink RX9 65 yX9_cellsIn ∈ aTB := aTB_of (wi_6 _ (List.mem_of_getElem? (i := 95) rfl)) rfl
theorem wi_X9_cellsIn : Cond.instanceMethod yX9_cellsIn ∈ aTB := aTB_of (wi_6 _ (List.mem_of_getElem? (i := 97) rfl)) rfl
theorem wc_X9_cellsIn : Cond.code yX9_cellsIn cX9_cellsIn 6 (some FieldType.int) ∈ aTB := aTB_of (wi_6 _ (List.mem_of_getElem? (i := 98) rfl)) rfl
theorem wm_L_152 : Cond.methodLink RL 152 yX11_canBe ∈ aTB := aTB_of (wi_6 _ (List.mem_of_getElem? (i := 99) rfl)) rfl
theorem wi_X11_canBe : Cond.instanceMethod yX11_canBe ∈ aTB := aTB_of (wi_6 _ (List.mem_of_getElem? (i := 100) rfl)) rfl
theorem ws_X11_canBe : Cond.selects yX11_canBe.cls yX11_canBe yX11_canBe ∈ aTB := aTB_of (wi_6 _ (List.mem_of_getElem? (i := 101) rfl)) rfl
theorem wc_X11_canBe : Cond.code yX11_canBe cX11_canBe 2 (some FieldType.int) ∈ aTB := aTB_of (wi_6 _ (List.mem_of_getElem? (i := 102) rfl)) rfl
theorem wn_X11_327 : Cond.methodLinkNest RX11 327 yX9_mayBe "SteeringHouse" ∈ lw_tbl := wi_6 _ (List.mem_of_getElem? (i := 103) rfl)
theorem wi_X9_mayBe : Cond.instanceMethod yX9_mayBe ∈ aTB := aTB_of (wi_6 _ (List.mem_of_getElem? (i := 105) rfl)) rfl
theorem wc_X9_mayBe : Cond.code yX9_mayBe cX9_mayBe 2 (some FieldType.boolean) ∈ aTB := aTB_of (wi_6 _ (List.mem_of_getElem? (i := 106) rfl)) rfl
theorem wm_L_156 : Cond.methodLink RL 156 yX11_guess ∈ aTB := aTB_of (wi_6 _ (List.mem_of_getElem? (i := 107) rfl)) rfl
theorem wi_X11_guess : Cond.instanceMethod yX11_guess ∈ aTB := aTB_of (wi_6 _ (List.mem_of_getElem? (i := 108) rfl)) rfl
theorem ws_X11_guess : Cond.selects yX11_guess.cls yX11_guess yX11_guess ∈ aTB := aTB_of (wi_6 _ (List.mem_of_getElem? (i := 109) rfl)) rfl
theorem wc_X11_guess : Cond.code yX11_guess cX11_guess 3 (some FieldType.int) ∈ aTB := aTB_of (wi_6 _ (List.mem_of_getElem? (i := 110) rfl)) rfl
theorem wn_X11_330 : Cond.methodLinkNest RX11 330 yX9_bound "SteeringHouse" ∈ lw_tbl := wi_6 _ (List.mem_of_getElem? (i := 111) rfl)
theorem wi_X9_bound : Cond.instanceMethod yX9_bound ∈ aTB := aTB_of (wi_6 _ (List.mem_of_getElem? (i := 113) rfl)) rfl
theorem wc_X9_bound : Cond.code yX9_bound cX9_bound 7 (some FieldType.int) ∈ aTB := aTB_of (wi_6 _ (List.mem_of_getElem? (i := 114) rfl)) rfl
theorem wv_X9_76 : Cond.constant RX9 76 (-2147483648) ∈ aTB := aTB_of (wi_6 _ (List.mem_of_getElem? (i := 115) rfl)) rfl
theorem wm_L_161 : Cond.methodLink RL 161 yX11_named ∈ aTB := aTB_of (wi_6 _ (List.mem_of_getElem? (i := 116) rfl)) rfl
theorem wi_X11_named : Cond.instanceMethod yX11_named ∈ aTB := aTB_of (wi_6 _ (List.mem_of_getElem? (i := 117) rfl)) rfl
theorem ws_X11_named : Cond.selects yX11_named.cls yX11_named yX11_named ∈ aTB := aTB_of (wi_6 _ (List.mem_of_getElem? (i := 118) rfl)) rfl
theorem wc_X11_named : Cond.code yX11_named cX11_named 1 (some FieldType.int) ∈ aTB := aTB_of (wi_6 _ (List.mem_of_getElem? (i := 119) rfl)) rfl
theorem wn_X11_334 : Cond.methodLinkNest RX11 334 yX9_onlyFault "SteeringHouse" ∈ lw_tbl := wi_6 _ (List.mem_of_getElem? (i := 120) rfl)
theorem wi_X9_onlyFault : Cond.instanceMethod yX9_onlyFault ∈ aTB := aTB_of (wi_6 _ (List.mem_of_getElem? (i := 122) rfl)) rfl
theorem wc_X9_onlyFault : Cond.code yX9_onlyFault cX9_onlyFault 3 (some FieldType.int) ∈ aTB := aTB_of (wi_6 _ (List.mem_of_getElem? (i := 123) rfl)) rfl
theorem wm_X9_84 : Cond.methodLink RX9 84 yX9_cellsBy ∈ aTB := aTB_of (wi_6 _ (List.mem_of_getElem? (i := 124) rfl)) rfl
theorem wm_L_165 : Cond.methodLink RL 165 yX11_known ∈ aTB := aTB_of (wi_6 _ (List.mem_of_getElem? (i := 125) rfl)) rfl
theorem wi_X11_known : Cond.instanceMethod yX11_known ∈ aTB := aTB_of (wi_6 _ (List.mem_of_getElem? (i := 126) rfl)) rfl
theorem ws_X11_known : Cond.selects yX11_known.cls yX11_known yX11_known ∈ aTB := aTB_of (wi_6 _ (List.mem_of_getElem? (i := 127) rfl)) rfl
theorem wc_X11_known : Cond.code yX11_known cX11_known 2 (some FieldType.int) ∈ aTB := aTB_of (wi_6 _ (List.mem_of_getElem? (i := 128) rfl)) rfl
theorem wn_X11_338 : Cond.methodLinkNest RX11 338 yX9_cellsAsKnown "SteeringHouse" ∈ lw_tbl := wi_6 _ (List.mem_of_getElem? (i := 129) rfl)
theorem wi_X9_cellsAsKnown : Cond.instanceMethod yX9_cellsAsKnown ∈ aTB := aTB_of (wi_6 _ (List.mem_of_getElem? (i := 131) rfl)) rfl
theorem wc_X9_cellsAsKnown : Cond.code yX9_cellsAsKnown cX9_cellsAsKnown 2 (some FieldType.int) ∈ aTB := aTB_of (wi_6 _ (List.mem_of_getElem? (i := 132) rfl)) rfl
theorem wm_L_169 : Cond.methodLink RL 169 yX11_fit ∈ aTB := aTB_of (wi_6 _ (List.mem_of_getElem? (i := 133) rfl)) rfl
theorem wi_X11_fit : Cond.instanceMethod yX11_fit ∈ aTB := aTB_of (wi_6 _ (List.mem_of_getElem? (i := 134) rfl)) rfl
theorem ws_X11_fit : Cond.selects yX11_fit.cls yX11_fit yX11_fit ∈ aTB := aTB_of (wi_6 _ (List.mem_of_getElem? (i := 135) rfl)) rfl
theorem wc_X11_fit : Cond.code yX11_fit cX11_fit 1 (some FieldType.int) ∈ aTB := aTB_of (wi_6 _ (List.mem_of_getElem? (i := 136) rfl)) rfl
theorem wn_X11_341 : Cond.methodLinkNest RX11 341 yX9_fitting "SteeringHouse" ∈ lw_tbl := wi_6 _ (List.mem_of_getElem? (i := 137) rfl)
theorem wi_X9_fitting : Cond.instanceMethod yX9_fitting ∈ aTB := aTB_of (wi_6 _ (List.mem_of_getElem? (i := 139) rfl)) rfl
theorem wc_X9_fitting : Cond.code yX9_fitting cX9_fitting 3 (some FieldType.int) ∈ aTB := aTB_of (wi_6 _ (List.mem_of_getElem? (i := 140) rfl)) rfl
theorem wm_X11_344 : Cond.methodLink RX11 344 yJ6_bitCount_0f7a4 ∈ aTB := aTB_of (wi_6 _ (List.mem_of_getElem? (i := 141) rfl)) rfl
theorem wt_J6_bitCount_0f7a4 : Cond.static yJ6_bitCount_0f7a4 ∈ aTB := aTB_of (wi_6 _ (List.mem_of_getElem? (i := 142) rfl)) rfl
theorem wc_J6_bitCount_0f7a4 : Cond.code yJ6_bitCount_0f7a4 cJ6_bitCount_0f7a4 1 (some FieldType.int) ∈ aTB := aTB_of (wi_6 _ (List.mem_of_getElem? (i := 143) rfl)) rfl
theorem wv_J6_265 : Cond.constant RJ6 265 (1431655765) ∈ aTB := aTB_of (wi_6 _ (List.mem_of_getElem? (i := 144) rfl)) rfl
theorem wv_J6_266 : Cond.constant RJ6 266 (858993459) ∈ aTB := aTB_of (wi_6 _ (List.mem_of_getElem? (i := 145) rfl)) rfl
theorem wv_J6_267 : Cond.constant RJ6 267 (252645135) ∈ aTB := aTB_of (wi_6 _ (List.mem_of_getElem? (i := 146) rfl)) rfl
theorem wm_L_173 : Cond.methodLink RL 173 yX11_probe ∈ aTB := aTB_of (wi_6 _ (List.mem_of_getElem? (i := 147) rfl)) rfl
theorem wi_X11_probe : Cond.instanceMethod yX11_probe ∈ aTB := aTB_of (wi_6 _ (List.mem_of_getElem? (i := 148) rfl)) rfl
theorem ws_X11_probe : Cond.selects yX11_probe.cls yX11_probe yX11_probe ∈ aTB := aTB_of (wi_6 _ (List.mem_of_getElem? (i := 149) rfl)) rfl
theorem wc_X11_probe : Cond.code yX11_probe cX11_probe 3 (some FieldType.int) ∈ aTB := aTB_of (wi_6 _ (List.mem_of_getElem? (i := 150) rfl)) rfl
theorem wn_X11_349 : Cond.methodLinkNest RX11 349 yX9_telling "SteeringHouse" ∈ lw_tbl := wi_6 _ (List.mem_of_getElem? (i := 151) rfl)
theorem wi_X9_telling : Cond.instanceMethod yX9_telling ∈ aTB := aTB_of (wi_6 _ (List.mem_of_getElem? (i := 153) rfl)) rfl
theorem wc_X9_telling : Cond.code yX9_telling cX9_telling 8 (some FieldType.int) ∈ aTB := aTB_of (wi_6 _ (List.mem_of_getElem? (i := 154) rfl)) rfl
theorem wm_X9_88 : Cond.methodLink RX9 88 yX9_fitting ∈ aTB := aTB_of (wi_6 _ (List.mem_of_getElem? (i := 155) rfl)) rfl
theorem wm_X9_94 : Cond.methodLink RX9 94 yX9_differentLeads ∈ aTB := aTB_of (wi_6 _ (List.mem_of_getElem? (i := 156) rfl)) rfl
theorem wi_X9_differentLeads : Cond.instanceMethod yX9_differentLeads ∈ aTB := aTB_of (wi_6 _ (List.mem_of_getElem? (i := 158) rfl)) rfl
theorem wc_X9_differentLeads : Cond.code yX9_differentLeads cX9_differentLeads 9 (some FieldType.int) ∈ aTB := aTB_of (wi_6 _ (List.mem_of_getElem? (i := 159) rfl)) rfl
theorem wm_L_177 : Cond.methodLink RL 177 yX11_anew ∈ aTB := aTB_of (wi_6 _ (List.mem_of_getElem? (i := 160) rfl)) rfl
theorem wi_X11_anew : Cond.instanceMethod yX11_anew ∈ aTB := aTB_of (wi_6 _ (List.mem_of_getElem? (i := 161) rfl)) rfl
theorem ws_X11_anew : Cond.selects yX11_anew.cls yX11_anew yX11_anew ∈ aTB := aTB_of (wi_6 _ (List.mem_of_getElem? (i := 162) rfl)) rfl
theorem wc_X11_anew : Cond.code yX11_anew cX11_anew 2 (some FieldType.int) ∈ aTB := aTB_of (wi_6 _ (List.mem_of_getElem? (i := 163) rfl)) rfl
theorem wm_L_181 : Cond.methodLink RL 181 yX11_code ∈ aTB := aTB_of (wi_6 _ (List.mem_of_getElem? (i := 164) rfl)) rfl
theorem wi_X11_code : Cond.instanceMethod yX11_code ∈ aTB := aTB_of (wi_6 _ (List.mem_of_getElem? (i := 165) rfl)) rfl
theorem ws_X11_code : Cond.selects yX11_code.cls yX11_code yX11_code ∈ aTB := aTB_of (wi_6 _ (List.mem_of_getElem? (i := 166) rfl)) rfl
theorem wc_X11_code : Cond.code yX11_code cX11_code 7 (some FieldType.boolean) ∈ aTB := aTB_of (wi_6 _ (List.mem_of_getElem? (i := 167) rfl)) rfl
theorem wm_X11_352 : Cond.methodLink RX11 352 yX11_isShort ∈ aTB := aTB_of (wi_6 _ (List.mem_of_getElem? (i := 168) rfl)) rfl
theorem wt_X11_isShort : Cond.static yX11_isShort ∈ aTB := aTB_of (wi_6 _ (List.mem_of_getElem? (i := 169) rfl)) rfl
theorem wc_X11_isShort : Cond.code yX11_isShort cX11_isShort 1 (some FieldType.boolean) ∈ aTB := aTB_of (wi_6 _ (List.mem_of_getElem? (i := 170) rfl)) rfl
theorem wn_X11_355 : Cond.methodLinkNest RX11 355 yX5_setCode "SteeringHouse" ∈ lw_tbl := wi_6 _ (List.mem_of_getElem? (i := 171) rfl)
theorem wm_L_186 : Cond.methodLink RL 186 yX11_coded ∈ aTB := aTB_of (wi_6 _ (List.mem_of_getElem? (i := 172) rfl)) rfl
theorem wi_X11_coded : Cond.instanceMethod yX11_coded ∈ aTB := aTB_of (wi_6 _ (List.mem_of_getElem? (i := 173) rfl)) rfl
theorem ws_X11_coded : Cond.selects yX11_coded.cls yX11_coded yX11_coded ∈ aTB := aTB_of (wi_6 _ (List.mem_of_getElem? (i := 174) rfl)) rfl
theorem wc_X11_coded : Cond.code yX11_coded cX11_coded 2 (some FieldType.int) ∈ aTB := aTB_of (wi_6 _ (List.mem_of_getElem? (i := 175) rfl)) rfl
theorem wn_X11_359 : Cond.methodLinkNest RX11 359 yX5_codePush "SteeringHouse" ∈ lw_tbl := wi_6 _ (List.mem_of_getElem? (i := 176) rfl)
theorem wi_X5_codePush : Cond.instanceMethod yX5_codePush ∈ aTB := aTB_of (wi_6 _ (List.mem_of_getElem? (i := 178) rfl)) rfl
theorem wc_X5_codePush : Cond.code yX5_codePush cX5_codePush 4 (some FieldType.int) ∈ aTB := aTB_of (wi_6 _ (List.mem_of_getElem? (i := 179) rfl)) rfl
theorem wn_X5_60 : Cond.methodLinkNest RX5 60 yX2_spread "SteeringHouse" ∈ lw_tbl := wi_6 _ (List.mem_of_getElem? (i := 180) rfl)
theorem wg_X5_69 : Cond.fieldLinkNest RX5 69 "SteeringHouse" "BASE" "[I" "SteeringHouse" ∈ lw_tbl := wi_6 _ (List.mem_of_getElem? (i := 181) rfl)
theorem wm_X5_78 : Cond.methodLink RX5 78 Lib.Math.min.name ∈ aTB := aTB_of (wi_6 _ (List.mem_of_getElem? (i := 182) rfl)) rfl
theorem wm_X5_84 : Cond.methodLink RX5 84 Lib.Math.max.name ∈ aTB := aTB_of (wi_6 _ (List.mem_of_getElem? (i := 183) rfl)) rfl
theorem wm_L_190 : Cond.methodLink RL 190 yX11_strays ∈ aTB := aTB_of (wi_6 _ (List.mem_of_getElem? (i := 184) rfl)) rfl
theorem wi_X11_strays : Cond.instanceMethod yX11_strays ∈ aTB := aTB_of (wi_6 _ (List.mem_of_getElem? (i := 185) rfl)) rfl
theorem ws_X11_strays : Cond.selects yX11_strays.cls yX11_strays yX11_strays ∈ aTB := aTB_of (wi_6 _ (List.mem_of_getElem? (i := 186) rfl)) rfl
theorem wc_X11_strays : Cond.code yX11_strays cX11_strays 1 (some FieldType.int) ∈ aTB := aTB_of (wi_6 _ (List.mem_of_getElem? (i := 187) rfl)) rfl
theorem wn_X11_362 : Cond.methodLinkNest RX11 362 yX5_straying "SteeringHouse" ∈ lw_tbl := wi_6 _ (List.mem_of_getElem? (i := 188) rfl)
theorem wi_X5_straying : Cond.instanceMethod yX5_straying ∈ aTB := aTB_of (wi_6 _ (List.mem_of_getElem? (i := 190) rfl)) rfl
theorem wc_X5_straying : Cond.code yX5_straying cX5_straying 4 (some FieldType.int) ∈ aTB := aTB_of (wi_6 _ (List.mem_of_getElem? (i := 191) rfl)) rfl
theorem wm_X5_95 : Cond.methodLink RX5 95 yX5_codePush ∈ aTB := aTB_of (wi_6 _ (List.mem_of_getElem? (i := 192) rfl)) rfl
theorem wm_L_194 : Cond.methodLink RL 194 yX11_walk ∈ aTB := aTB_of (wi_6 _ (List.mem_of_getElem? (i := 193) rfl)) rfl
theorem wi_X11_walk : Cond.instanceMethod yX11_walk ∈ aTB := aTB_of (wi_6 _ (List.mem_of_getElem? (i := 194) rfl)) rfl
theorem ws_X11_walk : Cond.selects yX11_walk.cls yX11_walk yX11_walk ∈ aTB := aTB_of (wi_6 _ (List.mem_of_getElem? (i := 195) rfl)) rfl
theorem wc_X11_walk : Cond.code yX11_walk cX11_walk 2 (some FieldType.int) ∈ aTB := aTB_of (wi_6 _ (List.mem_of_getElem? (i := 196) rfl)) rfl
theorem wn_X11_365 : Cond.methodLinkNest RX11 365 yX5_round "SteeringHouse" ∈ lw_tbl := wi_6 _ (List.mem_of_getElem? (i := 197) rfl)
theorem wi_X5_round : Cond.instanceMethod yX5_round ∈ aTB := aTB_of (wi_6 _ (List.mem_of_getElem? (i := 199) rfl)) rfl
theorem wc_X5_round : Cond.code yX5_round cX5_round 4 (some FieldType.int) ∈ aTB := aTB_of (wi_6 _ (List.mem_of_getElem? (i := 200) rfl)) rfl
theorem wn_X5_99 : Cond.methodLinkNest RX5 99 yX2_spreadMove "SteeringHouse" ∈ lw_tbl := wi_6 _ (List.mem_of_getElem? (i := 201) rfl)
theorem wn_X5_102 : Cond.methodLinkNest RX5 102 yX2_lead "SteeringHouse" ∈ lw_tbl := wi_6 _ (List.mem_of_getElem? (i := 202) rfl)
theorem wm_L_198 : Cond.methodLink RL 198 yX11_claim ∈ aTB := aTB_of (wi_6 _ (List.mem_of_getElem? (i := 203) rfl)) rfl
theorem wi_X11_claim : Cond.instanceMethod yX11_claim ∈ aTB := aTB_of (wi_6 _ (List.mem_of_getElem? (i := 204) rfl)) rfl
theorem ws_X11_claim : Cond.selects yX11_claim.cls yX11_claim yX11_claim ∈ aTB := aTB_of (wi_6 _ (List.mem_of_getElem? (i := 205) rfl)) rfl
theorem wc_X11_claim : Cond.code yX11_claim cX11_claim 3 (some FieldType.boolean) ∈ aTB := aTB_of (wi_6 _ (List.mem_of_getElem? (i := 206) rfl)) rfl
theorem wn_X11_368 : Cond.methodLinkNest RX11 368 yX5_setClaim "SteeringHouse" ∈ lw_tbl := wi_6 _ (List.mem_of_getElem? (i := 207) rfl)
theorem wi_X5_setClaim : Cond.instanceMethod yX5_setClaim ∈ aTB := aTB_of (wi_6 _ (List.mem_of_getElem? (i := 209) rfl)) rfl
theorem wc_X5_setClaim : Cond.code yX5_setClaim cX5_setClaim 3 none ∈ aTB := aTB_of (wi_6 _ (List.mem_of_getElem? (i := 210) rfl)) rfl
theorem wm_L_203 : Cond.methodLink RL 203 yX11_proved ∈ aTB := aTB_of (wi_6 _ (List.mem_of_getElem? (i := 211) rfl)) rfl
theorem wi_X11_proved : Cond.instanceMethod yX11_proved ∈ aTB := aTB_of (wi_6 _ (List.mem_of_getElem? (i := 212) rfl)) rfl
theorem ws_X11_proved : Cond.selects yX11_proved.cls yX11_proved yX11_proved ∈ aTB := aTB_of (wi_6 _ (List.mem_of_getElem? (i := 213) rfl)) rfl
theorem wc_X11_proved : Cond.code yX11_proved cX11_proved 2 (some FieldType.int) ∈ aTB := aTB_of (wi_6 _ (List.mem_of_getElem? (i := 214) rfl)) rfl
theorem wn_X11_375 : Cond.methodLinkNest RX11 375 yX5_isClaimed "SteeringHouse" ∈ lw_tbl := wi_6 _ (List.mem_of_getElem? (i := 215) rfl)
theorem wi_X5_isClaimed : Cond.instanceMethod yX5_isClaimed ∈ aTB := aTB_of (wi_6 _ (List.mem_of_getElem? (i := 217) rfl)) rfl
theorem wc_X5_isClaimed : Cond.code yX5_isClaimed cX5_isClaimed 2 (some FieldType.boolean) ∈ aTB := aTB_of (wi_6 _ (List.mem_of_getElem? (i := 218) rfl)) rfl
theorem wn_X11_378 : Cond.methodLinkNest RX11 378 yX5_firstBreak "SteeringHouse" ∈ lw_tbl := wi_6 _ (List.mem_of_getElem? (i := 219) rfl)
theorem wi_X5_firstBreak : Cond.instanceMethod yX5_firstBreak ∈ aTB := aTB_of (wi_6 _ (List.mem_of_getElem? (i := 221) rfl)) rfl
theorem wc_X5_firstBreak : Cond.code yX5_firstBreak cX5_firstBreak 2 (some FieldType.int) ∈ aTB := aTB_of (wi_6 _ (List.mem_of_getElem? (i := 222) rfl)) rfl
theorem wm_X5_106 : Cond.methodLink RX5 106 yX5_isClaimed ∈ aTB := aTB_of (wi_6 _ (List.mem_of_getElem? (i := 223) rfl)) rfl
theorem wm_X5_110 : Cond.methodLink RX5 110 yX5_stands ∈ aTB := aTB_of (wi_6 _ (List.mem_of_getElem? (i := 224) rfl)) rfl
theorem wi_X5_stands : Cond.instanceMethod yX5_stands ∈ aTB := aTB_of (wi_6 _ (List.mem_of_getElem? (i := 226) rfl)) rfl
theorem wc_X5_stands : Cond.code yX5_stands cX5_stands 3 (some FieldType.boolean) ∈ aTB := aTB_of (wi_6 _ (List.mem_of_getElem? (i := 227) rfl)) rfl
theorem wn_X5_113 : Cond.methodLinkNest RX5 113 yX10_isGood "SteeringHouse" ∈ lw_tbl := wi_6 _ (List.mem_of_getElem? (i := 228) rfl)
theorem wn_X5_118 : Cond.methodLinkNest RX5 118 yX10_isGoal "SteeringHouse" ∈ lw_tbl := wi_6 _ (List.mem_of_getElem? (i := 229) rfl)
theorem wm_X5_124 : Cond.methodLink RX5 124 yX5_leadsToLess ∈ aTB := aTB_of (wi_6 _ (List.mem_of_getElem? (i := 230) rfl)) rfl
theorem wi_X5_leadsToLess : Cond.instanceMethod yX5_leadsToLess ∈ aTB := aTB_of (wi_6 _ (List.mem_of_getElem? (i := 232) rfl)) rfl
theorem wc_X5_leadsToLess : Cond.code yX5_leadsToLess cX5_leadsToLess 5 (some FieldType.boolean) ∈ aTB := aTB_of (wi_6 _ (List.mem_of_getElem? (i := 233) rfl)) rfl
theorem wn_X5_131 : Cond.methodLinkNest RX5 131 yX3_leadOf "SteeringHouse" ∈ lw_tbl := wi_6 _ (List.mem_of_getElem? (i := 234) rfl)
theorem wm_L_207 : Cond.methodLink RL 207 yX11_breaks ∈ aTB := aTB_of (wi_6 _ (List.mem_of_getElem? (i := 235) rfl)) rfl
theorem wi_X11_breaks : Cond.instanceMethod yX11_breaks ∈ aTB := aTB_of (wi_6 _ (List.mem_of_getElem? (i := 236) rfl)) rfl
theorem ws_X11_breaks : Cond.selects yX11_breaks.cls yX11_breaks yX11_breaks ∈ aTB := aTB_of (wi_6 _ (List.mem_of_getElem? (i := 237) rfl)) rfl
theorem wc_X11_breaks : Cond.code yX11_breaks cX11_breaks 1 (some FieldType.int) ∈ aTB := aTB_of (wi_6 _ (List.mem_of_getElem? (i := 238) rfl)) rfl
theorem wm_L_211 : Cond.methodLink RL 211 yX11_trouble ∈ aTB := aTB_of (wi_6 _ (List.mem_of_getElem? (i := 239) rfl)) rfl
theorem wi_X11_trouble : Cond.instanceMethod yX11_trouble ∈ aTB := aTB_of (wi_7 _ (List.mem_of_getElem? (i := 0) rfl)) rfl
theorem ws_X11_trouble : Cond.selects yX11_trouble.cls yX11_trouble yX11_trouble ∈ aTB := aTB_of (wi_7 _ (List.mem_of_getElem? (i := 1) rfl)) rfl
theorem wc_X11_trouble : Cond.code yX11_trouble cX11_trouble 1 (some FieldType.int) ∈ aTB := aTB_of (wi_7 _ (List.mem_of_getElem? (i := 2) rfl)) rfl
theorem wm_L_104 : Cond.methodLink RL 104 yL_worst ∈ aTB := aTB_of (wi_7 _ (List.mem_of_getElem? (i := 3) rfl)) rfl
theorem wt_L_worst : Cond.static yL_worst ∈ aTB := aTB_of (wi_7 _ (List.mem_of_getElem? (i := 4) rfl)) rfl
theorem wc_L_worst : Cond.codeWith yL_worst cL_worst 6 (some FieldType.int) [((0 : Nat), (12 : Nat), (15 : Nat), (13 : Nat))] ∈ aTB := aTB_of (wi_7 _ (List.mem_of_getElem? (i := 5) rfl)) rfl
theorem wk_L_13 : Cond.classLink RL 13 "java/util/NoSuchElementException" ∈ aTB := aTB_of (wi_7 _ (List.mem_of_getElem? (i := 6) rfl)) rfl
theorem wm_L_7 : Cond.methodLink RL 7 yX11_worst ∈ aTB := aTB_of (wi_7 _ (List.mem_of_getElem? (i := 7) rfl)) rfl
theorem wi_X11_worst : Cond.instanceMethod yX11_worst ∈ aTB := aTB_of (wi_7 _ (List.mem_of_getElem? (i := 8) rfl)) rfl
theorem ws_X11_worst : Cond.selects yX11_worst.cls yX11_worst yX11_worst ∈ aTB := aTB_of (wi_7 _ (List.mem_of_getElem? (i := 9) rfl)) rfl
theorem wc_X11_worst : Cond.code yX11_worst cX11_worst 4 (some FieldType.int) ∈ aTB := aTB_of (wi_7 _ (List.mem_of_getElem? (i := 10) rfl)) rfl
theorem wk_X11_264 : Cond.classLink RX11 264 "java/util/NoSuchElementException" ∈ aTB := aTB_of (wi_7 _ (List.mem_of_getElem? (i := 11) rfl)) rfl
theorem wq_java_util_NoSuchElementException_java_util_NoSuchElementException : Cond.castable "java/util/NoSuchElementException" "java/util/NoSuchElementException" ∈ lw_tbl := wi_7 _ (List.mem_of_getElem? (i := 13) rfl)
theorem wf_TH_198 : Cond.fieldLink "java/lang/Throwable" 198 (TX12 4).1 (TX12 4).2.1 (TX12 4).2.2.1 ∈ aTB := aTB_of (wi_7 _ (List.mem_of_getElem? (i := 32) rfl)) rfl
theorem wf_TH_13 : Cond.fieldLink "java/lang/Throwable" 13 "java/lang/Throwable" "UNASSIGNED_STACK" "[Ljava/lang/StackTraceElement;" ∈ aTB := aTB_of (wi_7 _ (List.mem_of_getElem? (i := 37) rfl)) rfl
theorem wf_TH_20 : Cond.fieldLink "java/lang/Throwable" 20 "java/lang/Throwable" "SUPPRESSED_SENTINEL" "Ljava/util/List;" ∈ aTB := aTB_of (wi_7 _ (List.mem_of_getElem? (i := 39) rfl)) rfl
theorem wf_TH_31 : Cond.fieldLink "java/lang/Throwable" 31 (TX12 3).1 (TX12 3).2.1 (TX12 3).2.2.1 ∈ aTB := aTB_of (wi_7 _ (List.mem_of_getElem? (i := 65) rfl)) rfl
theorem wf_TH_7 : Cond.fieldLink "java/lang/Throwable" 7 (TX12 0).1 (TX12 0).2.1 (TX12 0).2.2.1 ∈ aTB := aTB_of (wi_7 _ (List.mem_of_getElem? (i := 66) rfl)) rfl
theorem wf_TH_17 : Cond.fieldLink "java/lang/Throwable" 17 (TX12 1).1 (TX12 1).2.1 (TX12 1).2.2.1 ∈ aTB := aTB_of (wi_7 _ (List.mem_of_getElem? (i := 67) rfl)) rfl
theorem wf_TH_24 : Cond.fieldLink "java/lang/Throwable" 24 (TX12 2).1 (TX12 2).2.1 (TX12 2).2.2.1 ∈ aTB := aTB_of (wi_7 _ (List.mem_of_getElem? (i := 68) rfl)) rfl
theorem wa_byte : Cond.arrayClass .byte ∈ aTB := aTB_of (wi_7 _ (List.mem_of_getElem? (i := 77) rfl)) rfl
theorem wn_X11_271 : Cond.methodLinkNest RX11 271 yX4_hardest "SteeringHouse" ∈ lw_tbl := wi_7 _ (List.mem_of_getElem? (i := 78) rfl)
theorem wi_X4_hardest : Cond.instanceMethod yX4_hardest ∈ aTB := aTB_of (wi_7 _ (List.mem_of_getElem? (i := 80) rfl)) rfl
theorem wc_X4_hardest : Cond.code yX4_hardest cX4_hardest 8 (some FieldType.int) ∈ aTB := aTB_of (wi_7 _ (List.mem_of_getElem? (i := 81) rfl)) rfl
theorem wm_X4_86 : Cond.methodLink RX4 86 yX4_lawOf ∈ aTB := aTB_of (wi_7 _ (List.mem_of_getElem? (i := 82) rfl)) rfl
theorem wm_X4_89 : Cond.methodLink RX4 89 yX4_hardestWorld ∈ aTB := aTB_of (wi_7 _ (List.mem_of_getElem? (i := 83) rfl)) rfl
theorem wi_X4_hardestWorld : Cond.instanceMethod yX4_hardestWorld ∈ aTB := aTB_of (wi_7 _ (List.mem_of_getElem? (i := 85) rfl)) rfl
theorem wc_X4_hardestWorld : Cond.code yX4_hardestWorld cX4_hardestWorld 8 (some FieldType.int) ∈ aTB := aTB_of (wi_7 _ (List.mem_of_getElem? (i := 86) rfl)) rfl
theorem wk_L_16 : Cond.classLink RL 16 RX14 ∈ aTB := aTB_of (wi_7 _ (List.mem_of_getElem? (i := 87) rfl)) rfl
theorem wj_X14 : Cond.instantiable RX14 70 ∈ aTB := aTB_of (wi_7 _ (List.mem_of_getElem? (i := 88) rfl)) rfl
theorem wm_L_18 : Cond.methodLink RL 18 yX14_init ∈ aTB := aTB_of (wi_7 _ (List.mem_of_getElem? (i := 89) rfl)) rfl
theorem wi_X14_init : Cond.instanceMethod yX14_init ∈ aTB := aTB_of (wi_7 _ (List.mem_of_getElem? (i := 90) rfl)) rfl
theorem wc_X14_init : Cond.code yX14_init cX14_init 1 none ∈ aTB := aTB_of (wi_7 _ (List.mem_of_getElem? (i := 91) rfl)) rfl
theorem wm_X14_1 : Cond.methodLink RX14 1 Lib.objectInit ∈ aTB := aTB_of (wi_7 _ (List.mem_of_getElem? (i := 92) rfl)) rfl
theorem wk_X14_13 : Cond.classLink RX14 13 RX13 ∈ aTB := aTB_of (wi_7 _ (List.mem_of_getElem? (i := 93) rfl)) rfl
theorem wj_X13 : Cond.instantiable RX13 14 ∈ aTB := aTB_of (wi_7 _ (List.mem_of_getElem? (i := 94) rfl)) rfl
theorem wn_X14_15 : Cond.methodLinkNest RX14 15 yX13_init "SteeringHouseModel" ∈ lw_tbl := wi_7 _ (List.mem_of_getElem? (i := 95) rfl)
theorem wi_X13_init : Cond.instanceMethod yX13_init ∈ aTB := aTB_of (wi_7 _ (List.mem_of_getElem? (i := 96) rfl)) rfl
theorem wc_X13_init : Cond.code yX13_init cX13_init 1 none ∈ aTB := aTB_of (wi_7 _ (List.mem_of_getElem? (i := 97) rfl)) rfl
theorem wm_X13_3 : Cond.methodLink RX13 3 Lib.objectInit ∈ aTB := aTB_of (wi_7 _ (List.mem_of_getElem? (i := 98) rfl)) rfl
theorem wf_X13_9 : Cond.fieldLink RX13 9 (TX13 0).1 (TX13 0).2.1 (TX13 0).2.2.1 ∈ aTB := aTB_of (wi_7 _ (List.mem_of_getElem? (i := 99) rfl)) rfl
theorem wg_X14_252 : Cond.fieldLinkNest RX14 252 (TX13 0).1 (TX13 0).2.1 (TX13 0).2.2.1 "SteeringHouseModel" ∈ lw_tbl := wi_7 _ (List.mem_of_getElem? (i := 100) rfl)
theorem wf_X13_15 : Cond.fieldLink RX13 15 (TX13 1).1 (TX13 1).2.1 (TX13 1).2.2.1 ∈ aTB := aTB_of (wi_7 _ (List.mem_of_getElem? (i := 101) rfl)) rfl
theorem wg_X14_307 : Cond.fieldLinkNest RX14 307 (TX13 1).1 (TX13 1).2.1 (TX13 1).2.2.1 "SteeringHouseModel" ∈ lw_tbl := wi_7 _ (List.mem_of_getElem? (i := 102) rfl)
theorem wf_X13_18 : Cond.fieldLink RX13 18 (TX13 2).1 (TX13 2).2.1 (TX13 2).2.2.1 ∈ aTB := aTB_of (wi_7 _ (List.mem_of_getElem? (i := 103) rfl)) rfl
theorem wg_X14_317 : Cond.fieldLinkNest RX14 317 (TX13 2).1 (TX13 2).2.1 (TX13 2).2.2.1 "SteeringHouseModel" ∈ lw_tbl := wi_7 _ (List.mem_of_getElem? (i := 104) rfl)
theorem wf_X13_21 : Cond.fieldLink RX13 21 (TX13 3).1 (TX13 3).2.1 (TX13 3).2.2.1 ∈ aTB := aTB_of (wi_7 _ (List.mem_of_getElem? (i := 105) rfl)) rfl
theorem wg_X14_292 : Cond.fieldLinkNest RX14 292 (TX13 3).1 (TX13 3).2.1 (TX13 3).2.2.1 "SteeringHouseModel" ∈ lw_tbl := wi_7 _ (List.mem_of_getElem? (i := 106) rfl)
theorem wf_X13_24 : Cond.fieldLink RX13 24 (TX13 4).1 (TX13 4).2.1 (TX13 4).2.2.1 ∈ aTB := aTB_of (wi_7 _ (List.mem_of_getElem? (i := 107) rfl)) rfl
theorem wg_X14_301 : Cond.fieldLinkNest RX14 301 (TX13 4).1 (TX13 4).2.1 (TX13 4).2.2.1 "SteeringHouseModel" ∈ lw_tbl := wi_7 _ (List.mem_of_getElem? (i := 108) rfl)
theorem wf_X13_27 : Cond.fieldLink RX13 27 (TX13 5).1 (TX13 5).2.1 (TX13 5).2.2.1 ∈ aTB := aTB_of (wi_7 _ (List.mem_of_getElem? (i := 109) rfl)) rfl
theorem wg_X14_255 : Cond.fieldLinkNest RX14 255 (TX13 5).1 (TX13 5).2.1 (TX13 5).2.2.1 "SteeringHouseModel" ∈ lw_tbl := wi_7 _ (List.mem_of_getElem? (i := 110) rfl)
theorem wf_X13_49 : Cond.fieldLink RX13 49 (TX13 6).1 (TX13 6).2.1 (TX13 6).2.2.1 ∈ aTB := aTB_of (wi_7 _ (List.mem_of_getElem? (i := 111) rfl)) rfl
theorem wg_X14_320 : Cond.fieldLinkNest RX14 320 (TX13 6).1 (TX13 6).2.1 (TX13 6).2.2.1 "SteeringHouseModel" ∈ lw_tbl := wi_7 _ (List.mem_of_getElem? (i := 112) rfl)
theorem wf_X13_53 : Cond.fieldLink RX13 53 (TX13 7).1 (TX13 7).2.1 (TX13 7).2.2.1 ∈ aTB := aTB_of (wi_7 _ (List.mem_of_getElem? (i := 113) rfl)) rfl
theorem wg_X14_295 : Cond.fieldLinkNest RX14 295 (TX13 7).1 (TX13 7).2.1 (TX13 7).2.2.1 "SteeringHouseModel" ∈ lw_tbl := wi_7 _ (List.mem_of_getElem? (i := 114) rfl)
theorem wf_X13_31 : Cond.fieldLink RX13 31 (TX13 8).1 (TX13 8).2.1 (TX13 8).2.2.1 ∈ aTB := aTB_of (wi_7 _ (List.mem_of_getElem? (i := 115) rfl)) rfl
theorem wg_X14_323 : Cond.fieldLinkNest RX14 323 (TX13 8).1 (TX13 8).2.1 (TX13 8).2.2.1 "SteeringHouseModel" ∈ lw_tbl := wi_7 _ (List.mem_of_getElem? (i := 116) rfl)
theorem wf_X13_34 : Cond.fieldLink RX13 34 (TX13 9).1 (TX13 9).2.1 (TX13 9).2.2.1 ∈ aTB := aTB_of (wi_7 _ (List.mem_of_getElem? (i := 117) rfl)) rfl
theorem wg_X14_326 : Cond.fieldLinkNest RX14 326 (TX13 9).1 (TX13 9).2.1 (TX13 9).2.2.1 "SteeringHouseModel" ∈ lw_tbl := wi_7 _ (List.mem_of_getElem? (i := 118) rfl)
theorem wf_X13_37 : Cond.fieldLink RX13 37 (TX13 10).1 (TX13 10).2.1 (TX13 10).2.2.1 ∈ aTB := aTB_of (wi_7 _ (List.mem_of_getElem? (i := 119) rfl)) rfl
theorem wg_X14_329 : Cond.fieldLinkNest RX14 329 (TX13 10).1 (TX13 10).2.1 (TX13 10).2.2.1 "SteeringHouseModel" ∈ lw_tbl := wi_7 _ (List.mem_of_getElem? (i := 120) rfl)
theorem wf_X13_40 : Cond.fieldLink RX13 40 (TX13 11).1 (TX13 11).2.1 (TX13 11).2.2.1 ∈ aTB := aTB_of (wi_7 _ (List.mem_of_getElem? (i := 121) rfl)) rfl
theorem wg_X14_335 : Cond.fieldLinkNest RX14 335 (TX13 11).1 (TX13 11).2.1 (TX13 11).2.2.1 "SteeringHouseModel" ∈ lw_tbl := wi_7 _ (List.mem_of_getElem? (i := 122) rfl)
theorem wf_X13_43 : Cond.fieldLink RX13 43 (TX13 12).1 (TX13 12).2.1 (TX13 12).2.2.1 ∈ aTB := aTB_of (wi_7 _ (List.mem_of_getElem? (i := 123) rfl)) rfl
theorem wg_X14_430 : Cond.fieldLinkNest RX14 430 (TX13 12).1 (TX13 12).2.1 (TX13 12).2.2.1 "SteeringHouseModel" ∈ lw_tbl := wi_7 _ (List.mem_of_getElem? (i := 124) rfl)
theorem wf_X13_46 : Cond.fieldLink RX13 46 (TX13 13).1 (TX13 13).2.1 (TX13 13).2.2.1 ∈ aTB := aTB_of (wi_7 _ (List.mem_of_getElem? (i := 125) rfl)) rfl
theorem wg_X14_433 : Cond.fieldLinkNest RX14 433 (TX13 13).1 (TX13 13).2.1 (TX13 13).2.2.1 "SteeringHouseModel" ∈ lw_tbl := wi_7 _ (List.mem_of_getElem? (i := 126) rfl)
theorem wk_X14_20 : Cond.classLink RX14 20 RX12 ∈ aTB := aTB_of (wi_7 _ (List.mem_of_getElem? (i := 156) rfl)) rfl
theorem wj_X12 : Cond.instantiable RX12 8 ∈ aTB := aTB_of (wi_7 _ (List.mem_of_getElem? (i := 157) rfl)) rfl
theorem wq_SteeringHouseModel_Stop_SteeringHouseModel_Stop : Cond.castable RX12 RX12 ∈ lw_tbl := wi_7 _ (List.mem_of_getElem? (i := 158) rfl)
theorem wm_X14_22 : Cond.methodLink RX14 22 yX12_init ∈ aTB := aTB_of (wi_7 _ (List.mem_of_getElem? (i := 165) rfl)) rfl
theorem wi_X12_init : Cond.instanceMethod yX12_init ∈ aTB := aTB_of (wi_7 _ (List.mem_of_getElem? (i := 166) rfl)) rfl
theorem wc_X12_init : Cond.code yX12_init cX12_init 1 none ∈ aTB := aTB_of (wi_7 _ (List.mem_of_getElem? (i := 167) rfl)) rfl
theorem wg_X14_163 : Cond.fieldLinkNest RX14 163 (TX12 6).1 (TX12 6).2.1 (TX12 6).2.2.1 "SteeringHouseModel" ∈ lw_tbl := wi_7 _ (List.mem_of_getElem? (i := 177) rfl)
theorem wg_X14_166 : Cond.fieldLinkNest RX14 166 (TX12 7).1 (TX12 7).2.1 (TX12 7).2.2.1 "SteeringHouseModel" ∈ lw_tbl := wi_7 _ (List.mem_of_getElem? (i := 178) rfl)
theorem wv_X14_54 : Cond.constant RX14 54 (97200) ∈ aTB := aTB_of (wi_7 _ (List.mem_of_getElem? (i := 185) rfl)) rfl
theorem wv_X14_59 : Cond.constant RX14 59 (46800) ∈ aTB := aTB_of (wi_7 _ (List.mem_of_getElem? (i := 186) rfl)) rfl
theorem wf_X14_154 : Cond.fieldLink RX14 154 (TX14 0).1 (TX14 0).2.1 (TX14 0).2.2.1 ∈ aTB := aTB_of (wi_7 _ (List.mem_of_getElem? (i := 187) rfl)) rfl
theorem wf_X14_157 : Cond.fieldLink RX14 157 (TX14 1).1 (TX14 1).2.1 (TX14 1).2.2.1 ∈ aTB := aTB_of (wi_7 _ (List.mem_of_getElem? (i := 188) rfl)) rfl
theorem wf_X14_9 : Cond.fieldLink RX14 9 (TX14 2).1 (TX14 2).2.1 (TX14 2).2.2.1 ∈ aTB := aTB_of (wi_7 _ (List.mem_of_getElem? (i := 189) rfl)) rfl
theorem wf_X14_357 : Cond.fieldLink RX14 357 (TX14 3).1 (TX14 3).2.1 (TX14 3).2.2.1 ∈ aTB := aTB_of (wi_7 _ (List.mem_of_getElem? (i := 190) rfl)) rfl
theorem wf_X14_376 : Cond.fieldLink RX14 376 (TX14 4).1 (TX14 4).2.1 (TX14 4).2.2.1 ∈ aTB := aTB_of (wi_7 _ (List.mem_of_getElem? (i := 191) rfl)) rfl
theorem wf_X14_16 : Cond.fieldLink RX14 16 (TX14 5).1 (TX14 5).2.1 (TX14 5).2.2.1 ∈ aTB := aTB_of (wi_7 _ (List.mem_of_getElem? (i := 192) rfl)) rfl
theorem wf_X14_249 : Cond.fieldLink RX14 249 (TX14 6).1 (TX14 6).2.1 (TX14 6).2.2.1 ∈ aTB := aTB_of (wi_7 _ (List.mem_of_getElem? (i := 193) rfl)) rfl
theorem wf_X14_23 : Cond.fieldLink RX14 23 (TX14 7).1 (TX14 7).2.1 (TX14 7).2.2.1 ∈ aTB := aTB_of (wi_7 _ (List.mem_of_getElem? (i := 194) rfl)) rfl
theorem wf_X14_27 : Cond.fieldLink RX14 27 (TX14 8).1 (TX14 8).2.1 (TX14 8).2.2.1 ∈ aTB := aTB_of (wi_7 _ (List.mem_of_getElem? (i := 195) rfl)) rfl
theorem wf_X14_354 : Cond.fieldLink RX14 354 (TX14 9).1 (TX14 9).2.1 (TX14 9).2.2.1 ∈ aTB := aTB_of (wi_7 _ (List.mem_of_getElem? (i := 196) rfl)) rfl
theorem wf_X14_174 : Cond.fieldLink RX14 174 (TX14 10).1 (TX14 10).2.1 (TX14 10).2.2.1 ∈ aTB := aTB_of (wi_7 _ (List.mem_of_getElem? (i := 197) rfl)) rfl
theorem wf_X14_189 : Cond.fieldLink RX14 189 (TX14 11).1 (TX14 11).2.1 (TX14 11).2.2.1 ∈ aTB := aTB_of (wi_7 _ (List.mem_of_getElem? (i := 198) rfl)) rfl
theorem wf_X14_196 : Cond.fieldLink RX14 196 (TX14 12).1 (TX14 12).2.1 (TX14 12).2.2.1 ∈ aTB := aTB_of (wi_7 _ (List.mem_of_getElem? (i := 199) rfl)) rfl
theorem wf_X14_169 : Cond.fieldLink RX14 169 (TX14 13).1 (TX14 13).2.1 (TX14 13).2.2.1 ∈ aTB := aTB_of (wi_7 _ (List.mem_of_getElem? (i := 200) rfl)) rfl
theorem wf_X14_199 : Cond.fieldLink RX14 199 (TX14 14).1 (TX14 14).2.1 (TX14 14).2.2.1 ∈ aTB := aTB_of (wi_7 _ (List.mem_of_getElem? (i := 201) rfl)) rfl
theorem wf_X14_213 : Cond.fieldLink RX14 213 (TX14 15).1 (TX14 15).2.1 (TX14 15).2.2.1 ∈ aTB := aTB_of (wi_7 _ (List.mem_of_getElem? (i := 202) rfl)) rfl
theorem wf_X14_351 : Cond.fieldLink RX14 351 (TX14 16).1 (TX14 16).2.1 (TX14 16).2.2.1 ∈ aTB := aTB_of (wi_7 _ (List.mem_of_getElem? (i := 203) rfl)) rfl
theorem wf_X14_289 : Cond.fieldLink RX14 289 (TX14 17).1 (TX14 17).2.1 (TX14 17).2.2.1 ∈ aTB := aTB_of (wi_7 _ (List.mem_of_getElem? (i := 204) rfl)) rfl
theorem wf_X14_206 : Cond.fieldLink RX14 206 (TX14 18).1 (TX14 18).2.1 (TX14 18).2.2.1 ∈ aTB := aTB_of (wi_7 _ (List.mem_of_getElem? (i := 205) rfl)) rfl
theorem wf_X14_31 : Cond.fieldLink RX14 31 (TX14 19).1 (TX14 19).2.1 (TX14 19).2.2.1 ∈ aTB := aTB_of (wi_7 _ (List.mem_of_getElem? (i := 206) rfl)) rfl
theorem wf_X14_379 : Cond.fieldLink RX14 379 (TX14 20).1 (TX14 20).2.1 (TX14 20).2.2.1 ∈ aTB := aTB_of (wi_7 _ (List.mem_of_getElem? (i := 207) rfl)) rfl
theorem wf_X14_382 : Cond.fieldLink RX14 382 (TX14 21).1 (TX14 21).2.1 (TX14 21).2.2.1 ∈ aTB := aTB_of (wi_7 _ (List.mem_of_getElem? (i := 208) rfl)) rfl
theorem wf_X14_388 : Cond.fieldLink RX14 388 (TX14 22).1 (TX14 22).2.1 (TX14 22).2.2.1 ∈ aTB := aTB_of (wi_7 _ (List.mem_of_getElem? (i := 209) rfl)) rfl
theorem wf_X14_385 : Cond.fieldLink RX14 385 (TX14 23).1 (TX14 23).2.1 (TX14 23).2.2.1 ∈ aTB := aTB_of (wi_7 _ (List.mem_of_getElem? (i := 210) rfl)) rfl
theorem wf_X14_391 : Cond.fieldLink RX14 391 (TX14 24).1 (TX14 24).2.1 (TX14 24).2.2.1 ∈ aTB := aTB_of (wi_7 _ (List.mem_of_getElem? (i := 211) rfl)) rfl
theorem wf_X14_409 : Cond.fieldLink RX14 409 (TX14 25).1 (TX14 25).2.1 (TX14 25).2.2.1 ∈ aTB := aTB_of (wi_7 _ (List.mem_of_getElem? (i := 212) rfl)) rfl
theorem wf_X14_34 : Cond.fieldLink RX14 34 (TX14 26).1 (TX14 26).2.1 (TX14 26).2.2.1 ∈ aTB := aTB_of (wi_7 _ (List.mem_of_getElem? (i := 213) rfl)) rfl
theorem wf_X14_37 : Cond.fieldLink RX14 37 (TX14 27).1 (TX14 27).2.1 (TX14 27).2.2.1 ∈ aTB := aTB_of (wi_7 _ (List.mem_of_getElem? (i := 214) rfl)) rfl
theorem wf_X14_41 : Cond.fieldLink RX14 41 (TX14 28).1 (TX14 28).2.1 (TX14 28).2.2.1 ∈ aTB := aTB_of (wi_7 _ (List.mem_of_getElem? (i := 215) rfl)) rfl
theorem wf_X14_44 : Cond.fieldLink RX14 44 (TX14 29).1 (TX14 29).2.1 (TX14 29).2.2.1 ∈ aTB := aTB_of (wi_7 _ (List.mem_of_getElem? (i := 216) rfl)) rfl
theorem wf_X14_48 : Cond.fieldLink RX14 48 (TX14 30).1 (TX14 30).2.1 (TX14 30).2.2.1 ∈ aTB := aTB_of (wi_7 _ (List.mem_of_getElem? (i := 217) rfl)) rfl
theorem wf_X14_51 : Cond.fieldLink RX14 51 (TX14 31).1 (TX14 31).2.1 (TX14 31).2.2.1 ∈ aTB := aTB_of (wi_7 _ (List.mem_of_getElem? (i := 218) rfl)) rfl
theorem wf_X14_394 : Cond.fieldLink RX14 394 (TX14 32).1 (TX14 32).2.1 (TX14 32).2.2.1 ∈ aTB := aTB_of (wi_7 _ (List.mem_of_getElem? (i := 219) rfl)) rfl
theorem wf_X14_55 : Cond.fieldLink RX14 55 (TX14 33).1 (TX14 33).2.1 (TX14 33).2.2.1 ∈ aTB := aTB_of (wi_7 _ (List.mem_of_getElem? (i := 220) rfl)) rfl
theorem wf_X14_60 : Cond.fieldLink RX14 60 (TX14 34).1 (TX14 34).2.1 (TX14 34).2.2.1 ∈ aTB := aTB_of (wi_7 _ (List.mem_of_getElem? (i := 221) rfl)) rfl
theorem wf_X14_63 : Cond.fieldLink RX14 63 (TX14 35).1 (TX14 35).2.1 (TX14 35).2.2.1 ∈ aTB := aTB_of (wi_7 _ (List.mem_of_getElem? (i := 222) rfl)) rfl
theorem wf_X14_66 : Cond.fieldLink RX14 66 (TX14 36).1 (TX14 36).2.1 (TX14 36).2.2.1 ∈ aTB := aTB_of (wi_7 _ (List.mem_of_getElem? (i := 223) rfl)) rfl
theorem wf_X14_69 : Cond.fieldLink RX14 69 (TX14 37).1 (TX14 37).2.1 (TX14 37).2.2.1 ∈ aTB := aTB_of (wi_7 _ (List.mem_of_getElem? (i := 224) rfl)) rfl
theorem wf_X14_72 : Cond.fieldLink RX14 72 (TX14 38).1 (TX14 38).2.1 (TX14 38).2.2.1 ∈ aTB := aTB_of (wi_7 _ (List.mem_of_getElem? (i := 225) rfl)) rfl
theorem wf_X14_75 : Cond.fieldLink RX14 75 (TX14 39).1 (TX14 39).2.1 (TX14 39).2.2.1 ∈ aTB := aTB_of (wi_7 _ (List.mem_of_getElem? (i := 226) rfl)) rfl
theorem wf_X14_78 : Cond.fieldLink RX14 78 (TX14 40).1 (TX14 40).2.1 (TX14 40).2.2.1 ∈ aTB := aTB_of (wi_7 _ (List.mem_of_getElem? (i := 227) rfl)) rfl
theorem wf_X14_81 : Cond.fieldLink RX14 81 (TX14 41).1 (TX14 41).2.1 (TX14 41).2.2.1 ∈ aTB := aTB_of (wi_7 _ (List.mem_of_getElem? (i := 228) rfl)) rfl
theorem wf_X14_84 : Cond.fieldLink RX14 84 (TX14 42).1 (TX14 42).2.1 (TX14 42).2.2.1 ∈ aTB := aTB_of (wi_7 _ (List.mem_of_getElem? (i := 229) rfl)) rfl
theorem wf_X14_87 : Cond.fieldLink RX14 87 (TX14 43).1 (TX14 43).2.1 (TX14 43).2.2.1 ∈ aTB := aTB_of (wi_7 _ (List.mem_of_getElem? (i := 230) rfl)) rfl
theorem wf_X14_90 : Cond.fieldLink RX14 90 (TX14 44).1 (TX14 44).2.1 (TX14 44).2.2.1 ∈ aTB := aTB_of (wi_7 _ (List.mem_of_getElem? (i := 231) rfl)) rfl
theorem wf_X14_94 : Cond.fieldLink RX14 94 (TX14 45).1 (TX14 45).2.1 (TX14 45).2.2.1 ∈ aTB := aTB_of (wi_7 _ (List.mem_of_getElem? (i := 232) rfl)) rfl
theorem wf_X14_97 : Cond.fieldLink RX14 97 (TX14 46).1 (TX14 46).2.1 (TX14 46).2.2.1 ∈ aTB := aTB_of (wi_7 _ (List.mem_of_getElem? (i := 233) rfl)) rfl
theorem wf_X14_100 : Cond.fieldLink RX14 100 (TX14 47).1 (TX14 47).2.1 (TX14 47).2.2.1 ∈ aTB := aTB_of (wi_7 _ (List.mem_of_getElem? (i := 234) rfl)) rfl
theorem wf_X14_103 : Cond.fieldLink RX14 103 (TX14 48).1 (TX14 48).2.1 (TX14 48).2.2.1 ∈ aTB := aTB_of (wi_7 _ (List.mem_of_getElem? (i := 235) rfl)) rfl
theorem wf_X14_106 : Cond.fieldLink RX14 106 (TX14 49).1 (TX14 49).2.1 (TX14 49).2.2.1 ∈ aTB := aTB_of (wi_7 _ (List.mem_of_getElem? (i := 236) rfl)) rfl
theorem wf_X14_543 : Cond.fieldLink RX14 543 (TX14 50).1 (TX14 50).2.1 (TX14 50).2.2.1 ∈ aTB := aTB_of (wi_7 _ (List.mem_of_getElem? (i := 237) rfl)) rfl
theorem wf_X14_109 : Cond.fieldLink RX14 109 (TX14 51).1 (TX14 51).2.1 (TX14 51).2.2.1 ∈ aTB := aTB_of (wi_7 _ (List.mem_of_getElem? (i := 238) rfl)) rfl
theorem wf_X14_112 : Cond.fieldLink RX14 112 (TX14 52).1 (TX14 52).2.1 (TX14 52).2.2.1 ∈ aTB := aTB_of (wi_7 _ (List.mem_of_getElem? (i := 239) rfl)) rfl
theorem wf_X14_115 : Cond.fieldLink RX14 115 (TX14 53).1 (TX14 53).2.1 (TX14 53).2.2.1 ∈ aTB := aTB_of (wi_8 _ (List.mem_of_getElem? (i := 0) rfl)) rfl
theorem wf_X14_118 : Cond.fieldLink RX14 118 (TX14 54).1 (TX14 54).2.1 (TX14 54).2.2.1 ∈ aTB := aTB_of (wi_8 _ (List.mem_of_getElem? (i := 1) rfl)) rfl
theorem wf_X14_121 : Cond.fieldLink RX14 121 (TX14 55).1 (TX14 55).2.1 (TX14 55).2.2.1 ∈ aTB := aTB_of (wi_8 _ (List.mem_of_getElem? (i := 2) rfl)) rfl
theorem wf_X14_593 : Cond.fieldLink RX14 593 (TX14 56).1 (TX14 56).2.1 (TX14 56).2.2.1 ∈ aTB := aTB_of (wi_8 _ (List.mem_of_getElem? (i := 3) rfl)) rfl
theorem wf_X14_124 : Cond.fieldLink RX14 124 (TX14 57).1 (TX14 57).2.1 (TX14 57).2.2.1 ∈ aTB := aTB_of (wi_8 _ (List.mem_of_getElem? (i := 4) rfl)) rfl
theorem wf_X14_127 : Cond.fieldLink RX14 127 (TX14 58).1 (TX14 58).2.1 (TX14 58).2.2.1 ∈ aTB := aTB_of (wi_8 _ (List.mem_of_getElem? (i := 5) rfl)) rfl
theorem wf_X14_471 : Cond.fieldLink RX14 471 (TX14 59).1 (TX14 59).2.1 (TX14 59).2.2.1 ∈ aTB := aTB_of (wi_8 _ (List.mem_of_getElem? (i := 6) rfl)) rfl
theorem wf_X14_130 : Cond.fieldLink RX14 130 (TX14 60).1 (TX14 60).2.1 (TX14 60).2.2.1 ∈ aTB := aTB_of (wi_8 _ (List.mem_of_getElem? (i := 7) rfl)) rfl
theorem wf_X14_133 : Cond.fieldLink RX14 133 (TX14 61).1 (TX14 61).2.1 (TX14 61).2.2.1 ∈ aTB := aTB_of (wi_8 _ (List.mem_of_getElem? (i := 8) rfl)) rfl
theorem wf_X14_136 : Cond.fieldLink RX14 136 (TX14 62).1 (TX14 62).2.1 (TX14 62).2.2.1 ∈ aTB := aTB_of (wi_8 _ (List.mem_of_getElem? (i := 9) rfl)) rfl
theorem wf_X14_139 : Cond.fieldLink RX14 139 (TX14 63).1 (TX14 63).2.1 (TX14 63).2.2.1 ∈ aTB := aTB_of (wi_8 _ (List.mem_of_getElem? (i := 10) rfl)) rfl
theorem wf_X14_142 : Cond.fieldLink RX14 142 (TX14 64).1 (TX14 64).2.1 (TX14 64).2.2.1 ∈ aTB := aTB_of (wi_8 _ (List.mem_of_getElem? (i := 11) rfl)) rfl
theorem wf_X14_145 : Cond.fieldLink RX14 145 (TX14 65).1 (TX14 65).2.1 (TX14 65).2.2.1 ∈ aTB := aTB_of (wi_8 _ (List.mem_of_getElem? (i := 12) rfl)) rfl
theorem wf_X14_148 : Cond.fieldLink RX14 148 (TX14 66).1 (TX14 66).2.1 (TX14 66).2.2.1 ∈ aTB := aTB_of (wi_8 _ (List.mem_of_getElem? (i := 13) rfl)) rfl
theorem wf_X14_397 : Cond.fieldLink RX14 397 (TX14 67).1 (TX14 67).2.1 (TX14 67).2.2.1 ∈ aTB := aTB_of (wi_8 _ (List.mem_of_getElem? (i := 14) rfl)) rfl
theorem wf_X14_400 : Cond.fieldLink RX14 400 (TX14 68).1 (TX14 68).2.1 (TX14 68).2.2.1 ∈ aTB := aTB_of (wi_8 _ (List.mem_of_getElem? (i := 15) rfl)) rfl
theorem wf_X14_151 : Cond.fieldLink RX14 151 (TX14 69).1 (TX14 69).2.1 (TX14 69).2.2.1 ∈ aTB := aTB_of (wi_8 _ (List.mem_of_getElem? (i := 16) rfl)) rfl
theorem wa_boolean : Cond.arrayClass .boolean ∈ aTB := aTB_of (wi_8 _ (List.mem_of_getElem? (i := 158) rfl)) rfl
theorem wa_short : Cond.arrayClass .short ∈ aTB := aTB_of (wi_8 _ (List.mem_of_getElem? (i := 159) rfl)) rfl
theorem wm_L_110 : Cond.methodLink RL 110 yX14_thrown ∈ aTB := aTB_of (wi_8 _ (List.mem_of_getElem? (i := 160) rfl)) rfl
theorem wi_X14_thrown : Cond.instanceMethod yX14_thrown ∈ aTB := aTB_of (wi_8 _ (List.mem_of_getElem? (i := 161) rfl)) rfl
theorem ws_X14_thrown : Cond.selects yX14_thrown.cls yX14_thrown yX14_thrown ∈ aTB := aTB_of (wi_8 _ (List.mem_of_getElem? (i := 162) rfl)) rfl
theorem wc_X14_thrown : Cond.code yX14_thrown cX14_thrown 1 (some FieldType.int) ∈ aTB := aTB_of (wi_8 _ (List.mem_of_getElem? (i := 163) rfl)) rfl
theorem wm_L_23 : Cond.methodLink RL 23 yX14_feed ∈ aTB := aTB_of (wi_8 _ (List.mem_of_getElem? (i := 164) rfl)) rfl
theorem wi_X14_feed : Cond.instanceMethod yX14_feed ∈ aTB := aTB_of (wi_8 _ (List.mem_of_getElem? (i := 165) rfl)) rfl
theorem ws_X14_feed : Cond.selects yX14_feed.cls yX14_feed yX14_feed ∈ aTB := aTB_of (wi_8 _ (List.mem_of_getElem? (i := 166) rfl)) rfl
theorem wc_X14_feed : Cond.code yX14_feed cX14_feed 8 (some FieldType.int) ∈ aTB := aTB_of (wi_8 _ (List.mem_of_getElem? (i := 167) rfl)) rfl
theorem wm_L_28 : Cond.methodLink RL 28 yX14_thing ∈ aTB := aTB_of (wi_8 _ (List.mem_of_getElem? (i := 168) rfl)) rfl
theorem wi_X14_thing : Cond.instanceMethod yX14_thing ∈ aTB := aTB_of (wi_8 _ (List.mem_of_getElem? (i := 169) rfl)) rfl
theorem ws_X14_thing : Cond.selects yX14_thing.cls yX14_thing yX14_thing ∈ aTB := aTB_of (wi_8 _ (List.mem_of_getElem? (i := 170) rfl)) rfl
theorem wc_X14_thing : Cond.codeWith yX14_thing cX14_thing 4 (some FieldType.int) [((38 : Nat), (47 : Nat), (50 : Nat), (20 : Nat))] ∈ aTB := aTB_of (wi_8 _ (List.mem_of_getElem? (i := 171) rfl)) rfl
theorem wm_X14_360 : Cond.methodLink RX14 360 yX14_refused ∈ aTB := aTB_of (wi_8 _ (List.mem_of_getElem? (i := 172) rfl)) rfl
theorem wi_X14_refused : Cond.instanceMethod yX14_refused ∈ aTB := aTB_of (wi_8 _ (List.mem_of_getElem? (i := 174) rfl)) rfl
theorem wc_X14_refused : Cond.code yX14_refused cX14_refused 2 (some FieldType.int) ∈ aTB := aTB_of (wi_8 _ (List.mem_of_getElem? (i := 175) rfl)) rfl
theorem wm_X14_363 : Cond.methodLink RX14 363 yX13_clear ∈ aTB := aTB_of (wi_8 _ (List.mem_of_getElem? (i := 176) rfl)) rfl
theorem wi_X13_clear : Cond.instanceMethod yX13_clear ∈ aTB := aTB_of (wi_8 _ (List.mem_of_getElem? (i := 177) rfl)) rfl
theorem ws_X13_clear : Cond.selects yX13_clear.cls yX13_clear yX13_clear ∈ aTB := aTB_of (wi_8 _ (List.mem_of_getElem? (i := 178) rfl)) rfl
theorem wc_X13_clear : Cond.code yX13_clear cX13_clear 2 none ∈ aTB := aTB_of (wi_8 _ (List.mem_of_getElem? (i := 179) rfl)) rfl
theorem wm_X14_366 : Cond.methodLink RX14 366 yX14_begins ∈ aTB := aTB_of (wi_8 _ (List.mem_of_getElem? (i := 180) rfl)) rfl
theorem wi_X14_begins : Cond.instanceMethod yX14_begins ∈ aTB := aTB_of (wi_8 _ (List.mem_of_getElem? (i := 182) rfl)) rfl
theorem wc_X14_begins : Cond.code yX14_begins cX14_begins 2 none ∈ aTB := aTB_of (wi_8 _ (List.mem_of_getElem? (i := 183) rfl)) rfl
theorem wm_X14_263 : Cond.methodLink RX14 263 yX14_next ∈ aTB := aTB_of (wi_8 _ (List.mem_of_getElem? (i := 184) rfl)) rfl
theorem wi_X14_next : Cond.instanceMethod yX14_next ∈ aTB := aTB_of (wi_8 _ (List.mem_of_getElem? (i := 186) rfl)) rfl
theorem wc_X14_next : Cond.code yX14_next cX14_next 3 none ∈ aTB := aTB_of (wi_8 _ (List.mem_of_getElem? (i := 187) rfl)) rfl
theorem wm_X14_192 : Cond.methodLink RX14 192 yX14_byteAt ∈ aTB := aTB_of (wi_8 _ (List.mem_of_getElem? (i := 188) rfl)) rfl
theorem wi_X14_byteAt : Cond.instanceMethod yX14_byteAt ∈ aTB := aTB_of (wi_8 _ (List.mem_of_getElem? (i := 190) rfl)) rfl
theorem wc_X14_byteAt : Cond.code yX14_byteAt cX14_byteAt 2 (some FieldType.int) ∈ aTB := aTB_of (wi_8 _ (List.mem_of_getElem? (i := 191) rfl)) rfl
theorem wm_X14_202 : Cond.methodLink RX14 202 yX14_isLetter ∈ aTB := aTB_of (wi_8 _ (List.mem_of_getElem? (i := 192) rfl)) rfl
theorem wt_X14_isLetter : Cond.static yX14_isLetter ∈ aTB := aTB_of (wi_8 _ (List.mem_of_getElem? (i := 193) rfl)) rfl
theorem wc_X14_isLetter : Cond.code yX14_isLetter cX14_isLetter 1 (some FieldType.boolean) ∈ aTB := aTB_of (wi_8 _ (List.mem_of_getElem? (i := 194) rfl)) rfl
theorem wv_X14_183 : Cond.constantLong RX14 183 (32) ∈ aTB := aTB_of (wi_8 _ (List.mem_of_getElem? (i := 195) rfl)) rfl
theorem wm_X14_210 : Cond.methodLink RX14 210 yX14_isDigit ∈ aTB := aTB_of (wi_8 _ (List.mem_of_getElem? (i := 196) rfl)) rfl
theorem wt_X14_isDigit : Cond.static yX14_isDigit ∈ aTB := aTB_of (wi_8 _ (List.mem_of_getElem? (i := 197) rfl)) rfl
theorem wc_X14_isDigit : Cond.code yX14_isDigit cX14_isDigit 1 (some FieldType.boolean) ∈ aTB := aTB_of (wi_8 _ (List.mem_of_getElem? (i := 198) rfl)) rfl
theorem wm_X14_216 : Cond.methodLink RX14 216 yX14_isMark ∈ aTB := aTB_of (wi_8 _ (List.mem_of_getElem? (i := 199) rfl)) rfl
theorem wt_X14_isMark : Cond.static yX14_isMark ∈ aTB := aTB_of (wi_8 _ (List.mem_of_getElem? (i := 200) rfl)) rfl
theorem wc_X14_isMark : Cond.code yX14_isMark cX14_isMark 1 (some FieldType.boolean) ∈ aTB := aTB_of (wi_8 _ (List.mem_of_getElem? (i := 201) rfl)) rfl
theorem wm_X14_369 : Cond.methodLink RX14 369 yX14_readThing ∈ aTB := aTB_of (wi_8 _ (List.mem_of_getElem? (i := 202) rfl)) rfl
theorem wi_X14_readThing : Cond.instanceMethod yX14_readThing ∈ aTB := aTB_of (wi_8 _ (List.mem_of_getElem? (i := 204) rfl)) rfl
theorem wc_X14_readThing : Cond.code yX14_readThing cX14_readThing 2 none ∈ aTB := aTB_of (wi_8 _ (List.mem_of_getElem? (i := 205) rfl)) rfl
theorem wm_X14_257 : Cond.methodLink RX14 257 yX14_readLine ∈ aTB := aTB_of (wi_8 _ (List.mem_of_getElem? (i := 206) rfl)) rfl
theorem wi_X14_readLine : Cond.instanceMethod yX14_readLine ∈ aTB := aTB_of (wi_8 _ (List.mem_of_getElem? (i := 208) rfl)) rfl
theorem wc_X14_readLine : Cond.code yX14_readLine cX14_readLine 3 none ∈ aTB := aTB_of (wi_8 _ (List.mem_of_getElem? (i := 209) rfl)) rfl
theorem wm_X14_266 : Cond.methodLink RX14 266 yX14_stop ∈ aTB := aTB_of (wi_8 _ (List.mem_of_getElem? (i := 210) rfl)) rfl
theorem wi_X14_stop : Cond.instanceMethod yX14_stop ∈ aTB := aTB_of (wi_8 _ (List.mem_of_getElem? (i := 212) rfl)) rfl
theorem wc_X14_stop : Cond.code yX14_stop cX14_stop 2 (some (FieldType.object "SteeringHouseModel$Stop")) ∈ aTB := aTB_of (wi_8 _ (List.mem_of_getElem? (i := 213) rfl)) rfl
theorem wm_X14_170 : Cond.methodLink RX14 170 yX14_stopAt ∈ aTB := aTB_of (wi_8 _ (List.mem_of_getElem? (i := 214) rfl)) rfl
theorem wi_X14_stopAt : Cond.instanceMethod yX14_stopAt ∈ aTB := aTB_of (wi_8 _ (List.mem_of_getElem? (i := 216) rfl)) rfl
theorem wc_X14_stopAt : Cond.code yX14_stopAt cX14_stopAt 3 (some (FieldType.object "SteeringHouseModel$Stop")) ∈ aTB := aTB_of (wi_8 _ (List.mem_of_getElem? (i := 217) rfl)) rfl
theorem wm_X14_237 : Cond.methodLink RX14 237 yX14_kindHere ∈ aTB := aTB_of (wi_8 _ (List.mem_of_getElem? (i := 218) rfl)) rfl
theorem wi_X14_kindHere : Cond.instanceMethod yX14_kindHere ∈ aTB := aTB_of (wi_8 _ (List.mem_of_getElem? (i := 220) rfl)) rfl
theorem wc_X14_kindHere : Cond.code yX14_kindHere cX14_kindHere 1 (some FieldType.int) ∈ aTB := aTB_of (wi_8 _ (List.mem_of_getElem? (i := 221) rfl)) rfl
theorem wm_X14_225 : Cond.methodLink RX14 225 yX14_isWord ∈ aTB := aTB_of (wi_8 _ (List.mem_of_getElem? (i := 223) rfl)) rfl
theorem wi_X14_isWord : Cond.instanceMethod yX14_isWord ∈ aTB := aTB_of (wi_8 _ (List.mem_of_getElem? (i := 225) rfl)) rfl
theorem wc_X14_isWord : Cond.code yX14_isWord cX14_isWord 2 (some FieldType.boolean) ∈ aTB := aTB_of (wi_8 _ (List.mem_of_getElem? (i := 226) rfl)) rfl
theorem wm_X14_219 : Cond.methodLink RX14 219 yX14_wordOf ∈ aTB := aTB_of (wi_8 _ (List.mem_of_getElem? (i := 227) rfl)) rfl
theorem wt_X14_wordOf : Cond.static yX14_wordOf ∈ aTB := aTB_of (wi_8 _ (List.mem_of_getElem? (i := 228) rfl)) rfl
theorem wc_X14_wordOf : Cond.code yX14_wordOf cX14_wordOf 4 (some FieldType.long) ∈ aTB := aTB_of (wi_8 _ (List.mem_of_getElem? (i := 229) rfl)) rfl
theorem wm_X14_177 : Cond.methodLink RX14 177 yJ0_length_8abf5 ∈ aTB := aTB_of (wi_8 _ (List.mem_of_getElem? (i := 230) rfl)) rfl
theorem wi_J0_length_8abf5 : Cond.instanceMethod yJ0_length_8abf5 ∈ aTB := aTB_of (wi_8 _ (List.mem_of_getElem? (i := 231) rfl)) rfl
theorem ws_J0_length_8abf5 : Cond.selects yJ0_length_8abf5.cls yJ0_length_8abf5 yJ0_length_8abf5 ∈ aTB := aTB_of (wi_8 _ (List.mem_of_getElem? (i := 232) rfl)) rfl
theorem wc_J0_length_8abf5 : Cond.code yJ0_length_8abf5 cJ0_length_8abf5 1 (some FieldType.int) ∈ aTB := aTB_of (wi_8 _ (List.mem_of_getElem? (i := 233) rfl)) rfl
theorem wm_J0_335 : Cond.methodLink RJ0 335 yJ0_coder_7d493 ∈ aTB := aTB_of (wi_8 _ (List.mem_of_getElem? (i := 234) rfl)) rfl
theorem wi_J0_coder_7d493 : Cond.instanceMethod yJ0_coder_7d493 ∈ aTB := aTB_of (wi_8 _ (List.mem_of_getElem? (i := 235) rfl)) rfl
theorem ws_J0_coder_7d493 : Cond.selects yJ0_coder_7d493.cls yJ0_coder_7d493 yJ0_coder_7d493 ∈ aTB := aTB_of (wi_8 _ (List.mem_of_getElem? (i := 236) rfl)) rfl
theorem wc_J0_coder_7d493 : Cond.code yJ0_coder_7d493 cJ0_coder_7d493 1 (some FieldType.byte) ∈ aTB := aTB_of (wi_8 _ (List.mem_of_getElem? (i := 237) rfl)) rfl
theorem wf_J0_38 : Cond.fieldLink RJ0 38 "java/lang/String" "COMPACT_STRINGS" "Z" ∈ aTB := aTB_of (wi_8 _ (List.mem_of_getElem? (i := 238) rfl)) rfl
theorem wm_X14_185 : Cond.methodLink RX14 185 yJ0_charAt_5068e ∈ aTB := aTB_of (wi_9 _ (List.mem_of_getElem? (i := 0) rfl)) rfl
theorem wi_J0_charAt_5068e : Cond.instanceMethod yJ0_charAt_5068e ∈ aTB := aTB_of (wi_9 _ (List.mem_of_getElem? (i := 1) rfl)) rfl
theorem ws_J0_charAt_5068e : Cond.selects yJ0_charAt_5068e.cls yJ0_charAt_5068e yJ0_charAt_5068e ∈ aTB := aTB_of (wi_9 _ (List.mem_of_getElem? (i := 2) rfl)) rfl
theorem wc_J0_charAt_5068e : Cond.code yJ0_charAt_5068e cJ0_charAt_5068e 2 (some FieldType.char) ∈ aTB := aTB_of (wi_9 _ (List.mem_of_getElem? (i := 3) rfl)) rfl
theorem wm_J0_492 : Cond.methodLink RJ0 492 yJ0_isLatin1_aae02 ∈ aTB := aTB_of (wi_9 _ (List.mem_of_getElem? (i := 4) rfl)) rfl
theorem wi_J0_isLatin1_aae02 : Cond.instanceMethod yJ0_isLatin1_aae02 ∈ aTB := aTB_of (wi_9 _ (List.mem_of_getElem? (i := 5) rfl)) rfl
theorem ws_J0_isLatin1_aae02 : Cond.selects yJ0_isLatin1_aae02.cls yJ0_isLatin1_aae02 yJ0_isLatin1_aae02 ∈ aTB := aTB_of (wi_9 _ (List.mem_of_getElem? (i := 6) rfl)) rfl
theorem wc_J0_isLatin1_aae02 : Cond.code yJ0_isLatin1_aae02 cJ0_isLatin1_aae02 1 (some FieldType.boolean) ∈ aTB := aTB_of (wi_9 _ (List.mem_of_getElem? (i := 7) rfl)) rfl
theorem wm_J0_495 : Cond.methodLink RJ0 495 yJ1_charAt_3b067 ∈ aTB := aTB_of (wi_9 _ (List.mem_of_getElem? (i := 8) rfl)) rfl
theorem wt_J1_charAt_3b067 : Cond.static yJ1_charAt_3b067 ∈ aTB := aTB_of (wi_9 _ (List.mem_of_getElem? (i := 9) rfl)) rfl
theorem wc_J1_charAt_3b067 : Cond.code yJ1_charAt_3b067 cJ1_charAt_3b067 2 (some FieldType.char) ∈ aTB := aTB_of (wi_9 _ (List.mem_of_getElem? (i := 10) rfl)) rfl
theorem wm_J1_9 : Cond.methodLink RJ1 9 yJ0_checkIndex_df160 ∈ aTB := aTB_of (wi_9 _ (List.mem_of_getElem? (i := 11) rfl)) rfl
theorem wt_J0_checkIndex_df160 : Cond.static yJ0_checkIndex_df160 ∈ aTB := aTB_of (wi_9 _ (List.mem_of_getElem? (i := 12) rfl)) rfl
theorem wc_J0_checkIndex_df160 : Cond.code yJ0_checkIndex_df160 cJ0_checkIndex_df160 2 none ∈ aTB := aTB_of (wi_9 _ (List.mem_of_getElem? (i := 13) rfl)) rfl
theorem wf_J0_1053 : Cond.fieldLink RJ0 1053 "jdk/internal/util/Preconditions" "SIOOBE_FORMATTER" "Ljava/util/function/BiFunction;" ∈ aTB := aTB_of (wi_9 _ (List.mem_of_getElem? (i := 14) rfl)) rfl
theorem wm_J0_1059 : Cond.methodLink RJ0 1059 yJ3_checkIndex_8e157 ∈ aTB := aTB_of (wi_9 _ (List.mem_of_getElem? (i := 16) rfl)) rfl
theorem wt_J3_checkIndex_8e157 : Cond.static yJ3_checkIndex_8e157 ∈ aTB := aTB_of (wi_9 _ (List.mem_of_getElem? (i := 17) rfl)) rfl
theorem wc_J3_checkIndex_8e157 : Cond.code yJ3_checkIndex_8e157 cJ3_checkIndex_8e157 3 (some FieldType.int) ∈ aTB := aTB_of (wi_9 _ (List.mem_of_getElem? (i := 18) rfl)) rfl
theorem wm_J0_498 : Cond.methodLink RJ0 498 yJ2_charAt_3b067 ∈ aTB := aTB_of (wi_9 _ (List.mem_of_getElem? (i := 19) rfl)) rfl
theorem wt_J2_charAt_3b067 : Cond.static yJ2_charAt_3b067 ∈ aTB := aTB_of (wi_9 _ (List.mem_of_getElem? (i := 20) rfl)) rfl
theorem wc_J2_charAt_3b067 : Cond.code yJ2_charAt_3b067 cJ2_charAt_3b067 2 (some FieldType.char) ∈ aTB := aTB_of (wi_9 _ (List.mem_of_getElem? (i := 21) rfl)) rfl
theorem wm_J2_67 : Cond.methodLink RJ2 67 yJ2_checkIndex_2214a ∈ aTB := aTB_of (wi_9 _ (List.mem_of_getElem? (i := 22) rfl)) rfl
theorem wt_J2_checkIndex_2214a : Cond.static yJ2_checkIndex_2214a ∈ aTB := aTB_of (wi_9 _ (List.mem_of_getElem? (i := 23) rfl)) rfl
theorem wc_J2_checkIndex_2214a : Cond.code yJ2_checkIndex_2214a cJ2_checkIndex_2214a 2 none ∈ aTB := aTB_of (wi_9 _ (List.mem_of_getElem? (i := 24) rfl)) rfl
theorem wm_J2_48 : Cond.methodLink RJ2 48 yJ2_length_9d52b ∈ aTB := aTB_of (wi_9 _ (List.mem_of_getElem? (i := 25) rfl)) rfl
theorem wt_J2_length_9d52b : Cond.static yJ2_length_9d52b ∈ aTB := aTB_of (wi_9 _ (List.mem_of_getElem? (i := 26) rfl)) rfl
theorem wc_J2_length_9d52b : Cond.code yJ2_length_9d52b cJ2_length_9d52b 1 (some FieldType.int) ∈ aTB := aTB_of (wi_9 _ (List.mem_of_getElem? (i := 27) rfl)) rfl
theorem wm_J2_414 : Cond.methodLink RJ2 414 yJ0_checkIndex_df160 ∈ aTB := aTB_of (wi_9 _ (List.mem_of_getElem? (i := 28) rfl)) rfl
theorem wm_J2_71 : Cond.methodLink RJ2 71 yJ2_getChar_3b067 ∈ aTB := aTB_of (wi_9 _ (List.mem_of_getElem? (i := 29) rfl)) rfl
theorem wt_J2_getChar_3b067 : Cond.static yJ2_getChar_3b067 ∈ aTB := aTB_of (wi_9 _ (List.mem_of_getElem? (i := 30) rfl)) rfl
theorem wc_J2_getChar_3b067 : Cond.code yJ2_getChar_3b067 cJ2_getChar_3b067 2 (some FieldType.char) ∈ aTB := aTB_of (wi_9 _ (List.mem_of_getElem? (i := 31) rfl)) rfl
theorem wf_J2_44 : Cond.fieldLink RJ2 44 "java/lang/StringUTF16" "$assertionsDisabled" "Z" ∈ aTB := aTB_of (wi_9 _ (List.mem_of_getElem? (i := 32) rfl)) rfl
theorem wf_J2_59 : Cond.fieldLink RJ2 59 "java/lang/StringUTF16" "HI_BYTE_SHIFT" "I" ∈ aTB := aTB_of (wi_9 _ (List.mem_of_getElem? (i := 34) rfl)) rfl
theorem wf_J2_63 : Cond.fieldLink RJ2 63 "java/lang/StringUTF16" "LO_BYTE_SHIFT" "I" ∈ aTB := aTB_of (wi_9 _ (List.mem_of_getElem? (i := 36) rfl)) rfl
theorem wm_X14_275 : Cond.methodLink RX14 275 yX14_readStep ∈ aTB := aTB_of (wi_9 _ (List.mem_of_getElem? (i := 42) rfl)) rfl
theorem wi_X14_readStep : Cond.instanceMethod yX14_readStep ∈ aTB := aTB_of (wi_9 _ (List.mem_of_getElem? (i := 44) rfl)) rfl
theorem wc_X14_readStep : Cond.code yX14_readStep cX14_readStep 3 none ∈ aTB := aTB_of (wi_9 _ (List.mem_of_getElem? (i := 45) rfl)) rfl
theorem wm_X14_282 : Cond.methodLink RX14 282 yX14_slotHere ∈ aTB := aTB_of (wi_9 _ (List.mem_of_getElem? (i := 46) rfl)) rfl
theorem wi_X14_slotHere : Cond.instanceMethod yX14_slotHere ∈ aTB := aTB_of (wi_9 _ (List.mem_of_getElem? (i := 48) rfl)) rfl
theorem wc_X14_slotHere : Cond.code yX14_slotHere cX14_slotHere 3 (some FieldType.int) ∈ aTB := aTB_of (wi_9 _ (List.mem_of_getElem? (i := 49) rfl)) rfl
theorem wm_X14_246 : Cond.methodLink RX14 246 yX14_slotOf ∈ aTB := aTB_of (wi_9 _ (List.mem_of_getElem? (i := 50) rfl)) rfl
theorem wt_X14_slotOf : Cond.static yX14_slotOf ∈ aTB := aTB_of (wi_9 _ (List.mem_of_getElem? (i := 51) rfl)) rfl
theorem wc_X14_slotOf : Cond.code yX14_slotOf cX14_slotOf 1 (some FieldType.int) ∈ aTB := aTB_of (wi_9 _ (List.mem_of_getElem? (i := 52) rfl)) rfl
theorem wm_X14_285 : Cond.methodLink RX14 285 yX14_need ∈ aTB := aTB_of (wi_9 _ (List.mem_of_getElem? (i := 53) rfl)) rfl
theorem wi_X14_need : Cond.instanceMethod yX14_need ∈ aTB := aTB_of (wi_9 _ (List.mem_of_getElem? (i := 55) rfl)) rfl
theorem wc_X14_need : Cond.code yX14_need cX14_need 2 none ∈ aTB := aTB_of (wi_9 _ (List.mem_of_getElem? (i := 56) rfl)) rfl
theorem wm_X14_260 : Cond.methodLink RX14 260 yX14_is ∈ aTB := aTB_of (wi_9 _ (List.mem_of_getElem? (i := 57) rfl)) rfl
theorem wi_X14_is : Cond.instanceMethod yX14_is ∈ aTB := aTB_of (wi_9 _ (List.mem_of_getElem? (i := 59) rfl)) rfl
theorem wc_X14_is : Cond.code yX14_is cX14_is 2 (some FieldType.boolean) ∈ aTB := aTB_of (wi_9 _ (List.mem_of_getElem? (i := 60) rfl)) rfl
theorem wm_X14_298 : Cond.methodLink RX14 298 yX14_readSum ∈ aTB := aTB_of (wi_9 _ (List.mem_of_getElem? (i := 61) rfl)) rfl
theorem wi_X14_readSum : Cond.instanceMethod yX14_readSum ∈ aTB := aTB_of (wi_9 _ (List.mem_of_getElem? (i := 63) rfl)) rfl
theorem wc_X14_readSum : Cond.code yX14_readSum cX14_readSum 3 none ∈ aTB := aTB_of (wi_9 _ (List.mem_of_getElem? (i := 64) rfl)) rfl
theorem wm_X14_345 : Cond.methodLink RX14 345 yX14_readTerm ∈ aTB := aTB_of (wi_9 _ (List.mem_of_getElem? (i := 65) rfl)) rfl
theorem wi_X14_readTerm : Cond.instanceMethod yX14_readTerm ∈ aTB := aTB_of (wi_9 _ (List.mem_of_getElem? (i := 67) rfl)) rfl
theorem wc_X14_readTerm : Cond.code yX14_readTerm cX14_readTerm 1 none ∈ aTB := aTB_of (wi_9 _ (List.mem_of_getElem? (i := 68) rfl)) rfl
theorem wm_X14_348 : Cond.methodLink RX14 348 yX14_readFactor ∈ aTB := aTB_of (wi_9 _ (List.mem_of_getElem? (i := 69) rfl)) rfl
theorem wi_X14_readFactor : Cond.instanceMethod yX14_readFactor ∈ aTB := aTB_of (wi_9 _ (List.mem_of_getElem? (i := 71) rfl)) rfl
theorem wc_X14_readFactor : Cond.code yX14_readFactor cX14_readFactor 2 none ∈ aTB := aTB_of (wi_9 _ (List.mem_of_getElem? (i := 72) rfl)) rfl
theorem wm_X14_278 : Cond.methodLink RX14 278 yX14_isKept ∈ aTB := aTB_of (wi_9 _ (List.mem_of_getElem? (i := 73) rfl)) rfl
theorem wi_X14_isKept : Cond.instanceMethod yX14_isKept ∈ aTB := aTB_of (wi_9 _ (List.mem_of_getElem? (i := 75) rfl)) rfl
theorem wc_X14_isKept : Cond.code yX14_isKept cX14_isKept 1 (some FieldType.boolean) ∈ aTB := aTB_of (wi_9 _ (List.mem_of_getElem? (i := 76) rfl)) rfl
theorem wm_X14_341 : Cond.methodLink RX14 341 yX13_put ∈ aTB := aTB_of (wi_9 _ (List.mem_of_getElem? (i := 80) rfl)) rfl
theorem wi_X13_put : Cond.instanceMethod yX13_put ∈ aTB := aTB_of (wi_9 _ (List.mem_of_getElem? (i := 81) rfl)) rfl
theorem ws_X13_put : Cond.selects yX13_put.cls yX13_put yX13_put ∈ aTB := aTB_of (wi_9 _ (List.mem_of_getElem? (i := 82) rfl)) rfl
theorem wc_X13_put : Cond.code yX13_put cX13_put 3 none ∈ aTB := aTB_of (wi_9 _ (List.mem_of_getElem? (i := 83) rfl)) rfl
theorem wm_X14_332 : Cond.methodLink RX14 332 yX14_readTest ∈ aTB := aTB_of (wi_9 _ (List.mem_of_getElem? (i := 84) rfl)) rfl
theorem wi_X14_readTest : Cond.instanceMethod yX14_readTest ∈ aTB := aTB_of (wi_9 _ (List.mem_of_getElem? (i := 86) rfl)) rfl
theorem wc_X14_readTest : Cond.code yX14_readTest cX14_readTest 1 none ∈ aTB := aTB_of (wi_9 _ (List.mem_of_getElem? (i := 87) rfl)) rfl
theorem wm_X14_338 : Cond.methodLink RX14 338 yX14_readOne ∈ aTB := aTB_of (wi_9 _ (List.mem_of_getElem? (i := 88) rfl)) rfl
theorem wi_X14_readOne : Cond.instanceMethod yX14_readOne ∈ aTB := aTB_of (wi_9 _ (List.mem_of_getElem? (i := 90) rfl)) rfl
theorem wc_X14_readOne : Cond.code yX14_readOne cX14_readOne 2 none ∈ aTB := aTB_of (wi_9 _ (List.mem_of_getElem? (i := 91) rfl)) rfl
theorem wm_X14_304 : Cond.methodLink RX14 304 yX14_readSpan ∈ aTB := aTB_of (wi_9 _ (List.mem_of_getElem? (i := 92) rfl)) rfl
theorem wi_X14_readSpan : Cond.instanceMethod yX14_readSpan ∈ aTB := aTB_of (wi_9 _ (List.mem_of_getElem? (i := 94) rfl)) rfl
theorem wc_X14_readSpan : Cond.code yX14_readSpan cX14_readSpan 3 none ∈ aTB := aTB_of (wi_9 _ (List.mem_of_getElem? (i := 95) rfl)) rfl
theorem wm_X14_310 : Cond.methodLink RX14 310 yX14_readInt ∈ aTB := aTB_of (wi_9 _ (List.mem_of_getElem? (i := 96) rfl)) rfl
theorem wi_X14_readInt : Cond.instanceMethod yX14_readInt ∈ aTB := aTB_of (wi_9 _ (List.mem_of_getElem? (i := 98) rfl)) rfl
theorem wc_X14_readInt : Cond.code yX14_readInt cX14_readInt 2 (some FieldType.int) ∈ aTB := aTB_of (wi_9 _ (List.mem_of_getElem? (i := 99) rfl)) rfl
theorem wm_X14_313 : Cond.methodLink RX14 313 yX14_in ∈ aTB := aTB_of (wi_9 _ (List.mem_of_getElem? (i := 100) rfl)) rfl
theorem wt_X14_in : Cond.static yX14_in ∈ aTB := aTB_of (wi_9 _ (List.mem_of_getElem? (i := 101) rfl)) rfl
theorem wc_X14_in : Cond.code yX14_in cX14_in 3 (some FieldType.boolean) ∈ aTB := aTB_of (wi_9 _ (List.mem_of_getElem? (i := 102) rfl)) rfl
theorem wm_X14_269 : Cond.methodLink RX14 269 yX14_product ∈ aTB := aTB_of (wi_9 _ (List.mem_of_getElem? (i := 103) rfl)) rfl
theorem wt_X14_product : Cond.static yX14_product ∈ aTB := aTB_of (wi_9 _ (List.mem_of_getElem? (i := 104) rfl)) rfl
theorem wc_X14_product : Cond.code yX14_product cX14_product 6 (some FieldType.int) ∈ aTB := aTB_of (wi_9 _ (List.mem_of_getElem? (i := 105) rfl)) rfl
theorem wm_X14_273 : Cond.methodLink RX14 273 yX13_size ∈ aTB := aTB_of (wi_9 _ (List.mem_of_getElem? (i := 106) rfl)) rfl
theorem wi_X13_size : Cond.instanceMethod yX13_size ∈ aTB := aTB_of (wi_9 _ (List.mem_of_getElem? (i := 107) rfl)) rfl
theorem ws_X13_size : Cond.selects yX13_size.cls yX13_size yX13_size ∈ aTB := aTB_of (wi_9 _ (List.mem_of_getElem? (i := 108) rfl)) rfl
theorem wc_X13_size : Cond.code yX13_size cX13_size 2 (some FieldType.int) ∈ aTB := aTB_of (wi_9 _ (List.mem_of_getElem? (i := 109) rfl)) rfl
theorem wm_X14_372 : Cond.methodLink RX14 372 yX14_faulty ∈ aTB := aTB_of (wi_9 _ (List.mem_of_getElem? (i := 110) rfl)) rfl
theorem wi_X14_faulty : Cond.instanceMethod yX14_faulty ∈ aTB := aTB_of (wi_9 _ (List.mem_of_getElem? (i := 112) rfl)) rfl
theorem wc_X14_faulty : Cond.code yX14_faulty cX14_faulty 2 (some FieldType.int) ∈ aTB := aTB_of (wi_9 _ (List.mem_of_getElem? (i := 113) rfl)) rfl
theorem wm_X14_403 : Cond.methodLink RX14 403 yX14_forgets ∈ aTB := aTB_of (wi_9 _ (List.mem_of_getElem? (i := 114) rfl)) rfl
theorem wi_X14_forgets : Cond.instanceMethod yX14_forgets ∈ aTB := aTB_of (wi_9 _ (List.mem_of_getElem? (i := 116) rfl)) rfl
theorem wc_X14_forgets : Cond.code yX14_forgets cX14_forgets 2 none ∈ aTB := aTB_of (wi_9 _ (List.mem_of_getElem? (i := 117) rfl)) rfl
theorem wm_X14_406 : Cond.methodLink RX14 406 yX14_leads ∈ aTB := aTB_of (wi_9 _ (List.mem_of_getElem? (i := 118) rfl)) rfl
theorem wi_X14_leads : Cond.instanceMethod yX14_leads ∈ aTB := aTB_of (wi_9 _ (List.mem_of_getElem? (i := 120) rfl)) rfl
theorem wc_X14_leads : Cond.code yX14_leads cX14_leads 4 none ∈ aTB := aTB_of (wi_9 _ (List.mem_of_getElem? (i := 121) rfl)) rfl
theorem wm_X14_416 : Cond.methodLink RX14 416 yX14_lays ∈ aTB := aTB_of (wi_9 _ (List.mem_of_getElem? (i := 122) rfl)) rfl
theorem wi_X14_lays : Cond.instanceMethod yX14_lays ∈ aTB := aTB_of (wi_9 _ (List.mem_of_getElem? (i := 124) rfl)) rfl
theorem wc_X14_lays : Cond.code yX14_lays cX14_lays 3 none ∈ aTB := aTB_of (wi_9 _ (List.mem_of_getElem? (i := 125) rfl)) rfl
theorem wm_X14_455 : Cond.methodLink RX14 455 yX14_spreads ∈ aTB := aTB_of (wi_9 _ (List.mem_of_getElem? (i := 126) rfl)) rfl
theorem wi_X14_spreads : Cond.instanceMethod yX14_spreads ∈ aTB := aTB_of (wi_9 _ (List.mem_of_getElem? (i := 128) rfl)) rfl
theorem wc_X14_spreads : Cond.code yX14_spreads cX14_spreads 6 (some FieldType.int) ∈ aTB := aTB_of (wi_9 _ (List.mem_of_getElem? (i := 129) rfl)) rfl
theorem wm_X14_459 : Cond.methodLink RX14 459 yX14_pushed ∈ aTB := aTB_of (wi_9 _ (List.mem_of_getElem? (i := 130) rfl)) rfl
theorem wi_X14_pushed : Cond.instanceMethod yX14_pushed ∈ aTB := aTB_of (wi_9 _ (List.mem_of_getElem? (i := 132) rfl)) rfl
theorem wc_X14_pushed : Cond.code yX14_pushed cX14_pushed 3 none ∈ aTB := aTB_of (wi_9 _ (List.mem_of_getElem? (i := 133) rfl)) rfl
theorem wm_X14_462 : Cond.methodLink RX14 462 yX14_worlded ∈ aTB := aTB_of (wi_9 _ (List.mem_of_getElem? (i := 134) rfl)) rfl
theorem wi_X14_worlded : Cond.instanceMethod yX14_worlded ∈ aTB := aTB_of (wi_9 _ (List.mem_of_getElem? (i := 136) rfl)) rfl
theorem wc_X14_worlded : Cond.code yX14_worlded cX14_worlded 3 none ∈ aTB := aTB_of (wi_9 _ (List.mem_of_getElem? (i := 137) rfl)) rfl
theorem wm_X14_465 : Cond.methodLink RX14 465 yX14_nextHere ∈ aTB := aTB_of (wi_9 _ (List.mem_of_getElem? (i := 138) rfl)) rfl
theorem wi_X14_nextHere : Cond.instanceMethod yX14_nextHere ∈ aTB := aTB_of (wi_9 _ (List.mem_of_getElem? (i := 140) rfl)) rfl
theorem wc_X14_nextHere : Cond.code yX14_nextHere cX14_nextHere 6 (some FieldType.int) ∈ aTB := aTB_of (wi_9 _ (List.mem_of_getElem? (i := 141) rfl)) rfl
theorem wm_X14_419 : Cond.methodLink RX14 419 yX14_valueOf ∈ aTB := aTB_of (wi_9 _ (List.mem_of_getElem? (i := 142) rfl)) rfl
theorem wi_X14_valueOf : Cond.instanceMethod yX14_valueOf ∈ aTB := aTB_of (wi_9 _ (List.mem_of_getElem? (i := 144) rfl)) rfl
theorem wc_X14_valueOf : Cond.code yX14_valueOf cX14_valueOf 12 (some FieldType.int) ∈ aTB := aTB_of (wi_9 _ (List.mem_of_getElem? (i := 145) rfl)) rfl
theorem wv_X14_449 : Cond.constantLong RX14 449 (2) ∈ aTB := aTB_of (wi_9 _ (List.mem_of_getElem? (i := 146) rfl)) rfl
theorem wm_X14_451 : Cond.methodLink RX14 451 yX14_bound ∈ aTB := aTB_of (wi_9 _ (List.mem_of_getElem? (i := 147) rfl)) rfl
theorem wt_X14_bound : Cond.static yX14_bound ∈ aTB := aTB_of (wi_9 _ (List.mem_of_getElem? (i := 148) rfl)) rfl
theorem wc_X14_bound : Cond.code yX14_bound cX14_bound 2 (some FieldType.int) ∈ aTB := aTB_of (wi_9 _ (List.mem_of_getElem? (i := 149) rfl)) rfl
theorem wv_X14_436 : Cond.constantLong RX14 436 (-1000000) ∈ aTB := aTB_of (wi_9 _ (List.mem_of_getElem? (i := 150) rfl)) rfl
theorem wv_X14_438 : Cond.constantLong RX14 438 (1000000) ∈ aTB := aTB_of (wi_9 _ (List.mem_of_getElem? (i := 151) rfl)) rfl
theorem wm_X14_440 : Cond.methodLink RX14 440 Lib.MathLoose.min_long.x ∈ aTB := aTB_of (wi_9 _ (List.mem_of_getElem? (i := 152) rfl)) rfl
theorem wt_mminL : Cond.static Lib.MathLoose.min_long.x ∈ aTB := aTB_of (wi_9 _ (List.mem_of_getElem? (i := 153) rfl)) rfl
theorem wc_mminL : Cond.code Lib.MathLoose.min_long.x Lib.MathLoose.min_long.code 4 (some FieldType.long) ∈ aTB := aTB_of (wi_9 _ (List.mem_of_getElem? (i := 154) rfl)) rfl
theorem wm_X14_446 : Cond.methodLink RX14 446 Lib.MathLoose.max_long.x ∈ aTB := aTB_of (wi_9 _ (List.mem_of_getElem? (i := 155) rfl)) rfl
theorem wm_X14_413 : Cond.methodLink RX14 413 yX14_done ∈ aTB := aTB_of (wi_9 _ (List.mem_of_getElem? (i := 156) rfl)) rfl
theorem wi_X14_done : Cond.instanceMethod yX14_done ∈ aTB := aTB_of (wi_9 _ (List.mem_of_getElem? (i := 158) rfl)) rfl
theorem wc_X14_done : Cond.code yX14_done cX14_done 2 (some FieldType.int) ∈ aTB := aTB_of (wi_9 _ (List.mem_of_getElem? (i := 159) rfl)) rfl
theorem wm_L_32 : Cond.methodLink RL 32 yX14_good ∈ aTB := aTB_of (wi_9 _ (List.mem_of_getElem? (i := 160) rfl)) rfl
theorem wi_X14_good : Cond.instanceMethod yX14_good ∈ aTB := aTB_of (wi_9 _ (List.mem_of_getElem? (i := 161) rfl)) rfl
theorem ws_X14_good : Cond.selects yX14_good.cls yX14_good yX14_good ∈ aTB := aTB_of (wi_9 _ (List.mem_of_getElem? (i := 162) rfl)) rfl
theorem wc_X14_good : Cond.code yX14_good cX14_good 3 (some FieldType.int) ∈ aTB := aTB_of (wi_9 _ (List.mem_of_getElem? (i := 163) rfl)) rfl
theorem wm_X14_422 : Cond.methodLink RX14 422 yX14_reads ∈ aTB := aTB_of (wi_9 _ (List.mem_of_getElem? (i := 164) rfl)) rfl
theorem wi_X14_reads : Cond.instanceMethod yX14_reads ∈ aTB := aTB_of (wi_9 _ (List.mem_of_getElem? (i := 166) rfl)) rfl
theorem wc_X14_reads : Cond.codeWith yX14_reads cX14_reads 4 (some FieldType.int) [((123 : Nat), (157 : Nat), (160 : Nat), (20 : Nat))] ∈ aTB := aTB_of (wi_9 _ (List.mem_of_getElem? (i := 167) rfl)) rfl
theorem wm_X14_426 : Cond.methodLink RX14 426 yX14_marks ∈ aTB := aTB_of (wi_9 _ (List.mem_of_getElem? (i := 168) rfl)) rfl
theorem wi_X14_marks : Cond.instanceMethod yX14_marks ∈ aTB := aTB_of (wi_9 _ (List.mem_of_getElem? (i := 170) rfl)) rfl
theorem wc_X14_marks : Cond.code yX14_marks cX14_marks 4 (some FieldType.int) ∈ aTB := aTB_of (wi_9 _ (List.mem_of_getElem? (i := 171) rfl)) rfl
theorem wm_L_36 : Cond.methodLink RL 36 yX14_goal ∈ aTB := aTB_of (wi_9 _ (List.mem_of_getElem? (i := 172) rfl)) rfl
theorem wi_X14_goal : Cond.instanceMethod yX14_goal ∈ aTB := aTB_of (wi_9 _ (List.mem_of_getElem? (i := 173) rfl)) rfl
theorem ws_X14_goal : Cond.selects yX14_goal.cls yX14_goal yX14_goal ∈ aTB := aTB_of (wi_9 _ (List.mem_of_getElem? (i := 174) rfl)) rfl
theorem wc_X14_goal : Cond.code yX14_goal cX14_goal 3 (some FieldType.int) ∈ aTB := aTB_of (wi_9 _ (List.mem_of_getElem? (i := 175) rfl)) rfl
theorem wm_L_40 : Cond.methodLink RL 40 yX14_cost ∈ aTB := aTB_of (wi_9 _ (List.mem_of_getElem? (i := 176) rfl)) rfl
theorem wi_X14_cost : Cond.instanceMethod yX14_cost ∈ aTB := aTB_of (wi_9 _ (List.mem_of_getElem? (i := 177) rfl)) rfl
theorem ws_X14_cost : Cond.selects yX14_cost.cls yX14_cost yX14_cost ∈ aTB := aTB_of (wi_9 _ (List.mem_of_getElem? (i := 178) rfl)) rfl
theorem wc_X14_cost : Cond.code yX14_cost cX14_cost 4 (some FieldType.int) ∈ aTB := aTB_of (wi_9 _ (List.mem_of_getElem? (i := 179) rfl)) rfl
theorem wm_L_45 : Cond.methodLink RL 45 yX14_fault ∈ aTB := aTB_of (wi_9 _ (List.mem_of_getElem? (i := 180) rfl)) rfl
theorem wi_X14_fault : Cond.instanceMethod yX14_fault ∈ aTB := aTB_of (wi_9 _ (List.mem_of_getElem? (i := 181) rfl)) rfl
theorem ws_X14_fault : Cond.selects yX14_fault.cls yX14_fault yX14_fault ∈ aTB := aTB_of (wi_9 _ (List.mem_of_getElem? (i := 182) rfl)) rfl
theorem wc_X14_fault : Cond.code yX14_fault cX14_fault 1 (some FieldType.int) ∈ aTB := aTB_of (wi_9 _ (List.mem_of_getElem? (i := 183) rfl)) rfl
theorem wm_L_49 : Cond.methodLink RL 49 yX14_where ∈ aTB := aTB_of (wi_9 _ (List.mem_of_getElem? (i := 184) rfl)) rfl
theorem wi_X14_where : Cond.instanceMethod yX14_where ∈ aTB := aTB_of (wi_9 _ (List.mem_of_getElem? (i := 185) rfl)) rfl
theorem ws_X14_where : Cond.selects yX14_where.cls yX14_where yX14_where ∈ aTB := aTB_of (wi_9 _ (List.mem_of_getElem? (i := 186) rfl)) rfl
