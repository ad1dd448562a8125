/-- the words that a callee may be handed -/
def sr_tbl : List Cond := lw_tbl.filter goodWord
theorem sr_in {w : Cond} (i : Nat) (h : lw_tbl[i]? = some w) (hg : goodWord w = true) : w ∈ sr_tbl := List.mem_filter.mpr ⟨List.mem_of_getElem? h, hg⟩
theorem lw_good : sr_tbl.all goodWord = true := List.all_eq_true.mpr (fun w h => (List.mem_filter.mp h).2)
theorem sr_hts {args : Array Value} {s : State} (h : ∀ w ∈ lw_tbl, w.before args s = true) : ∀ w ∈ sr_tbl, w.before args s = true := fun w hw => h w (List.mem_filter.mp hw).1
set_option maxRecDepth 20000 in
theorem qsX2_listAt : (.selects RX2 yX2_listAt yX2_listAt : Cond) ∈ sr_tbl := sr_in 0 rfl rfl
set_option maxRecDepth 20000 in
theorem qsX2_rankIn : (.selects RX2 yX2_rankIn yX2_rankIn : Cond) ∈ sr_tbl := sr_in 1 rfl rfl
set_option maxRecDepth 20000 in
theorem qsX2_isAhead : (.selects RX2 yX2_isAhead yX2_isAhead : Cond) ∈ sr_tbl := sr_in 2 rfl rfl
set_option maxRecDepth 20000 in
theorem qsX2_place : (.selects RX2 yX2_place yX2_place : Cond) ∈ sr_tbl := sr_in 3 rfl rfl
set_option maxRecDepth 20000 in
theorem qsX2_rankOut : (.selects RX2 yX2_rankOut yX2_rankOut : Cond) ∈ sr_tbl := sr_in 4 rfl rfl
set_option maxRecDepth 20000 in
theorem qsX0_wholeOf : (.selects RX0 yX0_wholeOf yX0_wholeOf : Cond) ∈ sr_tbl := sr_in 5 rfl rfl
set_option maxRecDepth 20000 in
theorem qsX4_pourOne : (.selects RX4 yX4_pourOne yX4_pourOne : Cond) ∈ sr_tbl := sr_in 6 rfl rfl
set_option maxRecDepth 20000 in
theorem qsX1_cutOff : (.selects RX1 yX1_cutOff yX1_cutOff : Cond) ∈ sr_tbl := sr_in 7 rfl rfl
set_option maxRecDepth 20000 in
theorem qsX1_reachFromOutlets : (.selects RX1 yX1_reachFromOutlets yX1_reachFromOutlets : Cond) ∈ sr_tbl := sr_in 8 rfl rfl
set_option maxRecDepth 20000 in
theorem qsX1_reachAround : (.selects RX1 yX1_reachAround yX1_reachAround : Cond) ∈ sr_tbl := sr_in 9 rfl rfl
set_option maxRecDepth 20000 in
theorem qsX1_addLake : (.selects RX1 yX1_addLake yX1_addLake : Cond) ∈ sr_tbl := sr_in 10 rfl rfl
set_option maxRecDepth 20000 in
theorem qsX1_drownAround : (.selects RX1 yX1_drownAround yX1_drownAround : Cond) ∈ sr_tbl := sr_in 11 rfl rfl
set_option maxRecDepth 20000 in
theorem qsX1_greatestRankOpened : (.selects RX1 yX1_greatestRankOpened yX1_greatestRankOpened : Cond) ∈ sr_tbl := sr_in 12 rfl rfl
set_option maxRecDepth 20000 in
theorem qsX1_nextThroat : (.selects RX1 yX1_nextThroat yX1_nextThroat : Cond) ∈ sr_tbl := sr_in 13 rfl rfl
set_option maxRecDepth 20000 in
theorem qsX1_preferredAt : (.selects RX1 yX1_preferredAt yX1_preferredAt : Cond) ∈ sr_tbl := sr_in 14 rfl rfl
set_option maxRecDepth 20000 in
theorem qsX1_isCandidate : (.selects RX1 yX1_isCandidate yX1_isCandidate : Cond) ∈ sr_tbl := sr_in 15 rfl rfl
set_option maxRecDepth 20000 in
theorem qsX1_leads : (.selects RX1 yX1_leads yX1_leads : Cond) ∈ sr_tbl := sr_in 16 rfl rfl
set_option maxRecDepth 20000 in
theorem qsX1_isPreferred : (.selects RX1 yX1_isPreferred yX1_isPreferred : Cond) ∈ sr_tbl := sr_in 17 rfl rfl
set_option maxRecDepth 20000 in
theorem qsX4_manyInRun : (.selects RX4 yX4_manyInRun yX4_manyInRun : Cond) ∈ sr_tbl := sr_in 18 rfl rfl
set_option maxRecDepth 20000 in
theorem qsX3_fillNext : (.selects RX3 yX3_fillNext yX3_fillNext : Cond) ∈ sr_tbl := sr_in 19 rfl rfl
set_option maxRecDepth 20000 in
theorem qsX3_fill : (.selects RX3 yX3_fill yX3_fill : Cond) ∈ sr_tbl := sr_in 20 rfl rfl
set_option maxRecDepth 20000 in
theorem qsX3_stand : (.selects RX3 yX3_stand yX3_stand : Cond) ∈ sr_tbl := sr_in 21 rfl rfl
set_option maxRecDepth 20000 in
theorem qsX3_unite : (.selects RX3 yX3_unite yX3_unite : Cond) ∈ sr_tbl := sr_in 22 rfl rfl
set_option maxRecDepth 20000 in
theorem qsX5_isPore : (.selects RX5 yX5_isPore yX5_isPore : Cond) ∈ sr_tbl := sr_in 23 rfl rfl
set_option maxRecDepth 20000 in
theorem qsX5_isThroat : (.selects RX5 yX5_isThroat yX5_isThroat : Cond) ∈ sr_tbl := sr_in 24 rfl rfl
set_option maxRecDepth 20000 in
theorem qsX5_rank : (.selects RX5 yX5_rank yX5_rank : Cond) ∈ sr_tbl := sr_in 25 rfl rfl
set_option maxRecDepth 20000 in
theorem qsX5_isLess : (.selects RX5 yX5_isLess yX5_isLess : Cond) ∈ sr_tbl := sr_in 26 rfl rfl
set_option maxRecDepth 20000 in
theorem qsX5_hasRow : (.selects RX5 yX5_hasRow yX5_hasRow : Cond) ∈ sr_tbl := sr_in 27 rfl rfl
set_option maxRecDepth 20000 in
theorem qsX5_wholeOf : (.selects RX5 yX5_wholeOf yX5_wholeOf : Cond) ∈ sr_tbl := sr_in 28 rfl rfl
set_option maxRecDepth 20000 in
theorem qsX5_start : (.selects RX5 yX5_start yX5_start : Cond) ∈ sr_tbl := sr_in 29 rfl rfl
set_option maxRecDepth 20000 in
theorem qsX5_trap : (.selects RX5 yX5_trap yX5_trap : Cond) ∈ sr_tbl := sr_in 30 rfl rfl
set_option maxRecDepth 20000 in
theorem qsX5_isFilled : (.selects RX5 yX5_isFilled yX5_isFilled : Cond) ∈ sr_tbl := sr_in 31 rfl rfl
set_option maxRecDepth 20000 in
theorem qsX5_isFree : (.selects RX5 yX5_isFree yX5_isFree : Cond) ∈ sr_tbl := sr_in 32 rfl rfl
set_option maxRecDepth 20000 in
theorem qsX5_countPores : (.selects RX5 yX5_countPores yX5_countPores : Cond) ∈ sr_tbl := sr_in 33 rfl rfl
set_option maxRecDepth 20000 in
theorem qsX5_tellLakes : (.selects RX5 yX5_tellLakes yX5_tellLakes : Cond) ∈ sr_tbl := sr_in 34 rfl rfl
set_option maxRecDepth 20000 in
theorem qsX5_spreadLake : (.selects RX5 yX5_spreadLake yX5_spreadLake : Cond) ∈ sr_tbl := sr_in 35 rfl rfl
set_option maxRecDepth 20000 in
theorem qsX5_isCandidate : (.selects RX5 yX5_isCandidate yX5_isCandidate : Cond) ∈ sr_tbl := sr_in 36 rfl rfl
set_option maxRecDepth 20000 in
theorem qsX5_leads : (.selects RX5 yX5_leads yX5_leads : Cond) ∈ sr_tbl := sr_in 37 rfl rfl
set_option maxRecDepth 20000 in
theorem qsX5_nextThroat : (.selects RX5 yX5_nextThroat yX5_nextThroat : Cond) ∈ sr_tbl := sr_in 38 rfl rfl
set_option maxRecDepth 20000 in
theorem qsX5_bestAt : (.selects RX5 yX5_bestAt yX5_bestAt : Cond) ∈ sr_tbl := sr_in 39 rfl rfl
set_option maxRecDepth 20000 in
theorem qsX5_open : (.selects RX5 yX5_open yX5_open : Cond) ∈ sr_tbl := sr_in 40 rfl rfl
set_option maxRecDepth 20000 in
theorem qsX5_plainRun : (.selects RX5 yX5_plainRun yX5_plainRun : Cond) ∈ sr_tbl := sr_in 41 rfl rfl
set_option maxRecDepth 20000 in
theorem qsX5_behind : (.selects RX5 yX5_behind yX5_behind : Cond) ∈ sr_tbl := sr_in 42 rfl rfl
set_option maxRecDepth 20000 in
theorem qsX5_apart : (.selects RX5 yX5_apart yX5_apart : Cond) ∈ sr_tbl := sr_in 43 rfl rfl
set_option maxRecDepth 20000 in
theorem qsX5_tie : (.selects RX5 yX5_tie yX5_tie : Cond) ∈ sr_tbl := sr_in 44 rfl rfl
set_option maxRecDepth 20000 in
theorem qsX5_keep : (.selects RX5 yX5_keep yX5_keep : Cond) ∈ sr_tbl := sr_in 45 rfl rfl
set_option maxRecDepth 20000 in
theorem qnX4 : (.initialized RX4 : Cond) ∈ sr_tbl := sr_in 47 rfl rfl
set_option maxRecDepth 20000 in
theorem qnX2 : (.initialized RX2 : Cond) ∈ sr_tbl := sr_in 48 rfl rfl
set_option maxRecDepth 20000 in
theorem qnX1 : (.initialized RX1 : Cond) ∈ sr_tbl := sr_in 49 rfl rfl
set_option maxRecDepth 20000 in
theorem qnX3 : (.initialized RX3 : Cond) ∈ sr_tbl := sr_in 50 rfl rfl
set_option maxRecDepth 20000 in
theorem qnX0 : (.initialized RX0 : Cond) ∈ sr_tbl := sr_in 51 rfl rfl
set_option maxRecDepth 20000 in
theorem qnX5 : (.initialized RX5 : Cond) ∈ sr_tbl := sr_in 52 rfl rfl
set_option maxRecDepth 20000 in
theorem qnJ10 : (.initialized RJ10 : Cond) ∈ sr_tbl := sr_in 53 rfl rfl
set_option maxRecDepth 20000 in
theorem qnJ9 : (.initialized RJ9 : Cond) ∈ sr_tbl := sr_in 54 rfl rfl
set_option maxRecDepth 20000 in
theorem qwL_7 : (.classLink RL 7 RX4 : Cond) ∈ sr_tbl := sr_in 55 rfl rfl
set_option maxRecDepth 20000 in
theorem qyX4 : (.instantiable RX4 7 : Cond) ∈ sr_tbl := sr_in 56 rfl rfl
set_option maxRecDepth 20000 in
theorem qmL_9 : (.methodLink RL 9 yX4_init : Cond) ∈ sr_tbl := sr_in 57 rfl rfl
set_option maxRecDepth 20000 in
theorem qiX4_init : (.instanceMethod yX4_init : Cond) ∈ sr_tbl := sr_in 58 rfl rfl
set_option maxRecDepth 20000 in
theorem qcX4_init : (.code yX4_init cX4_init 2 (none) : Cond) ∈ sr_tbl := sr_in 59 rfl rfl
set_option maxRecDepth 20000 in
theorem qwX4_7 : (.classLink RX4 7 RX2 : Cond) ∈ sr_tbl := sr_in 63 rfl rfl
set_option maxRecDepth 20000 in
theorem qyX2 : (.instantiable RX2 13 : Cond) ∈ sr_tbl := sr_in 64 rfl rfl
set_option maxRecDepth 20000 in
theorem qmX4_9 : (.methodLinkNest RX4 9 yX2_init "SeepingRock" : Cond) ∈ lw_tbl := List.mem_of_getElem? (i := 65) rfl
set_option maxRecDepth 20000 in
theorem qiX2_init : (.instanceMethod yX2_init : Cond) ∈ sr_tbl := sr_in 66 rfl rfl
set_option maxRecDepth 20000 in
theorem qcX2_init : (.code yX2_init cX2_init 1 (none) : Cond) ∈ sr_tbl := sr_in 67 rfl rfl
set_option maxRecDepth 20000 in
theorem qfX2_40 : (.fieldLink RX2 40 RX2 (TX2 0).2.1 (TX2 0).2.2.1 : Cond) ∈ sr_tbl := sr_in 69 rfl rfl
set_option maxRecDepth 20000 in
theorem qfX3_28 : (.fieldLink RX3 28 RX2 (TX2 0).2.1 (TX2 0).2.2.1 : Cond) ∈ sr_tbl := sr_in 70 rfl rfl
set_option maxRecDepth 20000 in
theorem qfX4_46 : (.fieldLink RX4 46 RX2 (TX2 0).2.1 (TX2 0).2.2.1 : Cond) ∈ sr_tbl := sr_in 71 rfl rfl
set_option maxRecDepth 20000 in
theorem qfX1_64 : (.fieldLink RX1 64 RX2 (TX2 0).2.1 (TX2 0).2.2.1 : Cond) ∈ sr_tbl := sr_in 72 rfl rfl
set_option maxRecDepth 20000 in
theorem qfX2_9 : (.fieldLink RX2 9 RX2 (TX2 1).2.1 (TX2 1).2.2.1 : Cond) ∈ sr_tbl := sr_in 73 rfl rfl
set_option maxRecDepth 20000 in
theorem qfX1_95 : (.fieldLink RX1 95 RX2 (TX2 1).2.1 (TX2 1).2.2.1 : Cond) ∈ sr_tbl := sr_in 74 rfl rfl
set_option maxRecDepth 20000 in
theorem qfX4_102 : (.fieldLink RX4 102 RX2 (TX2 1).2.1 (TX2 1).2.2.1 : Cond) ∈ sr_tbl := sr_in 75 rfl rfl
set_option maxRecDepth 20000 in
theorem qfX2_15 : (.fieldLink RX2 15 RX2 (TX2 2).2.1 (TX2 2).2.2.1 : Cond) ∈ sr_tbl := sr_in 76 rfl rfl
set_option maxRecDepth 20000 in
theorem qfX3_34 : (.fieldLink RX3 34 RX2 (TX2 2).2.1 (TX2 2).2.2.1 : Cond) ∈ sr_tbl := sr_in 77 rfl rfl
set_option maxRecDepth 20000 in
theorem qfX1_69 : (.fieldLink RX1 69 RX2 (TX2 2).2.1 (TX2 2).2.2.1 : Cond) ∈ sr_tbl := sr_in 78 rfl rfl
set_option maxRecDepth 20000 in
theorem qfX4_86 : (.fieldLink RX4 86 RX2 (TX2 2).2.1 (TX2 2).2.2.1 : Cond) ∈ sr_tbl := sr_in 79 rfl rfl
set_option maxRecDepth 20000 in
theorem qfX2_44 : (.fieldLink RX2 44 RX2 (TX2 3).2.1 (TX2 3).2.2.1 : Cond) ∈ sr_tbl := sr_in 80 rfl rfl
set_option maxRecDepth 20000 in
theorem qfX4_62 : (.fieldLink RX4 62 RX2 (TX2 3).2.1 (TX2 3).2.2.1 : Cond) ∈ sr_tbl := sr_in 81 rfl rfl
set_option maxRecDepth 20000 in
theorem qfX2_19 : (.fieldLink RX2 19 RX2 (TX2 4).2.1 (TX2 4).2.2.1 : Cond) ∈ sr_tbl := sr_in 82 rfl rfl
set_option maxRecDepth 20000 in
theorem qfX1_79 : (.fieldLink RX1 79 RX2 (TX2 4).2.1 (TX2 4).2.2.1 : Cond) ∈ sr_tbl := sr_in 83 rfl rfl
set_option maxRecDepth 20000 in
theorem qfX3_59 : (.fieldLink RX3 59 RX2 (TX2 4).2.1 (TX2 4).2.2.1 : Cond) ∈ sr_tbl := sr_in 84 rfl rfl
set_option maxRecDepth 20000 in
theorem qfX4_93 : (.fieldLink RX4 93 RX2 (TX2 4).2.1 (TX2 4).2.2.1 : Cond) ∈ sr_tbl := sr_in 85 rfl rfl
set_option maxRecDepth 20000 in
theorem qfX2_22 : (.fieldLink RX2 22 RX2 (TX2 5).2.1 (TX2 5).2.2.1 : Cond) ∈ sr_tbl := sr_in 86 rfl rfl
set_option maxRecDepth 20000 in
theorem qfX1_82 : (.fieldLink RX1 82 RX2 (TX2 5).2.1 (TX2 5).2.2.1 : Cond) ∈ sr_tbl := sr_in 87 rfl rfl
set_option maxRecDepth 20000 in
theorem qfX3_62 : (.fieldLink RX3 62 RX2 (TX2 5).2.1 (TX2 5).2.2.1 : Cond) ∈ sr_tbl := sr_in 88 rfl rfl
set_option maxRecDepth 20000 in
theorem qfX4_96 : (.fieldLink RX4 96 RX2 (TX2 5).2.1 (TX2 5).2.2.1 : Cond) ∈ sr_tbl := sr_in 89 rfl rfl
set_option maxRecDepth 20000 in
theorem qfX2_25 : (.fieldLink RX2 25 RX2 (TX2 6).2.1 (TX2 6).2.2.1 : Cond) ∈ sr_tbl := sr_in 90 rfl rfl
set_option maxRecDepth 20000 in
theorem qfX4_83 : (.fieldLink RX4 83 RX2 (TX2 6).2.1 (TX2 6).2.2.1 : Cond) ∈ sr_tbl := sr_in 91 rfl rfl
set_option maxRecDepth 20000 in
theorem qfX2_28 : (.fieldLink RX2 28 RX2 (TX2 7).2.1 (TX2 7).2.2.1 : Cond) ∈ sr_tbl := sr_in 92 rfl rfl
set_option maxRecDepth 20000 in
theorem qfX3_69 : (.fieldLink RX3 69 RX2 (TX2 7).2.1 (TX2 7).2.2.1 : Cond) ∈ sr_tbl := sr_in 93 rfl rfl
set_option maxRecDepth 20000 in
theorem qfX4_99 : (.fieldLink RX4 99 RX2 (TX2 7).2.1 (TX2 7).2.2.1 : Cond) ∈ sr_tbl := sr_in 94 rfl rfl
set_option maxRecDepth 20000 in
theorem qfX1_118 : (.fieldLink RX1 118 RX2 (TX2 7).2.1 (TX2 7).2.2.1 : Cond) ∈ sr_tbl := sr_in 95 rfl rfl
set_option maxRecDepth 20000 in
theorem qfX2_31 : (.fieldLink RX2 31 RX2 (TX2 8).2.1 (TX2 8).2.2.1 : Cond) ∈ sr_tbl := sr_in 96 rfl rfl
set_option maxRecDepth 20000 in
theorem qfX3_52 : (.fieldLink RX3 52 RX2 (TX2 8).2.1 (TX2 8).2.2.1 : Cond) ∈ sr_tbl := sr_in 97 rfl rfl
set_option maxRecDepth 20000 in
theorem qfX1_88 : (.fieldLink RX1 88 RX2 (TX2 8).2.1 (TX2 8).2.2.1 : Cond) ∈ sr_tbl := sr_in 98 rfl rfl
set_option maxRecDepth 20000 in
theorem qfX4_111 : (.fieldLink RX4 111 RX2 (TX2 8).2.1 (TX2 8).2.2.1 : Cond) ∈ sr_tbl := sr_in 99 rfl rfl
set_option maxRecDepth 20000 in
theorem qfX3_49 : (.fieldLink RX3 49 RX2 (TX2 9).2.1 (TX2 9).2.2.1 : Cond) ∈ sr_tbl := sr_in 100 rfl rfl
set_option maxRecDepth 20000 in
theorem qfX1_85 : (.fieldLink RX1 85 RX2 (TX2 9).2.1 (TX2 9).2.2.1 : Cond) ∈ sr_tbl := sr_in 101 rfl rfl
set_option maxRecDepth 20000 in
theorem qfX2_62 : (.fieldLink RX2 62 RX2 (TX2 9).2.1 (TX2 9).2.2.1 : Cond) ∈ sr_tbl := sr_in 102 rfl rfl
set_option maxRecDepth 20000 in
theorem qfX4_108 : (.fieldLink RX4 108 RX2 (TX2 9).2.1 (TX2 9).2.2.1 : Cond) ∈ sr_tbl := sr_in 103 rfl rfl
set_option maxRecDepth 20000 in
theorem qfX2_34 : (.fieldLink RX2 34 RX2 (TX2 10).2.1 (TX2 10).2.2.1 : Cond) ∈ sr_tbl := sr_in 104 rfl rfl
set_option maxRecDepth 20000 in
theorem qfX4_105 : (.fieldLink RX4 105 RX2 (TX2 10).2.1 (TX2 10).2.2.1 : Cond) ∈ sr_tbl := sr_in 105 rfl rfl
set_option maxRecDepth 20000 in
theorem qfX1_105 : (.fieldLink RX1 105 RX2 (TX2 10).2.1 (TX2 10).2.2.1 : Cond) ∈ sr_tbl := sr_in 106 rfl rfl
set_option maxRecDepth 20000 in
theorem qfX2_37 : (.fieldLink RX2 37 RX2 (TX2 11).2.1 (TX2 11).2.2.1 : Cond) ∈ sr_tbl := sr_in 107 rfl rfl
set_option maxRecDepth 20000 in
theorem qfX1_108 : (.fieldLink RX1 108 RX2 (TX2 11).2.1 (TX2 11).2.2.1 : Cond) ∈ sr_tbl := sr_in 108 rfl rfl
set_option maxRecDepth 20000 in
theorem qfX4_90 : (.fieldLink RX4 90 RX2 (TX2 12).2.1 (TX2 12).2.2.1 : Cond) ∈ sr_tbl := sr_in 109 rfl rfl
set_option maxRecDepth 20000 in
theorem qfX1_125 : (.fieldLink RX1 125 RX2 (TX2 12).2.1 (TX2 12).2.2.1 : Cond) ∈ sr_tbl := sr_in 110 rfl rfl
set_option maxRecDepth 20000 in
theorem qa_int : (.arrayClass .int : Cond) ∈ sr_tbl := sr_in 138 rfl rfl
set_option maxRecDepth 20000 in
theorem qa_boolean : (.arrayClass .boolean : Cond) ∈ sr_tbl := sr_in 139 rfl rfl
set_option maxRecDepth 20000 in
theorem qwX4_16 : (.classLink RX4 16 RX0 : Cond) ∈ sr_tbl := sr_in 140 rfl rfl
set_option maxRecDepth 20000 in
theorem qao : (.arrayOver (.object "SeepingRock$Core") : Cond) ∈ lw_tbl := List.mem_of_getElem? (i := 141) rfl
set_option maxRecDepth 20000 in
theorem qwX4_22 : (.classLink RX4 22 RX1 : Cond) ∈ sr_tbl := sr_in 142 rfl rfl
set_option maxRecDepth 20000 in
theorem qyX1 : (.instantiable RX1 16 : Cond) ∈ sr_tbl := sr_in 143 rfl rfl
set_option maxRecDepth 20000 in
theorem qmX4_24 : (.methodLink RX4 24 yX1_init : Cond) ∈ sr_tbl := sr_in 144 rfl rfl
set_option maxRecDepth 20000 in
theorem qiX1_init : (.instanceMethod yX1_init : Cond) ∈ sr_tbl := sr_in 145 rfl rfl
set_option maxRecDepth 20000 in
theorem qcX1_init : (.code yX1_init cX1_init 2 (none) : Cond) ∈ sr_tbl := sr_in 146 rfl rfl
set_option maxRecDepth 20000 in
theorem qfX1_49 : (.fieldLink RX1 49 RX1 (TX1 0).2.1 (TX1 0).2.2.1 : Cond) ∈ sr_tbl := sr_in 148 rfl rfl
set_option maxRecDepth 20000 in
theorem qfX1_53 : (.fieldLink RX1 53 RX1 (TX1 1).2.1 (TX1 1).2.2.1 : Cond) ∈ sr_tbl := sr_in 149 rfl rfl
set_option maxRecDepth 20000 in
theorem qfX4_50 : (.fieldLink RX4 50 RX1 (TX1 1).2.1 (TX1 1).2.2.1 : Cond) ∈ sr_tbl := sr_in 150 rfl rfl
set_option maxRecDepth 20000 in
theorem qfX1_57 : (.fieldLink RX1 57 RX1 (TX1 2).2.1 (TX1 2).2.2.1 : Cond) ∈ sr_tbl := sr_in 151 rfl rfl
set_option maxRecDepth 20000 in
theorem qfX4_164 : (.fieldLink RX4 164 RX1 (TX1 2).2.1 (TX1 2).2.2.1 : Cond) ∈ sr_tbl := sr_in 152 rfl rfl
set_option maxRecDepth 20000 in
theorem qfX1_9 : (.fieldLink RX1 9 RX1 (TX1 3).2.1 (TX1 3).2.2.1 : Cond) ∈ sr_tbl := sr_in 153 rfl rfl
set_option maxRecDepth 20000 in
theorem qfX4_177 : (.fieldLink RX4 177 RX1 (TX1 3).2.1 (TX1 3).2.2.1 : Cond) ∈ sr_tbl := sr_in 154 rfl rfl
set_option maxRecDepth 20000 in
theorem qfX1_15 : (.fieldLink RX1 15 RX1 (TX1 4).2.1 (TX1 4).2.2.1 : Cond) ∈ sr_tbl := sr_in 155 rfl rfl
set_option maxRecDepth 20000 in
theorem qfX1_18 : (.fieldLink RX1 18 RX1 (TX1 5).2.1 (TX1 5).2.2.1 : Cond) ∈ sr_tbl := sr_in 156 rfl rfl
set_option maxRecDepth 20000 in
theorem qfX4_180 : (.fieldLink RX4 180 RX1 (TX1 5).2.1 (TX1 5).2.2.1 : Cond) ∈ sr_tbl := sr_in 157 rfl rfl
set_option maxRecDepth 20000 in
theorem qfX1_21 : (.fieldLink RX1 21 RX1 (TX1 6).2.1 (TX1 6).2.2.1 : Cond) ∈ sr_tbl := sr_in 158 rfl rfl
set_option maxRecDepth 20000 in
theorem qfX4_183 : (.fieldLink RX4 183 RX1 (TX1 6).2.1 (TX1 6).2.2.1 : Cond) ∈ sr_tbl := sr_in 159 rfl rfl
set_option maxRecDepth 20000 in
theorem qfX1_24 : (.fieldLink RX1 24 RX1 (TX1 7).2.1 (TX1 7).2.2.1 : Cond) ∈ sr_tbl := sr_in 160 rfl rfl
set_option maxRecDepth 20000 in
theorem qfX4_186 : (.fieldLink RX4 186 RX1 (TX1 7).2.1 (TX1 7).2.2.1 : Cond) ∈ sr_tbl := sr_in 161 rfl rfl
set_option maxRecDepth 20000 in
theorem qfX1_27 : (.fieldLink RX1 27 RX1 (TX1 8).2.1 (TX1 8).2.2.1 : Cond) ∈ sr_tbl := sr_in 162 rfl rfl
set_option maxRecDepth 20000 in
theorem qfX4_189 : (.fieldLink RX4 189 RX1 (TX1 8).2.1 (TX1 8).2.2.1 : Cond) ∈ sr_tbl := sr_in 163 rfl rfl
set_option maxRecDepth 20000 in
theorem qfX1_61 : (.fieldLink RX1 61 RX1 (TX1 9).2.1 (TX1 9).2.2.1 : Cond) ∈ sr_tbl := sr_in 164 rfl rfl
set_option maxRecDepth 20000 in
theorem qfX4_195 : (.fieldLink RX4 195 RX1 (TX1 9).2.1 (TX1 9).2.2.1 : Cond) ∈ sr_tbl := sr_in 165 rfl rfl
set_option maxRecDepth 20000 in
theorem qfX1_30 : (.fieldLink RX1 30 RX1 (TX1 10).2.1 (TX1 10).2.2.1 : Cond) ∈ sr_tbl := sr_in 166 rfl rfl
set_option maxRecDepth 20000 in
theorem qfX4_198 : (.fieldLink RX4 198 RX1 (TX1 10).2.1 (TX1 10).2.2.1 : Cond) ∈ sr_tbl := sr_in 167 rfl rfl
set_option maxRecDepth 20000 in
theorem qfX1_33 : (.fieldLink RX1 33 RX1 (TX1 11).2.1 (TX1 11).2.2.1 : Cond) ∈ sr_tbl := sr_in 168 rfl rfl
set_option maxRecDepth 20000 in
theorem qfX4_201 : (.fieldLink RX4 201 RX1 (TX1 11).2.1 (TX1 11).2.2.1 : Cond) ∈ sr_tbl := sr_in 169 rfl rfl
set_option maxRecDepth 20000 in
theorem qfX1_36 : (.fieldLink RX1 36 RX1 (TX1 12).2.1 (TX1 12).2.2.1 : Cond) ∈ sr_tbl := sr_in 170 rfl rfl
set_option maxRecDepth 20000 in
theorem qfX4_204 : (.fieldLink RX4 204 RX1 (TX1 12).2.1 (TX1 12).2.2.1 : Cond) ∈ sr_tbl := sr_in 171 rfl rfl
set_option maxRecDepth 20000 in
theorem qfX1_39 : (.fieldLink RX1 39 RX1 (TX1 13).2.1 (TX1 13).2.2.1 : Cond) ∈ sr_tbl := sr_in 172 rfl rfl
set_option maxRecDepth 20000 in
theorem qfX4_207 : (.fieldLink RX4 207 RX1 (TX1 13).2.1 (TX1 13).2.2.1 : Cond) ∈ sr_tbl := sr_in 173 rfl rfl
set_option maxRecDepth 20000 in
theorem qfX1_42 : (.fieldLink RX1 42 RX1 (TX1 14).2.1 (TX1 14).2.2.1 : Cond) ∈ sr_tbl := sr_in 174 rfl rfl
set_option maxRecDepth 20000 in
theorem qfX1_45 : (.fieldLink RX1 45 RX1 (TX1 15).2.1 (TX1 15).2.2.1 : Cond) ∈ sr_tbl := sr_in 175 rfl rfl
set_option maxRecDepth 20000 in
theorem qwX4_34 : (.classLink RX4 34 RX3 : Cond) ∈ sr_tbl := sr_in 209 rfl rfl
set_option maxRecDepth 20000 in
theorem qyX3 : (.instantiable RX3 5 : Cond) ∈ sr_tbl := sr_in 210 rfl rfl
set_option maxRecDepth 20000 in
theorem qmX4_36 : (.methodLink RX4 36 yX3_init : Cond) ∈ sr_tbl := sr_in 211 rfl rfl
set_option maxRecDepth 20000 in
theorem qiX3_init : (.instanceMethod yX3_init : Cond) ∈ sr_tbl := sr_in 212 rfl rfl
set_option maxRecDepth 20000 in
theorem qcX3_init : (.code yX3_init cX3_init 2 (none) : Cond) ∈ sr_tbl := sr_in 213 rfl rfl
set_option maxRecDepth 20000 in
theorem qfX3_24 : (.fieldLink RX3 24 RX3 (TX3 0).2.1 (TX3 0).2.2.1 : Cond) ∈ sr_tbl := sr_in 215 rfl rfl
set_option maxRecDepth 20000 in
theorem qfX3_9 : (.fieldLink RX3 9 RX3 (TX3 1).2.1 (TX3 1).2.2.1 : Cond) ∈ sr_tbl := sr_in 216 rfl rfl
set_option maxRecDepth 20000 in
theorem qfX4_216 : (.fieldLink RX4 216 RX3 (TX3 1).2.1 (TX3 1).2.2.1 : Cond) ∈ sr_tbl := sr_in 217 rfl rfl
set_option maxRecDepth 20000 in
theorem qfX3_15 : (.fieldLink RX3 15 RX3 (TX3 2).2.1 (TX3 2).2.2.1 : Cond) ∈ sr_tbl := sr_in 218 rfl rfl
set_option maxRecDepth 20000 in
theorem qfX4_219 : (.fieldLink RX4 219 RX3 (TX3 2).2.1 (TX3 2).2.2.1 : Cond) ∈ sr_tbl := sr_in 219 rfl rfl
set_option maxRecDepth 20000 in
theorem qfX3_18 : (.fieldLink RX3 18 RX3 (TX3 3).2.1 (TX3 3).2.2.1 : Cond) ∈ sr_tbl := sr_in 220 rfl rfl
set_option maxRecDepth 20000 in
theorem qfX3_21 : (.fieldLink RX3 21 RX3 (TX3 4).2.1 (TX3 4).2.2.1 : Cond) ∈ sr_tbl := sr_in 221 rfl rfl
set_option maxRecDepth 20000 in
theorem qyX0 : (.instantiable RX0 5 : Cond) ∈ sr_tbl := sr_in 233 rfl rfl
set_option maxRecDepth 20000 in
theorem qmX4_45 : (.methodLinkNest RX4 45 yX0_init "SeepingRock" : Cond) ∈ lw_tbl := List.mem_of_getElem? (i := 234) rfl
set_option maxRecDepth 20000 in
theorem qiX0_init : (.instanceMethod yX0_init : Cond) ∈ sr_tbl := sr_in 235 rfl rfl
set_option maxRecDepth 20000 in
theorem qcX0_init : (.code yX0_init cX0_init 1 (none) : Cond) ∈ sr_tbl := sr_in 236 rfl rfl
set_option maxRecDepth 20000 in
theorem qfX0_19 : (.fieldLink RX0 19 RX0 (TX0 0).2.1 (TX0 0).2.2.1 : Cond) ∈ sr_tbl := sr_in 238 rfl rfl
set_option maxRecDepth 20000 in
theorem qfX4_121 : (.fieldLink RX4 121 RX0 (TX0 0).2.1 (TX0 0).2.2.1 : Cond) ∈ sr_tbl := sr_in 239 rfl rfl
set_option maxRecDepth 20000 in
theorem qfX0_23 : (.fieldLink RX0 23 RX0 (TX0 1).2.1 (TX0 1).2.2.1 : Cond) ∈ sr_tbl := sr_in 240 rfl rfl
set_option maxRecDepth 20000 in
theorem qfX4_131 : (.fieldLink RX4 131 RX0 (TX0 1).2.1 (TX0 1).2.2.1 : Cond) ∈ sr_tbl := sr_in 241 rfl rfl
set_option maxRecDepth 20000 in
theorem qfX0_27 : (.fieldLink RX0 27 RX0 (TX0 2).2.1 (TX0 2).2.2.1 : Cond) ∈ sr_tbl := sr_in 242 rfl rfl
set_option maxRecDepth 20000 in
theorem qfX0_9 : (.fieldLink RX0 9 RX0 (TX0 3).2.1 (TX0 3).2.2.1 : Cond) ∈ sr_tbl := sr_in 243 rfl rfl
set_option maxRecDepth 20000 in
theorem qfX4_146 : (.fieldLink RX4 146 RX0 (TX0 3).2.1 (TX0 3).2.2.1 : Cond) ∈ sr_tbl := sr_in 244 rfl rfl
set_option maxRecDepth 20000 in
theorem qfX0_15 : (.fieldLink RX0 15 RX0 (TX0 4).2.1 (TX0 4).2.2.1 : Cond) ∈ sr_tbl := sr_in 245 rfl rfl
set_option maxRecDepth 20000 in
theorem qa_long : (.arrayClass .long : Cond) ∈ sr_tbl := sr_in 257 rfl rfl
set_option maxRecDepth 20000 in
theorem qa_byte : (.arrayClass .byte : Cond) ∈ sr_tbl := sr_in 258 rfl rfl
set_option maxRecDepth 20000 in
theorem qfX4_10 : (.fieldLink RX4 10 RX4 (TX4 0).2.1 (TX4 0).2.2.1 : Cond) ∈ sr_tbl := sr_in 259 rfl rfl
set_option maxRecDepth 20000 in
theorem qfX4_18 : (.fieldLink RX4 18 RX4 (TX4 1).2.1 (TX4 1).2.2.1 : Cond) ∈ sr_tbl := sr_in 260 rfl rfl
set_option maxRecDepth 20000 in
theorem qfX4_27 : (.fieldLink RX4 27 RX4 (TX4 2).2.1 (TX4 2).2.2.1 : Cond) ∈ sr_tbl := sr_in 261 rfl rfl
set_option maxRecDepth 20000 in
theorem qfX4_31 : (.fieldLink RX4 31 RX4 (TX4 3).2.1 (TX4 3).2.2.1 : Cond) ∈ sr_tbl := sr_in 262 rfl rfl
set_option maxRecDepth 20000 in
theorem qfX4_37 : (.fieldLink RX4 37 RX4 (TX4 4).2.1 (TX4 4).2.2.1 : Cond) ∈ sr_tbl := sr_in 263 rfl rfl
set_option maxRecDepth 20000 in
theorem qfX4_41 : (.fieldLink RX4 41 RX4 (TX4 5).2.1 (TX4 5).2.2.1 : Cond) ∈ sr_tbl := sr_in 264 rfl rfl
set_option maxRecDepth 20000 in
theorem qfX4_171 : (.fieldLink RX4 171 RX4 (TX4 6).2.1 (TX4 6).2.2.1 : Cond) ∈ sr_tbl := sr_in 265 rfl rfl
set_option maxRecDepth 20000 in
theorem qmL_13 : (.methodLink RL 13 yX4_pore : Cond) ∈ sr_tbl := sr_in 281 rfl rfl
set_option maxRecDepth 20000 in
theorem qiX4_pore : (.instanceMethod yX4_pore : Cond) ∈ sr_tbl := sr_in 282 rfl rfl
set_option maxRecDepth 20000 in
theorem qsX4_pore : (.selects RX4 yX4_pore yX4_pore : Cond) ∈ sr_tbl := sr_in 283 rfl rfl
set_option maxRecDepth 20000 in
theorem qcX4_pore : (.code yX4_pore cX4_pore 2 (some .int) : Cond) ∈ sr_tbl := sr_in 284 rfl rfl
set_option maxRecDepth 20000 in
theorem qmX4_54 : (.methodLink RX4 54 yX2_addPore : Cond) ∈ sr_tbl := sr_in 285 rfl rfl
set_option maxRecDepth 20000 in
theorem qiX2_addPore : (.instanceMethod yX2_addPore : Cond) ∈ sr_tbl := sr_in 286 rfl rfl
set_option maxRecDepth 20000 in
theorem qsX2_addPore : (.selects RX2 yX2_addPore yX2_addPore : Cond) ∈ sr_tbl := sr_in 287 rfl rfl
set_option maxRecDepth 20000 in
theorem qcX2_addPore : (.code yX2_addPore cX2_addPore 3 (some .int) : Cond) ∈ sr_tbl := sr_in 288 rfl rfl
set_option maxRecDepth 20000 in
theorem qmL_18 : (.methodLink RL 18 yX4_throat : Cond) ∈ sr_tbl := sr_in 289 rfl rfl
set_option maxRecDepth 20000 in
theorem qiX4_throat : (.instanceMethod yX4_throat : Cond) ∈ sr_tbl := sr_in 290 rfl rfl
set_option maxRecDepth 20000 in
theorem qsX4_throat : (.selects RX4 yX4_throat yX4_throat : Cond) ∈ sr_tbl := sr_in 291 rfl rfl
set_option maxRecDepth 20000 in
theorem qcX4_throat : (.code yX4_throat cX4_throat 3 (some .int) : Cond) ∈ sr_tbl := sr_in 292 rfl rfl
set_option maxRecDepth 20000 in
theorem qmX4_58 : (.methodLink RX4 58 yX2_hasPore : Cond) ∈ sr_tbl := sr_in 293 rfl rfl
set_option maxRecDepth 20000 in
theorem qiX2_hasPore : (.instanceMethod yX2_hasPore : Cond) ∈ sr_tbl := sr_in 294 rfl rfl
set_option maxRecDepth 20000 in
theorem qsX2_hasPore : (.selects RX2 yX2_hasPore yX2_hasPore : Cond) ∈ sr_tbl := sr_in 295 rfl rfl
set_option maxRecDepth 20000 in
theorem qcX2_hasPore : (.code yX2_hasPore cX2_hasPore 2 (some .boolean) : Cond) ∈ sr_tbl := sr_in 296 rfl rfl
set_option maxRecDepth 20000 in
theorem qmX4_65 : (.methodLink RX4 65 yX2_addThroat : Cond) ∈ sr_tbl := sr_in 297 rfl rfl
set_option maxRecDepth 20000 in
theorem qiX2_addThroat : (.instanceMethod yX2_addThroat : Cond) ∈ sr_tbl := sr_in 298 rfl rfl
set_option maxRecDepth 20000 in
theorem qsX2_addThroat : (.selects RX2 yX2_addThroat yX2_addThroat : Cond) ∈ sr_tbl := sr_in 299 rfl rfl
set_option maxRecDepth 20000 in
theorem qcX2_addThroat : (.code yX2_addThroat cX2_addThroat 4 (some .int) : Cond) ∈ sr_tbl := sr_in 300 rfl rfl
set_option maxRecDepth 20000 in
theorem qmX2_47 : (.methodLink RX2 47 yX2_listAt : Cond) ∈ sr_tbl := sr_in 301 rfl rfl
set_option maxRecDepth 20000 in
theorem qiX2_listAt : (.instanceMethod yX2_listAt : Cond) ∈ sr_tbl := sr_in 303 rfl rfl
set_option maxRecDepth 20000 in
theorem qcX2_listAt : (.code yX2_listAt cX2_listAt 5 (none) : Cond) ∈ sr_tbl := sr_in 304 rfl rfl
set_option maxRecDepth 20000 in
theorem qmX2_51 : (.methodLink RX2 51 yX2_rankIn : Cond) ∈ sr_tbl := sr_in 305 rfl rfl
set_option maxRecDepth 20000 in
theorem qiX2_rankIn : (.instanceMethod yX2_rankIn : Cond) ∈ sr_tbl := sr_in 307 rfl rfl
set_option maxRecDepth 20000 in
theorem qcX2_rankIn : (.code yX2_rankIn cX2_rankIn 3 (none) : Cond) ∈ sr_tbl := sr_in 308 rfl rfl
set_option maxRecDepth 20000 in
theorem qmX2_68 : (.methodLink RX2 68 yX2_isAhead : Cond) ∈ sr_tbl := sr_in 309 rfl rfl
set_option maxRecDepth 20000 in
theorem qiX2_isAhead : (.instanceMethod yX2_isAhead : Cond) ∈ sr_tbl := sr_in 311 rfl rfl
set_option maxRecDepth 20000 in
theorem qcX2_isAhead : (.code yX2_isAhead cX2_isAhead 3 (some .boolean) : Cond) ∈ sr_tbl := sr_in 312 rfl rfl
set_option maxRecDepth 20000 in
theorem qmX2_65 : (.methodLink RX2 65 yX2_place : Cond) ∈ sr_tbl := sr_in 313 rfl rfl
set_option maxRecDepth 20000 in
theorem qiX2_place : (.instanceMethod yX2_place : Cond) ∈ sr_tbl := sr_in 315 rfl rfl
set_option maxRecDepth 20000 in
theorem qcX2_place : (.code yX2_place cX2_place 3 (none) : Cond) ∈ sr_tbl := sr_in 316 rfl rfl
set_option maxRecDepth 20000 in
theorem qmL_23 : (.methodLink RL 23 yX4_hinder : Cond) ∈ sr_tbl := sr_in 317 rfl rfl
set_option maxRecDepth 20000 in
theorem qiX4_hinder : (.instanceMethod yX4_hinder : Cond) ∈ sr_tbl := sr_in 318 rfl rfl
set_option maxRecDepth 20000 in
theorem qsX4_hinder : (.selects RX4 yX4_hinder yX4_hinder : Cond) ∈ sr_tbl := sr_in 319 rfl rfl
set_option maxRecDepth 20000 in
theorem qcX4_hinder : (.code yX4_hinder cX4_hinder 3 (some .int) : Cond) ∈ sr_tbl := sr_in 320 rfl rfl
set_option maxRecDepth 20000 in
theorem qmX4_69 : (.methodLink RX4 69 yX2_hasThroat : Cond) ∈ sr_tbl := sr_in 321 rfl rfl
set_option maxRecDepth 20000 in
theorem qiX2_hasThroat : (.instanceMethod yX2_hasThroat : Cond) ∈ sr_tbl := sr_in 322 rfl rfl
set_option maxRecDepth 20000 in
theorem qsX2_hasThroat : (.selects RX2 yX2_hasThroat yX2_hasThroat : Cond) ∈ sr_tbl := sr_in 323 rfl rfl
set_option maxRecDepth 20000 in
theorem qcX2_hasThroat : (.code yX2_hasThroat cX2_hasThroat 2 (some .boolean) : Cond) ∈ sr_tbl := sr_in 324 rfl rfl
set_option maxRecDepth 20000 in
theorem qmX4_72 : (.methodLink RX4 72 yX4_mayHinder : Cond) ∈ sr_tbl := sr_in 325 rfl rfl
set_option maxRecDepth 20000 in
theorem qtX4_mayHinder : (.static yX4_mayHinder : Cond) ∈ sr_tbl := sr_in 326 rfl rfl
set_option maxRecDepth 20000 in
theorem qcX4_mayHinder : (.code yX4_mayHinder cX4_mayHinder 2 (some .boolean) : Cond) ∈ sr_tbl := sr_in 327 rfl rfl
set_option maxRecDepth 20000 in
theorem qkX4_231 : (.constantLong RX4 231 (1000000000) : Cond) ∈ sr_tbl := sr_in 328 rfl rfl
set_option maxRecDepth 20000 in
theorem qmX4_76 : (.methodLink RX4 76 yX2_isOpen : Cond) ∈ sr_tbl := sr_in 329 rfl rfl
set_option maxRecDepth 20000 in
theorem qiX2_isOpen : (.instanceMethod yX2_isOpen : Cond) ∈ sr_tbl := sr_in 330 rfl rfl
set_option maxRecDepth 20000 in
theorem qsX2_isOpen : (.selects RX2 yX2_isOpen yX2_isOpen : Cond) ∈ sr_tbl := sr_in 331 rfl rfl
set_option maxRecDepth 20000 in
theorem qcX2_isOpen : (.code yX2_isOpen cX2_isOpen 2 (some .boolean) : Cond) ∈ sr_tbl := sr_in 332 rfl rfl
set_option maxRecDepth 20000 in
theorem qmX4_79 : (.methodLink RX4 79 yX2_settle : Cond) ∈ sr_tbl := sr_in 333 rfl rfl
set_option maxRecDepth 20000 in
theorem qiX2_settle : (.instanceMethod yX2_settle : Cond) ∈ sr_tbl := sr_in 334 rfl rfl
set_option maxRecDepth 20000 in
theorem qsX2_settle : (.selects RX2 yX2_settle yX2_settle : Cond) ∈ sr_tbl := sr_in 335 rfl rfl
set_option maxRecDepth 20000 in
theorem qcX2_settle : (.code yX2_settle cX2_settle 4 (none) : Cond) ∈ sr_tbl := sr_in 336 rfl rfl
set_option maxRecDepth 20000 in
theorem qmX2_55 : (.methodLink RX2 55 yX2_isOpen : Cond) ∈ sr_tbl := sr_in 337 rfl rfl
set_option maxRecDepth 20000 in
theorem qmX2_59 : (.methodLink RX2 59 yX2_rankOut : Cond) ∈ sr_tbl := sr_in 338 rfl rfl
set_option maxRecDepth 20000 in
theorem qiX2_rankOut : (.instanceMethod yX2_rankOut : Cond) ∈ sr_tbl := sr_in 340 rfl rfl
set_option maxRecDepth 20000 in
theorem qcX2_rankOut : (.code yX2_rankOut cX2_rankOut 3 (none) : Cond) ∈ sr_tbl := sr_in 341 rfl rfl
set_option maxRecDepth 20000 in
theorem qmL_27 : (.methodLink RL 27 yX4_shut : Cond) ∈ sr_tbl := sr_in 342 rfl rfl
set_option maxRecDepth 20000 in
theorem qiX4_shut : (.instanceMethod yX4_shut : Cond) ∈ sr_tbl := sr_in 343 rfl rfl
set_option maxRecDepth 20000 in
theorem qsX4_shut : (.selects RX4 yX4_shut yX4_shut : Cond) ∈ sr_tbl := sr_in 344 rfl rfl
set_option maxRecDepth 20000 in
theorem qcX4_shut : (.code yX4_shut cX4_shut 3 (some .int) : Cond) ∈ sr_tbl := sr_in 345 rfl rfl
set_option maxRecDepth 20000 in
theorem qmL_32 : (.methodLink RL 32 yX4_inlet : Cond) ∈ sr_tbl := sr_in 346 rfl rfl
set_option maxRecDepth 20000 in
theorem qiX4_inlet : (.instanceMethod yX4_inlet : Cond) ∈ sr_tbl := sr_in 347 rfl rfl
set_option maxRecDepth 20000 in
theorem qsX4_inlet : (.selects RX4 yX4_inlet yX4_inlet : Cond) ∈ sr_tbl := sr_in 348 rfl rfl
set_option maxRecDepth 20000 in
theorem qcX4_inlet : (.code yX4_inlet cX4_inlet 3 (some .int) : Cond) ∈ sr_tbl := sr_in 349 rfl rfl
set_option maxRecDepth 20000 in
theorem qmL_36 : (.methodLink RL 36 yX4_trapping : Cond) ∈ sr_tbl := sr_in 350 rfl rfl
set_option maxRecDepth 20000 in
theorem qiX4_trapping : (.instanceMethod yX4_trapping : Cond) ∈ sr_tbl := sr_in 351 rfl rfl
set_option maxRecDepth 20000 in
theorem qsX4_trapping : (.selects RX4 yX4_trapping yX4_trapping : Cond) ∈ sr_tbl := sr_in 352 rfl rfl
set_option maxRecDepth 20000 in
theorem qcX4_trapping : (.code yX4_trapping cX4_trapping 2 (some .int) : Cond) ∈ sr_tbl := sr_in 353 rfl rfl
set_option maxRecDepth 20000 in
theorem qmL_41 : (.methodLink RL 41 yX4_about : Cond) ∈ sr_tbl := sr_in 354 rfl rfl
set_option maxRecDepth 20000 in
theorem qiX4_about : (.instanceMethod yX4_about : Cond) ∈ sr_tbl := sr_in 355 rfl rfl
set_option maxRecDepth 20000 in
theorem qsX4_about : (.selects RX4 yX4_about yX4_about : Cond) ∈ sr_tbl := sr_in 356 rfl rfl
set_option maxRecDepth 20000 in
theorem qcX4_about : (.code yX4_about cX4_about 3 (some .int) : Cond) ∈ sr_tbl := sr_in 357 rfl rfl
set_option maxRecDepth 20000 in
theorem qmL_45 : (.methodLink RL 45 yX4_of : Cond) ∈ sr_tbl := sr_in 358 rfl rfl
set_option maxRecDepth 20000 in
theorem qiX4_of : (.instanceMethod yX4_of : Cond) ∈ sr_tbl := sr_in 359 rfl rfl
set_option maxRecDepth 20000 in
theorem qsX4_of : (.selects RX4 yX4_of yX4_of : Cond) ∈ sr_tbl := sr_in 360 rfl rfl
set_option maxRecDepth 20000 in
theorem qcX4_of : (.code yX4_of cX4_of 3 (some .int) : Cond) ∈ sr_tbl := sr_in 361 rfl rfl
set_option maxRecDepth 20000 in
theorem qmL_49 : (.methodLink RL 49 yX4_ranked : Cond) ∈ sr_tbl := sr_in 362 rfl rfl
set_option maxRecDepth 20000 in
theorem qiX4_ranked : (.instanceMethod yX4_ranked : Cond) ∈ sr_tbl := sr_in 363 rfl rfl
set_option maxRecDepth 20000 in
theorem qsX4_ranked : (.selects RX4 yX4_ranked yX4_ranked : Cond) ∈ sr_tbl := sr_in 364 rfl rfl
set_option maxRecDepth 20000 in
theorem qcX4_ranked : (.code yX4_ranked cX4_ranked 2 (some .int) : Cond) ∈ sr_tbl := sr_in 365 rfl rfl
set_option maxRecDepth 20000 in
theorem qmL_53 : (.methodLink RL 53 yX4_core : Cond) ∈ sr_tbl := sr_in 366 rfl rfl
set_option maxRecDepth 20000 in
theorem qiX4_core : (.instanceMethod yX4_core : Cond) ∈ sr_tbl := sr_in 367 rfl rfl
set_option maxRecDepth 20000 in
theorem qsX4_core : (.selects RX4 yX4_core yX4_core : Cond) ∈ sr_tbl := sr_in 368 rfl rfl
set_option maxRecDepth 20000 in
theorem qcX4_core : (.code yX4_core cX4_core 4 (some .int) : Cond) ∈ sr_tbl := sr_in 369 rfl rfl
set_option maxRecDepth 20000 in
theorem qmX4_114 : (.methodLink RX4 114 yX4_hasPlace : Cond) ∈ sr_tbl := sr_in 370 rfl rfl
set_option maxRecDepth 20000 in
theorem qtX4_hasPlace : (.static yX4_hasPlace : Cond) ∈ sr_tbl := sr_in 371 rfl rfl
set_option maxRecDepth 20000 in
theorem qcX4_hasPlace : (.code yX4_hasPlace cX4_hasPlace 1 (some .boolean) : Cond) ∈ sr_tbl := sr_in 372 rfl rfl
set_option maxRecDepth 20000 in
theorem qmX4_117 : (.methodLink RX4 117 yX0_renew : Cond) ∈ sr_tbl := sr_in 373 rfl rfl
set_option maxRecDepth 20000 in
theorem qiX0_renew : (.instanceMethod yX0_renew : Cond) ∈ sr_tbl := sr_in 374 rfl rfl
set_option maxRecDepth 20000 in
theorem qsX0_renew : (.selects RX0 yX0_renew yX0_renew : Cond) ∈ sr_tbl := sr_in 375 rfl rfl
set_option maxRecDepth 20000 in
theorem qcX0_renew : (.code yX0_renew cX0_renew 4 (none) : Cond) ∈ sr_tbl := sr_in 376 rfl rfl
set_option maxRecDepth 20000 in
theorem qmL_60 : (.methodLink RL 60 yX4_cell : Cond) ∈ sr_tbl := sr_in 377 rfl rfl
set_option maxRecDepth 20000 in
theorem qiX4_cell : (.instanceMethod yX4_cell : Cond) ∈ sr_tbl := sr_in 378 rfl rfl
set_option maxRecDepth 20000 in
theorem qsX4_cell : (.selects RX4 yX4_cell yX4_cell : Cond) ∈ sr_tbl := sr_in 379 rfl rfl
set_option maxRecDepth 20000 in
theorem qcX4_cell : (.code yX4_cell cX4_cell 6 (some .int) : Cond) ∈ sr_tbl := sr_in 380 rfl rfl
set_option maxRecDepth 20000 in
theorem qmX4_124 : (.methodLink RX4 124 yX0_hasNumber : Cond) ∈ sr_tbl := sr_in 381 rfl rfl
set_option maxRecDepth 20000 in
theorem qiX0_hasNumber : (.instanceMethod yX0_hasNumber : Cond) ∈ sr_tbl := sr_in 382 rfl rfl
set_option maxRecDepth 20000 in
theorem qsX0_hasNumber : (.selects RX0 yX0_hasNumber yX0_hasNumber : Cond) ∈ sr_tbl := sr_in 383 rfl rfl
set_option maxRecDepth 20000 in
theorem qcX0_hasNumber : (.code yX0_hasNumber cX0_hasNumber 2 (some .boolean) : Cond) ∈ sr_tbl := sr_in 384 rfl rfl
set_option maxRecDepth 20000 in
theorem qmX4_127 : (.methodLink RX4 127 yX0_put : Cond) ∈ sr_tbl := sr_in 385 rfl rfl
set_option maxRecDepth 20000 in
theorem qiX0_put : (.instanceMethod yX0_put : Cond) ∈ sr_tbl := sr_in 386 rfl rfl
set_option maxRecDepth 20000 in
theorem qsX0_put : (.selects RX0 yX0_put yX0_put : Cond) ∈ sr_tbl := sr_in 387 rfl rfl
set_option maxRecDepth 20000 in
theorem qcX0_put : (.code yX0_put cX0_put 5 (none) : Cond) ∈ sr_tbl := sr_in 388 rfl rfl
set_option maxRecDepth 20000 in
theorem qmX0_30 : (.methodLink RX0 30 yX0_wholeOf : Cond) ∈ sr_tbl := sr_in 389 rfl rfl
set_option maxRecDepth 20000 in
theorem qiX0_wholeOf : (.instanceMethod yX0_wholeOf : Cond) ∈ sr_tbl := sr_in 391 rfl rfl
set_option maxRecDepth 20000 in
theorem qcX0_wholeOf : (.code yX0_wholeOf cX0_wholeOf 4 (some .long) : Cond) ∈ sr_tbl := sr_in 392 rfl rfl
set_option maxRecDepth 20000 in
theorem qmL_65 : (.methodLink RL 65 yX4_wild : Cond) ∈ sr_tbl := sr_in 393 rfl rfl
set_option maxRecDepth 20000 in
theorem qiX4_wild : (.instanceMethod yX4_wild : Cond) ∈ sr_tbl := sr_in 394 rfl rfl
set_option maxRecDepth 20000 in
theorem qsX4_wild : (.selects RX4 yX4_wild yX4_wild : Cond) ∈ sr_tbl := sr_in 395 rfl rfl
set_option maxRecDepth 20000 in
theorem qcX4_wild : (.code yX4_wild cX4_wild 4 (some .int) : Cond) ∈ sr_tbl := sr_in 396 rfl rfl
set_option maxRecDepth 20000 in
theorem qmX4_133 : (.methodLink RX4 133 yX0_putWild : Cond) ∈ sr_tbl := sr_in 397 rfl rfl
set_option maxRecDepth 20000 in
theorem qiX0_putWild : (.instanceMethod yX0_putWild : Cond) ∈ sr_tbl := sr_in 398 rfl rfl
set_option maxRecDepth 20000 in
theorem qsX0_putWild : (.selects RX0 yX0_putWild yX0_putWild : Cond) ∈ sr_tbl := sr_in 399 rfl rfl
set_option maxRecDepth 20000 in
theorem qcX0_putWild : (.code yX0_putWild cX0_putWild 3 (none) : Cond) ∈ sr_tbl := sr_in 400 rfl rfl
set_option maxRecDepth 20000 in
theorem qkX0_34 : (.constantLong RX0 34 (9223372036854775807) : Cond) ∈ sr_tbl := sr_in 401 rfl rfl
set_option maxRecDepth 20000 in
theorem qkX0_36 : (.constantLong RX0 36 (-9223372036854775808) : Cond) ∈ sr_tbl := sr_in 402 rfl rfl
set_option maxRecDepth 20000 in
theorem qmL_69 : (.methodLink RL 69 yX4_splice : Cond) ∈ sr_tbl := sr_in 403 rfl rfl
set_option maxRecDepth 20000 in
theorem qiX4_splice : (.instanceMethod yX4_splice : Cond) ∈ sr_tbl := sr_in 404 rfl rfl
set_option maxRecDepth 20000 in
theorem qsX4_splice : (.selects RX4 yX4_splice yX4_splice : Cond) ∈ sr_tbl := sr_in 405 rfl rfl
set_option maxRecDepth 20000 in
theorem qcX4_splice : (.code yX4_splice cX4_splice 6 (some .int) : Cond) ∈ sr_tbl := sr_in 406 rfl rfl
set_option maxRecDepth 20000 in
theorem qmX4_136 : (.methodLink RX4 136 yX0_spans : Cond) ∈ sr_tbl := sr_in 407 rfl rfl
set_option maxRecDepth 20000 in
theorem qiX0_spans : (.instanceMethod yX0_spans : Cond) ∈ sr_tbl := sr_in 408 rfl rfl
set_option maxRecDepth 20000 in
theorem qsX0_spans : (.selects RX0 yX0_spans yX0_spans : Cond) ∈ sr_tbl := sr_in 409 rfl rfl
set_option maxRecDepth 20000 in
theorem qcX0_spans : (.code yX0_spans cX0_spans 3 (some .boolean) : Cond) ∈ sr_tbl := sr_in 410 rfl rfl
set_option maxRecDepth 20000 in
theorem qmX4_140 : (.methodLink RX4 140 yX0_putFrom : Cond) ∈ sr_tbl := sr_in 411 rfl rfl
set_option maxRecDepth 20000 in
theorem qiX0_putFrom : (.instanceMethod yX0_putFrom : Cond) ∈ sr_tbl := sr_in 412 rfl rfl
set_option maxRecDepth 20000 in
theorem qsX0_putFrom : (.selects RX0 yX0_putFrom yX0_putFrom : Cond) ∈ sr_tbl := sr_in 413 rfl rfl
set_option maxRecDepth 20000 in
theorem qcX0_putFrom : (.code yX0_putFrom cX0_putFrom 5 (none) : Cond) ∈ sr_tbl := sr_in 414 rfl rfl
set_option maxRecDepth 20000 in
theorem qmL_74 : (.methodLink RL 74 yX4_lose : Cond) ∈ sr_tbl := sr_in 418 rfl rfl
set_option maxRecDepth 20000 in
theorem qiX4_lose : (.instanceMethod yX4_lose : Cond) ∈ sr_tbl := sr_in 419 rfl rfl
set_option maxRecDepth 20000 in
theorem qsX4_lose : (.selects RX4 yX4_lose yX4_lose : Cond) ∈ sr_tbl := sr_in 420 rfl rfl
set_option maxRecDepth 20000 in
theorem qcX4_lose : (.code yX4_lose cX4_lose 2 (some .int) : Cond) ∈ sr_tbl := sr_in 421 rfl rfl
set_option maxRecDepth 20000 in
theorem qmL_78 : (.methodLink RL 78 yX4_told : Cond) ∈ sr_tbl := sr_in 422 rfl rfl
set_option maxRecDepth 20000 in
theorem qiX4_told : (.instanceMethod yX4_told : Cond) ∈ sr_tbl := sr_in 423 rfl rfl
set_option maxRecDepth 20000 in
theorem qsX4_told : (.selects RX4 yX4_told yX4_told : Cond) ∈ sr_tbl := sr_in 424 rfl rfl
set_option maxRecDepth 20000 in
theorem qcX4_told : (.code yX4_told cX4_told 3 (some .long) : Cond) ∈ sr_tbl := sr_in 425 rfl rfl
set_option maxRecDepth 20000 in
theorem qkX4_144 : (.constantLong RX4 144 (9223372036854775807) : Cond) ∈ sr_tbl := sr_in 426 rfl rfl
set_option maxRecDepth 20000 in
theorem qmL_83 : (.methodLink RL 83 yX4_pour : Cond) ∈ sr_tbl := sr_in 427 rfl rfl
set_option maxRecDepth 20000 in
theorem qiX4_pour : (.instanceMethod yX4_pour : Cond) ∈ sr_tbl := sr_in 428 rfl rfl
set_option maxRecDepth 20000 in
theorem qsX4_pour : (.selects RX4 yX4_pour yX4_pour : Cond) ∈ sr_tbl := sr_in 429 rfl rfl
set_option maxRecDepth 20000 in
theorem qcX4_pour : (.code yX4_pour cX4_pour 6 (some .int) : Cond) ∈ sr_tbl := sr_in 430 rfl rfl
set_option maxRecDepth 20000 in
theorem qmX4_150 : (.methodLink RX4 150 yX4_pourOne : Cond) ∈ sr_tbl := sr_in 431 rfl rfl
set_option maxRecDepth 20000 in
theorem qiX4_pourOne : (.instanceMethod yX4_pourOne : Cond) ∈ sr_tbl := sr_in 433 rfl rfl
set_option maxRecDepth 20000 in
theorem qcX4_pourOne : (.code yX4_pourOne cX4_pourOne 5 (none) : Cond) ∈ sr_tbl := sr_in 434 rfl rfl
set_option maxRecDepth 20000 in
theorem qmX4_233 : (.methodLink RX4 233 yX0_isNoNumber : Cond) ∈ sr_tbl := sr_in 435 rfl rfl
set_option maxRecDepth 20000 in
theorem qiX0_isNoNumber : (.instanceMethod yX0_isNoNumber : Cond) ∈ sr_tbl := sr_in 436 rfl rfl
set_option maxRecDepth 20000 in
theorem qsX0_isNoNumber : (.selects RX0 yX0_isNoNumber yX0_isNoNumber : Cond) ∈ sr_tbl := sr_in 437 rfl rfl
set_option maxRecDepth 20000 in
theorem qcX0_isNoNumber : (.code yX0_isNoNumber cX0_isNoNumber 2 (some .boolean) : Cond) ∈ sr_tbl := sr_in 438 rfl rfl
set_option maxRecDepth 20000 in
theorem qmL_88 : (.methodLink RL 88 yX4_begin : Cond) ∈ sr_tbl := sr_in 439 rfl rfl
set_option maxRecDepth 20000 in
theorem qiX4_begin : (.instanceMethod yX4_begin : Cond) ∈ sr_tbl := sr_in 440 rfl rfl
set_option maxRecDepth 20000 in
theorem qsX4_begin : (.selects RX4 yX4_begin yX4_begin : Cond) ∈ sr_tbl := sr_in 441 rfl rfl
set_option maxRecDepth 20000 in
theorem qcX4_begin : (.code yX4_begin cX4_begin 1 (some .int) : Cond) ∈ sr_tbl := sr_in 442 rfl rfl
set_option maxRecDepth 20000 in
theorem qmX4_154 : (.methodLink RX4 154 yX1_start : Cond) ∈ sr_tbl := sr_in 443 rfl rfl
set_option maxRecDepth 20000 in
theorem qiX1_start : (.instanceMethod yX1_start : Cond) ∈ sr_tbl := sr_in 444 rfl rfl
set_option maxRecDepth 20000 in
theorem qsX1_start : (.selects RX1 yX1_start yX1_start : Cond) ∈ sr_tbl := sr_in 445 rfl rfl
set_option maxRecDepth 20000 in
theorem qcX1_start : (.code yX1_start cX1_start 2 (none) : Cond) ∈ sr_tbl := sr_in 446 rfl rfl
set_option maxRecDepth 20000 in
theorem qmX1_72 : (.methodLink RX1 72 yX1_cutOff : Cond) ∈ sr_tbl := sr_in 447 rfl rfl
set_option maxRecDepth 20000 in
theorem qiX1_cutOff : (.instanceMethod yX1_cutOff : Cond) ∈ sr_tbl := sr_in 449 rfl rfl
set_option maxRecDepth 20000 in
theorem qcX1_cutOff : (.code yX1_cutOff cX1_cutOff 2 (none) : Cond) ∈ sr_tbl := sr_in 450 rfl rfl
set_option maxRecDepth 20000 in
theorem qmX1_128 : (.methodLink RX1 128 yX1_reachFromOutlets : Cond) ∈ sr_tbl := sr_in 451 rfl rfl
set_option maxRecDepth 20000 in
theorem qiX1_reachFromOutlets : (.instanceMethod yX1_reachFromOutlets : Cond) ∈ sr_tbl := sr_in 453 rfl rfl
set_option maxRecDepth 20000 in
theorem qcX1_reachFromOutlets : (.code yX1_reachFromOutlets cX1_reachFromOutlets 3 (none) : Cond) ∈ sr_tbl := sr_in 454 rfl rfl
set_option maxRecDepth 20000 in
theorem qmX1_135 : (.methodLink RX1 135 yX1_reachAround : Cond) ∈ sr_tbl := sr_in 455 rfl rfl
set_option maxRecDepth 20000 in
theorem qiX1_reachAround : (.instanceMethod yX1_reachAround : Cond) ∈ sr_tbl := sr_in 457 rfl rfl
set_option maxRecDepth 20000 in
theorem qcX1_reachAround : (.code yX1_reachAround cX1_reachAround 6 (some .int) : Cond) ∈ sr_tbl := sr_in 458 rfl rfl
set_option maxRecDepth 20000 in
theorem qmX1_139 : (.methodLink RX1 139 yX2_across : Cond) ∈ sr_tbl := sr_in 459 rfl rfl
set_option maxRecDepth 20000 in
theorem qiX2_across : (.instanceMethod yX2_across : Cond) ∈ sr_tbl := sr_in 460 rfl rfl
set_option maxRecDepth 20000 in
theorem qsX2_across : (.selects RX2 yX2_across yX2_across : Cond) ∈ sr_tbl := sr_in 461 rfl rfl
set_option maxRecDepth 20000 in
theorem qcX2_across : (.code yX2_across cX2_across 3 (some .int) : Cond) ∈ sr_tbl := sr_in 462 rfl rfl
set_option maxRecDepth 20000 in
theorem qmX1_111 : (.methodLink RX1 111 yX2_isOpen : Cond) ∈ sr_tbl := sr_in 463 rfl rfl
set_option maxRecDepth 20000 in
theorem qmX1_131 : (.methodLink RX1 131 yX1_addLake : Cond) ∈ sr_tbl := sr_in 464 rfl rfl
set_option maxRecDepth 20000 in
theorem qiX1_addLake : (.instanceMethod yX1_addLake : Cond) ∈ sr_tbl := sr_in 466 rfl rfl
set_option maxRecDepth 20000 in
theorem qcX1_addLake : (.code yX1_addLake cX1_addLake 4 (none) : Cond) ∈ sr_tbl := sr_in 467 rfl rfl
set_option maxRecDepth 20000 in
theorem qmX1_142 : (.methodLink RX1 142 yX1_drownAround : Cond) ∈ sr_tbl := sr_in 468 rfl rfl
set_option maxRecDepth 20000 in
theorem qiX1_drownAround : (.instanceMethod yX1_drownAround : Cond) ∈ sr_tbl := sr_in 470 rfl rfl
set_option maxRecDepth 20000 in
theorem qcX1_drownAround : (.code yX1_drownAround cX1_drownAround 6 (some .int) : Cond) ∈ sr_tbl := sr_in 471 rfl rfl
set_option maxRecDepth 20000 in
theorem qmX1_145 : (.methodLink RX1 145 yX1_greatestRankOpened : Cond) ∈ sr_tbl := sr_in 472 rfl rfl
set_option maxRecDepth 20000 in
theorem qiX1_greatestRankOpened : (.instanceMethod yX1_greatestRankOpened : Cond) ∈ sr_tbl := sr_in 474 rfl rfl
set_option maxRecDepth 20000 in
theorem qcX1_greatestRankOpened : (.code yX1_greatestRankOpened cX1_greatestRankOpened 3 (some .int) : Cond) ∈ sr_tbl := sr_in 475 rfl rfl
set_option maxRecDepth 20000 in
theorem qmX1_148 : (.methodLink RX1 148 yJ9_max_7cf53 : Cond) ∈ sr_tbl := sr_in 476 rfl rfl
set_option maxRecDepth 20000 in
theorem qtJ9_max_7cf53 : (.static yJ9_max_7cf53 : Cond) ∈ sr_tbl := sr_in 477 rfl rfl
set_option maxRecDepth 20000 in
theorem qcJ9_max_7cf53 : (.code yJ9_max_7cf53 cJ9_max_7cf53 2 (some .int) : Cond) ∈ sr_tbl := sr_in 478 rfl rfl
set_option maxRecDepth 20000 in
theorem qmX4_157 : (.methodLink RX4 157 yX1_countFilled : Cond) ∈ sr_tbl := sr_in 479 rfl rfl
set_option maxRecDepth 20000 in
theorem qiX1_countFilled : (.instanceMethod yX1_countFilled : Cond) ∈ sr_tbl := sr_in 480 rfl rfl
set_option maxRecDepth 20000 in
theorem qsX1_countFilled : (.selects RX1 yX1_countFilled yX1_countFilled : Cond) ∈ sr_tbl := sr_in 481 rfl rfl
set_option maxRecDepth 20000 in
theorem qcX1_countFilled : (.code yX1_countFilled cX1_countFilled 3 (some .int) : Cond) ∈ sr_tbl := sr_in 482 rfl rfl
set_option maxRecDepth 20000 in
theorem qmL_93 : (.methodLink RL 93 yX4_step : Cond) ∈ sr_tbl := sr_in 483 rfl rfl
set_option maxRecDepth 20000 in
theorem qiX4_step : (.instanceMethod yX4_step : Cond) ∈ sr_tbl := sr_in 484 rfl rfl
set_option maxRecDepth 20000 in
theorem qsX4_step : (.selects RX4 yX4_step yX4_step : Cond) ∈ sr_tbl := sr_in 485 rfl rfl
set_option maxRecDepth 20000 in
theorem qcX4_step : (.code yX4_step cX4_step 2 (some .int) : Cond) ∈ sr_tbl := sr_in 486 rfl rfl
set_option maxRecDepth 20000 in
theorem qmX4_161 : (.methodLink RX4 161 yX1_advance : Cond) ∈ sr_tbl := sr_in 487 rfl rfl
set_option maxRecDepth 20000 in
theorem qiX1_advance : (.instanceMethod yX1_advance : Cond) ∈ sr_tbl := sr_in 488 rfl rfl
set_option maxRecDepth 20000 in
theorem qsX1_advance : (.selects RX1 yX1_advance yX1_advance : Cond) ∈ sr_tbl := sr_in 489 rfl rfl
set_option maxRecDepth 20000 in
theorem qcX1_advance : (.code yX1_advance cX1_advance 3 (some .int) : Cond) ∈ sr_tbl := sr_in 490 rfl rfl
set_option maxRecDepth 20000 in
theorem qmX1_75 : (.methodLink RX1 75 yX1_nextThroat : Cond) ∈ sr_tbl := sr_in 491 rfl rfl
set_option maxRecDepth 20000 in
theorem qiX1_nextThroat : (.instanceMethod yX1_nextThroat : Cond) ∈ sr_tbl := sr_in 493 rfl rfl
set_option maxRecDepth 20000 in
theorem qcX1_nextThroat : (.code yX1_nextThroat cX1_nextThroat 2 (some .int) : Cond) ∈ sr_tbl := sr_in 494 rfl rfl
set_option maxRecDepth 20000 in
theorem qmX1_98 : (.methodLink RX1 98 yX1_preferredAt : Cond) ∈ sr_tbl := sr_in 495 rfl rfl
set_option maxRecDepth 20000 in
theorem qiX1_preferredAt : (.instanceMethod yX1_preferredAt : Cond) ∈ sr_tbl := sr_in 497 rfl rfl
set_option maxRecDepth 20000 in
theorem qcX1_preferredAt : (.code yX1_preferredAt cX1_preferredAt 6 (some .int) : Cond) ∈ sr_tbl := sr_in 498 rfl rfl
set_option maxRecDepth 20000 in
theorem qmX1_91 : (.methodLink RX1 91 yX1_isCandidate : Cond) ∈ sr_tbl := sr_in 499 rfl rfl
set_option maxRecDepth 20000 in
theorem qiX1_isCandidate : (.instanceMethod yX1_isCandidate : Cond) ∈ sr_tbl := sr_in 501 rfl rfl
set_option maxRecDepth 20000 in
theorem qcX1_isCandidate : (.code yX1_isCandidate cX1_isCandidate 2 (some .boolean) : Cond) ∈ sr_tbl := sr_in 502 rfl rfl
set_option maxRecDepth 20000 in
theorem qmX1_121 : (.methodLink RX1 121 yX1_leads : Cond) ∈ sr_tbl := sr_in 503 rfl rfl
set_option maxRecDepth 20000 in
theorem qiX1_leads : (.instanceMethod yX1_leads : Cond) ∈ sr_tbl := sr_in 505 rfl rfl
set_option maxRecDepth 20000 in
theorem qcX1_leads : (.code yX1_leads cX1_leads 3 (some .boolean) : Cond) ∈ sr_tbl := sr_in 506 rfl rfl
set_option maxRecDepth 20000 in
theorem qmX1_114 : (.methodLink RX1 114 yX1_isPreferred : Cond) ∈ sr_tbl := sr_in 507 rfl rfl
set_option maxRecDepth 20000 in
theorem qiX1_isPreferred : (.instanceMethod yX1_isPreferred : Cond) ∈ sr_tbl := sr_in 509 rfl rfl
set_option maxRecDepth 20000 in
theorem qcX1_isPreferred : (.code yX1_isPreferred cX1_isPreferred 4 (some .boolean) : Cond) ∈ sr_tbl := sr_in 510 rfl rfl
set_option maxRecDepth 20000 in
theorem qmX1_102 : (.methodLink RX1 102 yX1_candidate : Cond) ∈ sr_tbl := sr_in 511 rfl rfl
set_option maxRecDepth 20000 in
theorem qiX1_candidate : (.instanceMethod yX1_candidate : Cond) ∈ sr_tbl := sr_in 512 rfl rfl
set_option maxRecDepth 20000 in
theorem qsX1_candidate : (.selects RX1 yX1_candidate yX1_candidate : Cond) ∈ sr_tbl := sr_in 513 rfl rfl
set_option maxRecDepth 20000 in
theorem qcX1_candidate : (.code yX1_candidate cX1_candidate 4 (some .int) : Cond) ∈ sr_tbl := sr_in 514 rfl rfl
set_option maxRecDepth 20000 in
theorem qmL_97 : (.methodLink RL 97 yX4_run : Cond) ∈ sr_tbl := sr_in 515 rfl rfl
set_option maxRecDepth 20000 in
theorem qiX4_run : (.instanceMethod yX4_run : Cond) ∈ sr_tbl := sr_in 516 rfl rfl
set_option maxRecDepth 20000 in
theorem qsX4_run : (.selects RX4 yX4_run yX4_run : Cond) ∈ sr_tbl := sr_in 517 rfl rfl
set_option maxRecDepth 20000 in
theorem qcX4_run : (.code yX4_run cX4_run 4 (some .int) : Cond) ∈ sr_tbl := sr_in 518 rfl rfl
set_option maxRecDepth 20000 in
theorem qmL_101 : (.methodLink RL 101 yX4_undo : Cond) ∈ sr_tbl := sr_in 519 rfl rfl
set_option maxRecDepth 20000 in
theorem qiX4_undo : (.instanceMethod yX4_undo : Cond) ∈ sr_tbl := sr_in 520 rfl rfl
set_option maxRecDepth 20000 in
theorem qsX4_undo : (.selects RX4 yX4_undo yX4_undo : Cond) ∈ sr_tbl := sr_in 521 rfl rfl
set_option maxRecDepth 20000 in
theorem qcX4_undo : (.code yX4_undo cX4_undo 2 (some .int) : Cond) ∈ sr_tbl := sr_in 522 rfl rfl
set_option maxRecDepth 20000 in
theorem qmX4_167 : (.methodLink RX4 167 yX1_takeBackTo : Cond) ∈ sr_tbl := sr_in 523 rfl rfl
set_option maxRecDepth 20000 in
theorem qiX1_takeBackTo : (.instanceMethod yX1_takeBackTo : Cond) ∈ sr_tbl := sr_in 524 rfl rfl
set_option maxRecDepth 20000 in
theorem qsX1_takeBackTo : (.selects RX1 yX1_takeBackTo yX1_takeBackTo : Cond) ∈ sr_tbl := sr_in 525 rfl rfl
set_option maxRecDepth 20000 in
theorem qcX1_takeBackTo : (.code yX1_takeBackTo cX1_takeBackTo 3 (none) : Cond) ∈ sr_tbl := sr_in 526 rfl rfl
set_option maxRecDepth 20000 in
theorem qmL_105 : (.methodLink RL 105 yX4_many : Cond) ∈ sr_tbl := sr_in 527 rfl rfl
set_option maxRecDepth 20000 in
theorem qiX4_many : (.instanceMethod yX4_many : Cond) ∈ sr_tbl := sr_in 528 rfl rfl
set_option maxRecDepth 20000 in
theorem qsX4_many : (.selects RX4 yX4_many yX4_many : Cond) ∈ sr_tbl := sr_in 529 rfl rfl
set_option maxRecDepth 20000 in
theorem qcX4_many : (.code yX4_many cX4_many 2 (some .int) : Cond) ∈ sr_tbl := sr_in 530 rfl rfl
set_option maxRecDepth 20000 in
theorem qmX4_174 : (.methodLink RX4 174 yX4_manyInRun : Cond) ∈ sr_tbl := sr_in 531 rfl rfl
set_option maxRecDepth 20000 in
theorem qiX4_manyInRun : (.instanceMethod yX4_manyInRun : Cond) ∈ sr_tbl := sr_in 533 rfl rfl
set_option maxRecDepth 20000 in
theorem qcX4_manyInRun : (.code yX4_manyInRun cX4_manyInRun 2 (some .int) : Cond) ∈ sr_tbl := sr_in 534 rfl rfl
set_option maxRecDepth 20000 in
theorem qmX4_236 : (.methodLink RX4 236 yX1_countCut : Cond) ∈ sr_tbl := sr_in 535 rfl rfl
set_option maxRecDepth 20000 in
theorem qiX1_countCut : (.instanceMethod yX1_countCut : Cond) ∈ sr_tbl := sr_in 536 rfl rfl
set_option maxRecDepth 20000 in
theorem qsX1_countCut : (.selects RX1 yX1_countCut yX1_countCut : Cond) ∈ sr_tbl := sr_in 537 rfl rfl
set_option maxRecDepth 20000 in
theorem qcX1_countCut : (.code yX1_countCut cX1_countCut 3 (some .int) : Cond) ∈ sr_tbl := sr_in 538 rfl rfl
set_option maxRecDepth 20000 in
theorem qmX4_239 : (.methodLink RX4 239 yX1_countCandidates : Cond) ∈ sr_tbl := sr_in 539 rfl rfl
set_option maxRecDepth 20000 in
theorem qiX1_countCandidates : (.instanceMethod yX1_countCandidates : Cond) ∈ sr_tbl := sr_in 540 rfl rfl
set_option maxRecDepth 20000 in
theorem qsX1_countCandidates : (.selects RX1 yX1_countCandidates yX1_countCandidates : Cond) ∈ sr_tbl := sr_in 541 rfl rfl
set_option maxRecDepth 20000 in
theorem qcX1_countCandidates : (.code yX1_countCandidates cX1_countCandidates 3 (some .int) : Cond) ∈ sr_tbl := sr_in 542 rfl rfl
set_option maxRecDepth 20000 in
theorem qmL_109 : (.methodLink RL 109 yX4_opened : Cond) ∈ sr_tbl := sr_in 543 rfl rfl
set_option maxRecDepth 20000 in
theorem qiX4_opened : (.instanceMethod yX4_opened : Cond) ∈ sr_tbl := sr_in 544 rfl rfl
set_option maxRecDepth 20000 in
theorem qsX4_opened : (.selects RX4 yX4_opened yX4_opened : Cond) ∈ sr_tbl := sr_in 545 rfl rfl
set_option maxRecDepth 20000 in
theorem qcX4_opened : (.code yX4_opened cX4_opened 2 (some .int) : Cond) ∈ sr_tbl := sr_in 546 rfl rfl
set_option maxRecDepth 20000 in
theorem qmL_113 : (.methodLink RL 113 yX4_now : Cond) ∈ sr_tbl := sr_in 547 rfl rfl
set_option maxRecDepth 20000 in
theorem qiX4_now : (.instanceMethod yX4_now : Cond) ∈ sr_tbl := sr_in 548 rfl rfl
set_option maxRecDepth 20000 in
theorem qsX4_now : (.selects RX4 yX4_now yX4_now : Cond) ∈ sr_tbl := sr_in 549 rfl rfl
set_option maxRecDepth 20000 in
theorem qcX4_now : (.code yX4_now cX4_now 3 (some .int) : Cond) ∈ sr_tbl := sr_in 550 rfl rfl
set_option maxRecDepth 20000 in
theorem qmL_117 : (.methodLink RL 117 yX4_front : Cond) ∈ sr_tbl := sr_in 551 rfl rfl
set_option maxRecDepth 20000 in
theorem qiX4_front : (.instanceMethod yX4_front : Cond) ∈ sr_tbl := sr_in 552 rfl rfl
set_option maxRecDepth 20000 in
theorem qsX4_front : (.selects RX4 yX4_front yX4_front : Cond) ∈ sr_tbl := sr_in 553 rfl rfl
set_option maxRecDepth 20000 in
theorem qcX4_front : (.code yX4_front cX4_front 2 (some .int) : Cond) ∈ sr_tbl := sr_in 554 rfl rfl
set_option maxRecDepth 20000 in
theorem qmX4_192 : (.methodLink RX4 192 yX1_candidate : Cond) ∈ sr_tbl := sr_in 555 rfl rfl
set_option maxRecDepth 20000 in
theorem qmL_121 : (.methodLink RL 121 yX4_lake : Cond) ∈ sr_tbl := sr_in 556 rfl rfl
set_option maxRecDepth 20000 in
theorem qiX4_lake : (.instanceMethod yX4_lake : Cond) ∈ sr_tbl := sr_in 557 rfl rfl
set_option maxRecDepth 20000 in
theorem qsX4_lake : (.selects RX4 yX4_lake yX4_lake : Cond) ∈ sr_tbl := sr_in 558 rfl rfl
set_option maxRecDepth 20000 in
theorem qcX4_lake : (.code yX4_lake cX4_lake 3 (some .int) : Cond) ∈ sr_tbl := sr_in 559 rfl rfl
set_option maxRecDepth 20000 in
theorem qmL_125 : (.methodLink RL 125 yX4_through : Cond) ∈ sr_tbl := sr_in 560 rfl rfl
set_option maxRecDepth 20000 in
theorem qiX4_through : (.instanceMethod yX4_through : Cond) ∈ sr_tbl := sr_in 561 rfl rfl
set_option maxRecDepth 20000 in
theorem qsX4_through : (.selects RX4 yX4_through yX4_through : Cond) ∈ sr_tbl := sr_in 562 rfl rfl
set_option maxRecDepth 20000 in
theorem qcX4_through : (.code yX4_through cX4_through 1 (some .int) : Cond) ∈ sr_tbl := sr_in 563 rfl rfl
set_option maxRecDepth 20000 in
theorem qmX4_210 : (.methodLink RX4 210 yX1_firstOutletStep : Cond) ∈ sr_tbl := sr_in 564 rfl rfl
set_option maxRecDepth 20000 in
theorem qiX1_firstOutletStep : (.instanceMethod yX1_firstOutletStep : Cond) ∈ sr_tbl := sr_in 565 rfl rfl
set_option maxRecDepth 20000 in
theorem qsX1_firstOutletStep : (.selects RX1 yX1_firstOutletStep yX1_firstOutletStep : Cond) ∈ sr_tbl := sr_in 566 rfl rfl
set_option maxRecDepth 20000 in
theorem qcX1_firstOutletStep : (.code yX1_firstOutletStep cX1_firstOutletStep 4 (some .int) : Cond) ∈ sr_tbl := sr_in 567 rfl rfl
set_option maxRecDepth 20000 in
theorem qmL_129 : (.methodLink RL 129 yX4_worst : Cond) ∈ sr_tbl := sr_in 568 rfl rfl
set_option maxRecDepth 20000 in
theorem qiX4_worst : (.instanceMethod yX4_worst : Cond) ∈ sr_tbl := sr_in 569 rfl rfl
set_option maxRecDepth 20000 in
theorem qsX4_worst : (.selects RX4 yX4_worst yX4_worst : Cond) ∈ sr_tbl := sr_in 570 rfl rfl
set_option maxRecDepth 20000 in
theorem qcX4_worst : (.code yX4_worst cX4_worst 2 (some .int) : Cond) ∈ sr_tbl := sr_in 571 rfl rfl
set_option maxRecDepth 20000 in
theorem qmX4_213 : (.methodLink RX4 213 yX3_flood : Cond) ∈ sr_tbl := sr_in 572 rfl rfl
set_option maxRecDepth 20000 in
theorem qiX3_flood : (.instanceMethod yX3_flood : Cond) ∈ sr_tbl := sr_in 573 rfl rfl
set_option maxRecDepth 20000 in
theorem qsX3_flood : (.selects RX3 yX3_flood yX3_flood : Cond) ∈ sr_tbl := sr_in 574 rfl rfl
set_option maxRecDepth 20000 in
theorem qcX3_flood : (.code yX3_flood cX3_flood 2 (none) : Cond) ∈ sr_tbl := sr_in 575 rfl rfl
set_option maxRecDepth 20000 in
theorem qmX3_38 : (.methodLink RX3 38 yX3_fillNext : Cond) ∈ sr_tbl := sr_in 576 rfl rfl
set_option maxRecDepth 20000 in
theorem qiX3_fillNext : (.instanceMethod yX3_fillNext : Cond) ∈ sr_tbl := sr_in 578 rfl rfl
set_option maxRecDepth 20000 in
theorem qcX3_fillNext : (.code yX3_fillNext cX3_fillNext 5 (some .boolean) : Cond) ∈ sr_tbl := sr_in 579 rfl rfl
set_option maxRecDepth 20000 in
theorem qmX3_65 : (.methodLink RX3 65 yX3_fill : Cond) ∈ sr_tbl := sr_in 580 rfl rfl
set_option maxRecDepth 20000 in
theorem qiX3_fill : (.instanceMethod yX3_fill : Cond) ∈ sr_tbl := sr_in 582 rfl rfl
set_option maxRecDepth 20000 in
theorem qcX3_fill : (.code yX3_fill cX3_fill 4 (none) : Cond) ∈ sr_tbl := sr_in 583 rfl rfl
set_option maxRecDepth 20000 in
theorem qmX3_42 : (.methodLink RX3 42 yX2_across : Cond) ∈ sr_tbl := sr_in 584 rfl rfl
set_option maxRecDepth 20000 in
theorem qmX3_72 : (.methodLink RX3 72 yJ9_max_7cf53 : Cond) ∈ sr_tbl := sr_in 585 rfl rfl
set_option maxRecDepth 20000 in
theorem qmL_133 : (.methodLink RL 133 yX4_way : Cond) ∈ sr_tbl := sr_in 586 rfl rfl
set_option maxRecDepth 20000 in
theorem qiX4_way : (.instanceMethod yX4_way : Cond) ∈ sr_tbl := sr_in 587 rfl rfl
set_option maxRecDepth 20000 in
theorem qsX4_way : (.selects RX4 yX4_way yX4_way : Cond) ∈ sr_tbl := sr_in 588 rfl rfl
set_option maxRecDepth 20000 in
theorem qcX4_way : (.code yX4_way cX4_way 3 (some .int) : Cond) ∈ sr_tbl := sr_in 589 rfl rfl
set_option maxRecDepth 20000 in
theorem qmX4_222 : (.methodLink RX4 222 yX3_throatOnWay : Cond) ∈ sr_tbl := sr_in 590 rfl rfl
set_option maxRecDepth 20000 in
theorem qiX3_throatOnWay : (.instanceMethod yX3_throatOnWay : Cond) ∈ sr_tbl := sr_in 591 rfl rfl
set_option maxRecDepth 20000 in
theorem qsX3_throatOnWay : (.selects RX3 yX3_throatOnWay yX3_throatOnWay : Cond) ∈ sr_tbl := sr_in 592 rfl rfl
set_option maxRecDepth 20000 in
theorem qcX3_throatOnWay : (.code yX3_throatOnWay cX3_throatOnWay 5 (some .int) : Cond) ∈ sr_tbl := sr_in 593 rfl rfl
set_option maxRecDepth 20000 in
theorem qmL_137 : (.methodLink RL 137 yX4_join : Cond) ∈ sr_tbl := sr_in 594 rfl rfl
set_option maxRecDepth 20000 in
theorem qiX4_join : (.instanceMethod yX4_join : Cond) ∈ sr_tbl := sr_in 595 rfl rfl
set_option maxRecDepth 20000 in
theorem qsX4_join : (.selects RX4 yX4_join yX4_join : Cond) ∈ sr_tbl := sr_in 596 rfl rfl
set_option maxRecDepth 20000 in
theorem qcX4_join : (.code yX4_join cX4_join 3 (some .int) : Cond) ∈ sr_tbl := sr_in 597 rfl rfl
set_option maxRecDepth 20000 in
theorem qmX4_225 : (.methodLink RX4 225 yX3_rankJoining : Cond) ∈ sr_tbl := sr_in 598 rfl rfl
set_option maxRecDepth 20000 in
theorem qiX3_rankJoining : (.instanceMethod yX3_rankJoining : Cond) ∈ sr_tbl := sr_in 599 rfl rfl
set_option maxRecDepth 20000 in
theorem qsX3_rankJoining : (.selects RX3 yX3_rankJoining yX3_rankJoining : Cond) ∈ sr_tbl := sr_in 600 rfl rfl
set_option maxRecDepth 20000 in
theorem qcX3_rankJoining : (.code yX3_rankJoining cX3_rankJoining 4 (some .int) : Cond) ∈ sr_tbl := sr_in 601 rfl rfl
set_option maxRecDepth 20000 in
theorem qmX3_46 : (.methodLink RX3 46 yX3_stand : Cond) ∈ sr_tbl := sr_in 602 rfl rfl
set_option maxRecDepth 20000 in
theorem qiX3_stand : (.instanceMethod yX3_stand : Cond) ∈ sr_tbl := sr_in 604 rfl rfl
set_option maxRecDepth 20000 in
theorem qcX3_stand : (.code yX3_stand cX3_stand 2 (none) : Cond) ∈ sr_tbl := sr_in 605 rfl rfl
set_option maxRecDepth 20000 in
theorem qmX3_55 : (.methodLink RX3 55 yX3_unite : Cond) ∈ sr_tbl := sr_in 606 rfl rfl
set_option maxRecDepth 20000 in
theorem qiX3_unite : (.instanceMethod yX3_unite : Cond) ∈ sr_tbl := sr_in 608 rfl rfl
set_option maxRecDepth 20000 in
theorem qcX3_unite : (.code yX3_unite cX3_unite 5 (some .boolean) : Cond) ∈ sr_tbl := sr_in 609 rfl rfl
set_option maxRecDepth 20000 in
theorem qmL_141 : (.methodLink RL 141 yX4_tree : Cond) ∈ sr_tbl := sr_in 610 rfl rfl
set_option maxRecDepth 20000 in
theorem qiX4_tree : (.instanceMethod yX4_tree : Cond) ∈ sr_tbl := sr_in 611 rfl rfl
set_option maxRecDepth 20000 in
theorem qsX4_tree : (.selects RX4 yX4_tree yX4_tree : Cond) ∈ sr_tbl := sr_in 612 rfl rfl
set_option maxRecDepth 20000 in
theorem qcX4_tree : (.code yX4_tree cX4_tree 2 (some .int) : Cond) ∈ sr_tbl := sr_in 613 rfl rfl
set_option maxRecDepth 20000 in
theorem qmX4_228 : (.methodLink RX4 228 yX3_branch : Cond) ∈ sr_tbl := sr_in 614 rfl rfl
set_option maxRecDepth 20000 in
theorem qiX3_branch : (.instanceMethod yX3_branch : Cond) ∈ sr_tbl := sr_in 615 rfl rfl
set_option maxRecDepth 20000 in
theorem qsX3_branch : (.selects RX3 yX3_branch yX3_branch : Cond) ∈ sr_tbl := sr_in 616 rfl rfl
set_option maxRecDepth 20000 in
theorem qcX3_branch : (.code yX3_branch cX3_branch 4 (some .int) : Cond) ∈ sr_tbl := sr_in 617 rfl rfl
set_option maxRecDepth 20000 in
theorem qmL_145 : (.methodLink RL 145 yX4_claim : Cond) ∈ sr_tbl := sr_in 618 rfl rfl
set_option maxRecDepth 20000 in
theorem qiX4_claim : (.instanceMethod yX4_claim : Cond) ∈ sr_tbl := sr_in 619 rfl rfl
set_option maxRecDepth 20000 in
theorem qsX4_claim : (.selects RX4 yX4_claim yX4_claim : Cond) ∈ sr_tbl := sr_in 620 rfl rfl
set_option maxRecDepth 20000 in
theorem qcX4_claim : (.code yX4_claim cX4_claim 2 (some .int) : Cond) ∈ sr_tbl := sr_in 621 rfl rfl
set_option maxRecDepth 20000 in
theorem qmL_149 : (.methodLink RL 149 yX4_copy : Cond) ∈ sr_tbl := sr_in 622 rfl rfl
set_option maxRecDepth 20000 in
theorem qiX4_copy : (.instanceMethod yX4_copy : Cond) ∈ sr_tbl := sr_in 623 rfl rfl
set_option maxRecDepth 20000 in
theorem qsX4_copy : (.selects RX4 yX4_copy yX4_copy : Cond) ∈ sr_tbl := sr_in 624 rfl rfl
set_option maxRecDepth 20000 in
theorem qcX4_copy : (.code yX4_copy cX4_copy 2 (some .int) : Cond) ∈ sr_tbl := sr_in 625 rfl rfl
set_option maxRecDepth 20000 in
theorem qmL_153 : (.methodLink RL 153 yX4_alter : Cond) ∈ sr_tbl := sr_in 626 rfl rfl
set_option maxRecDepth 20000 in
theorem qiX4_alter : (.instanceMethod yX4_alter : Cond) ∈ sr_tbl := sr_in 627 rfl rfl
set_option maxRecDepth 20000 in
theorem qsX4_alter : (.selects RX4 yX4_alter yX4_alter : Cond) ∈ sr_tbl := sr_in 628 rfl rfl
set_option maxRecDepth 20000 in
theorem qcX4_alter : (.code yX4_alter cX4_alter 3 (some .int) : Cond) ∈ sr_tbl := sr_in 629 rfl rfl
set_option maxRecDepth 20000 in
theorem qmL_157 : (.methodLink RL 157 yX4_unclaim : Cond) ∈ sr_tbl := sr_in 630 rfl rfl
set_option maxRecDepth 20000 in
theorem qiX4_unclaim : (.instanceMethod yX4_unclaim : Cond) ∈ sr_tbl := sr_in 631 rfl rfl
set_option maxRecDepth 20000 in
theorem qsX4_unclaim : (.selects RX4 yX4_unclaim yX4_unclaim : Cond) ∈ sr_tbl := sr_in 632 rfl rfl
set_option maxRecDepth 20000 in
theorem qcX4_unclaim : (.code yX4_unclaim cX4_unclaim 2 (some .int) : Cond) ∈ sr_tbl := sr_in 633 rfl rfl
set_option maxRecDepth 20000 in
theorem qmL_161 : (.methodLink RL 161 yX4_check : Cond) ∈ sr_tbl := sr_in 634 rfl rfl
set_option maxRecDepth 20000 in
theorem qiX4_check : (.instanceMethod yX4_check : Cond) ∈ sr_tbl := sr_in 635 rfl rfl
set_option maxRecDepth 20000 in
theorem qsX4_check : (.selects RX4 yX4_check yX4_check : Cond) ∈ sr_tbl := sr_in 636 rfl rfl
set_option maxRecDepth 20000 in
theorem qcX4_check : (.code yX4_check cX4_check 2 (some .int) : Cond) ∈ sr_tbl := sr_in 637 rfl rfl
set_option maxRecDepth 20000 in
theorem qwL_10 : (.classLink RL 10 RX5 : Cond) ∈ sr_tbl := sr_in 638 rfl rfl
set_option maxRecDepth 20000 in
theorem qyX5 : (.instantiable RX5 33 : Cond) ∈ sr_tbl := sr_in 639 rfl rfl
set_option maxRecDepth 20000 in
theorem qmL_12 : (.methodLink RL 12 yX5_init : Cond) ∈ sr_tbl := sr_in 640 rfl rfl
set_option maxRecDepth 20000 in
theorem qiX5_init : (.instanceMethod yX5_init : Cond) ∈ sr_tbl := sr_in 641 rfl rfl
set_option maxRecDepth 20000 in
theorem qcX5_init : (.code yX5_init cX5_init 2 (none) : Cond) ∈ sr_tbl := sr_in 642 rfl rfl
set_option maxRecDepth 20000 in
theorem qfX5_88 : (.fieldLink RX5 88 RX5 (TX5 0).2.1 (TX5 0).2.2.1 : Cond) ∈ sr_tbl := sr_in 644 rfl rfl
set_option maxRecDepth 20000 in
theorem qfX5_7 : (.fieldLink RX5 7 RX5 (TX5 1).2.1 (TX5 1).2.2.1 : Cond) ∈ sr_tbl := sr_in 645 rfl rfl
set_option maxRecDepth 20000 in
theorem qfX5_13 : (.fieldLink RX5 13 RX5 (TX5 2).2.1 (TX5 2).2.2.1 : Cond) ∈ sr_tbl := sr_in 646 rfl rfl
set_option maxRecDepth 20000 in
theorem qfX5_92 : (.fieldLink RX5 92 RX5 (TX5 3).2.1 (TX5 3).2.2.1 : Cond) ∈ sr_tbl := sr_in 647 rfl rfl
set_option maxRecDepth 20000 in
theorem qfX5_17 : (.fieldLink RX5 17 RX5 (TX5 4).2.1 (TX5 4).2.2.1 : Cond) ∈ sr_tbl := sr_in 648 rfl rfl
set_option maxRecDepth 20000 in
theorem qfX5_20 : (.fieldLink RX5 20 RX5 (TX5 5).2.1 (TX5 5).2.2.1 : Cond) ∈ sr_tbl := sr_in 649 rfl rfl
set_option maxRecDepth 20000 in
theorem qfX5_23 : (.fieldLink RX5 23 RX5 (TX5 6).2.1 (TX5 6).2.2.1 : Cond) ∈ sr_tbl := sr_in 650 rfl rfl
set_option maxRecDepth 20000 in
theorem qfX5_26 : (.fieldLink RX5 26 RX5 (TX5 7).2.1 (TX5 7).2.2.1 : Cond) ∈ sr_tbl := sr_in 651 rfl rfl
set_option maxRecDepth 20000 in
theorem qfX5_107 : (.fieldLink RX5 107 RX5 (TX5 8).2.1 (TX5 8).2.2.1 : Cond) ∈ sr_tbl := sr_in 652 rfl rfl
set_option maxRecDepth 20000 in
theorem qfX5_29 : (.fieldLink RX5 29 RX5 (TX5 9).2.1 (TX5 9).2.2.1 : Cond) ∈ sr_tbl := sr_in 653 rfl rfl
set_option maxRecDepth 20000 in
theorem qfX5_32 : (.fieldLink RX5 32 RX5 (TX5 10).2.1 (TX5 10).2.2.1 : Cond) ∈ sr_tbl := sr_in 654 rfl rfl
set_option maxRecDepth 20000 in
theorem qfX5_35 : (.fieldLink RX5 35 RX5 (TX5 11).2.1 (TX5 11).2.2.1 : Cond) ∈ sr_tbl := sr_in 655 rfl rfl
set_option maxRecDepth 20000 in
theorem qfX5_39 : (.fieldLink RX5 39 RX5 (TX5 12).2.1 (TX5 12).2.2.1 : Cond) ∈ sr_tbl := sr_in 656 rfl rfl
set_option maxRecDepth 20000 in
theorem qfX5_95 : (.fieldLink RX5 95 RX5 (TX5 13).2.1 (TX5 13).2.2.1 : Cond) ∈ sr_tbl := sr_in 657 rfl rfl
set_option maxRecDepth 20000 in
theorem qfX5_152 : (.fieldLink RX5 152 RX5 (TX5 14).2.1 (TX5 14).2.2.1 : Cond) ∈ sr_tbl := sr_in 658 rfl rfl
set_option maxRecDepth 20000 in
theorem qfX5_43 : (.fieldLink RX5 43 RX5 (TX5 15).2.1 (TX5 15).2.2.1 : Cond) ∈ sr_tbl := sr_in 659 rfl rfl
set_option maxRecDepth 20000 in
theorem qfX5_46 : (.fieldLink RX5 46 RX5 (TX5 16).2.1 (TX5 16).2.2.1 : Cond) ∈ sr_tbl := sr_in 660 rfl rfl
set_option maxRecDepth 20000 in
theorem qfX5_49 : (.fieldLink RX5 49 RX5 (TX5 17).2.1 (TX5 17).2.2.1 : Cond) ∈ sr_tbl := sr_in 661 rfl rfl
set_option maxRecDepth 20000 in
theorem qfX5_52 : (.fieldLink RX5 52 RX5 (TX5 18).2.1 (TX5 18).2.2.1 : Cond) ∈ sr_tbl := sr_in 662 rfl rfl
set_option maxRecDepth 20000 in
theorem qfX5_185 : (.fieldLink RX5 185 RX5 (TX5 19).2.1 (TX5 19).2.2.1 : Cond) ∈ sr_tbl := sr_in 663 rfl rfl
set_option maxRecDepth 20000 in
theorem qfX5_55 : (.fieldLink RX5 55 RX5 (TX5 20).2.1 (TX5 20).2.2.1 : Cond) ∈ sr_tbl := sr_in 664 rfl rfl
set_option maxRecDepth 20000 in
theorem qfX5_58 : (.fieldLink RX5 58 RX5 (TX5 21).2.1 (TX5 21).2.2.1 : Cond) ∈ sr_tbl := sr_in 665 rfl rfl
set_option maxRecDepth 20000 in
theorem qfX5_61 : (.fieldLink RX5 61 RX5 (TX5 22).2.1 (TX5 22).2.2.1 : Cond) ∈ sr_tbl := sr_in 666 rfl rfl
set_option maxRecDepth 20000 in
theorem qfX5_64 : (.fieldLink RX5 64 RX5 (TX5 23).2.1 (TX5 23).2.2.1 : Cond) ∈ sr_tbl := sr_in 667 rfl rfl
set_option maxRecDepth 20000 in
theorem qfX5_67 : (.fieldLink RX5 67 RX5 (TX5 24).2.1 (TX5 24).2.2.1 : Cond) ∈ sr_tbl := sr_in 668 rfl rfl
set_option maxRecDepth 20000 in
theorem qfX5_179 : (.fieldLink RX5 179 RX5 (TX5 25).2.1 (TX5 25).2.2.1 : Cond) ∈ sr_tbl := sr_in 669 rfl rfl
set_option maxRecDepth 20000 in
theorem qfX5_70 : (.fieldLink RX5 70 RX5 (TX5 26).2.1 (TX5 26).2.2.1 : Cond) ∈ sr_tbl := sr_in 670 rfl rfl
set_option maxRecDepth 20000 in
theorem qfX5_73 : (.fieldLink RX5 73 RX5 (TX5 27).2.1 (TX5 27).2.2.1 : Cond) ∈ sr_tbl := sr_in 671 rfl rfl
set_option maxRecDepth 20000 in
theorem qfX5_76 : (.fieldLink RX5 76 RX5 (TX5 28).2.1 (TX5 28).2.2.1 : Cond) ∈ sr_tbl := sr_in 672 rfl rfl
set_option maxRecDepth 20000 in
theorem qfX5_79 : (.fieldLink RX5 79 RX5 (TX5 29).2.1 (TX5 29).2.2.1 : Cond) ∈ sr_tbl := sr_in 673 rfl rfl
set_option maxRecDepth 20000 in
theorem qfX5_82 : (.fieldLink RX5 82 RX5 (TX5 30).2.1 (TX5 30).2.2.1 : Cond) ∈ sr_tbl := sr_in 674 rfl rfl
set_option maxRecDepth 20000 in
theorem qfX5_85 : (.fieldLink RX5 85 RX5 (TX5 31).2.1 (TX5 31).2.2.1 : Cond) ∈ sr_tbl := sr_in 675 rfl rfl
set_option maxRecDepth 20000 in
theorem qfX5_209 : (.fieldLink RX5 209 RX5 (TX5 32).2.1 (TX5 32).2.2.1 : Cond) ∈ sr_tbl := sr_in 676 rfl rfl
set_option maxRecDepth 20000 in
theorem qa_double : (.arrayClass .double : Cond) ∈ sr_tbl := sr_in 744 rfl rfl
set_option maxRecDepth 20000 in
theorem qmL_17 : (.methodLink RL 17 yX5_pore : Cond) ∈ sr_tbl := sr_in 745 rfl rfl
set_option maxRecDepth 20000 in
theorem qiX5_pore : (.instanceMethod yX5_pore : Cond) ∈ sr_tbl := sr_in 746 rfl rfl
set_option maxRecDepth 20000 in
theorem qsX5_pore : (.selects RX5 yX5_pore yX5_pore : Cond) ∈ sr_tbl := sr_in 747 rfl rfl
set_option maxRecDepth 20000 in
theorem qcX5_pore : (.code yX5_pore cX5_pore 2 (some .int) : Cond) ∈ sr_tbl := sr_in 748 rfl rfl
set_option maxRecDepth 20000 in
theorem qmL_22 : (.methodLink RL 22 yX5_throat : Cond) ∈ sr_tbl := sr_in 749 rfl rfl
set_option maxRecDepth 20000 in
theorem qiX5_throat : (.instanceMethod yX5_throat : Cond) ∈ sr_tbl := sr_in 750 rfl rfl
set_option maxRecDepth 20000 in
theorem qsX5_throat : (.selects RX5 yX5_throat yX5_throat : Cond) ∈ sr_tbl := sr_in 751 rfl rfl
set_option maxRecDepth 20000 in
theorem qcX5_throat : (.code yX5_throat cX5_throat 3 (some .int) : Cond) ∈ sr_tbl := sr_in 752 rfl rfl
set_option maxRecDepth 20000 in
theorem qmX5_99 : (.methodLink RX5 99 yX5_isPore : Cond) ∈ sr_tbl := sr_in 753 rfl rfl
set_option maxRecDepth 20000 in
theorem qiX5_isPore : (.instanceMethod yX5_isPore : Cond) ∈ sr_tbl := sr_in 755 rfl rfl
set_option maxRecDepth 20000 in
theorem qcX5_isPore : (.code yX5_isPore cX5_isPore 2 (some .boolean) : Cond) ∈ sr_tbl := sr_in 756 rfl rfl
set_option maxRecDepth 20000 in
theorem qmL_26 : (.methodLink RL 26 yX5_hinder : Cond) ∈ sr_tbl := sr_in 757 rfl rfl
set_option maxRecDepth 20000 in
theorem qiX5_hinder : (.instanceMethod yX5_hinder : Cond) ∈ sr_tbl := sr_in 758 rfl rfl
set_option maxRecDepth 20000 in
theorem qsX5_hinder : (.selects RX5 yX5_hinder yX5_hinder : Cond) ∈ sr_tbl := sr_in 759 rfl rfl
set_option maxRecDepth 20000 in
theorem qcX5_hinder : (.code yX5_hinder cX5_hinder 3 (some .int) : Cond) ∈ sr_tbl := sr_in 760 rfl rfl
set_option maxRecDepth 20000 in
theorem qmX5_103 : (.methodLink RX5 103 yX5_isThroat : Cond) ∈ sr_tbl := sr_in 761 rfl rfl
set_option maxRecDepth 20000 in
theorem qiX5_isThroat : (.instanceMethod yX5_isThroat : Cond) ∈ sr_tbl := sr_in 763 rfl rfl
set_option maxRecDepth 20000 in
theorem qcX5_isThroat : (.code yX5_isThroat cX5_isThroat 2 (some .boolean) : Cond) ∈ sr_tbl := sr_in 764 rfl rfl
set_option maxRecDepth 20000 in
theorem qkX5_106 : (.constant RX5 106 (1000000000) : Cond) ∈ sr_tbl := sr_in 765 rfl rfl
set_option maxRecDepth 20000 in
theorem qmL_31 : (.methodLink RL 31 yX5_shut : Cond) ∈ sr_tbl := sr_in 766 rfl rfl
set_option maxRecDepth 20000 in
theorem qiX5_shut : (.instanceMethod yX5_shut : Cond) ∈ sr_tbl := sr_in 767 rfl rfl
set_option maxRecDepth 20000 in
theorem qsX5_shut : (.selects RX5 yX5_shut yX5_shut : Cond) ∈ sr_tbl := sr_in 768 rfl rfl
set_option maxRecDepth 20000 in
theorem qcX5_shut : (.code yX5_shut cX5_shut 4 (some .int) : Cond) ∈ sr_tbl := sr_in 769 rfl rfl
set_option maxRecDepth 20000 in
theorem qmL_35 : (.methodLink RL 35 yX5_inlet : Cond) ∈ sr_tbl := sr_in 770 rfl rfl
set_option maxRecDepth 20000 in
theorem qiX5_inlet : (.instanceMethod yX5_inlet : Cond) ∈ sr_tbl := sr_in 771 rfl rfl
set_option maxRecDepth 20000 in
theorem qsX5_inlet : (.selects RX5 yX5_inlet yX5_inlet : Cond) ∈ sr_tbl := sr_in 772 rfl rfl
set_option maxRecDepth 20000 in
theorem qcX5_inlet : (.code yX5_inlet cX5_inlet 4 (some .int) : Cond) ∈ sr_tbl := sr_in 773 rfl rfl
set_option maxRecDepth 20000 in
theorem qmL_40 : (.methodLink RL 40 yX5_trapping : Cond) ∈ sr_tbl := sr_in 774 rfl rfl
set_option maxRecDepth 20000 in
theorem qiX5_trapping : (.instanceMethod yX5_trapping : Cond) ∈ sr_tbl := sr_in 775 rfl rfl
set_option maxRecDepth 20000 in
theorem qsX5_trapping : (.selects RX5 yX5_trapping yX5_trapping : Cond) ∈ sr_tbl := sr_in 776 rfl rfl
set_option maxRecDepth 20000 in
theorem qcX5_trapping : (.code yX5_trapping cX5_trapping 3 (some .int) : Cond) ∈ sr_tbl := sr_in 777 rfl rfl
set_option maxRecDepth 20000 in
theorem qmL_44 : (.methodLink RL 44 yX5_about : Cond) ∈ sr_tbl := sr_in 778 rfl rfl
set_option maxRecDepth 20000 in
theorem qiX5_about : (.instanceMethod yX5_about : Cond) ∈ sr_tbl := sr_in 779 rfl rfl
set_option maxRecDepth 20000 in
theorem qsX5_about : (.selects RX5 yX5_about yX5_about : Cond) ∈ sr_tbl := sr_in 780 rfl rfl
set_option maxRecDepth 20000 in
theorem qcX5_about : (.code yX5_about cX5_about 3 (some .int) : Cond) ∈ sr_tbl := sr_in 781 rfl rfl
set_option maxRecDepth 20000 in
theorem qmX5_114 : (.methodLink RX5 114 yX5_rank : Cond) ∈ sr_tbl := sr_in 782 rfl rfl
set_option maxRecDepth 20000 in
theorem qiX5_rank : (.instanceMethod yX5_rank : Cond) ∈ sr_tbl := sr_in 784 rfl rfl
set_option maxRecDepth 20000 in
theorem qcX5_rank : (.code yX5_rank cX5_rank 4 (some .int) : Cond) ∈ sr_tbl := sr_in 785 rfl rfl
set_option maxRecDepth 20000 in
theorem qmX5_110 : (.methodLink RX5 110 yX5_isLess : Cond) ∈ sr_tbl := sr_in 786 rfl rfl
set_option maxRecDepth 20000 in
theorem qiX5_isLess : (.instanceMethod yX5_isLess : Cond) ∈ sr_tbl := sr_in 788 rfl rfl
set_option maxRecDepth 20000 in
theorem qcX5_isLess : (.code yX5_isLess cX5_isLess 3 (some .boolean) : Cond) ∈ sr_tbl := sr_in 789 rfl rfl
set_option maxRecDepth 20000 in
theorem qmL_48 : (.methodLink RL 48 yX5_of : Cond) ∈ sr_tbl := sr_in 790 rfl rfl
set_option maxRecDepth 20000 in
theorem qiX5_of : (.instanceMethod yX5_of : Cond) ∈ sr_tbl := sr_in 791 rfl rfl
set_option maxRecDepth 20000 in
theorem qsX5_of : (.selects RX5 yX5_of yX5_of : Cond) ∈ sr_tbl := sr_in 792 rfl rfl
set_option maxRecDepth 20000 in
theorem qcX5_of : (.code yX5_of cX5_of 5 (some .int) : Cond) ∈ sr_tbl := sr_in 793 rfl rfl
set_option maxRecDepth 20000 in
theorem qmL_52 : (.methodLink RL 52 yX5_ranked : Cond) ∈ sr_tbl := sr_in 794 rfl rfl
set_option maxRecDepth 20000 in
theorem qiX5_ranked : (.instanceMethod yX5_ranked : Cond) ∈ sr_tbl := sr_in 795 rfl rfl
set_option maxRecDepth 20000 in
theorem qsX5_ranked : (.selects RX5 yX5_ranked yX5_ranked : Cond) ∈ sr_tbl := sr_in 796 rfl rfl
set_option maxRecDepth 20000 in
theorem qcX5_ranked : (.code yX5_ranked cX5_ranked 3 (some .int) : Cond) ∈ sr_tbl := sr_in 797 rfl rfl
set_option maxRecDepth 20000 in
theorem qmL_57 : (.methodLink RL 57 yX5_core : Cond) ∈ sr_tbl := sr_in 798 rfl rfl
set_option maxRecDepth 20000 in
theorem qiX5_core : (.instanceMethod yX5_core : Cond) ∈ sr_tbl := sr_in 799 rfl rfl
set_option maxRecDepth 20000 in
theorem qsX5_core : (.selects RX5 yX5_core yX5_core : Cond) ∈ sr_tbl := sr_in 800 rfl rfl
set_option maxRecDepth 20000 in
theorem qcX5_core : (.code yX5_core cX5_core 5 (some .int) : Cond) ∈ sr_tbl := sr_in 801 rfl rfl
set_option maxRecDepth 20000 in
theorem qmX5_118 : (.methodLink RX5 118 yX5_isCore : Cond) ∈ sr_tbl := sr_in 802 rfl rfl
set_option maxRecDepth 20000 in
theorem qtX5_isCore : (.static yX5_isCore : Cond) ∈ sr_tbl := sr_in 803 rfl rfl
set_option maxRecDepth 20000 in
theorem qcX5_isCore : (.code yX5_isCore cX5_isCore 1 (some .boolean) : Cond) ∈ sr_tbl := sr_in 804 rfl rfl
set_option maxRecDepth 20000 in
theorem qmL_64 : (.methodLink RL 64 yX5_cell : Cond) ∈ sr_tbl := sr_in 805 rfl rfl
set_option maxRecDepth 20000 in
theorem qiX5_cell : (.instanceMethod yX5_cell : Cond) ∈ sr_tbl := sr_in 806 rfl rfl
set_option maxRecDepth 20000 in
theorem qsX5_cell : (.selects RX5 yX5_cell yX5_cell : Cond) ∈ sr_tbl := sr_in 807 rfl rfl
set_option maxRecDepth 20000 in
theorem qcX5_cell : (.code yX5_cell cX5_cell 8 (some .int) : Cond) ∈ sr_tbl := sr_in 808 rfl rfl
set_option maxRecDepth 20000 in
theorem qmL_68 : (.methodLink RL 68 yX5_wild : Cond) ∈ sr_tbl := sr_in 809 rfl rfl
set_option maxRecDepth 20000 in
theorem qiX5_wild : (.instanceMethod yX5_wild : Cond) ∈ sr_tbl := sr_in 810 rfl rfl
set_option maxRecDepth 20000 in
theorem qsX5_wild : (.selects RX5 yX5_wild yX5_wild : Cond) ∈ sr_tbl := sr_in 811 rfl rfl
set_option maxRecDepth 20000 in
theorem qcX5_wild : (.code yX5_wild cX5_wild 4 (some .int) : Cond) ∈ sr_tbl := sr_in 812 rfl rfl
set_option maxRecDepth 20000 in
theorem qkX5_123 : (.constantDouble RX5 123 (9221120237041090560) : Cond) ∈ sr_tbl := sr_in 813 rfl rfl
set_option maxRecDepth 20000 in
theorem qkX5_125 : (.constantDouble RX5 125 (9218868437227405312) : Cond) ∈ sr_tbl := sr_in 814 rfl rfl
set_option maxRecDepth 20000 in
theorem qkX5_127 : (.constantDouble RX5 127 (18442240474082181120) : Cond) ∈ sr_tbl := sr_in 815 rfl rfl
set_option maxRecDepth 20000 in
theorem qkX5_129 : (.constantDouble RX5 129 (9223372036854775808) : Cond) ∈ sr_tbl := sr_in 816 rfl rfl
set_option maxRecDepth 20000 in
theorem qmL_73 : (.methodLink RL 73 yX5_splice : Cond) ∈ sr_tbl := sr_in 817 rfl rfl
set_option maxRecDepth 20000 in
theorem qiX5_splice : (.instanceMethod yX5_splice : Cond) ∈ sr_tbl := sr_in 818 rfl rfl
set_option maxRecDepth 20000 in
theorem qsX5_splice : (.selects RX5 yX5_splice yX5_splice : Cond) ∈ sr_tbl := sr_in 819 rfl rfl
set_option maxRecDepth 20000 in
theorem qcX5_splice : (.code yX5_splice cX5_splice 7 (some .int) : Cond) ∈ sr_tbl := sr_in 820 rfl rfl
set_option maxRecDepth 20000 in
theorem qmX5_131 : (.methodLink RX5 131 yX5_hasRow : Cond) ∈ sr_tbl := sr_in 821 rfl rfl
set_option maxRecDepth 20000 in
theorem qiX5_hasRow : (.instanceMethod yX5_hasRow : Cond) ∈ sr_tbl := sr_in 823 rfl rfl
set_option maxRecDepth 20000 in
theorem qcX5_hasRow : (.code yX5_hasRow cX5_hasRow 4 (some .boolean) : Cond) ∈ sr_tbl := sr_in 824 rfl rfl
set_option maxRecDepth 20000 in
theorem qmL_77 : (.methodLink RL 77 yX5_lose : Cond) ∈ sr_tbl := sr_in 825 rfl rfl
set_option maxRecDepth 20000 in
theorem qiX5_lose : (.instanceMethod yX5_lose : Cond) ∈ sr_tbl := sr_in 826 rfl rfl
set_option maxRecDepth 20000 in
theorem qsX5_lose : (.selects RX5 yX5_lose yX5_lose : Cond) ∈ sr_tbl := sr_in 827 rfl rfl
set_option maxRecDepth 20000 in
theorem qcX5_lose : (.code yX5_lose cX5_lose 2 (some .int) : Cond) ∈ sr_tbl := sr_in 828 rfl rfl
set_option maxRecDepth 20000 in
theorem qmL_82 : (.methodLink RL 82 yX5_told : Cond) ∈ sr_tbl := sr_in 829 rfl rfl
set_option maxRecDepth 20000 in
theorem qiX5_told : (.instanceMethod yX5_told : Cond) ∈ sr_tbl := sr_in 830 rfl rfl
set_option maxRecDepth 20000 in
theorem qsX5_told : (.selects RX5 yX5_told yX5_told : Cond) ∈ sr_tbl := sr_in 831 rfl rfl
set_option maxRecDepth 20000 in
theorem qcX5_told : (.code yX5_told cX5_told 3 (some .long) : Cond) ∈ sr_tbl := sr_in 832 rfl rfl
set_option maxRecDepth 20000 in
theorem qkX5_135 : (.constantLong RX5 135 (9223372036854775807) : Cond) ∈ sr_tbl := sr_in 833 rfl rfl
set_option maxRecDepth 20000 in
theorem qmX5_137 : (.methodLink RX5 137 yX5_wholeOf : Cond) ∈ sr_tbl := sr_in 834 rfl rfl
set_option maxRecDepth 20000 in
theorem qiX5_wholeOf : (.instanceMethod yX5_wholeOf : Cond) ∈ sr_tbl := sr_in 836 rfl rfl
set_option maxRecDepth 20000 in
theorem qcX5_wholeOf : (.code yX5_wholeOf cX5_wholeOf 4 (some .long) : Cond) ∈ sr_tbl := sr_in 837 rfl rfl
set_option maxRecDepth 20000 in
theorem qmL_87 : (.methodLink RL 87 yX5_pour : Cond) ∈ sr_tbl := sr_in 838 rfl rfl
set_option maxRecDepth 20000 in
theorem qiX5_pour : (.instanceMethod yX5_pour : Cond) ∈ sr_tbl := sr_in 839 rfl rfl
set_option maxRecDepth 20000 in
theorem qsX5_pour : (.selects RX5 yX5_pour yX5_pour : Cond) ∈ sr_tbl := sr_in 840 rfl rfl
set_option maxRecDepth 20000 in
theorem qcX5_pour : (.code yX5_pour cX5_pour 12 (some .int) : Cond) ∈ sr_tbl := sr_in 841 rfl rfl
set_option maxRecDepth 20000 in
theorem qkX5_141 : (.constantLong RX5 141 (1000000000) : Cond) ∈ sr_tbl := sr_in 842 rfl rfl
set_option maxRecDepth 20000 in
theorem qmL_92 : (.methodLink RL 92 yX5_begin : Cond) ∈ sr_tbl := sr_in 843 rfl rfl
set_option maxRecDepth 20000 in
theorem qiX5_begin : (.instanceMethod yX5_begin : Cond) ∈ sr_tbl := sr_in 844 rfl rfl
set_option maxRecDepth 20000 in
theorem qsX5_begin : (.selects RX5 yX5_begin yX5_begin : Cond) ∈ sr_tbl := sr_in 845 rfl rfl
set_option maxRecDepth 20000 in
theorem qcX5_begin : (.code yX5_begin cX5_begin 1 (some .int) : Cond) ∈ sr_tbl := sr_in 846 rfl rfl
set_option maxRecDepth 20000 in
theorem qmX5_158 : (.methodLink RX5 158 yX5_start : Cond) ∈ sr_tbl := sr_in 847 rfl rfl
set_option maxRecDepth 20000 in
theorem qiX5_start : (.instanceMethod yX5_start : Cond) ∈ sr_tbl := sr_in 849 rfl rfl
set_option maxRecDepth 20000 in
theorem qcX5_start : (.code yX5_start cX5_start 2 (none) : Cond) ∈ sr_tbl := sr_in 850 rfl rfl
set_option maxRecDepth 20000 in
theorem qmX5_155 : (.methodLink RX5 155 yX5_trap : Cond) ∈ sr_tbl := sr_in 851 rfl rfl
set_option maxRecDepth 20000 in
theorem qiX5_trap : (.instanceMethod yX5_trap : Cond) ∈ sr_tbl := sr_in 853 rfl rfl
set_option maxRecDepth 20000 in
theorem qcX5_trap : (.code yX5_trap cX5_trap 4 (none) : Cond) ∈ sr_tbl := sr_in 854 rfl rfl
set_option maxRecDepth 20000 in
theorem qmX5_143 : (.methodLink RX5 143 yX5_isFilled : Cond) ∈ sr_tbl := sr_in 855 rfl rfl
set_option maxRecDepth 20000 in
theorem qiX5_isFilled : (.instanceMethod yX5_isFilled : Cond) ∈ sr_tbl := sr_in 857 rfl rfl
set_option maxRecDepth 20000 in
theorem qcX5_isFilled : (.code yX5_isFilled cX5_isFilled 2 (some .boolean) : Cond) ∈ sr_tbl := sr_in 858 rfl rfl
set_option maxRecDepth 20000 in
theorem qmX5_146 : (.methodLink RX5 146 yX5_isFree : Cond) ∈ sr_tbl := sr_in 859 rfl rfl
set_option maxRecDepth 20000 in
theorem qiX5_isFree : (.instanceMethod yX5_isFree : Cond) ∈ sr_tbl := sr_in 861 rfl rfl
set_option maxRecDepth 20000 in
theorem qcX5_isFree : (.code yX5_isFree cX5_isFree 2 (some .boolean) : Cond) ∈ sr_tbl := sr_in 862 rfl rfl
set_option maxRecDepth 20000 in
theorem qmX5_161 : (.methodLink RX5 161 yX5_many : Cond) ∈ sr_tbl := sr_in 863 rfl rfl
set_option maxRecDepth 20000 in
theorem qiX5_many : (.instanceMethod yX5_many : Cond) ∈ sr_tbl := sr_in 864 rfl rfl
set_option maxRecDepth 20000 in
theorem qsX5_many : (.selects RX5 yX5_many yX5_many : Cond) ∈ sr_tbl := sr_in 865 rfl rfl
set_option maxRecDepth 20000 in
theorem qcX5_many : (.code yX5_many cX5_many 4 (some .int) : Cond) ∈ sr_tbl := sr_in 866 rfl rfl
set_option maxRecDepth 20000 in
theorem qmX5_188 : (.methodLink RX5 188 yX5_countPores : Cond) ∈ sr_tbl := sr_in 867 rfl rfl
set_option maxRecDepth 20000 in
theorem qiX5_countPores : (.instanceMethod yX5_countPores : Cond) ∈ sr_tbl := sr_in 869 rfl rfl
set_option maxRecDepth 20000 in
theorem qcX5_countPores : (.code yX5_countPores cX5_countPores 4 (some .int) : Cond) ∈ sr_tbl := sr_in 870 rfl rfl
set_option maxRecDepth 20000 in
theorem qmX5_191 : (.methodLink RX5 191 yX5_tellLakes : Cond) ∈ sr_tbl := sr_in 871 rfl rfl
set_option maxRecDepth 20000 in
theorem qiX5_tellLakes : (.instanceMethod yX5_tellLakes : Cond) ∈ sr_tbl := sr_in 873 rfl rfl
set_option maxRecDepth 20000 in
theorem qcX5_tellLakes : (.code yX5_tellLakes cX5_tellLakes 3 (none) : Cond) ∈ sr_tbl := sr_in 874 rfl rfl
set_option maxRecDepth 20000 in
theorem qmX5_182 : (.methodLink RX5 182 yX5_spreadLake : Cond) ∈ sr_tbl := sr_in 875 rfl rfl
set_option maxRecDepth 20000 in
theorem qiX5_spreadLake : (.instanceMethod yX5_spreadLake : Cond) ∈ sr_tbl := sr_in 877 rfl rfl
set_option maxRecDepth 20000 in
theorem qcX5_spreadLake : (.code yX5_spreadLake cX5_spreadLake 7 (none) : Cond) ∈ sr_tbl := sr_in 878 rfl rfl
set_option maxRecDepth 20000 in
theorem qmX5_164 : (.methodLink RX5 164 yX5_isCandidate : Cond) ∈ sr_tbl := sr_in 879 rfl rfl
set_option maxRecDepth 20000 in
theorem qiX5_isCandidate : (.instanceMethod yX5_isCandidate : Cond) ∈ sr_tbl := sr_in 881 rfl rfl
set_option maxRecDepth 20000 in
theorem qcX5_isCandidate : (.code yX5_isCandidate cX5_isCandidate 2 (some .boolean) : Cond) ∈ sr_tbl := sr_in 882 rfl rfl
set_option maxRecDepth 20000 in
theorem qmX5_149 : (.methodLink RX5 149 yX5_leads : Cond) ∈ sr_tbl := sr_in 883 rfl rfl
set_option maxRecDepth 20000 in
theorem qiX5_leads : (.instanceMethod yX5_leads : Cond) ∈ sr_tbl := sr_in 885 rfl rfl
set_option maxRecDepth 20000 in
theorem qcX5_leads : (.code yX5_leads cX5_leads 3 (some .boolean) : Cond) ∈ sr_tbl := sr_in 886 rfl rfl
set_option maxRecDepth 20000 in
theorem qmL_96 : (.methodLink RL 96 yX5_step : Cond) ∈ sr_tbl := sr_in 887 rfl rfl
set_option maxRecDepth 20000 in
theorem qiX5_step : (.instanceMethod yX5_step : Cond) ∈ sr_tbl := sr_in 888 rfl rfl
set_option maxRecDepth 20000 in
theorem qsX5_step : (.selects RX5 yX5_step yX5_step : Cond) ∈ sr_tbl := sr_in 889 rfl rfl
set_option maxRecDepth 20000 in
theorem qcX5_step : (.code yX5_step cX5_step 2 (some .int) : Cond) ∈ sr_tbl := sr_in 890 rfl rfl
set_option maxRecDepth 20000 in
theorem qmX5_171 : (.methodLink RX5 171 yX5_nextThroat : Cond) ∈ sr_tbl := sr_in 891 rfl rfl
set_option maxRecDepth 20000 in
theorem qiX5_nextThroat : (.instanceMethod yX5_nextThroat : Cond) ∈ sr_tbl := sr_in 893 rfl rfl
set_option maxRecDepth 20000 in
theorem qcX5_nextThroat : (.code yX5_nextThroat cX5_nextThroat 3 (some .int) : Cond) ∈ sr_tbl := sr_in 894 rfl rfl
set_option maxRecDepth 20000 in
theorem qmX5_167 : (.methodLink RX5 167 yX5_bestAt : Cond) ∈ sr_tbl := sr_in 895 rfl rfl
set_option maxRecDepth 20000 in
theorem qiX5_bestAt : (.instanceMethod yX5_bestAt : Cond) ∈ sr_tbl := sr_in 897 rfl rfl
set_option maxRecDepth 20000 in
theorem qcX5_bestAt : (.code yX5_bestAt cX5_bestAt 6 (some .int) : Cond) ∈ sr_tbl := sr_in 898 rfl rfl
set_option maxRecDepth 20000 in
theorem qmX5_175 : (.methodLink RX5 175 yX5_open : Cond) ∈ sr_tbl := sr_in 899 rfl rfl
set_option maxRecDepth 20000 in
theorem qiX5_open : (.instanceMethod yX5_open : Cond) ∈ sr_tbl := sr_in 901 rfl rfl
set_option maxRecDepth 20000 in
theorem qcX5_open : (.code yX5_open cX5_open 3 (none) : Cond) ∈ sr_tbl := sr_in 902 rfl rfl
set_option maxRecDepth 20000 in
theorem qmL_100 : (.methodLink RL 100 yX5_run : Cond) ∈ sr_tbl := sr_in 903 rfl rfl
set_option maxRecDepth 20000 in
theorem qiX5_run : (.instanceMethod yX5_run : Cond) ∈ sr_tbl := sr_in 904 rfl rfl
set_option maxRecDepth 20000 in
theorem qsX5_run : (.selects RX5 yX5_run yX5_run : Cond) ∈ sr_tbl := sr_in 905 rfl rfl
set_option maxRecDepth 20000 in
theorem qcX5_run : (.code yX5_run cX5_run 4 (some .int) : Cond) ∈ sr_tbl := sr_in 906 rfl rfl
set_option maxRecDepth 20000 in
theorem qmL_104 : (.methodLink RL 104 yX5_undo : Cond) ∈ sr_tbl := sr_in 907 rfl rfl
set_option maxRecDepth 20000 in
theorem qiX5_undo : (.instanceMethod yX5_undo : Cond) ∈ sr_tbl := sr_in 908 rfl rfl
set_option maxRecDepth 20000 in
theorem qsX5_undo : (.selects RX5 yX5_undo yX5_undo : Cond) ∈ sr_tbl := sr_in 909 rfl rfl
set_option maxRecDepth 20000 in
theorem qcX5_undo : (.code yX5_undo cX5_undo 3 (some .int) : Cond) ∈ sr_tbl := sr_in 910 rfl rfl
set_option maxRecDepth 20000 in
theorem qmL_108 : (.methodLink RL 108 yX5_many : Cond) ∈ sr_tbl := sr_in 911 rfl rfl
set_option maxRecDepth 20000 in
theorem qmL_112 : (.methodLink RL 112 yX5_opened : Cond) ∈ sr_tbl := sr_in 912 rfl rfl
set_option maxRecDepth 20000 in
theorem qiX5_opened : (.instanceMethod yX5_opened : Cond) ∈ sr_tbl := sr_in 913 rfl rfl
set_option maxRecDepth 20000 in
theorem qsX5_opened : (.selects RX5 yX5_opened yX5_opened : Cond) ∈ sr_tbl := sr_in 914 rfl rfl
set_option maxRecDepth 20000 in
theorem qcX5_opened : (.code yX5_opened cX5_opened 2 (some .int) : Cond) ∈ sr_tbl := sr_in 915 rfl rfl
set_option maxRecDepth 20000 in
theorem qmL_116 : (.methodLink RL 116 yX5_now : Cond) ∈ sr_tbl := sr_in 916 rfl rfl
set_option maxRecDepth 20000 in
theorem qiX5_now : (.instanceMethod yX5_now : Cond) ∈ sr_tbl := sr_in 917 rfl rfl
set_option maxRecDepth 20000 in
theorem qsX5_now : (.selects RX5 yX5_now yX5_now : Cond) ∈ sr_tbl := sr_in 918 rfl rfl
set_option maxRecDepth 20000 in
theorem qcX5_now : (.code yX5_now cX5_now 3 (some .int) : Cond) ∈ sr_tbl := sr_in 919 rfl rfl
set_option maxRecDepth 20000 in
theorem qmL_120 : (.methodLink RL 120 yX5_front : Cond) ∈ sr_tbl := sr_in 920 rfl rfl
set_option maxRecDepth 20000 in
theorem qiX5_front : (.instanceMethod yX5_front : Cond) ∈ sr_tbl := sr_in 921 rfl rfl
set_option maxRecDepth 20000 in
theorem qsX5_front : (.selects RX5 yX5_front yX5_front : Cond) ∈ sr_tbl := sr_in 922 rfl rfl
set_option maxRecDepth 20000 in
theorem qcX5_front : (.code yX5_front cX5_front 5 (some .int) : Cond) ∈ sr_tbl := sr_in 923 rfl rfl
set_option maxRecDepth 20000 in
theorem qmL_124 : (.methodLink RL 124 yX5_lake : Cond) ∈ sr_tbl := sr_in 924 rfl rfl
set_option maxRecDepth 20000 in
theorem qiX5_lake : (.instanceMethod yX5_lake : Cond) ∈ sr_tbl := sr_in 925 rfl rfl
set_option maxRecDepth 20000 in
theorem qsX5_lake : (.selects RX5 yX5_lake yX5_lake : Cond) ∈ sr_tbl := sr_in 926 rfl rfl
set_option maxRecDepth 20000 in
theorem qcX5_lake : (.code yX5_lake cX5_lake 7 (some .int) : Cond) ∈ sr_tbl := sr_in 927 rfl rfl
set_option maxRecDepth 20000 in
theorem qmL_128 : (.methodLink RL 128 yX5_through : Cond) ∈ sr_tbl := sr_in 928 rfl rfl
set_option maxRecDepth 20000 in
theorem qiX5_through : (.instanceMethod yX5_through : Cond) ∈ sr_tbl := sr_in 929 rfl rfl
set_option maxRecDepth 20000 in
theorem qsX5_through : (.selects RX5 yX5_through yX5_through : Cond) ∈ sr_tbl := sr_in 930 rfl rfl
set_option maxRecDepth 20000 in
theorem qcX5_through : (.code yX5_through cX5_through 3 (some .int) : Cond) ∈ sr_tbl := sr_in 931 rfl rfl
set_option maxRecDepth 20000 in
theorem qmL_132 : (.methodLink RL 132 yX5_worst : Cond) ∈ sr_tbl := sr_in 932 rfl rfl
set_option maxRecDepth 20000 in
theorem qiX5_worst : (.instanceMethod yX5_worst : Cond) ∈ sr_tbl := sr_in 933 rfl rfl
set_option maxRecDepth 20000 in
theorem qsX5_worst : (.selects RX5 yX5_worst yX5_worst : Cond) ∈ sr_tbl := sr_in 934 rfl rfl
set_option maxRecDepth 20000 in
theorem qcX5_worst : (.code yX5_worst cX5_worst 5 (some .int) : Cond) ∈ sr_tbl := sr_in 935 rfl rfl
set_option maxRecDepth 20000 in
theorem qmX5_194 : (.methodLink RX5 194 yX5_plainRun : Cond) ∈ sr_tbl := sr_in 936 rfl rfl
set_option maxRecDepth 20000 in
theorem qiX5_plainRun : (.instanceMethod yX5_plainRun : Cond) ∈ sr_tbl := sr_in 938 rfl rfl
set_option maxRecDepth 20000 in
theorem qcX5_plainRun : (.code yX5_plainRun cX5_plainRun 4 (none) : Cond) ∈ sr_tbl := sr_in 939 rfl rfl
set_option maxRecDepth 20000 in
theorem qmX5_197 : (.methodLink RX5 197 yX5_behind : Cond) ∈ sr_tbl := sr_in 940 rfl rfl
set_option maxRecDepth 20000 in
theorem qiX5_behind : (.instanceMethod yX5_behind : Cond) ∈ sr_tbl := sr_in 942 rfl rfl
set_option maxRecDepth 20000 in
theorem qcX5_behind : (.code yX5_behind cX5_behind 3 (some .int) : Cond) ∈ sr_tbl := sr_in 943 rfl rfl
set_option maxRecDepth 20000 in
theorem qmL_136 : (.methodLink RL 136 yX5_way : Cond) ∈ sr_tbl := sr_in 944 rfl rfl
set_option maxRecDepth 20000 in
theorem qiX5_way : (.instanceMethod yX5_way : Cond) ∈ sr_tbl := sr_in 945 rfl rfl
set_option maxRecDepth 20000 in
theorem qsX5_way : (.selects RX5 yX5_way yX5_way : Cond) ∈ sr_tbl := sr_in 946 rfl rfl
set_option maxRecDepth 20000 in
theorem qcX5_way : (.code yX5_way cX5_way 6 (some .int) : Cond) ∈ sr_tbl := sr_in 947 rfl rfl
set_option maxRecDepth 20000 in
theorem qmL_140 : (.methodLink RL 140 yX5_join : Cond) ∈ sr_tbl := sr_in 948 rfl rfl
set_option maxRecDepth 20000 in
theorem qiX5_join : (.instanceMethod yX5_join : Cond) ∈ sr_tbl := sr_in 949 rfl rfl
set_option maxRecDepth 20000 in
theorem qsX5_join : (.selects RX5 yX5_join yX5_join : Cond) ∈ sr_tbl := sr_in 950 rfl rfl
set_option maxRecDepth 20000 in
theorem qcX5_join : (.code yX5_join cX5_join 5 (some .int) : Cond) ∈ sr_tbl := sr_in 951 rfl rfl
set_option maxRecDepth 20000 in
theorem qmX5_200 : (.methodLink RX5 200 yX5_apart : Cond) ∈ sr_tbl := sr_in 952 rfl rfl
set_option maxRecDepth 20000 in
theorem qiX5_apart : (.instanceMethod yX5_apart : Cond) ∈ sr_tbl := sr_in 954 rfl rfl
set_option maxRecDepth 20000 in
theorem qcX5_apart : (.code yX5_apart cX5_apart 2 (none) : Cond) ∈ sr_tbl := sr_in 955 rfl rfl
set_option maxRecDepth 20000 in
theorem qmX5_203 : (.methodLink RX5 203 yX5_ranked : Cond) ∈ sr_tbl := sr_in 956 rfl rfl
set_option maxRecDepth 20000 in
theorem qmX5_206 : (.methodLink RX5 206 yX5_tie : Cond) ∈ sr_tbl := sr_in 957 rfl rfl
set_option maxRecDepth 20000 in
theorem qiX5_tie : (.instanceMethod yX5_tie : Cond) ∈ sr_tbl := sr_in 959 rfl rfl
set_option maxRecDepth 20000 in
theorem qcX5_tie : (.code yX5_tie cX5_tie 5 (some .boolean) : Cond) ∈ sr_tbl := sr_in 960 rfl rfl
set_option maxRecDepth 20000 in
theorem qmL_144 : (.methodLink RL 144 yX5_tree : Cond) ∈ sr_tbl := sr_in 961 rfl rfl
set_option maxRecDepth 20000 in
theorem qiX5_tree : (.instanceMethod yX5_tree : Cond) ∈ sr_tbl := sr_in 962 rfl rfl
set_option maxRecDepth 20000 in
theorem qsX5_tree : (.selects RX5 yX5_tree yX5_tree : Cond) ∈ sr_tbl := sr_in 963 rfl rfl
set_option maxRecDepth 20000 in
theorem qcX5_tree : (.code yX5_tree cX5_tree 5 (some .int) : Cond) ∈ sr_tbl := sr_in 964 rfl rfl
set_option maxRecDepth 20000 in
theorem qmL_148 : (.methodLink RL 148 yX5_claim : Cond) ∈ sr_tbl := sr_in 965 rfl rfl
set_option maxRecDepth 20000 in
theorem qiX5_claim : (.instanceMethod yX5_claim : Cond) ∈ sr_tbl := sr_in 966 rfl rfl
set_option maxRecDepth 20000 in
theorem qsX5_claim : (.selects RX5 yX5_claim yX5_claim : Cond) ∈ sr_tbl := sr_in 967 rfl rfl
set_option maxRecDepth 20000 in
theorem qcX5_claim : (.code yX5_claim cX5_claim 2 (some .int) : Cond) ∈ sr_tbl := sr_in 968 rfl rfl
set_option maxRecDepth 20000 in
theorem qmL_152 : (.methodLink RL 152 yX5_copy : Cond) ∈ sr_tbl := sr_in 969 rfl rfl
set_option maxRecDepth 20000 in
theorem qiX5_copy : (.instanceMethod yX5_copy : Cond) ∈ sr_tbl := sr_in 970 rfl rfl
set_option maxRecDepth 20000 in
theorem qsX5_copy : (.selects RX5 yX5_copy yX5_copy : Cond) ∈ sr_tbl := sr_in 971 rfl rfl
set_option maxRecDepth 20000 in
theorem qcX5_copy : (.code yX5_copy cX5_copy 2 (some .int) : Cond) ∈ sr_tbl := sr_in 972 rfl rfl
set_option maxRecDepth 20000 in
theorem qmL_156 : (.methodLink RL 156 yX5_alter : Cond) ∈ sr_tbl := sr_in 973 rfl rfl
set_option maxRecDepth 20000 in
theorem qiX5_alter : (.instanceMethod yX5_alter : Cond) ∈ sr_tbl := sr_in 974 rfl rfl
set_option maxRecDepth 20000 in
theorem qsX5_alter : (.selects RX5 yX5_alter yX5_alter : Cond) ∈ sr_tbl := sr_in 975 rfl rfl
set_option maxRecDepth 20000 in
theorem qcX5_alter : (.code yX5_alter cX5_alter 3 (some .int) : Cond) ∈ sr_tbl := sr_in 976 rfl rfl
set_option maxRecDepth 20000 in
theorem qmL_160 : (.methodLink RL 160 yX5_unclaim : Cond) ∈ sr_tbl := sr_in 977 rfl rfl
set_option maxRecDepth 20000 in
theorem qiX5_unclaim : (.instanceMethod yX5_unclaim : Cond) ∈ sr_tbl := sr_in 978 rfl rfl
set_option maxRecDepth 20000 in
theorem qsX5_unclaim : (.selects RX5 yX5_unclaim yX5_unclaim : Cond) ∈ sr_tbl := sr_in 979 rfl rfl
set_option maxRecDepth 20000 in
theorem qcX5_unclaim : (.code yX5_unclaim cX5_unclaim 2 (some .int) : Cond) ∈ sr_tbl := sr_in 980 rfl rfl
set_option maxRecDepth 20000 in
theorem qmL_164 : (.methodLink RL 164 yX5_check : Cond) ∈ sr_tbl := sr_in 981 rfl rfl
set_option maxRecDepth 20000 in
theorem qiX5_check : (.instanceMethod yX5_check : Cond) ∈ sr_tbl := sr_in 982 rfl rfl
set_option maxRecDepth 20000 in
theorem qsX5_check : (.selects RX5 yX5_check yX5_check : Cond) ∈ sr_tbl := sr_in 983 rfl rfl
set_option maxRecDepth 20000 in
theorem qcX5_check : (.code yX5_check cX5_check 4 (some .int) : Cond) ∈ sr_tbl := sr_in 984 rfl rfl
set_option maxRecDepth 20000 in
theorem qmX5_212 : (.methodLink RX5 212 yX5_keep : Cond) ∈ sr_tbl := sr_in 985 rfl rfl
set_option maxRecDepth 20000 in
theorem qiX5_keep : (.instanceMethod yX5_keep : Cond) ∈ sr_tbl := sr_in 987 rfl rfl
set_option maxRecDepth 20000 in
theorem qcX5_keep : (.code yX5_keep cX5_keep 3 (none) : Cond) ∈ sr_tbl := sr_in 988 rfl rfl
set_option maxRecDepth 20000 in
theorem qkL_58 : (.constantLong RL 58 (4294967295) : Cond) ∈ sr_tbl := sr_in 989 rfl rfl
set_option maxRecDepth 20000 in
theorem qzX0 : ∀ w ∈ u_ws RX0 TX0 5, w ∈ sr_tbl := by
  intro w hw
  have hg : goodWord w = true := List.all_eq_true.mp (show (u_ws RX0 TX0 5).all goodWord = true from by decide +kernel) w hw
  rw [show u_ws RX0 TX0 5 = [246, 248, 250, 252, 254].filterMap (fun i => lw_tbl[i]?) from by decide +kernel] at hw
  obtain ⟨i, -, hi⟩ := List.mem_filterMap.mp hw
  exact List.mem_filter.mpr ⟨List.mem_of_getElem? hi, hg⟩
set_option maxRecDepth 20000 in
theorem qzX1 : ∀ w ∈ u_ws RX1 TX1 16, w ∈ sr_tbl := by
  intro w hw
  have hg : goodWord w = true := List.all_eq_true.mp (show (u_ws RX1 TX1 16).all goodWord = true from by decide +kernel) w hw
  rw [show u_ws RX1 TX1 16 = [176, 178, 180, 182, 184, 186, 188, 190, 192, 194, 196, 198, 200, 202, 204, 206].filterMap (fun i => lw_tbl[i]?) from by decide +kernel] at hw
  obtain ⟨i, -, hi⟩ := List.mem_filterMap.mp hw
  exact List.mem_filter.mpr ⟨List.mem_of_getElem? hi, hg⟩
set_option maxRecDepth 20000 in
theorem qzX2 : ∀ w ∈ u_ws RX2 TX2 13, w ∈ sr_tbl := by
  intro w hw
  have hg : goodWord w = true := List.all_eq_true.mp (show (u_ws RX2 TX2 13).all goodWord = true from by decide +kernel) w hw
  rw [show u_ws RX2 TX2 13 = [111, 113, 115, 117, 119, 121, 123, 125, 127, 129, 131, 133, 135].filterMap (fun i => lw_tbl[i]?) from by decide +kernel] at hw
  obtain ⟨i, -, hi⟩ := List.mem_filterMap.mp hw
  exact List.mem_filter.mpr ⟨List.mem_of_getElem? hi, hg⟩
set_option maxRecDepth 20000 in
theorem qzX3 : ∀ w ∈ u_ws RX3 TX3 5, w ∈ sr_tbl := by
  intro w hw
  have hg : goodWord w = true := List.all_eq_true.mp (show (u_ws RX3 TX3 5).all goodWord = true from by decide +kernel) w hw
  rw [show u_ws RX3 TX3 5 = [222, 224, 226, 228, 230].filterMap (fun i => lw_tbl[i]?) from by decide +kernel] at hw
  obtain ⟨i, -, hi⟩ := List.mem_filterMap.mp hw
  exact List.mem_filter.mpr ⟨List.mem_of_getElem? hi, hg⟩
set_option maxRecDepth 20000 in
theorem qzX4 : ∀ w ∈ u_ws RX4 TX4 7, w ∈ sr_tbl := by
  intro w hw
  have hg : goodWord w = true := List.all_eq_true.mp (show (u_ws RX4 TX4 7).all goodWord = true from by decide +kernel) w hw
  rw [show u_ws RX4 TX4 7 = [266, 268, 270, 272, 274, 276, 278].filterMap (fun i => lw_tbl[i]?) from by decide +kernel] at hw
  obtain ⟨i, -, hi⟩ := List.mem_filterMap.mp hw
  exact List.mem_filter.mpr ⟨List.mem_of_getElem? hi, hg⟩
set_option maxRecDepth 20000 in
theorem qzX5 : ∀ w ∈ u_ws RX5 TX5 33, w ∈ sr_tbl := by
  intro w hw
  have hg : goodWord w = true := List.all_eq_true.mp (show (u_ws RX5 TX5 33).all goodWord = true from by decide +kernel) w hw
  rw [show u_ws RX5 TX5 33 = [677, 679, 681, 683, 685, 687, 689, 691, 693, 695, 697, 699, 701, 703, 705, 707, 709, 711, 713, 715, 717, 719, 721, 723, 725, 727, 729, 731, 733, 735, 737, 739, 741].filterMap (fun i => lw_tbl[i]?) from by decide +kernel] at hw
  obtain ⟨i, -, hi⟩ := List.mem_filterMap.mp hw
  exact List.mem_filter.mpr ⟨List.mem_of_getElem? hi, hg⟩
