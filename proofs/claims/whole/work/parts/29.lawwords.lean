set_option maxRecDepth 100000 in
theorem tw_1 : Cond.initialized RX9 ∈ GW := tb_s1 1 rfl rfl
set_option maxRecDepth 100000 in
theorem tw_11 : Cond.initialized RX10 ∈ GW := tb_s1 11 rfl rfl
set_option maxRecDepth 100000 in
theorem tw_24 : Cond.classLink RL 8 RX9 ∈ GW := tb_s1 24 rfl rfl
set_option maxRecDepth 100000 in
theorem tw_25 : Cond.instantiable RX9 11 ∈ GW := tb_s1 25 rfl rfl
set_option maxRecDepth 100000 in
theorem tw_26 : Cond.methodLink RL 17 yX9_init ∈ GW := tb_s1 26 rfl rfl
set_option maxRecDepth 100000 in
theorem tw_27 : Cond.instanceMethod yX9_init ∈ GW := tb_s1 27 rfl rfl
set_option maxRecDepth 100000 in
theorem tw_28 : Cond.code yX9_init cX9_init 2 none ∈ GW := tb_s1 28 rfl rfl
set_option maxRecDepth 100000 in
theorem tw_314 : Cond.methodLink RL 21 yX9_feed ∈ GW := tb_s2 74 rfl rfl
set_option maxRecDepth 100000 in
theorem tw_322 : Cond.methodLink RL 26 yX9_text ∈ GW := tb_s2 82 rfl rfl
set_option maxRecDepth 100000 in
theorem tw_541 : Cond.methodLink RL 31 yX9_fault ∈ GW := tb_s3 61 rfl rfl
set_option maxRecDepth 100000 in
theorem tw_545 : Cond.methodLink RL 35 yX9_write ∈ GW := tb_s3 65 rfl rfl
set_option maxRecDepth 100000 in
theorem tw_577 : Cond.methodLink RL 40 yX9_move ∈ GW := tb_s3 97 rfl rfl
set_option maxRecDepth 100000 in
theorem tw_610 : Cond.methodLink RL 45 yX9_change ∈ GW := tb_s3 130 rfl rfl
set_option maxRecDepth 100000 in
theorem tw_619 : Cond.methodLink RL 49 yX9_lapse ∈ GW := tb_s3 139 rfl rfl
set_option maxRecDepth 100000 in
theorem tw_627 : Cond.methodLink RL 53 yX9_treaty ∈ GW := tb_s3 147 rfl rfl
set_option maxRecDepth 100000 in
theorem tw_638 : Cond.methodLink RL 57 yX9_limit ∈ GW := tb_s3 158 rfl rfl
set_option maxRecDepth 100000 in
theorem tw_642 : Cond.methodLink RL 71 yX9_its ∈ GW := tb_s3 162 rfl rfl
set_option maxRecDepth 100000 in
theorem tw_653 : Cond.methodLink RL 75 yX9_worst ∈ GW := tb_s3 173 rfl rfl
set_option maxRecDepth 100000 in
theorem tw_657 : Cond.methodLink RL 79 yX9_inWorst ∈ GW := tb_s3 177 rfl rfl
set_option maxRecDepth 100000 in
theorem tw_662 : Cond.methodLink RL 83 yX9_bound ∈ GW := tb_s3 182 rfl rfl
set_option maxRecDepth 100000 in
theorem tw_674 : Cond.methodLink RL 87 yX9_spread ∈ GW := tb_s3 194 rfl rfl
set_option maxRecDepth 100000 in
theorem tw_683 : Cond.methodLink RL 91 yX9_ring ∈ GW := tb_s3 203 rfl rfl
set_option maxRecDepth 100000 in
theorem tw_735 : Cond.methodLink RL 96 yX9_part ∈ GW := tb_s4 15 rfl rfl
set_option maxRecDepth 100000 in
theorem tw_743 : Cond.methodLink RL 100 yX9_second ∈ GW := tb_s4 23 rfl rfl
set_option maxRecDepth 100000 in
theorem tw_747 : Cond.methodLink RL 108 yX9_tightest ∈ GW := tb_s4 27 rfl rfl
set_option maxRecDepth 100000 in
theorem tw_751 : Cond.methodLink RL 156 yX9_relief ∈ GW := tb_s4 31 rfl rfl
set_option maxRecDepth 100000 in
theorem tw_755 : Cond.methodLink RL 160 yX9_fewest ∈ GW := tb_s4 35 rfl rfl
set_option maxRecDepth 100000 in
theorem tw_772 : Cond.methodLink RL 140 yX9_ifWritten ∈ GW := tb_s4 52 rfl rfl
set_option maxRecDepth 100000 in
theorem tw_786 : Cond.methodLink RL 144 yX9_about ∈ GW := tb_s4 66 rfl rfl
set_option maxRecDepth 100000 in
theorem tw_790 : Cond.methodLink RL 148 yX9_most ∈ GW := tb_s4 70 rfl rfl
set_option maxRecDepth 100000 in
theorem tw_794 : Cond.methodLink RL 152 yX9_places ∈ GW := tb_s4 74 rfl rfl
set_option maxRecDepth 100000 in
theorem tw_802 : Cond.methodLink RL 172 yX9_along ∈ GW := tb_s4 82 rfl rfl
set_option maxRecDepth 100000 in
theorem tw_814 : Cond.methodLink RL 104 yX9_chains ∈ GW := tb_s4 94 rfl rfl
set_option maxRecDepth 100000 in
theorem tw_826 : Cond.methodLink RL 116 yX9_heaviest ∈ GW := tb_s4 106 rfl rfl
set_option maxRecDepth 100000 in
theorem tw_835 : Cond.methodLink RL 120 yX9_heaviestSet ∈ GW := tb_s4 115 rfl rfl
set_option maxRecDepth 100000 in
theorem tw_839 : Cond.methodLink RL 124 yX9_two ∈ GW := tb_s4 119 rfl rfl
set_option maxRecDepth 100000 in
theorem tw_860 : Cond.methodLink RL 128 yX9_cover ∈ GW := tb_s4 140 rfl rfl
set_option maxRecDepth 100000 in
theorem tw_881 : Cond.methodLink RL 132 yX9_square ∈ GW := tb_s4 161 rfl rfl
set_option maxRecDepth 100000 in
theorem tw_889 : Cond.methodLink RL 136 yX9_radiusFor ∈ GW := tb_s4 169 rfl rfl
set_option maxRecDepth 100000 in
theorem tw_893 : Cond.methodLink RL 112 yX9_together ∈ GW := tb_s4 173 rfl rfl
set_option maxRecDepth 100000 in
theorem tw_897 : Cond.methodLink RL 164 yX9_nearest ∈ GW := tb_s4 177 rfl rfl
set_option maxRecDepth 100000 in
theorem tw_901 : Cond.methodLink RL 168 yX9_couples ∈ GW := tb_s4 181 rfl rfl
set_option maxRecDepth 100000 in
theorem tw_905 : Cond.methodLink RL 177 yX9_storm ∈ GW := tb_s4 185 rfl rfl
set_option maxRecDepth 100000 in
theorem tw_919 : Cond.methodLink RL 181 yX9_hit ∈ GW := tb_s4 199 rfl rfl
set_option maxRecDepth 100000 in
theorem tw_929 : Cond.methodLink RL 185 yX9_pays ∈ GW := tb_s4 209 rfl rfl
set_option maxRecDepth 100000 in
theorem tw_933 : Cond.methodLink RL 189 yX9_drawn ∈ GW := tb_s4 213 rfl rfl
set_option maxRecDepth 100000 in
theorem tw_944 : Cond.methodLink RL 193 yX9_alarm ∈ GW := tb_s4 224 rfl rfl
set_option maxRecDepth 100000 in
theorem tw_952 : Cond.methodLink RL 197 yX9_act ∈ GW := tb_s4 232 rfl rfl
set_option maxRecDepth 100000 in
theorem tw_956 : Cond.methodLink RL 201 yX9_count ∈ GW := tb_s4 236 rfl rfl
set_option maxRecDepth 100000 in
theorem tw_1055 : Cond.classLink RL 18 RX10 ∈ GW := tb_s5 95 rfl rfl
set_option maxRecDepth 100000 in
theorem tw_1056 : Cond.instantiable RX10 42 ∈ GW := tb_s5 96 rfl rfl
set_option maxRecDepth 100000 in
theorem tw_1057 : Cond.methodLink RL 20 yX10_init ∈ GW := tb_s5 97 rfl rfl
set_option maxRecDepth 100000 in
theorem tw_1058 : Cond.instanceMethod yX10_init ∈ GW := tb_s5 98 rfl rfl
set_option maxRecDepth 100000 in
theorem tw_1059 : Cond.code yX10_init cX10_init 1 none ∈ GW := tb_s5 99 rfl rfl
set_option maxRecDepth 100000 in
theorem tw_1194 : Cond.methodLink RL 25 yX10_feed ∈ GW := tb_s5 234 rfl rfl
set_option maxRecDepth 100000 in
theorem tw_1198 : Cond.methodLink RL 30 yX10_text ∈ GW := tb_s5 238 rfl rfl
set_option maxRecDepth 100000 in
theorem tw_1322 : Cond.methodLink RL 34 yX10_fault ∈ GW := tb_s6 122 rfl rfl
set_option maxRecDepth 100000 in
theorem tw_1326 : Cond.methodLink RL 39 yX10_write ∈ GW := tb_s6 126 rfl rfl
set_option maxRecDepth 100000 in
theorem tw_1343 : Cond.methodLink RL 44 yX10_move ∈ GW := tb_s6 143 rfl rfl
set_option maxRecDepth 100000 in
theorem tw_1351 : Cond.methodLink RL 48 yX10_change ∈ GW := tb_s6 151 rfl rfl
set_option maxRecDepth 100000 in
theorem tw_1355 : Cond.methodLink RL 52 yX10_lapse ∈ GW := tb_s6 155 rfl rfl
set_option maxRecDepth 100000 in
theorem tw_1359 : Cond.methodLink RL 56 yX10_treaty ∈ GW := tb_s6 159 rfl rfl
set_option maxRecDepth 100000 in
theorem tw_1369 : Cond.methodLink RL 60 yX10_limit ∈ GW := tb_s6 169 rfl rfl
set_option maxRecDepth 100000 in
theorem tw_1385 : Cond.methodLink RL 74 yX10_its ∈ GW := tb_s6 185 rfl rfl
set_option maxRecDepth 100000 in
theorem tw_1396 : Cond.methodLink RL 78 yX10_worst ∈ GW := tb_s6 196 rfl rfl
set_option maxRecDepth 100000 in
theorem tw_1401 : Cond.methodLink RL 82 yX10_inWorst ∈ GW := tb_s6 201 rfl rfl
set_option maxRecDepth 100000 in
theorem tw_1405 : Cond.methodLink RL 86 yX10_bound ∈ GW := tb_s6 205 rfl rfl
set_option maxRecDepth 100000 in
theorem tw_1413 : Cond.methodLink RL 90 yX10_spread ∈ GW := tb_s6 213 rfl rfl
set_option maxRecDepth 100000 in
theorem tw_1417 : Cond.methodLink RL 95 yX10_ring ∈ GW := tb_s6 217 rfl rfl
set_option maxRecDepth 100000 in
theorem tw_1465 : Cond.methodLink RL 99 yX10_part ∈ GW := tb_s7 25 rfl rfl
set_option maxRecDepth 100000 in
theorem tw_1469 : Cond.methodLink RL 103 yX10_second ∈ GW := tb_s7 29 rfl rfl
set_option maxRecDepth 100000 in
theorem tw_1473 : Cond.methodLink RL 107 yX10_chains ∈ GW := tb_s7 33 rfl rfl
set_option maxRecDepth 100000 in
theorem tw_1481 : Cond.methodLink RL 127 yX10_two ∈ GW := tb_s7 41 rfl rfl
set_option maxRecDepth 100000 in
theorem tw_1493 : Cond.methodLink RL 131 yX10_cover ∈ GW := tb_s7 53 rfl rfl
set_option maxRecDepth 100000 in
theorem tw_1501 : Cond.methodLink RL 135 yX10_square ∈ GW := tb_s7 61 rfl rfl
set_option maxRecDepth 100000 in
theorem tw_1509 : Cond.methodLink RL 196 yX10_alarm ∈ GW := tb_s7 69 rfl rfl
set_option maxRecDepth 100000 in
theorem tw_1513 : Cond.methodLink RL 200 yX10_act ∈ GW := tb_s7 73 rfl rfl
set_option maxRecDepth 100000 in
theorem tw_1517 : Cond.methodLink RL 111 yX10_tightest ∈ GW := tb_s7 77 rfl rfl
set_option maxRecDepth 100000 in
theorem tw_1521 : Cond.methodLink RL 115 yX10_together ∈ GW := tb_s7 81 rfl rfl
set_option maxRecDepth 100000 in
theorem tw_1525 : Cond.methodLink RL 119 yX10_heaviest ∈ GW := tb_s7 85 rfl rfl
set_option maxRecDepth 100000 in
theorem tw_1529 : Cond.methodLink RL 123 yX10_heaviestSet ∈ GW := tb_s7 89 rfl rfl
set_option maxRecDepth 100000 in
theorem tw_1533 : Cond.methodLink RL 139 yX10_radiusFor ∈ GW := tb_s7 93 rfl rfl
set_option maxRecDepth 100000 in
theorem tw_1537 : Cond.methodLink RL 143 yX10_ifWritten ∈ GW := tb_s7 97 rfl rfl
set_option maxRecDepth 100000 in
theorem tw_1542 : Cond.methodLink RL 147 yX10_about ∈ GW := tb_s7 102 rfl rfl
set_option maxRecDepth 100000 in
theorem tw_1550 : Cond.methodLink RL 151 yX10_most ∈ GW := tb_s7 110 rfl rfl
set_option maxRecDepth 100000 in
theorem tw_1558 : Cond.methodLink RL 155 yX10_places ∈ GW := tb_s7 118 rfl rfl
set_option maxRecDepth 100000 in
theorem tw_1562 : Cond.methodLink RL 159 yX10_relief ∈ GW := tb_s7 122 rfl rfl
set_option maxRecDepth 100000 in
theorem tw_1566 : Cond.methodLink RL 163 yX10_fewest ∈ GW := tb_s7 126 rfl rfl
set_option maxRecDepth 100000 in
theorem tw_1582 : Cond.methodLink RL 167 yX10_nearest ∈ GW := tb_s7 142 rfl rfl
set_option maxRecDepth 100000 in
theorem tw_1586 : Cond.methodLink RL 171 yX10_couples ∈ GW := tb_s7 146 rfl rfl
set_option maxRecDepth 100000 in
theorem tw_1590 : Cond.methodLink RL 176 yX10_along ∈ GW := tb_s7 150 rfl rfl
set_option maxRecDepth 100000 in
theorem tw_1597 : Cond.methodLink RL 180 yX10_storm ∈ GW := tb_s7 157 rfl rfl
set_option maxRecDepth 100000 in
theorem tw_1613 : Cond.methodLink RL 184 yX10_hit ∈ GW := tb_s7 173 rfl rfl
set_option maxRecDepth 100000 in
theorem tw_1617 : Cond.methodLink RL 188 yX10_pays ∈ GW := tb_s7 177 rfl rfl
set_option maxRecDepth 100000 in
theorem tw_1621 : Cond.methodLink RL 192 yX10_drawn ∈ GW := tb_s7 181 rfl rfl
set_option maxRecDepth 100000 in
theorem tw_1633 : Cond.methodLink RL 204 yX10_count ∈ GW := tb_s7 193 rfl rfl
set_option maxRecDepth 100000 in
theorem mi_X10_about : MI yX10_about cX10_about 4 (some .int) 3 := ⟨tb_s7 105 rfl rfl, tb_s1 11 rfl rfl, by decide +kernel, by decide +kernel, by decide +kernel⟩
set_option maxRecDepth 100000 in
theorem mv_X10_about : MV yX10_about := ⟨tb_s7 103 rfl rfl, tb_s7 104 rfl rfl⟩
set_option maxRecDepth 100000 in
theorem mi_X10_act : MI yX10_act cX10_act 3 (some .int) 2 := ⟨tb_s7 76 rfl rfl, tb_s1 11 rfl rfl, by decide +kernel, by decide +kernel, by decide +kernel⟩
set_option maxRecDepth 100000 in
theorem mv_X10_act : MV yX10_act := ⟨tb_s7 74 rfl rfl, tb_s7 75 rfl rfl⟩
set_option maxRecDepth 100000 in
theorem mi_X10_alarm : MI yX10_alarm cX10_alarm 3 (some .int) 2 := ⟨tb_s7 72 rfl rfl, tb_s1 11 rfl rfl, by decide +kernel, by decide +kernel, by decide +kernel⟩
set_option maxRecDepth 100000 in
theorem mv_X10_alarm : MV yX10_alarm := ⟨tb_s7 70 rfl rfl, tb_s7 71 rfl rfl⟩
set_option maxRecDepth 100000 in
theorem mi_X10_along : MI yX10_along cX10_along 13 (some .int) 6 := ⟨tb_s7 153 rfl rfl, tb_s1 11 rfl rfl, by decide +kernel, by decide +kernel, by decide +kernel⟩
set_option maxRecDepth 100000 in
theorem mv_X10_along : MV yX10_along := ⟨tb_s7 151 rfl rfl, tb_s7 152 rfl rfl⟩
set_option maxRecDepth 100000 in
theorem mi_X10_bound : MI yX10_bound cX10_bound 3 (some .int) 2 := ⟨tb_s6 208 rfl rfl, tb_s1 11 rfl rfl, by decide +kernel, by decide +kernel, by decide +kernel⟩
set_option maxRecDepth 100000 in
theorem mv_X10_bound : MV yX10_bound := ⟨tb_s6 206 rfl rfl, tb_s6 207 rfl rfl⟩
set_option maxRecDepth 100000 in
theorem mi_X10_chains : MI yX10_chains cX10_chains 10 (some .int) 3 := ⟨tb_s7 36 rfl rfl, tb_s1 11 rfl rfl, by decide +kernel, by decide +kernel, by decide +kernel⟩
set_option maxRecDepth 100000 in
theorem mv_X10_chains : MV yX10_chains := ⟨tb_s7 34 rfl rfl, tb_s7 35 rfl rfl⟩
set_option maxRecDepth 100000 in
theorem mi_X10_change : MI yX10_change cX10_change 4 (some .int) 2 := ⟨tb_s6 154 rfl rfl, tb_s1 11 rfl rfl, by decide +kernel, by decide +kernel, by decide +kernel⟩
set_option maxRecDepth 100000 in
theorem mv_X10_change : MV yX10_change := ⟨tb_s6 152 rfl rfl, tb_s6 153 rfl rfl⟩
set_option maxRecDepth 100000 in
theorem mi_X10_count : MI yX10_count cX10_count 2 (some .int) 1 := ⟨tb_s7 196 rfl rfl, tb_s1 11 rfl rfl, by decide +kernel, by decide +kernel, by decide +kernel⟩
set_option maxRecDepth 100000 in
theorem mv_X10_count : MV yX10_count := ⟨tb_s7 194 rfl rfl, tb_s7 195 rfl rfl⟩
set_option maxRecDepth 100000 in
theorem mi_X10_couples : MI yX10_couples cX10_couples 5 (some .int) 1 := ⟨tb_s7 149 rfl rfl, tb_s1 11 rfl rfl, by decide +kernel, by decide +kernel, by decide +kernel⟩
set_option maxRecDepth 100000 in
theorem mv_X10_couples : MV yX10_couples := ⟨tb_s7 147 rfl rfl, tb_s7 148 rfl rfl⟩
set_option maxRecDepth 100000 in
theorem mi_X10_cover : MI yX10_cover cX10_cover 5 (some .int) 2 := ⟨tb_s7 56 rfl rfl, tb_s1 11 rfl rfl, by decide +kernel, by decide +kernel, by decide +kernel⟩
set_option maxRecDepth 100000 in
theorem mv_X10_cover : MV yX10_cover := ⟨tb_s7 54 rfl rfl, tb_s7 55 rfl rfl⟩
set_option maxRecDepth 100000 in
theorem mi_X10_drawn : MI yX10_drawn cX10_drawn 13 (some .int) 4 := ⟨tb_s7 184 rfl rfl, tb_s1 11 rfl rfl, by decide +kernel, by decide +kernel, by decide +kernel⟩
set_option maxRecDepth 100000 in
theorem mv_X10_drawn : MV yX10_drawn := ⟨tb_s7 182 rfl rfl, tb_s7 183 rfl rfl⟩
set_option maxRecDepth 100000 in
theorem mi_X10_fault : MI yX10_fault cX10_fault 2 (some .int) 1 := ⟨tb_s6 125 rfl rfl, tb_s1 11 rfl rfl, by decide +kernel, by decide +kernel, by decide +kernel⟩
set_option maxRecDepth 100000 in
theorem mv_X10_fault : MV yX10_fault := ⟨tb_s6 123 rfl rfl, tb_s6 124 rfl rfl⟩
set_option maxRecDepth 100000 in
theorem mi_X10_feed : MI yX10_feed cX10_feed 8 (some .int) 5 := ⟨tb_s5 237 rfl rfl, tb_s1 11 rfl rfl, by decide +kernel, by decide +kernel, by decide +kernel⟩
set_option maxRecDepth 100000 in
theorem mv_X10_feed : MV yX10_feed := ⟨tb_s5 235 rfl rfl, tb_s5 236 rfl rfl⟩
set_option maxRecDepth 100000 in
theorem mi_X10_fewest : MI yX10_fewest cX10_fewest 8 (some .int) 1 := ⟨tb_s7 129 rfl rfl, tb_s1 11 rfl rfl, by decide +kernel, by decide +kernel, by decide +kernel⟩
set_option maxRecDepth 100000 in
theorem mv_X10_fewest : MV yX10_fewest := ⟨tb_s7 127 rfl rfl, tb_s7 128 rfl rfl⟩
set_option maxRecDepth 100000 in
theorem mi_X10_heaviest : MI yX10_heaviest cX10_heaviest 3 (some .int) 2 := ⟨tb_s7 88 rfl rfl, tb_s1 11 rfl rfl, by decide +kernel, by decide +kernel, by decide +kernel⟩
set_option maxRecDepth 100000 in
theorem mv_X10_heaviest : MV yX10_heaviest := ⟨tb_s7 86 rfl rfl, tb_s7 87 rfl rfl⟩
set_option maxRecDepth 100000 in
theorem mi_X10_heaviestSet : MI yX10_heaviestSet cX10_heaviestSet 3 (some .int) 2 := ⟨tb_s7 92 rfl rfl, tb_s1 11 rfl rfl, by decide +kernel, by decide +kernel, by decide +kernel⟩
set_option maxRecDepth 100000 in
theorem mv_X10_heaviestSet : MV yX10_heaviestSet := ⟨tb_s7 90 rfl rfl, tb_s7 91 rfl rfl⟩
set_option maxRecDepth 100000 in
theorem mi_X10_hit : MI yX10_hit cX10_hit 6 (some .int) 1 := ⟨tb_s7 176 rfl rfl, tb_s1 11 rfl rfl, by decide +kernel, by decide +kernel, by decide +kernel⟩
set_option maxRecDepth 100000 in
theorem mv_X10_hit : MV yX10_hit := ⟨tb_s7 174 rfl rfl, tb_s7 175 rfl rfl⟩
set_option maxRecDepth 100000 in
theorem mi_X10_ifWritten : MI yX10_ifWritten cX10_ifWritten 7 (some .int) 5 := ⟨tb_s7 100 rfl rfl, tb_s1 11 rfl rfl, by decide +kernel, by decide +kernel, by decide +kernel⟩
set_option maxRecDepth 100000 in
theorem mv_X10_ifWritten : MV yX10_ifWritten := ⟨tb_s7 98 rfl rfl, tb_s7 99 rfl rfl⟩
set_option maxRecDepth 100000 in
theorem mi_X10_inWorst : MI yX10_inWorst cX10_inWorst 5 (some .int) 2 := ⟨tb_s6 204 rfl rfl, tb_s1 11 rfl rfl, by decide +kernel, by decide +kernel, by decide +kernel⟩
set_option maxRecDepth 100000 in
theorem mv_X10_inWorst : MV yX10_inWorst := ⟨tb_s6 202 rfl rfl, tb_s6 203 rfl rfl⟩
set_option maxRecDepth 100000 in
theorem mi_X10_its : MI yX10_its cX10_its 3 (some .int) 2 := ⟨tb_s6 188 rfl rfl, tb_s1 11 rfl rfl, by decide +kernel, by decide +kernel, by decide +kernel⟩
set_option maxRecDepth 100000 in
theorem mv_X10_its : MV yX10_its := ⟨tb_s6 186 rfl rfl, tb_s6 187 rfl rfl⟩
set_option maxRecDepth 100000 in
theorem mi_X10_lapse : MI yX10_lapse cX10_lapse 2 (some .int) 1 := ⟨tb_s6 158 rfl rfl, tb_s1 11 rfl rfl, by decide +kernel, by decide +kernel, by decide +kernel⟩
set_option maxRecDepth 100000 in
theorem mv_X10_lapse : MV yX10_lapse := ⟨tb_s6 156 rfl rfl, tb_s6 157 rfl rfl⟩
set_option maxRecDepth 100000 in
theorem mi_X10_limit : MI yX10_limit cX10_limit 4 (some .int) 2 := ⟨tb_s6 172 rfl rfl, tb_s1 11 rfl rfl, by decide +kernel, by decide +kernel, by decide +kernel⟩
set_option maxRecDepth 100000 in
theorem mv_X10_limit : MV yX10_limit := ⟨tb_s6 170 rfl rfl, tb_s6 171 rfl rfl⟩
set_option maxRecDepth 100000 in
theorem mi_X10_most : MI yX10_most cX10_most 5 (some .int) 3 := ⟨tb_s7 113 rfl rfl, tb_s1 11 rfl rfl, by decide +kernel, by decide +kernel, by decide +kernel⟩
set_option maxRecDepth 100000 in
theorem mv_X10_most : MV yX10_most := ⟨tb_s7 111 rfl rfl, tb_s7 112 rfl rfl⟩
set_option maxRecDepth 100000 in
theorem mi_X10_move : MI yX10_move cX10_move 5 (some .int) 3 := ⟨tb_s6 146 rfl rfl, tb_s1 11 rfl rfl, by decide +kernel, by decide +kernel, by decide +kernel⟩
set_option maxRecDepth 100000 in
theorem mv_X10_move : MV yX10_move := ⟨tb_s6 144 rfl rfl, tb_s6 145 rfl rfl⟩
set_option maxRecDepth 100000 in
theorem mi_X10_nearest : MI yX10_nearest cX10_nearest 4 (some .int) 1 := ⟨tb_s7 145 rfl rfl, tb_s1 11 rfl rfl, by decide +kernel, by decide +kernel, by decide +kernel⟩
set_option maxRecDepth 100000 in
theorem mv_X10_nearest : MV yX10_nearest := ⟨tb_s7 143 rfl rfl, tb_s7 144 rfl rfl⟩
set_option maxRecDepth 100000 in
theorem mi_X10_part : MI yX10_part cX10_part 5 (some .int) 2 := ⟨tb_s7 28 rfl rfl, tb_s1 11 rfl rfl, by decide +kernel, by decide +kernel, by decide +kernel⟩
set_option maxRecDepth 100000 in
theorem mv_X10_part : MV yX10_part := ⟨tb_s7 26 rfl rfl, tb_s7 27 rfl rfl⟩
set_option maxRecDepth 100000 in
theorem mi_X10_pays : MI yX10_pays cX10_pays 3 (some .int) 1 := ⟨tb_s7 180 rfl rfl, tb_s1 11 rfl rfl, by decide +kernel, by decide +kernel, by decide +kernel⟩
set_option maxRecDepth 100000 in
theorem mv_X10_pays : MV yX10_pays := ⟨tb_s7 178 rfl rfl, tb_s7 179 rfl rfl⟩
set_option maxRecDepth 100000 in
theorem mi_X10_places : MI yX10_places cX10_places 5 (some .int) 2 := ⟨tb_s7 121 rfl rfl, tb_s1 11 rfl rfl, by decide +kernel, by decide +kernel, by decide +kernel⟩
set_option maxRecDepth 100000 in
theorem mv_X10_places : MV yX10_places := ⟨tb_s7 119 rfl rfl, tb_s7 120 rfl rfl⟩
set_option maxRecDepth 100000 in
theorem mi_X10_radiusFor : MI yX10_radiusFor cX10_radiusFor 6 (some .int) 2 := ⟨tb_s7 96 rfl rfl, tb_s1 11 rfl rfl, by decide +kernel, by decide +kernel, by decide +kernel⟩
set_option maxRecDepth 100000 in
theorem mv_X10_radiusFor : MV yX10_radiusFor := ⟨tb_s7 94 rfl rfl, tb_s7 95 rfl rfl⟩
set_option maxRecDepth 100000 in
theorem mi_X10_relief : MI yX10_relief cX10_relief 8 (some .int) 2 := ⟨tb_s7 125 rfl rfl, tb_s1 11 rfl rfl, by decide +kernel, by decide +kernel, by decide +kernel⟩
set_option maxRecDepth 100000 in
theorem mv_X10_relief : MV yX10_relief := ⟨tb_s7 123 rfl rfl, tb_s7 124 rfl rfl⟩
set_option maxRecDepth 100000 in
theorem mi_X10_ring : MI yX10_ring cX10_ring 4 (some .long) 2 := ⟨tb_s6 220 rfl rfl, tb_s1 11 rfl rfl, by decide +kernel, by decide +kernel, by decide +kernel⟩
set_option maxRecDepth 100000 in
theorem mv_X10_ring : MV yX10_ring := ⟨tb_s6 218 rfl rfl, tb_s6 219 rfl rfl⟩
set_option maxRecDepth 100000 in
theorem mi_X10_second : MI yX10_second cX10_second 2 (some .int) 1 := ⟨tb_s7 32 rfl rfl, tb_s1 11 rfl rfl, by decide +kernel, by decide +kernel, by decide +kernel⟩
set_option maxRecDepth 100000 in
theorem mv_X10_second : MV yX10_second := ⟨tb_s7 30 rfl rfl, tb_s7 31 rfl rfl⟩
set_option maxRecDepth 100000 in
theorem mi_X10_spread : MI yX10_spread cX10_spread 5 (some .int) 1 := ⟨tb_s6 216 rfl rfl, tb_s1 11 rfl rfl, by decide +kernel, by decide +kernel, by decide +kernel⟩
set_option maxRecDepth 100000 in
theorem mv_X10_spread : MV yX10_spread := ⟨tb_s6 214 rfl rfl, tb_s6 215 rfl rfl⟩
set_option maxRecDepth 100000 in
theorem mi_X10_square : MI yX10_square cX10_square 11 (some .int) 3 := ⟨tb_s7 64 rfl rfl, tb_s1 11 rfl rfl, by decide +kernel, by decide +kernel, by decide +kernel⟩
set_option maxRecDepth 100000 in
theorem mv_X10_square : MV yX10_square := ⟨tb_s7 62 rfl rfl, tb_s7 63 rfl rfl⟩
set_option maxRecDepth 100000 in
theorem mi_X10_storm : MI yX10_storm cX10_storm 7 (some .int) 6 := ⟨tb_s7 160 rfl rfl, tb_s1 11 rfl rfl, by decide +kernel, by decide +kernel, by decide +kernel⟩
set_option maxRecDepth 100000 in
theorem mv_X10_storm : MV yX10_storm := ⟨tb_s7 158 rfl rfl, tb_s7 159 rfl rfl⟩
set_option maxRecDepth 100000 in
theorem mi_X10_text : MI yX10_text cX10_text 2 (some .int) 1 := ⟨tb_s6 1 rfl rfl, tb_s1 11 rfl rfl, by decide +kernel, by decide +kernel, by decide +kernel⟩
set_option maxRecDepth 100000 in
theorem mv_X10_text : MV yX10_text := ⟨tb_s5 239 rfl rfl, tb_s6 0 rfl rfl⟩
set_option maxRecDepth 100000 in
theorem mi_X10_tightest : MI yX10_tightest cX10_tightest 9 (some .int) 0 := ⟨tb_s7 80 rfl rfl, tb_s1 11 rfl rfl, by decide +kernel, by decide +kernel, by decide +kernel⟩
set_option maxRecDepth 100000 in
theorem mv_X10_tightest : MV yX10_tightest := ⟨tb_s7 78 rfl rfl, tb_s7 79 rfl rfl⟩
set_option maxRecDepth 100000 in
theorem mi_X10_together : MI yX10_together cX10_together 4 (some .int) 3 := ⟨tb_s7 84 rfl rfl, tb_s1 11 rfl rfl, by decide +kernel, by decide +kernel, by decide +kernel⟩
set_option maxRecDepth 100000 in
theorem mv_X10_together : MV yX10_together := ⟨tb_s7 82 rfl rfl, tb_s7 83 rfl rfl⟩
set_option maxRecDepth 100000 in
theorem mi_X10_treaty : MI yX10_treaty cX10_treaty 4 (some .int) 3 := ⟨tb_s6 162 rfl rfl, tb_s1 11 rfl rfl, by decide +kernel, by decide +kernel, by decide +kernel⟩
set_option maxRecDepth 100000 in
theorem mv_X10_treaty : MV yX10_treaty := ⟨tb_s6 160 rfl rfl, tb_s6 161 rfl rfl⟩
set_option maxRecDepth 100000 in
theorem mi_X10_two : MI yX10_two cX10_two 8 (some .int) 3 := ⟨tb_s7 44 rfl rfl, tb_s1 11 rfl rfl, by decide +kernel, by decide +kernel, by decide +kernel⟩
set_option maxRecDepth 100000 in
theorem mv_X10_two : MV yX10_two := ⟨tb_s7 42 rfl rfl, tb_s7 43 rfl rfl⟩
set_option maxRecDepth 100000 in
theorem mi_X10_worst : MI yX10_worst cX10_worst 4 (some .int) 2 := ⟨tb_s6 199 rfl rfl, tb_s1 11 rfl rfl, by decide +kernel, by decide +kernel, by decide +kernel⟩
set_option maxRecDepth 100000 in
theorem mv_X10_worst : MV yX10_worst := ⟨tb_s6 197 rfl rfl, tb_s6 198 rfl rfl⟩
set_option maxRecDepth 100000 in
theorem mi_X10_write : MI yX10_write cX10_write 6 (some .int) 4 := ⟨tb_s6 129 rfl rfl, tb_s1 11 rfl rfl, by decide +kernel, by decide +kernel, by decide +kernel⟩
set_option maxRecDepth 100000 in
theorem mv_X10_write : MV yX10_write := ⟨tb_s6 127 rfl rfl, tb_s6 128 rfl rfl⟩
set_option maxRecDepth 100000 in
theorem mi_X9_about : MI yX9_about cX9_about 5 (some .int) 3 := ⟨tb_s4 69 rfl rfl, tb_s1 1 rfl rfl, by decide +kernel, by decide +kernel, by decide +kernel⟩
set_option maxRecDepth 100000 in
theorem mv_X9_about : MV yX9_about := ⟨tb_s4 67 rfl rfl, tb_s4 68 rfl rfl⟩
set_option maxRecDepth 100000 in
theorem mi_X9_act : MI yX9_act cX9_act 3 (some .int) 2 := ⟨tb_s4 235 rfl rfl, tb_s1 1 rfl rfl, by decide +kernel, by decide +kernel, by decide +kernel⟩
set_option maxRecDepth 100000 in
theorem mv_X9_act : MV yX9_act := ⟨tb_s4 233 rfl rfl, tb_s4 234 rfl rfl⟩
set_option maxRecDepth 100000 in
theorem mi_X9_alarm : MI yX9_alarm cX9_alarm 3 (some .int) 2 := ⟨tb_s4 227 rfl rfl, tb_s1 1 rfl rfl, by decide +kernel, by decide +kernel, by decide +kernel⟩
set_option maxRecDepth 100000 in
theorem mv_X9_alarm : MV yX9_alarm := ⟨tb_s4 225 rfl rfl, tb_s4 226 rfl rfl⟩
set_option maxRecDepth 100000 in
theorem mi_X9_along : MI yX9_along cX9_along 15 (some .int) 6 := ⟨tb_s4 85 rfl rfl, tb_s1 1 rfl rfl, by decide +kernel, by decide +kernel, by decide +kernel⟩
set_option maxRecDepth 100000 in
theorem mv_X9_along : MV yX9_along := ⟨tb_s4 83 rfl rfl, tb_s4 84 rfl rfl⟩
set_option maxRecDepth 100000 in
theorem mi_X9_bound : MI yX9_bound cX9_bound 7 (some .int) 2 := ⟨tb_s3 185 rfl rfl, tb_s1 1 rfl rfl, by decide +kernel, by decide +kernel, by decide +kernel⟩
set_option maxRecDepth 100000 in
theorem mv_X9_bound : MV yX9_bound := ⟨tb_s3 183 rfl rfl, tb_s3 184 rfl rfl⟩
set_option maxRecDepth 100000 in
theorem mi_X9_chains : MI yX9_chains cX9_chains 10 (some .int) 3 := ⟨tb_s4 97 rfl rfl, tb_s1 1 rfl rfl, by decide +kernel, by decide +kernel, by decide +kernel⟩
set_option maxRecDepth 100000 in
theorem mv_X9_chains : MV yX9_chains := ⟨tb_s4 95 rfl rfl, tb_s4 96 rfl rfl⟩
set_option maxRecDepth 100000 in
theorem mi_X9_change : MI yX9_change cX9_change 4 (some .int) 2 := ⟨tb_s3 133 rfl rfl, tb_s1 1 rfl rfl, by decide +kernel, by decide +kernel, by decide +kernel⟩
set_option maxRecDepth 100000 in
theorem mv_X9_change : MV yX9_change := ⟨tb_s3 131 rfl rfl, tb_s3 132 rfl rfl⟩
set_option maxRecDepth 100000 in
theorem mi_X9_count : MI yX9_count cX9_count 2 (some .int) 1 := ⟨tb_s4 239 rfl rfl, tb_s1 1 rfl rfl, by decide +kernel, by decide +kernel, by decide +kernel⟩
set_option maxRecDepth 100000 in
theorem mv_X9_count : MV yX9_count := ⟨tb_s4 237 rfl rfl, tb_s4 238 rfl rfl⟩
set_option maxRecDepth 100000 in
theorem mi_X9_couples : MI yX9_couples cX9_couples 4 (some .int) 1 := ⟨tb_s4 184 rfl rfl, tb_s1 1 rfl rfl, by decide +kernel, by decide +kernel, by decide +kernel⟩
set_option maxRecDepth 100000 in
theorem mv_X9_couples : MV yX9_couples := ⟨tb_s4 182 rfl rfl, tb_s4 183 rfl rfl⟩
set_option maxRecDepth 100000 in
theorem mi_X9_cover : MI yX9_cover cX9_cover 4 (some .int) 2 := ⟨tb_s4 143 rfl rfl, tb_s1 1 rfl rfl, by decide +kernel, by decide +kernel, by decide +kernel⟩
set_option maxRecDepth 100000 in
theorem mv_X9_cover : MV yX9_cover := ⟨tb_s4 141 rfl rfl, tb_s4 142 rfl rfl⟩
set_option maxRecDepth 100000 in
theorem mi_X9_drawn : MI yX9_drawn cX9_drawn 14 (some .int) 4 := ⟨tb_s4 216 rfl rfl, tb_s1 1 rfl rfl, by decide +kernel, by decide +kernel, by decide +kernel⟩
set_option maxRecDepth 100000 in
theorem mv_X9_drawn : MV yX9_drawn := ⟨tb_s4 214 rfl rfl, tb_s4 215 rfl rfl⟩
set_option maxRecDepth 100000 in
theorem mi_X9_fault : MI yX9_fault cX9_fault 2 (some .int) 1 := ⟨tb_s3 64 rfl rfl, tb_s1 1 rfl rfl, by decide +kernel, by decide +kernel, by decide +kernel⟩
set_option maxRecDepth 100000 in
theorem mv_X9_fault : MV yX9_fault := ⟨tb_s3 62 rfl rfl, tb_s3 63 rfl rfl⟩
set_option maxRecDepth 100000 in
theorem mi_X9_feed : MI yX9_feed cX9_feed 6 (some .int) 5 := ⟨tb_s2 77 rfl rfl, tb_s1 1 rfl rfl, by decide +kernel, by decide +kernel, by decide +kernel⟩
set_option maxRecDepth 100000 in
theorem mv_X9_feed : MV yX9_feed := ⟨tb_s2 75 rfl rfl, tb_s2 76 rfl rfl⟩
set_option maxRecDepth 100000 in
theorem mi_X9_fewest : MI yX9_fewest cX9_fewest 4 (some .int) 1 := ⟨tb_s4 38 rfl rfl, tb_s1 1 rfl rfl, by decide +kernel, by decide +kernel, by decide +kernel⟩
set_option maxRecDepth 100000 in
theorem mv_X9_fewest : MV yX9_fewest := ⟨tb_s4 36 rfl rfl, tb_s4 37 rfl rfl⟩
set_option maxRecDepth 100000 in
theorem mi_X9_heaviest : MI yX9_heaviest cX9_heaviest 3 (some .int) 2 := ⟨tb_s4 109 rfl rfl, tb_s1 1 rfl rfl, by decide +kernel, by decide +kernel, by decide +kernel⟩
set_option maxRecDepth 100000 in
theorem mv_X9_heaviest : MV yX9_heaviest := ⟨tb_s4 107 rfl rfl, tb_s4 108 rfl rfl⟩
set_option maxRecDepth 100000 in
theorem mi_X9_heaviestSet : MI yX9_heaviestSet cX9_heaviestSet 3 (some .int) 2 := ⟨tb_s4 118 rfl rfl, tb_s1 1 rfl rfl, by decide +kernel, by decide +kernel, by decide +kernel⟩
set_option maxRecDepth 100000 in
theorem mv_X9_heaviestSet : MV yX9_heaviestSet := ⟨tb_s4 116 rfl rfl, tb_s4 117 rfl rfl⟩
set_option maxRecDepth 100000 in
theorem mi_X9_hit : MI yX9_hit cX9_hit 2 (some .int) 1 := ⟨tb_s4 202 rfl rfl, tb_s1 1 rfl rfl, by decide +kernel, by decide +kernel, by decide +kernel⟩
set_option maxRecDepth 100000 in
theorem mv_X9_hit : MV yX9_hit := ⟨tb_s4 200 rfl rfl, tb_s4 201 rfl rfl⟩
set_option maxRecDepth 100000 in
theorem mi_X9_ifWritten : MI yX9_ifWritten cX9_ifWritten 7 (some .int) 5 := ⟨tb_s4 55 rfl rfl, tb_s1 1 rfl rfl, by decide +kernel, by decide +kernel, by decide +kernel⟩
set_option maxRecDepth 100000 in
theorem mv_X9_ifWritten : MV yX9_ifWritten := ⟨tb_s4 53 rfl rfl, tb_s4 54 rfl rfl⟩
set_option maxRecDepth 100000 in
theorem mi_X9_inWorst : MI yX9_inWorst cX9_inWorst 6 (some .int) 2 := ⟨tb_s3 180 rfl rfl, tb_s1 1 rfl rfl, by decide +kernel, by decide +kernel, by decide +kernel⟩
set_option maxRecDepth 100000 in
theorem mv_X9_inWorst : MV yX9_inWorst := ⟨tb_s3 178 rfl rfl, tb_s3 179 rfl rfl⟩
set_option maxRecDepth 100000 in
theorem mi_X9_its : MI yX9_its cX9_its 4 (some .int) 2 := ⟨tb_s3 165 rfl rfl, tb_s1 1 rfl rfl, by decide +kernel, by decide +kernel, by decide +kernel⟩
set_option maxRecDepth 100000 in
theorem mv_X9_its : MV yX9_its := ⟨tb_s3 163 rfl rfl, tb_s3 164 rfl rfl⟩
set_option maxRecDepth 100000 in
theorem mi_X9_lapse : MI yX9_lapse cX9_lapse 4 (some .int) 1 := ⟨tb_s3 142 rfl rfl, tb_s1 1 rfl rfl, by decide +kernel, by decide +kernel, by decide +kernel⟩
set_option maxRecDepth 100000 in
theorem mv_X9_lapse : MV yX9_lapse := ⟨tb_s3 140 rfl rfl, tb_s3 141 rfl rfl⟩
set_option maxRecDepth 100000 in
theorem mi_X9_limit : MI yX9_limit cX9_limit 5 (some .int) 2 := ⟨tb_s3 161 rfl rfl, tb_s1 1 rfl rfl, by decide +kernel, by decide +kernel, by decide +kernel⟩
set_option maxRecDepth 100000 in
theorem mv_X9_limit : MV yX9_limit := ⟨tb_s3 159 rfl rfl, tb_s3 160 rfl rfl⟩
set_option maxRecDepth 100000 in
theorem mi_X9_most : MI yX9_most cX9_most 7 (some .int) 3 := ⟨tb_s4 73 rfl rfl, tb_s1 1 rfl rfl, by decide +kernel, by decide +kernel, by decide +kernel⟩
set_option maxRecDepth 100000 in
theorem mv_X9_most : MV yX9_most := ⟨tb_s4 71 rfl rfl, tb_s4 72 rfl rfl⟩
set_option maxRecDepth 100000 in
theorem mi_X9_move : MI yX9_move cX9_move 6 (some .int) 3 := ⟨tb_s3 100 rfl rfl, tb_s1 1 rfl rfl, by decide +kernel, by decide +kernel, by decide +kernel⟩
set_option maxRecDepth 100000 in
theorem mv_X9_move : MV yX9_move := ⟨tb_s3 98 rfl rfl, tb_s3 99 rfl rfl⟩
set_option maxRecDepth 100000 in
theorem mi_X9_nearest : MI yX9_nearest cX9_nearest 6 (some .int) 1 := ⟨tb_s4 180 rfl rfl, tb_s1 1 rfl rfl, by decide +kernel, by decide +kernel, by decide +kernel⟩
set_option maxRecDepth 100000 in
theorem mv_X9_nearest : MV yX9_nearest := ⟨tb_s4 178 rfl rfl, tb_s4 179 rfl rfl⟩
set_option maxRecDepth 100000 in
theorem mi_X9_part : MI yX9_part cX9_part 4 (some .int) 2 := ⟨tb_s4 18 rfl rfl, tb_s1 1 rfl rfl, by decide +kernel, by decide +kernel, by decide +kernel⟩
set_option maxRecDepth 100000 in
theorem mv_X9_part : MV yX9_part := ⟨tb_s4 16 rfl rfl, tb_s4 17 rfl rfl⟩
set_option maxRecDepth 100000 in
theorem mi_X9_pays : MI yX9_pays cX9_pays 3 (some .int) 1 := ⟨tb_s4 212 rfl rfl, tb_s1 1 rfl rfl, by decide +kernel, by decide +kernel, by decide +kernel⟩
set_option maxRecDepth 100000 in
theorem mv_X9_pays : MV yX9_pays := ⟨tb_s4 210 rfl rfl, tb_s4 211 rfl rfl⟩
set_option maxRecDepth 100000 in
theorem mi_X9_places : MI yX9_places cX9_places 6 (some .int) 2 := ⟨tb_s4 77 rfl rfl, tb_s1 1 rfl rfl, by decide +kernel, by decide +kernel, by decide +kernel⟩
set_option maxRecDepth 100000 in
theorem mv_X9_places : MV yX9_places := ⟨tb_s4 75 rfl rfl, tb_s4 76 rfl rfl⟩
set_option maxRecDepth 100000 in
theorem mi_X9_radiusFor : MI yX9_radiusFor cX9_radiusFor 8 (some .int) 2 := ⟨tb_s4 172 rfl rfl, tb_s1 1 rfl rfl, by decide +kernel, by decide +kernel, by decide +kernel⟩
set_option maxRecDepth 100000 in
theorem mv_X9_radiusFor : MV yX9_radiusFor := ⟨tb_s4 170 rfl rfl, tb_s4 171 rfl rfl⟩
set_option maxRecDepth 100000 in
theorem mi_X9_relief : MI yX9_relief cX9_relief 8 (some .int) 2 := ⟨tb_s4 34 rfl rfl, tb_s1 1 rfl rfl, by decide +kernel, by decide +kernel, by decide +kernel⟩
set_option maxRecDepth 100000 in
theorem mv_X9_relief : MV yX9_relief := ⟨tb_s4 32 rfl rfl, tb_s4 33 rfl rfl⟩
set_option maxRecDepth 100000 in
theorem mi_X9_ring : MI yX9_ring cX9_ring 4 (some .long) 2 := ⟨tb_s3 206 rfl rfl, tb_s1 1 rfl rfl, by decide +kernel, by decide +kernel, by decide +kernel⟩
set_option maxRecDepth 100000 in
theorem mv_X9_ring : MV yX9_ring := ⟨tb_s3 204 rfl rfl, tb_s3 205 rfl rfl⟩
set_option maxRecDepth 100000 in
theorem mi_X9_second : MI yX9_second cX9_second 3 (some .int) 1 := ⟨tb_s4 26 rfl rfl, tb_s1 1 rfl rfl, by decide +kernel, by decide +kernel, by decide +kernel⟩
set_option maxRecDepth 100000 in
theorem mv_X9_second : MV yX9_second := ⟨tb_s4 24 rfl rfl, tb_s4 25 rfl rfl⟩
set_option maxRecDepth 100000 in
theorem mi_X9_spread : MI yX9_spread cX9_spread 6 (some .int) 1 := ⟨tb_s3 197 rfl rfl, tb_s1 1 rfl rfl, by decide +kernel, by decide +kernel, by decide +kernel⟩
set_option maxRecDepth 100000 in
theorem mv_X9_spread : MV yX9_spread := ⟨tb_s3 195 rfl rfl, tb_s3 196 rfl rfl⟩
set_option maxRecDepth 100000 in
theorem mi_X9_square : MI yX9_square cX9_square 14 (some .int) 3 := ⟨tb_s4 164 rfl rfl, tb_s1 1 rfl rfl, by decide +kernel, by decide +kernel, by decide +kernel⟩
set_option maxRecDepth 100000 in
theorem mv_X9_square : MV yX9_square := ⟨tb_s4 162 rfl rfl, tb_s4 163 rfl rfl⟩
set_option maxRecDepth 100000 in
theorem mi_X9_storm : MI yX9_storm cX9_storm 7 (some .int) 6 := ⟨tb_s4 188 rfl rfl, tb_s1 1 rfl rfl, by decide +kernel, by decide +kernel, by decide +kernel⟩
set_option maxRecDepth 100000 in
theorem mv_X9_storm : MV yX9_storm := ⟨tb_s4 186 rfl rfl, tb_s4 187 rfl rfl⟩
set_option maxRecDepth 100000 in
theorem mi_X9_text : MI yX9_text cX9_text 2 (some .int) 1 := ⟨tb_s2 85 rfl rfl, tb_s1 1 rfl rfl, by decide +kernel, by decide +kernel, by decide +kernel⟩
set_option maxRecDepth 100000 in
theorem mv_X9_text : MV yX9_text := ⟨tb_s2 83 rfl rfl, tb_s2 84 rfl rfl⟩
set_option maxRecDepth 100000 in
theorem mi_X9_tightest : MI yX9_tightest cX9_tightest 8 (some .int) 0 := ⟨tb_s4 30 rfl rfl, tb_s1 1 rfl rfl, by decide +kernel, by decide +kernel, by decide +kernel⟩
set_option maxRecDepth 100000 in
theorem mv_X9_tightest : MV yX9_tightest := ⟨tb_s4 28 rfl rfl, tb_s4 29 rfl rfl⟩
set_option maxRecDepth 100000 in
theorem mi_X9_together : MI yX9_together cX9_together 4 (some .int) 3 := ⟨tb_s4 176 rfl rfl, tb_s1 1 rfl rfl, by decide +kernel, by decide +kernel, by decide +kernel⟩
set_option maxRecDepth 100000 in
theorem mv_X9_together : MV yX9_together := ⟨tb_s4 174 rfl rfl, tb_s4 175 rfl rfl⟩
set_option maxRecDepth 100000 in
theorem mi_X9_treaty : MI yX9_treaty cX9_treaty 4 (some .int) 3 := ⟨tb_s3 150 rfl rfl, tb_s1 1 rfl rfl, by decide +kernel, by decide +kernel, by decide +kernel⟩
set_option maxRecDepth 100000 in
theorem mv_X9_treaty : MV yX9_treaty := ⟨tb_s3 148 rfl rfl, tb_s3 149 rfl rfl⟩
set_option maxRecDepth 100000 in
theorem mi_X9_two : MI yX9_two cX9_two 5 (some .int) 3 := ⟨tb_s4 122 rfl rfl, tb_s1 1 rfl rfl, by decide +kernel, by decide +kernel, by decide +kernel⟩
set_option maxRecDepth 100000 in
theorem mv_X9_two : MV yX9_two := ⟨tb_s4 120 rfl rfl, tb_s4 121 rfl rfl⟩
set_option maxRecDepth 100000 in
theorem mi_X9_worst : MI yX9_worst cX9_worst 4 (some .int) 2 := ⟨tb_s3 176 rfl rfl, tb_s1 1 rfl rfl, by decide +kernel, by decide +kernel, by decide +kernel⟩
set_option maxRecDepth 100000 in
theorem mv_X9_worst : MV yX9_worst := ⟨tb_s3 174 rfl rfl, tb_s3 175 rfl rfl⟩
set_option maxRecDepth 100000 in
theorem mi_X9_write : MI yX9_write cX9_write 6 (some .int) 4 := ⟨tb_s3 68 rfl rfl, tb_s1 1 rfl rfl, by decide +kernel, by decide +kernel, by decide +kernel⟩
set_option maxRecDepth 100000 in
theorem mv_X9_write : MV yX9_write := ⟨tb_s3 66 rfl rfl, tb_s3 67 rfl rfl⟩
