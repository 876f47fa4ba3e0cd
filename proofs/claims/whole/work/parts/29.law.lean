/-! laid by program: shallow functions and contracts -/
theorem w92 : Cond.classLink RL 8 "BeltKnots" ∈ fAll := fAll_mk (List.mem_of_getElem? (i := 92) (by decide +kernel)) (by decide +kernel)
theorem w93 : Cond.instantiable "BeltKnots" 5 ∈ fAll := fAll_mk (List.mem_of_getElem? (i := 93) (by decide +kernel)) (by decide +kernel)
theorem w94 : Cond.methodLink RL 92 yX10_init ∈ fAll := fAll_mk (List.mem_of_getElem? (i := 94) (by decide +kernel)) (by decide +kernel)
theorem w95 : Cond.instanceMethod yX10_init ∈ fAll := fAll_mk (List.mem_of_getElem? (i := 95) (by decide +kernel)) (by decide +kernel)
theorem w197 : Cond.methodLink RL 128 yX10_clearBuffer ∈ fAll := fAll_mk (List.mem_of_getElem? (i := 197) (by decide +kernel)) (by decide +kernel)
theorem w198 : Cond.instanceMethod yX10_clearBuffer ∈ fAll := fAll_mk (List.mem_of_getElem? (i := 198) (by decide +kernel)) (by decide +kernel)
theorem w199 : Cond.selects RX10 yX10_clearBuffer yX10_clearBuffer ∈ fAll := fAll_mk (List.mem_of_getElem? (i := 199) (by decide +kernel)) (by decide +kernel)
theorem w205 : Cond.methodLink RL 132 yX10_firstError ∈ fAll := fAll_mk (List.mem_of_getElem? (i := 205) (by decide +kernel)) (by decide +kernel)
theorem w206 : Cond.instanceMethod yX10_firstError ∈ fAll := fAll_mk (List.mem_of_getElem? (i := 206) (by decide +kernel)) (by decide +kernel)
theorem w207 : Cond.selects RX10 yX10_firstError yX10_firstError ∈ fAll := fAll_mk (List.mem_of_getElem? (i := 207) (by decide +kernel)) (by decide +kernel)
theorem w291 : Cond.methodLink RL 149 yX10_keep ∈ fAll := fAll_mk (List.mem_of_getElem? (i := 291) (by decide +kernel)) (by decide +kernel)
theorem w292 : Cond.instanceMethod yX10_keep ∈ fAll := fAll_mk (List.mem_of_getElem? (i := 292) (by decide +kernel)) (by decide +kernel)
theorem w293 : Cond.selects RX10 yX10_keep yX10_keep ∈ fAll := fAll_mk (List.mem_of_getElem? (i := 293) (by decide +kernel)) (by decide +kernel)
theorem w317 : Cond.methodLink RL 190 yX10_trueShare ∈ fAll := fAll_mk (List.mem_of_getElem? (i := 317) (by decide +kernel)) (by decide +kernel)
theorem w318 : Cond.instanceMethod yX10_trueShare ∈ fAll := fAll_mk (List.mem_of_getElem? (i := 318) (by decide +kernel)) (by decide +kernel)
theorem w319 : Cond.selects RX10 yX10_trueShare yX10_trueShare ∈ fAll := fAll_mk (List.mem_of_getElem? (i := 319) (by decide +kernel)) (by decide +kernel)
theorem w351 : Cond.methodLink RL 195 yX10_digest ∈ fAll := fAll_mk (List.mem_of_getElem? (i := 351) (by decide +kernel)) (by decide +kernel)
theorem w352 : Cond.instanceMethod yX10_digest ∈ fAll := fAll_mk (List.mem_of_getElem? (i := 352) (by decide +kernel)) (by decide +kernel)
theorem w353 : Cond.selects RX10 yX10_digest yX10_digest ∈ fAll := fAll_mk (List.mem_of_getElem? (i := 353) (by decide +kernel)) (by decide +kernel)
theorem w494 : Cond.methodLink RL 96 yL_tie ∈ fAll := fAll_mk (List.mem_of_getElem? (i := 494) (by decide +kernel)) (by decide +kernel)
theorem w495 : Cond.static yL_tie ∈ fAll := fAll_mk (List.mem_of_getElem? (i := 495) (by decide +kernel)) (by decide +kernel)
theorem w671 : Cond.methodLink RL 105 yL_cut ∈ fAll := fAll_mk (List.mem_of_getElem? (i := 671) (by decide +kernel)) (by decide +kernel)
theorem w672 : Cond.static yL_cut ∈ fAll := fAll_mk (List.mem_of_getElem? (i := 672) (by decide +kernel)) (by decide +kernel)
theorem w695 : Cond.methodLink RL 109 yL_fast ∈ fAll := fAll_mk (List.mem_of_getElem? (i := 695) (by decide +kernel)) (by decide +kernel)
theorem w696 : Cond.static yL_fast ∈ fAll := fAll_mk (List.mem_of_getElem? (i := 696) (by decide +kernel)) (by decide +kernel)
theorem w715 : Cond.methodLink RL 112 yL_give ∈ fAll := fAll_mk (List.mem_of_getElem? (i := 715) (by decide +kernel)) (by decide +kernel)
theorem w716 : Cond.static yL_give ∈ fAll := fAll_mk (List.mem_of_getElem? (i := 716) (by decide +kernel)) (by decide +kernel)
theorem w734 : Cond.methodLink RL 116 yL_storm ∈ fAll := fAll_mk (List.mem_of_getElem? (i := 734) (by decide +kernel)) (by decide +kernel)
theorem w735 : Cond.static yL_storm ∈ fAll := fAll_mk (List.mem_of_getElem? (i := 735) (by decide +kernel)) (by decide +kernel)
theorem w758 : Cond.methodLink RL 119 yL_belt ∈ fAll := fAll_mk (List.mem_of_getElem? (i := 758) (by decide +kernel)) (by decide +kernel)
theorem w759 : Cond.static yL_belt ∈ fAll := fAll_mk (List.mem_of_getElem? (i := 759) (by decide +kernel)) (by decide +kernel)
theorem w770 : Cond.methodLink RL 122 yL_set ∈ fAll := fAll_mk (List.mem_of_getElem? (i := 770) (by decide +kernel)) (by decide +kernel)
theorem w771 : Cond.static yL_set ∈ fAll := fAll_mk (List.mem_of_getElem? (i := 771) (by decide +kernel)) (by decide +kernel)
theorem w779 : Cond.methodLink RL 125 yL_append ∈ fAll := fAll_mk (List.mem_of_getElem? (i := 779) (by decide +kernel)) (by decide +kernel)
theorem w780 : Cond.static yL_append ∈ fAll := fAll_mk (List.mem_of_getElem? (i := 780) (by decide +kernel)) (by decide +kernel)
theorem w796 : Cond.methodLink RL 136 yL_work ∈ fAll := fAll_mk (List.mem_of_getElem? (i := 796) (by decide +kernel)) (by decide +kernel)
theorem w797 : Cond.static yL_work ∈ fAll := fAll_mk (List.mem_of_getElem? (i := 797) (by decide +kernel)) (by decide +kernel)
theorem w890 : Cond.methodLink RL 140 yL_stopped ∈ fAll := fAll_mk (List.mem_of_getElem? (i := 890) (by decide +kernel)) (by decide +kernel)
theorem w891 : Cond.static yL_stopped ∈ fAll := fAll_mk (List.mem_of_getElem? (i := 891) (by decide +kernel)) (by decide +kernel)
theorem w898 : Cond.methodLink RL 143 yL_told ∈ fAll := fAll_mk (List.mem_of_getElem? (i := 898) (by decide +kernel)) (by decide +kernel)
theorem w899 : Cond.static yL_told ∈ fAll := fAll_mk (List.mem_of_getElem? (i := 899) (by decide +kernel)) (by decide +kernel)
theorem w907 : Cond.methodLink RL 146 yL_undo ∈ fAll := fAll_mk (List.mem_of_getElem? (i := 907) (by decide +kernel)) (by decide +kernel)
theorem w908 : Cond.static yL_undo ∈ fAll := fAll_mk (List.mem_of_getElem? (i := 908) (by decide +kernel)) (by decide +kernel)
theorem w923 : Cond.methodLink RL 153 yL_restore ∈ fAll := fAll_mk (List.mem_of_getElem? (i := 923) (by decide +kernel)) (by decide +kernel)
theorem w924 : Cond.static yL_restore ∈ fAll := fAll_mk (List.mem_of_getElem? (i := 924) (by decide +kernel)) (by decide +kernel)
theorem w939 : Cond.methodLink RL 156 yL_letter ∈ fAll := fAll_mk (List.mem_of_getElem? (i := 939) (by decide +kernel)) (by decide +kernel)
theorem w940 : Cond.static yL_letter ∈ fAll := fAll_mk (List.mem_of_getElem? (i := 940) (by decide +kernel)) (by decide +kernel)
theorem w952 : Cond.methodLink RL 159 yL_knot ∈ fAll := fAll_mk (List.mem_of_getElem? (i := 952) (by decide +kernel)) (by decide +kernel)
theorem w953 : Cond.static yL_knot ∈ fAll := fAll_mk (List.mem_of_getElem? (i := 953) (by decide +kernel)) (by decide +kernel)
theorem w961 : Cond.methodLink RL 163 yL_name ∈ fAll := fAll_mk (List.mem_of_getElem? (i := 961) (by decide +kernel)) (by decide +kernel)
theorem w962 : Cond.static yL_name ∈ fAll := fAll_mk (List.mem_of_getElem? (i := 962) (by decide +kernel)) (by decide +kernel)
theorem w969 : Cond.methodLink RL 166 yL_fisher ∈ fAll := fAll_mk (List.mem_of_getElem? (i := 969) (by decide +kernel)) (by decide +kernel)
theorem w970 : Cond.static yL_fisher ∈ fAll := fAll_mk (List.mem_of_getElem? (i := 970) (by decide +kernel)) (by decide +kernel)
theorem w977 : Cond.methodLink RL 169 yL_drowned ∈ fAll := fAll_mk (List.mem_of_getElem? (i := 977) (by decide +kernel)) (by decide +kernel)
theorem w978 : Cond.static yL_drowned ∈ fAll := fAll_mk (List.mem_of_getElem? (i := 978) (by decide +kernel)) (by decide +kernel)
theorem w986 : Cond.methodLink RL 172 yL_find ∈ fAll := fAll_mk (List.mem_of_getElem? (i := 986) (by decide +kernel)) (by decide +kernel)
theorem w987 : Cond.static yL_find ∈ fAll := fAll_mk (List.mem_of_getElem? (i := 987) (by decide +kernel)) (by decide +kernel)
theorem w1001 : Cond.methodLink RL 175 yL_count ∈ fAll := fAll_mk (List.mem_of_getElem? (i := 1001) (by decide +kernel)) (by decide +kernel)
theorem w1002 : Cond.static yL_count ∈ fAll := fAll_mk (List.mem_of_getElem? (i := 1002) (by decide +kernel)) (by decide +kernel)
theorem w1008 : Cond.methodLink RL 178 yL_whyNot ∈ fAll := fAll_mk (List.mem_of_getElem? (i := 1008) (by decide +kernel)) (by decide +kernel)
theorem w1009 : Cond.static yL_whyNot ∈ fAll := fAll_mk (List.mem_of_getElem? (i := 1009) (by decide +kernel)) (by decide +kernel)
theorem w1015 : Cond.methodLink RL 181 yL_noGift ∈ fAll := fAll_mk (List.mem_of_getElem? (i := 1015) (by decide +kernel)) (by decide +kernel)
theorem w1016 : Cond.static yL_noGift ∈ fAll := fAll_mk (List.mem_of_getElem? (i := 1016) (by decide +kernel)) (by decide +kernel)
theorem w1022 : Cond.methodLink RL 184 yL_ifStorm ∈ fAll := fAll_mk (List.mem_of_getElem? (i := 1022) (by decide +kernel)) (by decide +kernel)
theorem w1023 : Cond.static yL_ifStorm ∈ fAll := fAll_mk (List.mem_of_getElem? (i := 1023) (by decide +kernel)) (by decide +kernel)
theorem w1030 : Cond.methodLink RL 187 yL_bestBelt ∈ fAll := fAll_mk (List.mem_of_getElem? (i := 1030) (by decide +kernel)) (by decide +kernel)
theorem w1031 : Cond.static yL_bestBelt ∈ fAll := fAll_mk (List.mem_of_getElem? (i := 1031) (by decide +kernel)) (by decide +kernel)
theorem w1037 : Cond.classLink RL 93 "BeltKnotsModel" ∈ fAll := fAll_mk (List.mem_of_getElem? (i := 1037) (by decide +kernel)) (by decide +kernel)
theorem w1038 : Cond.instantiable "BeltKnotsModel" 19 ∈ fAll := fAll_mk (List.mem_of_getElem? (i := 1038) (by decide +kernel)) (by decide +kernel)
theorem w1039 : Cond.methodLink RL 95 yX11_init ∈ fAll := fAll_mk (List.mem_of_getElem? (i := 1039) (by decide +kernel)) (by decide +kernel)
theorem w1040 : Cond.instanceMethod yX11_init ∈ fAll := fAll_mk (List.mem_of_getElem? (i := 1040) (by decide +kernel)) (by decide +kernel)
theorem w1101 : Cond.methodLink RL 102 yX11_thrown ∈ fAll := fAll_mk (List.mem_of_getElem? (i := 1101) (by decide +kernel)) (by decide +kernel)
theorem w1102 : Cond.instanceMethod yX11_thrown ∈ fAll := fAll_mk (List.mem_of_getElem? (i := 1102) (by decide +kernel)) (by decide +kernel)
theorem w1103 : Cond.selects RX11 yX11_thrown yX11_thrown ∈ fAll := fAll_mk (List.mem_of_getElem? (i := 1103) (by decide +kernel)) (by decide +kernel)
theorem w1105 : Cond.methodLink RL 101 yX11_tie ∈ fAll := fAll_mk (List.mem_of_getElem? (i := 1105) (by decide +kernel)) (by decide +kernel)
theorem w1106 : Cond.instanceMethod yX11_tie ∈ fAll := fAll_mk (List.mem_of_getElem? (i := 1106) (by decide +kernel)) (by decide +kernel)
theorem w1107 : Cond.selects RX11 yX11_tie yX11_tie ∈ fAll := fAll_mk (List.mem_of_getElem? (i := 1107) (by decide +kernel)) (by decide +kernel)
theorem w1200 : Cond.methodLink RL 108 yX11_cut ∈ fAll := fAll_mk (List.mem_of_getElem? (i := 1200) (by decide +kernel)) (by decide +kernel)
theorem w1201 : Cond.instanceMethod yX11_cut ∈ fAll := fAll_mk (List.mem_of_getElem? (i := 1201) (by decide +kernel)) (by decide +kernel)
theorem w1202 : Cond.selects RX11 yX11_cut yX11_cut ∈ fAll := fAll_mk (List.mem_of_getElem? (i := 1202) (by decide +kernel)) (by decide +kernel)
theorem w1212 : Cond.methodLink RL 111 yX11_fast ∈ fAll := fAll_mk (List.mem_of_getElem? (i := 1212) (by decide +kernel)) (by decide +kernel)
theorem w1213 : Cond.instanceMethod yX11_fast ∈ fAll := fAll_mk (List.mem_of_getElem? (i := 1213) (by decide +kernel)) (by decide +kernel)
theorem w1214 : Cond.selects RX11 yX11_fast yX11_fast ∈ fAll := fAll_mk (List.mem_of_getElem? (i := 1214) (by decide +kernel)) (by decide +kernel)
theorem w1228 : Cond.methodLink RL 115 yX11_give ∈ fAll := fAll_mk (List.mem_of_getElem? (i := 1228) (by decide +kernel)) (by decide +kernel)
theorem w1229 : Cond.instanceMethod yX11_give ∈ fAll := fAll_mk (List.mem_of_getElem? (i := 1229) (by decide +kernel)) (by decide +kernel)
theorem w1230 : Cond.selects RX11 yX11_give yX11_give ∈ fAll := fAll_mk (List.mem_of_getElem? (i := 1230) (by decide +kernel)) (by decide +kernel)
theorem w1240 : Cond.methodLink RL 118 yX11_storm ∈ fAll := fAll_mk (List.mem_of_getElem? (i := 1240) (by decide +kernel)) (by decide +kernel)
theorem w1241 : Cond.instanceMethod yX11_storm ∈ fAll := fAll_mk (List.mem_of_getElem? (i := 1241) (by decide +kernel)) (by decide +kernel)
theorem w1242 : Cond.selects RX11 yX11_storm yX11_storm ∈ fAll := fAll_mk (List.mem_of_getElem? (i := 1242) (by decide +kernel)) (by decide +kernel)
theorem w1259 : Cond.methodLink RL 121 yX11_belt ∈ fAll := fAll_mk (List.mem_of_getElem? (i := 1259) (by decide +kernel)) (by decide +kernel)
theorem w1260 : Cond.instanceMethod yX11_belt ∈ fAll := fAll_mk (List.mem_of_getElem? (i := 1260) (by decide +kernel)) (by decide +kernel)
theorem w1261 : Cond.selects RX11 yX11_belt yX11_belt ∈ fAll := fAll_mk (List.mem_of_getElem? (i := 1261) (by decide +kernel)) (by decide +kernel)
theorem w1263 : Cond.methodLink RL 124 yX11_set ∈ fAll := fAll_mk (List.mem_of_getElem? (i := 1263) (by decide +kernel)) (by decide +kernel)
theorem w1264 : Cond.instanceMethod yX11_set ∈ fAll := fAll_mk (List.mem_of_getElem? (i := 1264) (by decide +kernel)) (by decide +kernel)
theorem w1265 : Cond.selects RX11 yX11_set yX11_set ∈ fAll := fAll_mk (List.mem_of_getElem? (i := 1265) (by decide +kernel)) (by decide +kernel)
theorem w1267 : Cond.methodLink RL 127 yX11_append ∈ fAll := fAll_mk (List.mem_of_getElem? (i := 1267) (by decide +kernel)) (by decide +kernel)
theorem w1268 : Cond.instanceMethod yX11_append ∈ fAll := fAll_mk (List.mem_of_getElem? (i := 1268) (by decide +kernel)) (by decide +kernel)
theorem w1269 : Cond.selects RX11 yX11_append yX11_append ∈ fAll := fAll_mk (List.mem_of_getElem? (i := 1269) (by decide +kernel)) (by decide +kernel)
theorem w1271 : Cond.methodLink RL 131 yX11_clearBuffer ∈ fAll := fAll_mk (List.mem_of_getElem? (i := 1271) (by decide +kernel)) (by decide +kernel)
theorem w1272 : Cond.instanceMethod yX11_clearBuffer ∈ fAll := fAll_mk (List.mem_of_getElem? (i := 1272) (by decide +kernel)) (by decide +kernel)
theorem w1273 : Cond.selects RX11 yX11_clearBuffer yX11_clearBuffer ∈ fAll := fAll_mk (List.mem_of_getElem? (i := 1273) (by decide +kernel)) (by decide +kernel)
theorem w1279 : Cond.methodLink RL 135 yX11_firstError ∈ fAll := fAll_mk (List.mem_of_getElem? (i := 1279) (by decide +kernel)) (by decide +kernel)
theorem w1280 : Cond.instanceMethod yX11_firstError ∈ fAll := fAll_mk (List.mem_of_getElem? (i := 1280) (by decide +kernel)) (by decide +kernel)
theorem w1281 : Cond.selects RX11 yX11_firstError yX11_firstError ∈ fAll := fAll_mk (List.mem_of_getElem? (i := 1281) (by decide +kernel)) (by decide +kernel)
theorem w1319 : Cond.methodLink RL 139 yX11_work ∈ fAll := fAll_mk (List.mem_of_getElem? (i := 1319) (by decide +kernel)) (by decide +kernel)
theorem w1320 : Cond.instanceMethod yX11_work ∈ fAll := fAll_mk (List.mem_of_getElem? (i := 1320) (by decide +kernel)) (by decide +kernel)
theorem w1321 : Cond.selects RX11 yX11_work yX11_work ∈ fAll := fAll_mk (List.mem_of_getElem? (i := 1321) (by decide +kernel)) (by decide +kernel)
theorem w1323 : Cond.methodLink RL 142 yX11_stopped ∈ fAll := fAll_mk (List.mem_of_getElem? (i := 1323) (by decide +kernel)) (by decide +kernel)
theorem w1324 : Cond.instanceMethod yX11_stopped ∈ fAll := fAll_mk (List.mem_of_getElem? (i := 1324) (by decide +kernel)) (by decide +kernel)
theorem w1325 : Cond.selects RX11 yX11_stopped yX11_stopped ∈ fAll := fAll_mk (List.mem_of_getElem? (i := 1325) (by decide +kernel)) (by decide +kernel)
theorem w1327 : Cond.methodLink RL 145 yX11_told ∈ fAll := fAll_mk (List.mem_of_getElem? (i := 1327) (by decide +kernel)) (by decide +kernel)
theorem w1328 : Cond.instanceMethod yX11_told ∈ fAll := fAll_mk (List.mem_of_getElem? (i := 1328) (by decide +kernel)) (by decide +kernel)
theorem w1329 : Cond.selects RX11 yX11_told yX11_told ∈ fAll := fAll_mk (List.mem_of_getElem? (i := 1329) (by decide +kernel)) (by decide +kernel)
theorem w1335 : Cond.methodLink RL 148 yX11_undo ∈ fAll := fAll_mk (List.mem_of_getElem? (i := 1335) (by decide +kernel)) (by decide +kernel)
theorem w1336 : Cond.instanceMethod yX11_undo ∈ fAll := fAll_mk (List.mem_of_getElem? (i := 1336) (by decide +kernel)) (by decide +kernel)
theorem w1337 : Cond.selects RX11 yX11_undo yX11_undo ∈ fAll := fAll_mk (List.mem_of_getElem? (i := 1337) (by decide +kernel)) (by decide +kernel)
theorem w1339 : Cond.methodLink RL 152 yX11_keep ∈ fAll := fAll_mk (List.mem_of_getElem? (i := 1339) (by decide +kernel)) (by decide +kernel)
theorem w1340 : Cond.instanceMethod yX11_keep ∈ fAll := fAll_mk (List.mem_of_getElem? (i := 1340) (by decide +kernel)) (by decide +kernel)
theorem w1341 : Cond.selects RX11 yX11_keep yX11_keep ∈ fAll := fAll_mk (List.mem_of_getElem? (i := 1341) (by decide +kernel)) (by decide +kernel)
theorem w1347 : Cond.methodLink RL 155 yX11_restore ∈ fAll := fAll_mk (List.mem_of_getElem? (i := 1347) (by decide +kernel)) (by decide +kernel)
theorem w1348 : Cond.instanceMethod yX11_restore ∈ fAll := fAll_mk (List.mem_of_getElem? (i := 1348) (by decide +kernel)) (by decide +kernel)
theorem w1349 : Cond.selects RX11 yX11_restore yX11_restore ∈ fAll := fAll_mk (List.mem_of_getElem? (i := 1349) (by decide +kernel)) (by decide +kernel)
theorem w1351 : Cond.methodLink RL 158 yX11_letter ∈ fAll := fAll_mk (List.mem_of_getElem? (i := 1351) (by decide +kernel)) (by decide +kernel)
theorem w1352 : Cond.instanceMethod yX11_letter ∈ fAll := fAll_mk (List.mem_of_getElem? (i := 1352) (by decide +kernel)) (by decide +kernel)
theorem w1353 : Cond.selects RX11 yX11_letter yX11_letter ∈ fAll := fAll_mk (List.mem_of_getElem? (i := 1353) (by decide +kernel)) (by decide +kernel)
theorem w1363 : Cond.methodLink RL 162 yX11_knot ∈ fAll := fAll_mk (List.mem_of_getElem? (i := 1363) (by decide +kernel)) (by decide +kernel)
theorem w1364 : Cond.instanceMethod yX11_knot ∈ fAll := fAll_mk (List.mem_of_getElem? (i := 1364) (by decide +kernel)) (by decide +kernel)
theorem w1365 : Cond.selects RX11 yX11_knot yX11_knot ∈ fAll := fAll_mk (List.mem_of_getElem? (i := 1365) (by decide +kernel)) (by decide +kernel)
theorem w1371 : Cond.methodLink RL 165 yX11_name ∈ fAll := fAll_mk (List.mem_of_getElem? (i := 1371) (by decide +kernel)) (by decide +kernel)
theorem w1372 : Cond.instanceMethod yX11_name ∈ fAll := fAll_mk (List.mem_of_getElem? (i := 1372) (by decide +kernel)) (by decide +kernel)
theorem w1373 : Cond.selects RX11 yX11_name yX11_name ∈ fAll := fAll_mk (List.mem_of_getElem? (i := 1373) (by decide +kernel)) (by decide +kernel)
theorem w1383 : Cond.methodLink RL 168 yX11_fisher ∈ fAll := fAll_mk (List.mem_of_getElem? (i := 1383) (by decide +kernel)) (by decide +kernel)
theorem w1384 : Cond.instanceMethod yX11_fisher ∈ fAll := fAll_mk (List.mem_of_getElem? (i := 1384) (by decide +kernel)) (by decide +kernel)
theorem w1385 : Cond.selects RX11 yX11_fisher yX11_fisher ∈ fAll := fAll_mk (List.mem_of_getElem? (i := 1385) (by decide +kernel)) (by decide +kernel)
theorem w1391 : Cond.methodLink RL 171 yX11_drowned ∈ fAll := fAll_mk (List.mem_of_getElem? (i := 1391) (by decide +kernel)) (by decide +kernel)
theorem w1392 : Cond.instanceMethod yX11_drowned ∈ fAll := fAll_mk (List.mem_of_getElem? (i := 1392) (by decide +kernel)) (by decide +kernel)
theorem w1393 : Cond.selects RX11 yX11_drowned yX11_drowned ∈ fAll := fAll_mk (List.mem_of_getElem? (i := 1393) (by decide +kernel)) (by decide +kernel)
theorem w1399 : Cond.methodLink RL 174 yX11_find ∈ fAll := fAll_mk (List.mem_of_getElem? (i := 1399) (by decide +kernel)) (by decide +kernel)
theorem w1400 : Cond.instanceMethod yX11_find ∈ fAll := fAll_mk (List.mem_of_getElem? (i := 1400) (by decide +kernel)) (by decide +kernel)
theorem w1401 : Cond.selects RX11 yX11_find yX11_find ∈ fAll := fAll_mk (List.mem_of_getElem? (i := 1401) (by decide +kernel)) (by decide +kernel)
theorem w1403 : Cond.methodLink RL 177 yX11_count ∈ fAll := fAll_mk (List.mem_of_getElem? (i := 1403) (by decide +kernel)) (by decide +kernel)
theorem w1404 : Cond.instanceMethod yX11_count ∈ fAll := fAll_mk (List.mem_of_getElem? (i := 1404) (by decide +kernel)) (by decide +kernel)
theorem w1405 : Cond.selects RX11 yX11_count yX11_count ∈ fAll := fAll_mk (List.mem_of_getElem? (i := 1405) (by decide +kernel)) (by decide +kernel)
theorem w1435 : Cond.methodLink RL 180 yX11_whyNot ∈ fAll := fAll_mk (List.mem_of_getElem? (i := 1435) (by decide +kernel)) (by decide +kernel)
theorem w1436 : Cond.instanceMethod yX11_whyNot ∈ fAll := fAll_mk (List.mem_of_getElem? (i := 1436) (by decide +kernel)) (by decide +kernel)
theorem w1437 : Cond.selects RX11 yX11_whyNot yX11_whyNot ∈ fAll := fAll_mk (List.mem_of_getElem? (i := 1437) (by decide +kernel)) (by decide +kernel)
theorem w1439 : Cond.methodLink RL 183 yX11_noGift ∈ fAll := fAll_mk (List.mem_of_getElem? (i := 1439) (by decide +kernel)) (by decide +kernel)
theorem w1440 : Cond.instanceMethod yX11_noGift ∈ fAll := fAll_mk (List.mem_of_getElem? (i := 1440) (by decide +kernel)) (by decide +kernel)
theorem w1441 : Cond.selects RX11 yX11_noGift yX11_noGift ∈ fAll := fAll_mk (List.mem_of_getElem? (i := 1441) (by decide +kernel)) (by decide +kernel)
theorem w1443 : Cond.methodLink RL 186 yX11_ifStorm ∈ fAll := fAll_mk (List.mem_of_getElem? (i := 1443) (by decide +kernel)) (by decide +kernel)
theorem w1444 : Cond.instanceMethod yX11_ifStorm ∈ fAll := fAll_mk (List.mem_of_getElem? (i := 1444) (by decide +kernel)) (by decide +kernel)
theorem w1445 : Cond.selects RX11 yX11_ifStorm yX11_ifStorm ∈ fAll := fAll_mk (List.mem_of_getElem? (i := 1445) (by decide +kernel)) (by decide +kernel)
theorem w1451 : Cond.methodLink RL 189 yX11_bestBelt ∈ fAll := fAll_mk (List.mem_of_getElem? (i := 1451) (by decide +kernel)) (by decide +kernel)
theorem w1452 : Cond.instanceMethod yX11_bestBelt ∈ fAll := fAll_mk (List.mem_of_getElem? (i := 1452) (by decide +kernel)) (by decide +kernel)
theorem w1453 : Cond.selects RX11 yX11_bestBelt yX11_bestBelt ∈ fAll := fAll_mk (List.mem_of_getElem? (i := 1453) (by decide +kernel)) (by decide +kernel)
theorem w1455 : Cond.methodLink RL 194 yX11_trueShare ∈ fAll := fAll_mk (List.mem_of_getElem? (i := 1455) (by decide +kernel)) (by decide +kernel)
theorem w1456 : Cond.instanceMethod yX11_trueShare ∈ fAll := fAll_mk (List.mem_of_getElem? (i := 1456) (by decide +kernel)) (by decide +kernel)
theorem w1457 : Cond.selects RX11 yX11_trueShare yX11_trueShare ∈ fAll := fAll_mk (List.mem_of_getElem? (i := 1457) (by decide +kernel)) (by decide +kernel)
theorem w1467 : Cond.methodLink RL 199 yX11_digest ∈ fAll := fAll_mk (List.mem_of_getElem? (i := 1467) (by decide +kernel)) (by decide +kernel)
theorem w1468 : Cond.instanceMethod yX11_digest ∈ fAll := fAll_mk (List.mem_of_getElem? (i := 1468) (by decide +kernel)) (by decide +kernel)
theorem w1469 : Cond.selects RX11 yX11_digest yX11_digest ∈ fAll := fAll_mk (List.mem_of_getElem? (i := 1469) (by decide +kernel)) (by decide +kernel)
theorem w1492 : Cond.arrayClass .long ∈ fAll := fAll_mk (List.mem_of_getElem? (i := 1492) (by decide +kernel)) (by decide +kernel)
def k_L_law : fK := (x, cL_law, 9, ret, [(0, 0, 0, 0)], (13, 498), (0, 0), (0, 0))
def s_L_law_L168 (a0n : Nat) (a0 : Nat → Int32) (p4 : Int32) (Buffer_codes : Nat → Int32) (M_text : Nat → Int32) : Nat → (Nat → Int32) → (Int32) → (Int32) → (Nat → Int32) → (Int32) → (Int32) → (Nat → Int32) → (Int32) → (Int32) → (Int32) → (Int32) → (Int32) → (Nat → Int32) → (Nat → Int32) → (Nat → Int64) → Option ((Nat → Int32) × (Int32) × (Int32) × (Nat → Int32) × (Int32) × (Int32) × (Nat → Int32) × (Int32) × (Int32) × (Int32) × (Int32) × (Int32) × (Nat → Int32) × (Nat → Int32) × (Nat → Int64))
  | 0, _, _, _, _, _, _, _, _, _, _, _, _, _, _, _ => none
  | n + 1, State_cells, History_oldest, History_size, History_saved, Buffer_size, Word_size, Word_letters, M_savedMany, M_length, M_thrown, M_spelt, M_speltMany, M_s, M_saved, out => fld a0n a0 (p4 + 1) fun v4 => (s_L_tie v4 State_cells History_oldest History_size History_saved Buffer_size Buffer_codes Word_size Word_letters out).bind fun v5 => fld a0n a0 (p4 + 1) fun v6 => (s_X11_tie v6 M_savedMany M_length M_thrown M_spelt M_speltMany M_s M_saved M_text).bind fun v7 => (s_X11_thrown v7.2.2.2.1).bind fun v8 => if (v8 = v5.1 : Prop) then (if (v5.1 = 0 : Prop) then (fld 1 v5.2.2.2.2.2.2.2.2 0 fun v9 => if ((lg_cmp v9 (Int32.toInt64 v7.1)) = 0 : Prop) then (some (v5.2.1, v5.2.2.1, v5.2.2.2.1, v5.2.2.2.2.1, v5.2.2.2.2.2.1, v5.2.2.2.2.2.2.1, v5.2.2.2.2.2.2.2.1, v7.2.1, v7.2.2.1, v7.2.2.2.1, v7.2.2.2.2.1, v7.2.2.2.2.2.1, v7.2.2.2.2.2.2.1, v7.2.2.2.2.2.2.2, v5.2.2.2.2.2.2.2.2)) else (none)) else (some (v5.2.1, v5.2.2.1, v5.2.2.2.1, v5.2.2.2.2.1, v5.2.2.2.2.2.1, v5.2.2.2.2.2.2.1, v5.2.2.2.2.2.2.2.1, v7.2.1, v7.2.2.1, v7.2.2.2.1, v7.2.2.2.2.1, v7.2.2.2.2.2.1, v7.2.2.2.2.2.2.1, v7.2.2.2.2.2.2.2, v5.2.2.2.2.2.2.2.2))) else (none)
set_option maxHeartbeats 4000000 in
set_option maxRecDepth 100000 in
theorem v_L_law_L168 {a0n : Nat} {a0 : Nat → Int32} {p4 : Int32} {History_snapshotTaken : Int32} {History_snapshot : Nat → Int32} {Buffer_codes : Nat → Int32} {Reader_pattern : Nat} {Reader_place : Int32} {M_isTaken : Int32} {M_place : Int32} {M_kind : Int32} {M_one : Int32} {M_two : Int32} {M_three : Int32} {M_begins : Int32} {M_done : Int32} {M_stopBy : Int32} {M_hash : Int64} {M_snapshot : Nat → Int32} {M_text : Nat → Int32} : ∀ (n : Nat) {State_cells : (Nat → Int32)} {History_oldest : (Int32)} {History_size : (Int32)} {History_saved : (Nat → Int32)} {Buffer_size : (Int32)} {Word_size : (Int32)} {Word_letters : (Nat → Int32)} {M_savedMany : (Int32)} {M_length : (Int32)} {M_thrown : (Int32)} {M_spelt : (Int32)} {M_speltMany : (Int32)} {M_s : (Nat → Int32)} {M_saved : (Nat → Int32)} {out : (Nat → Int64)} {res : (Nat → Int32) × (Int32) × (Int32) × (Nat → Int32) × (Int32) × (Int32) × (Nat → Int32) × (Int32) × (Int32) × (Int32) × (Int32) × (Int32) × (Nat → Int32) × (Nat → Int32) × (Nat → Int64)} (hf : s_L_law_L168 a0n a0 p4 Buffer_codes M_text n State_cells History_oldest History_size History_saved Buffer_size Word_size Word_letters M_savedMany M_length M_thrown M_spelt M_speltMany M_s M_saved out = some res) {cl sl : Nat} (hc : cl + 1 ≤ 1062) (hs : sl + 6 ≤ 19011) (hx : V (fXlaw a0n a0) room_1 k_L_law 0 1762 [some (.ref 3000), some (.ref 0), some (.ref 11), some (.ref 16), some (.int p4), none, none, none, none] [] [.inl (5, [.ref 1, .ref 3, .ref 6, .ref 8, .ref 9]), .inl (3, [.ref 2]), .inr (910, .inl res.1), .inl (1, [.ref 4, .ref 5, .int res.2.1, .int res.2.2.1, .int History_snapshotTaken]), .inr (5460, .inl res.2.2.2.1), .inr (910, .inl History_snapshot), .inl (0, [.ref 7, .int res.2.2.2.2.1]), .inr (60, .inl Buffer_codes), .inl (2, [.ref (Reader_pattern + 1000), .int Reader_place]), .inl (4, [.ref 10, .int res.2.2.2.2.2.1]), .inr (8, .inl res.2.2.2.2.2.2.1), .inl (6, [.ref 12, .ref 13, .int res.2.2.2.2.2.2.2.1, .ref 14, .int M_isTaken, .ref 15, .int res.2.2.2.2.2.2.2.2.1, .int res.2.2.2.2.2.2.2.2.2.1, .int res.2.2.2.2.2.2.2.2.2.2.1, .int res.2.2.2.2.2.2.2.2.2.2.2.1, .int M_place, .int M_kind, .int M_one, .int M_two, .int M_three, .int M_begins, .int M_done, .int M_stopBy, .long M_hash]), .inr (406, .inl res.2.2.2.2.2.2.2.2.2.2.2.2.1), .inr (2436, .inl res.2.2.2.2.2.2.2.2.2.2.2.2.2.1), .inr (406, .inl M_snapshot), .inr (60, .inl M_text), .inr (1, .inr res.2.2.2.2.2.2.2.2.2.2.2.2.2.2)] (cl + 1) (sl + 6)), V (fXlaw a0n a0) room_1 k_L_law 0 168 [some (.ref 3000), some (.ref 0), some (.ref 11), some (.ref 16), some (.int p4), none, none, none, none] [] [.inl (5, [.ref 1, .ref 3, .ref 6, .ref 8, .ref 9]), .inl (3, [.ref 2]), .inr (910, .inl State_cells), .inl (1, [.ref 4, .ref 5, .int History_oldest, .int History_size, .int History_snapshotTaken]), .inr (5460, .inl History_saved), .inr (910, .inl History_snapshot), .inl (0, [.ref 7, .int Buffer_size]), .inr (60, .inl Buffer_codes), .inl (2, [.ref (Reader_pattern + 1000), .int Reader_place]), .inl (4, [.ref 10, .int Word_size]), .inr (8, .inl Word_letters), .inl (6, [.ref 12, .ref 13, .int M_savedMany, .ref 14, .int M_isTaken, .ref 15, .int M_length, .int M_thrown, .int M_spelt, .int M_speltMany, .int M_place, .int M_kind, .int M_one, .int M_two, .int M_three, .int M_begins, .int M_done, .int M_stopBy, .long M_hash]), .inr (406, .inl M_s), .inr (2436, .inl M_saved), .inr (406, .inl M_snapshot), .inr (60, .inl M_text), .inr (1, .inr out)] cl sl := by
  intro n
  induction n with
  | zero =>
    intro State_cells History_oldest History_size History_saved Buffer_size Word_size Word_letters M_savedMany M_length M_thrown M_spelt M_speltMany M_s M_saved out res hf cl sl hc hs hx
    rw [s_L_law_L168] at hf
    cases hf
  | succ n ih =>
    intro State_cells History_oldest History_size History_saved Buffer_size Word_size Word_letters M_savedMany M_length M_thrown M_spelt M_speltMany M_s M_saved out res hf cl sl hc hs hx
    rw [s_L_law_L168] at hf
    refine V.aload_n (i := 1) dL_law_168 rfl rfl ?_
    refine V.aload_n (i := 0) dL_law_169 rfl rfl ?_
    refine V.iload (i := 4) dL_law_170 rfl ?_
    refine V.iconst (v := 1) dL_law_172 rfl ?_
    refine V.iadd dL_law_173 ?_
    obtain ⟨hi, v4, ev4, hf⟩ := fld_e hf
    refine V.sload dL_law_174 hi ?_
    refine V.cgi ev4 ?_
    refine V.aload_n (i := 3) dL_law_175 rfl rfl ?_
    obtain ⟨v5, hv5, hf⟩ := fbind hf
    refine V.callSn (pl := [0, 1, 2, 3, 4, 5, 6, 7, 8, 9, 10, 16]) (σ' := [.inl (5, [.ref 1, .ref 3, .ref 6, .ref 8, .ref 9]), .inl (3, [.ref 2]), .inr (910, .inl v5.2.1), .inl (1, [.ref 4, .ref 5, .int v5.2.2.1, .int v5.2.2.2.1, .int History_snapshotTaken]), .inr (5460, .inl v5.2.2.2.2.1), .inr (910, .inl History_snapshot), .inl (0, [.ref 7, .int v5.2.2.2.2.2.1]), .inr (60, .inl Buffer_codes), .inl (2, [.ref (Reader_pattern + 1000), .int Reader_place]), .inl (4, [.ref 10, .int v5.2.2.2.2.2.2.1]), .inr (8, .inl v5.2.2.2.2.2.2.2.1), .inl (6, [.ref 12, .ref 13, .int M_savedMany, .ref 14, .int M_isTaken, .ref 15, .int M_length, .int M_thrown, .int M_spelt, .int M_speltMany, .int M_place, .int M_kind, .int M_one, .int M_two, .int M_three, .int M_begins, .int M_done, .int M_stopBy, .long M_hash]), .inr (406, .inl M_s), .inr (2436, .inl M_saved), .inr (406, .inl M_snapshot), .inr (60, .inl M_text), .inr (1, .inr v5.2.2.2.2.2.2.2.2)]) (st2 := [.int v5.1]) (cl2 := (cl + 1)) (sl2 := (sl + 6)) (ct_L_tie (a1 := v4) (State_cells := State_cells) (History_oldest := History_oldest) (History_size := History_size) (History_snapshotTaken := History_snapshotTaken) (History_saved := History_saved) (History_snapshot := History_snapshot) (Buffer_size := Buffer_size) (Buffer_codes := Buffer_codes) (Reader_pattern := Reader_pattern) (Reader_place := Reader_place) (Word_size := Word_size) (Word_letters := Word_letters) (out2 := out) hv5) dL_law_176 w494 w495 cal_L_tie ⟨⟨Nat.le_of_ble_eq_true rfl, Nat.le_of_ble_eq_true rfl⟩, (show cl + 1 ≤ 1062 by omega), (show sl + 6 ≤ 19011 by omega)⟩ (Nat.le_of_ble_eq_true rfl) rfl ⟨rfl, ⟨by decide, by decide⟩, rfl, (fr_cons (Or.inl (Nat.le_of_ble_eq_true rfl)) (fr_cons (Or.inl (Nat.le_of_ble_eq_true rfl)) (fr_cons (Or.inl (Nat.le_of_ble_eq_true rfl)) (fr_cons (Or.inl (Nat.le_of_ble_eq_true rfl)) (fr_cons (Or.inl (Nat.le_of_ble_eq_true rfl)) (fr_cons (Or.inl (Nat.le_of_ble_eq_true rfl)) (fr_cons (Or.inl (Nat.le_of_ble_eq_true rfl)) (fr_cons (Or.inl (Nat.le_of_ble_eq_true rfl)) (fr_cons (Or.inl (Nat.le_of_ble_eq_true rfl)) (fr_cons (Or.inr (Nat.le_add_left 1000 _)) (fr_cons (Or.inl (Nat.le_of_ble_eq_true rfl)) (fr_nil)))))))))))), rfl⟩ fr_i rfl rfl rfl rfl ?_
    refine V.istore (i := 5) (L' := [some (.ref 3000), some (.ref 0), some (.ref 11), some (.ref 16), some (.int p4), some (.int v5.1), none, none, none]) dL_law_179 (Nat.le_of_ble_eq_true rfl) rfl rfl ?_
    refine V.aload_n (i := 2) dL_law_181 rfl rfl ?_
    refine V.aload_n (i := 0) dL_law_182 rfl rfl ?_
    refine V.iload (i := 4) dL_law_183 rfl ?_
    refine V.iconst (v := 1) dL_law_185 rfl ?_
    refine V.iadd dL_law_186 ?_
    obtain ⟨hi, v6, ev6, hf⟩ := fld_e hf
    refine V.sload dL_law_187 hi ?_
    refine V.cgi ev6 ?_
    obtain ⟨v7, hv7, hf⟩ := fbind hf
    refine V.callVn (pl := [11, 12, 13, 14, 15]) (σ' := [.inl (5, [.ref 1, .ref 3, .ref 6, .ref 8, .ref 9]), .inl (3, [.ref 2]), .inr (910, .inl v5.2.1), .inl (1, [.ref 4, .ref 5, .int v5.2.2.1, .int v5.2.2.2.1, .int History_snapshotTaken]), .inr (5460, .inl v5.2.2.2.2.1), .inr (910, .inl History_snapshot), .inl (0, [.ref 7, .int v5.2.2.2.2.2.1]), .inr (60, .inl Buffer_codes), .inl (2, [.ref (Reader_pattern + 1000), .int Reader_place]), .inl (4, [.ref 10, .int v5.2.2.2.2.2.2.1]), .inr (8, .inl v5.2.2.2.2.2.2.2.1), .inl (6, [.ref 12, .ref 13, .int v7.2.1, .ref 14, .int M_isTaken, .ref 15, .int v7.2.2.1, .int v7.2.2.2.1, .int v7.2.2.2.2.1, .int v7.2.2.2.2.2.1, .int M_place, .int M_kind, .int M_one, .int M_two, .int M_three, .int M_begins, .int M_done, .int M_stopBy, .long M_hash]), .inr (406, .inl v7.2.2.2.2.2.2.1), .inr (2436, .inl v7.2.2.2.2.2.2.2), .inr (406, .inl M_snapshot), .inr (60, .inl M_text), .inr (1, .inr v5.2.2.2.2.2.2.2.2)]) (st2 := [.int v7.1]) (cl2 := (cl + 1)) (sl2 := (sl + 6)) (ct_X11_tie (a1 := v6) (M_savedMany := M_savedMany) (M_isTaken := M_isTaken) (M_length := M_length) (M_thrown := M_thrown) (M_spelt := M_spelt) (M_speltMany := M_speltMany) (M_place := M_place) (M_kind := M_kind) (M_one := M_one) (M_two := M_two) (M_three := M_three) (M_begins := M_begins) (M_done := M_done) (M_stopBy := M_stopBy) (M_hash := M_hash) (M_s := M_s) (M_saved := M_saved) (M_snapshot := M_snapshot) (M_text := M_text) hv7) dL_law_188 w1105 ⟨w1106, w1107⟩ cal_X11_tie rfl ⟨⟨Nat.le_of_ble_eq_true rfl, Nat.le_of_ble_eq_true rfl⟩, (show (cl + 1) + 0 ≤ 1062 by omega), (show (sl + 6) + 0 ≤ 19011 by omega)⟩ (Nat.le_of_ble_eq_true rfl) (Or.inl ⟨_, _, _, _, rfl, rfl⟩) rfl ⟨rfl, ⟨by decide, by decide⟩, rfl, (fr_cons (Or.inl (Nat.le_of_ble_eq_true rfl)) (fr_cons (Or.inl (Nat.le_of_ble_eq_true rfl)) (fr_cons (Or.inl (Nat.le_of_ble_eq_true rfl)) (fr_cons (Or.inl (Nat.le_of_ble_eq_true rfl)) (fr_nil))))), rfl⟩ fr_i rfl rfl rfl rfl ?_
    refine V.istore (i := 6) (L' := [some (.ref 3000), some (.ref 0), some (.ref 11), some (.ref 16), some (.int p4), some (.int v5.1), some (.int v7.1), none, none]) dL_law_191 (Nat.le_of_ble_eq_true rfl) rfl rfl ?_
    refine V.aload_n (i := 2) dL_law_193 rfl rfl ?_
    obtain ⟨v8, hv8, hf⟩ := fbind hf
    refine V.callVn (pl := [11, 12, 13, 14, 15]) (σ' := [.inl (5, [.ref 1, .ref 3, .ref 6, .ref 8, .ref 9]), .inl (3, [.ref 2]), .inr (910, .inl v5.2.1), .inl (1, [.ref 4, .ref 5, .int v5.2.2.1, .int v5.2.2.2.1, .int History_snapshotTaken]), .inr (5460, .inl v5.2.2.2.2.1), .inr (910, .inl History_snapshot), .inl (0, [.ref 7, .int v5.2.2.2.2.2.1]), .inr (60, .inl Buffer_codes), .inl (2, [.ref (Reader_pattern + 1000), .int Reader_place]), .inl (4, [.ref 10, .int v5.2.2.2.2.2.2.1]), .inr (8, .inl v5.2.2.2.2.2.2.2.1), .inl (6, [.ref 12, .ref 13, .int v7.2.1, .ref 14, .int M_isTaken, .ref 15, .int v7.2.2.1, .int v7.2.2.2.1, .int v7.2.2.2.2.1, .int v7.2.2.2.2.2.1, .int M_place, .int M_kind, .int M_one, .int M_two, .int M_three, .int M_begins, .int M_done, .int M_stopBy, .long M_hash]), .inr (406, .inl v7.2.2.2.2.2.2.1), .inr (2436, .inl v7.2.2.2.2.2.2.2), .inr (406, .inl M_snapshot), .inr (60, .inl M_text), .inr (1, .inr v5.2.2.2.2.2.2.2.2)]) (st2 := [.int v8]) (cl2 := (cl + 1)) (sl2 := (sl + 6)) (ct_X11_thrown (M_savedMany := v7.2.1) (M_isTaken := M_isTaken) (M_length := v7.2.2.1) (M_thrown := v7.2.2.2.1) (M_spelt := v7.2.2.2.2.1) (M_speltMany := v7.2.2.2.2.2.1) (M_place := M_place) (M_kind := M_kind) (M_one := M_one) (M_two := M_two) (M_three := M_three) (M_begins := M_begins) (M_done := M_done) (M_stopBy := M_stopBy) (M_hash := M_hash) (M_s := v7.2.2.2.2.2.2.1) (M_saved := v7.2.2.2.2.2.2.2) (M_snapshot := M_snapshot) (M_text := M_text) hv8) dL_law_194 w1101 ⟨w1102, w1103⟩ cal_X11_thrown rfl ⟨⟨Nat.le_of_ble_eq_true rfl, Nat.le_of_ble_eq_true rfl⟩, (show (cl + 1) + 0 ≤ 1062 by omega), (show (sl + 6) + 0 ≤ 19011 by omega)⟩ (Nat.le_of_ble_eq_true rfl) (Or.inl ⟨_, _, _, _, rfl, rfl⟩) rfl ⟨rfl, ⟨by decide, by decide⟩, rfl, (fr_cons (Or.inl (Nat.le_of_ble_eq_true rfl)) (fr_cons (Or.inl (Nat.le_of_ble_eq_true rfl)) (fr_cons (Or.inl (Nat.le_of_ble_eq_true rfl)) (fr_cons (Or.inl (Nat.le_of_ble_eq_true rfl)) (fr_nil))))), rfl⟩ fr_i rfl rfl rfl rfl ?_
    refine V.iload (i := 5) dL_law_197 rfl ?_
    refine V.icmp_eq (tgt := 204) dL_law_199 (by decide) (fun h => ?_) (fun h => ?_)
    · have hf := fif_t h hf
      refine V.iload (i := 5) dL_law_204 rfl ?_
      refine V.if_ne (tgt := 221) dL_law_206 (by decide) (fun h => ?_) (fun h => ?_)
      · have hf := fif_f h hf
        refine V.goto (tgt := 1762) dL_law_221 (by decide) ?_
        obtain rfl := Option.some.inj hf
        exact V.locs (L' := [some (.ref 3000), some (.ref 0), some (.ref 11), some (.ref 16), some (.int p4), none, none, none, none]) ⟨rfl, ⟨rfl, ⟨rfl, ⟨rfl, ⟨rfl, trivial⟩⟩⟩⟩⟩ (V.wide (by omega) (by omega) hx)
      · have hf := fif_t h hf
        refine V.aload_n (i := 3) dL_law_209 rfl rfl ?_
        refine V.iconst (v := 0) dL_law_210 rfl ?_
        obtain ⟨hi, v9, ev9, hf⟩ := fld_e hf
        refine V.fldL dL_law_211 rfl hi ev9 ?_
        refine V.iload (i := 6) dL_law_212 rfl ?_
        refine V.i2l dL_law_214 ?_
        refine V.lcmp dL_law_215 ?_
        refine V.if_eq (tgt := 221) dL_law_216 (by decide) (fun h => ?_) (fun h => ?_)
        · have hf := fif_t h hf
          refine V.goto (tgt := 1762) dL_law_221 (by decide) ?_
          obtain rfl := Option.some.inj hf
          exact V.locs (L' := [some (.ref 3000), some (.ref 0), some (.ref 11), some (.ref 16), some (.int p4), none, none, none, none]) ⟨rfl, ⟨rfl, ⟨rfl, ⟨rfl, ⟨rfl, trivial⟩⟩⟩⟩⟩ (V.wide (by omega) (by omega) hx)
        · have hf := fif_f h hf
          refine V.iconst (v := 0) dL_law_219 rfl ?_
          cases hf
    · have hf := fif_f h hf
      refine V.iconst (v := 0) dL_law_202 rfl ?_
      cases hf
def s_L_law_L224 (a0n : Nat) (a0 : Nat → Int32) (p4 : Int32) : Nat → (Nat → Int32) → (Int32) → (Int32) → (Nat → Int32) → (Int32) → (Int32) → (Nat → Int32) → (Nat → Int32) → (Nat → Int64) → Option ((Nat → Int32) × (Int32) × (Int32) × (Nat → Int32) × (Int32) × (Int32) × (Nat → Int32) × (Nat → Int32) × (Nat → Int64))
  | 0, _, _, _, _, _, _, _, _, _ => none
  | n + 1, State_cells, History_oldest, History_size, History_saved, M_savedMany, M_thrown, M_s, M_saved, out => fld a0n a0 (p4 + 1) fun v11 => fld a0n a0 (p4 + 2) fun v12 => (s_L_cut v11 v12 State_cells History_oldest History_size History_saved out).bind fun v13 => fld a0n a0 (p4 + 1) fun v14 => fld a0n a0 (p4 + 2) fun v15 => (s_X11_cut v14 v15 M_savedMany M_thrown M_s M_saved).bind fun v16 => (s_X11_thrown v16.2.2.1).bind fun v17 => if (v17 = v13.1 : Prop) then (if (v13.1 = 0 : Prop) then (fld 1 v13.2.2.2.2.2 0 fun v18 => if ((lg_cmp v18 (Int32.toInt64 v16.1)) = 0 : Prop) then (some (v13.2.1, v13.2.2.1, v13.2.2.2.1, v13.2.2.2.2.1, v16.2.1, v16.2.2.1, v16.2.2.2.1, v16.2.2.2.2, v13.2.2.2.2.2)) else (none)) else (some (v13.2.1, v13.2.2.1, v13.2.2.2.1, v13.2.2.2.2.1, v16.2.1, v16.2.2.1, v16.2.2.2.1, v16.2.2.2.2, v13.2.2.2.2.2))) else (none)
set_option maxHeartbeats 4000000 in
set_option maxRecDepth 100000 in
theorem v_L_law_L224 {a0n : Nat} {a0 : Nat → Int32} {p4 : Int32} {History_snapshotTaken : Int32} {History_snapshot : Nat → Int32} {Buffer_size : Int32} {Buffer_codes : Nat → Int32} {Reader_pattern : Nat} {Reader_place : Int32} {Word_size : Int32} {Word_letters : Nat → Int32} {M_isTaken : Int32} {M_length : Int32} {M_spelt : Int32} {M_speltMany : Int32} {M_place : Int32} {M_kind : Int32} {M_one : Int32} {M_two : Int32} {M_three : Int32} {M_begins : Int32} {M_done : Int32} {M_stopBy : Int32} {M_hash : Int64} {M_snapshot : Nat → Int32} {M_text : Nat → Int32} : ∀ (n : Nat) {State_cells : (Nat → Int32)} {History_oldest : (Int32)} {History_size : (Int32)} {History_saved : (Nat → Int32)} {M_savedMany : (Int32)} {M_thrown : (Int32)} {M_s : (Nat → Int32)} {M_saved : (Nat → Int32)} {out : (Nat → Int64)} {res : (Nat → Int32) × (Int32) × (Int32) × (Nat → Int32) × (Int32) × (Int32) × (Nat → Int32) × (Nat → Int32) × (Nat → Int64)} (hf : s_L_law_L224 a0n a0 p4 n State_cells History_oldest History_size History_saved M_savedMany M_thrown M_s M_saved out = some res) {cl sl : Nat} (hc : cl + 1 ≤ 1062) (hs : sl + 6 ≤ 19011) (hx : V (fXlaw a0n a0) room_1 k_L_law 0 1762 [some (.ref 3000), some (.ref 0), some (.ref 11), some (.ref 16), some (.int p4), none, none, none, none] [] [.inl (5, [.ref 1, .ref 3, .ref 6, .ref 8, .ref 9]), .inl (3, [.ref 2]), .inr (910, .inl res.1), .inl (1, [.ref 4, .ref 5, .int res.2.1, .int res.2.2.1, .int History_snapshotTaken]), .inr (5460, .inl res.2.2.2.1), .inr (910, .inl History_snapshot), .inl (0, [.ref 7, .int Buffer_size]), .inr (60, .inl Buffer_codes), .inl (2, [.ref (Reader_pattern + 1000), .int Reader_place]), .inl (4, [.ref 10, .int Word_size]), .inr (8, .inl Word_letters), .inl (6, [.ref 12, .ref 13, .int res.2.2.2.2.1, .ref 14, .int M_isTaken, .ref 15, .int M_length, .int res.2.2.2.2.2.1, .int M_spelt, .int M_speltMany, .int M_place, .int M_kind, .int M_one, .int M_two, .int M_three, .int M_begins, .int M_done, .int M_stopBy, .long M_hash]), .inr (406, .inl res.2.2.2.2.2.2.1), .inr (2436, .inl res.2.2.2.2.2.2.2.1), .inr (406, .inl M_snapshot), .inr (60, .inl M_text), .inr (1, .inr res.2.2.2.2.2.2.2.2)] (cl + 1) (sl + 6)), V (fXlaw a0n a0) room_1 k_L_law 0 224 [some (.ref 3000), some (.ref 0), some (.ref 11), some (.ref 16), some (.int p4), none, none, none, none] [] [.inl (5, [.ref 1, .ref 3, .ref 6, .ref 8, .ref 9]), .inl (3, [.ref 2]), .inr (910, .inl State_cells), .inl (1, [.ref 4, .ref 5, .int History_oldest, .int History_size, .int History_snapshotTaken]), .inr (5460, .inl History_saved), .inr (910, .inl History_snapshot), .inl (0, [.ref 7, .int Buffer_size]), .inr (60, .inl Buffer_codes), .inl (2, [.ref (Reader_pattern + 1000), .int Reader_place]), .inl (4, [.ref 10, .int Word_size]), .inr (8, .inl Word_letters), .inl (6, [.ref 12, .ref 13, .int M_savedMany, .ref 14, .int M_isTaken, .ref 15, .int M_length, .int M_thrown, .int M_spelt, .int M_speltMany, .int M_place, .int M_kind, .int M_one, .int M_two, .int M_three, .int M_begins, .int M_done, .int M_stopBy, .long M_hash]), .inr (406, .inl M_s), .inr (2436, .inl M_saved), .inr (406, .inl M_snapshot), .inr (60, .inl M_text), .inr (1, .inr out)] cl sl := by
  intro n
  induction n with
  | zero =>
    intro State_cells History_oldest History_size History_saved M_savedMany M_thrown M_s M_saved out res hf cl sl hc hs hx
    rw [s_L_law_L224] at hf
    cases hf
  | succ n ih =>
    intro State_cells History_oldest History_size History_saved M_savedMany M_thrown M_s M_saved out res hf cl sl hc hs hx
    rw [s_L_law_L224] at hf
    refine V.aload_n (i := 1) dL_law_224 rfl rfl ?_
    refine V.aload_n (i := 0) dL_law_225 rfl rfl ?_
    refine V.iload (i := 4) dL_law_226 rfl ?_
    refine V.iconst (v := 1) dL_law_228 rfl ?_
    refine V.iadd dL_law_229 ?_
    obtain ⟨hi, v11, ev11, hf⟩ := fld_e hf
    refine V.sload dL_law_230 hi ?_
    refine V.cgi ev11 ?_
    refine V.aload_n (i := 0) dL_law_231 rfl rfl ?_
    refine V.iload (i := 4) dL_law_232 rfl ?_
    refine V.iconst (v := 2) dL_law_234 rfl ?_
    refine V.iadd dL_law_235 ?_
    obtain ⟨hi, v12, ev12, hf⟩ := fld_e hf
    refine V.sload dL_law_236 hi ?_
    refine V.cgi ev12 ?_
    refine V.aload_n (i := 3) dL_law_237 rfl rfl ?_
    obtain ⟨v13, hv13, hf⟩ := fbind hf
    refine V.callSn (pl := [0, 1, 2, 3, 4, 5, 6, 7, 8, 9, 10, 16]) (σ' := [.inl (5, [.ref 1, .ref 3, .ref 6, .ref 8, .ref 9]), .inl (3, [.ref 2]), .inr (910, .inl v13.2.1), .inl (1, [.ref 4, .ref 5, .int v13.2.2.1, .int v13.2.2.2.1, .int History_snapshotTaken]), .inr (5460, .inl v13.2.2.2.2.1), .inr (910, .inl History_snapshot), .inl (0, [.ref 7, .int Buffer_size]), .inr (60, .inl Buffer_codes), .inl (2, [.ref (Reader_pattern + 1000), .int Reader_place]), .inl (4, [.ref 10, .int Word_size]), .inr (8, .inl Word_letters), .inl (6, [.ref 12, .ref 13, .int M_savedMany, .ref 14, .int M_isTaken, .ref 15, .int M_length, .int M_thrown, .int M_spelt, .int M_speltMany, .int M_place, .int M_kind, .int M_one, .int M_two, .int M_three, .int M_begins, .int M_done, .int M_stopBy, .long M_hash]), .inr (406, .inl M_s), .inr (2436, .inl M_saved), .inr (406, .inl M_snapshot), .inr (60, .inl M_text), .inr (1, .inr v13.2.2.2.2.2)]) (st2 := [.int v13.1]) (cl2 := (cl + 1)) (sl2 := (sl + 6)) (ct_L_cut (a1 := v11) (a2 := v12) (State_cells := State_cells) (History_oldest := History_oldest) (History_size := History_size) (History_snapshotTaken := History_snapshotTaken) (History_saved := History_saved) (History_snapshot := History_snapshot) (Buffer_size := Buffer_size) (Buffer_codes := Buffer_codes) (Reader_pattern := Reader_pattern) (Reader_place := Reader_place) (Word_size := Word_size) (Word_letters := Word_letters) (out3 := out) hv13) dL_law_238 w671 w672 cal_L_cut ⟨⟨Nat.le_of_ble_eq_true rfl, Nat.le_of_ble_eq_true rfl⟩, (show cl + 1 ≤ 1062 by omega), (show sl + 6 ≤ 19011 by omega)⟩ (Nat.le_of_ble_eq_true rfl) rfl ⟨rfl, ⟨by decide, by decide⟩, rfl, (fr_cons (Or.inl (Nat.le_of_ble_eq_true rfl)) (fr_cons (Or.inl (Nat.le_of_ble_eq_true rfl)) (fr_cons (Or.inl (Nat.le_of_ble_eq_true rfl)) (fr_cons (Or.inl (Nat.le_of_ble_eq_true rfl)) (fr_cons (Or.inl (Nat.le_of_ble_eq_true rfl)) (fr_cons (Or.inl (Nat.le_of_ble_eq_true rfl)) (fr_cons (Or.inl (Nat.le_of_ble_eq_true rfl)) (fr_cons (Or.inl (Nat.le_of_ble_eq_true rfl)) (fr_cons (Or.inl (Nat.le_of_ble_eq_true rfl)) (fr_cons (Or.inr (Nat.le_add_left 1000 _)) (fr_cons (Or.inl (Nat.le_of_ble_eq_true rfl)) (fr_nil)))))))))))), rfl⟩ fr_i rfl rfl rfl rfl ?_
    refine V.istore (i := 5) (L' := [some (.ref 3000), some (.ref 0), some (.ref 11), some (.ref 16), some (.int p4), some (.int v13.1), none, none, none]) dL_law_241 (Nat.le_of_ble_eq_true rfl) rfl rfl ?_
    refine V.aload_n (i := 2) dL_law_243 rfl rfl ?_
    refine V.aload_n (i := 0) dL_law_244 rfl rfl ?_
    refine V.iload (i := 4) dL_law_245 rfl ?_
    refine V.iconst (v := 1) dL_law_247 rfl ?_
    refine V.iadd dL_law_248 ?_
    obtain ⟨hi, v14, ev14, hf⟩ := fld_e hf
    refine V.sload dL_law_249 hi ?_
    refine V.cgi ev14 ?_
    refine V.aload_n (i := 0) dL_law_250 rfl rfl ?_
    refine V.iload (i := 4) dL_law_251 rfl ?_
    refine V.iconst (v := 2) dL_law_253 rfl ?_
    refine V.iadd dL_law_254 ?_
    obtain ⟨hi, v15, ev15, hf⟩ := fld_e hf
    refine V.sload dL_law_255 hi ?_
    refine V.cgi ev15 ?_
    obtain ⟨v16, hv16, hf⟩ := fbind hf
    refine V.callVn (pl := [11, 12, 13, 14, 15]) (σ' := [.inl (5, [.ref 1, .ref 3, .ref 6, .ref 8, .ref 9]), .inl (3, [.ref 2]), .inr (910, .inl v13.2.1), .inl (1, [.ref 4, .ref 5, .int v13.2.2.1, .int v13.2.2.2.1, .int History_snapshotTaken]), .inr (5460, .inl v13.2.2.2.2.1), .inr (910, .inl History_snapshot), .inl (0, [.ref 7, .int Buffer_size]), .inr (60, .inl Buffer_codes), .inl (2, [.ref (Reader_pattern + 1000), .int Reader_place]), .inl (4, [.ref 10, .int Word_size]), .inr (8, .inl Word_letters), .inl (6, [.ref 12, .ref 13, .int v16.2.1, .ref 14, .int M_isTaken, .ref 15, .int M_length, .int v16.2.2.1, .int M_spelt, .int M_speltMany, .int M_place, .int M_kind, .int M_one, .int M_two, .int M_three, .int M_begins, .int M_done, .int M_stopBy, .long M_hash]), .inr (406, .inl v16.2.2.2.1), .inr (2436, .inl v16.2.2.2.2), .inr (406, .inl M_snapshot), .inr (60, .inl M_text), .inr (1, .inr v13.2.2.2.2.2)]) (st2 := [.int v16.1]) (cl2 := (cl + 1)) (sl2 := (sl + 6)) (ct_X11_cut (a1 := v14) (a2 := v15) (M_savedMany := M_savedMany) (M_isTaken := M_isTaken) (M_length := M_length) (M_thrown := M_thrown) (M_spelt := M_spelt) (M_speltMany := M_speltMany) (M_place := M_place) (M_kind := M_kind) (M_one := M_one) (M_two := M_two) (M_three := M_three) (M_begins := M_begins) (M_done := M_done) (M_stopBy := M_stopBy) (M_hash := M_hash) (M_s := M_s) (M_saved := M_saved) (M_snapshot := M_snapshot) (M_text := M_text) hv16) dL_law_256 w1200 ⟨w1201, w1202⟩ cal_X11_cut rfl ⟨⟨Nat.le_of_ble_eq_true rfl, Nat.le_of_ble_eq_true rfl⟩, (show (cl + 1) + 0 ≤ 1062 by omega), (show (sl + 6) + 0 ≤ 19011 by omega)⟩ (Nat.le_of_ble_eq_true rfl) (Or.inl ⟨_, _, _, _, rfl, rfl⟩) rfl ⟨rfl, ⟨by decide, by decide⟩, rfl, (fr_cons (Or.inl (Nat.le_of_ble_eq_true rfl)) (fr_cons (Or.inl (Nat.le_of_ble_eq_true rfl)) (fr_cons (Or.inl (Nat.le_of_ble_eq_true rfl)) (fr_cons (Or.inl (Nat.le_of_ble_eq_true rfl)) (fr_nil))))), rfl⟩ fr_i rfl rfl rfl rfl ?_
    refine V.istore (i := 6) (L' := [some (.ref 3000), some (.ref 0), some (.ref 11), some (.ref 16), some (.int p4), some (.int v13.1), some (.int v16.1), none, none]) dL_law_259 (Nat.le_of_ble_eq_true rfl) rfl rfl ?_
    refine V.aload_n (i := 2) dL_law_261 rfl rfl ?_
    obtain ⟨v17, hv17, hf⟩ := fbind hf
    refine V.callVn (pl := [11, 12, 13, 14, 15]) (σ' := [.inl (5, [.ref 1, .ref 3, .ref 6, .ref 8, .ref 9]), .inl (3, [.ref 2]), .inr (910, .inl v13.2.1), .inl (1, [.ref 4, .ref 5, .int v13.2.2.1, .int v13.2.2.2.1, .int History_snapshotTaken]), .inr (5460, .inl v13.2.2.2.2.1), .inr (910, .inl History_snapshot), .inl (0, [.ref 7, .int Buffer_size]), .inr (60, .inl Buffer_codes), .inl (2, [.ref (Reader_pattern + 1000), .int Reader_place]), .inl (4, [.ref 10, .int Word_size]), .inr (8, .inl Word_letters), .inl (6, [.ref 12, .ref 13, .int v16.2.1, .ref 14, .int M_isTaken, .ref 15, .int M_length, .int v16.2.2.1, .int M_spelt, .int M_speltMany, .int M_place, .int M_kind, .int M_one, .int M_two, .int M_three, .int M_begins, .int M_done, .int M_stopBy, .long M_hash]), .inr (406, .inl v16.2.2.2.1), .inr (2436, .inl v16.2.2.2.2), .inr (406, .inl M_snapshot), .inr (60, .inl M_text), .inr (1, .inr v13.2.2.2.2.2)]) (st2 := [.int v17]) (cl2 := (cl + 1)) (sl2 := (sl + 6)) (ct_X11_thrown (M_savedMany := v16.2.1) (M_isTaken := M_isTaken) (M_length := M_length) (M_thrown := v16.2.2.1) (M_spelt := M_spelt) (M_speltMany := M_speltMany) (M_place := M_place) (M_kind := M_kind) (M_one := M_one) (M_two := M_two) (M_three := M_three) (M_begins := M_begins) (M_done := M_done) (M_stopBy := M_stopBy) (M_hash := M_hash) (M_s := v16.2.2.2.1) (M_saved := v16.2.2.2.2) (M_snapshot := M_snapshot) (M_text := M_text) hv17) dL_law_262 w1101 ⟨w1102, w1103⟩ cal_X11_thrown rfl ⟨⟨Nat.le_of_ble_eq_true rfl, Nat.le_of_ble_eq_true rfl⟩, (show (cl + 1) + 0 ≤ 1062 by omega), (show (sl + 6) + 0 ≤ 19011 by omega)⟩ (Nat.le_of_ble_eq_true rfl) (Or.inl ⟨_, _, _, _, rfl, rfl⟩) rfl ⟨rfl, ⟨by decide, by decide⟩, rfl, (fr_cons (Or.inl (Nat.le_of_ble_eq_true rfl)) (fr_cons (Or.inl (Nat.le_of_ble_eq_true rfl)) (fr_cons (Or.inl (Nat.le_of_ble_eq_true rfl)) (fr_cons (Or.inl (Nat.le_of_ble_eq_true rfl)) (fr_nil))))), rfl⟩ fr_i rfl rfl rfl rfl ?_
    refine V.iload (i := 5) dL_law_265 rfl ?_
    refine V.icmp_eq (tgt := 272) dL_law_267 (by decide) (fun h => ?_) (fun h => ?_)
    · have hf := fif_t h hf
      refine V.iload (i := 5) dL_law_272 rfl ?_
      refine V.if_ne (tgt := 289) dL_law_274 (by decide) (fun h => ?_) (fun h => ?_)
      · have hf := fif_f h hf
        refine V.goto (tgt := 1762) dL_law_289 (by decide) ?_
        obtain rfl := Option.some.inj hf
        exact V.locs (L' := [some (.ref 3000), some (.ref 0), some (.ref 11), some (.ref 16), some (.int p4), none, none, none, none]) ⟨rfl, ⟨rfl, ⟨rfl, ⟨rfl, ⟨rfl, trivial⟩⟩⟩⟩⟩ (V.wide (by omega) (by omega) hx)
      · have hf := fif_t h hf
        refine V.aload_n (i := 3) dL_law_277 rfl rfl ?_
        refine V.iconst (v := 0) dL_law_278 rfl ?_
        obtain ⟨hi, v18, ev18, hf⟩ := fld_e hf
        refine V.fldL dL_law_279 rfl hi ev18 ?_
        refine V.iload (i := 6) dL_law_280 rfl ?_
        refine V.i2l dL_law_282 ?_
        refine V.lcmp dL_law_283 ?_
        refine V.if_eq (tgt := 289) dL_law_284 (by decide) (fun h => ?_) (fun h => ?_)
        · have hf := fif_t h hf
          refine V.goto (tgt := 1762) dL_law_289 (by decide) ?_
          obtain rfl := Option.some.inj hf
          exact V.locs (L' := [some (.ref 3000), some (.ref 0), some (.ref 11), some (.ref 16), some (.int p4), none, none, none, none]) ⟨rfl, ⟨rfl, ⟨rfl, ⟨rfl, ⟨rfl, trivial⟩⟩⟩⟩⟩ (V.wide (by omega) (by omega) hx)
        · have hf := fif_f h hf
          refine V.iconst (v := 0) dL_law_287 rfl ?_
          cases hf
    · have hf := fif_f h hf
      refine V.iconst (v := 0) dL_law_270 rfl ?_
      cases hf
def s_L_law_L292 (a0n : Nat) (a0 : Nat → Int32) (p4 : Int32) : Nat → (Nat → Int32) → (Int32) → (Int32) → (Nat → Int32) → (Int32) → (Int32) → (Nat → Int32) → (Nat → Int32) → (Nat → Int64) → Option ((Nat → Int32) × (Int32) × (Int32) × (Nat → Int32) × (Int32) × (Int32) × (Nat → Int32) × (Nat → Int32) × (Nat → Int64))
  | 0, _, _, _, _, _, _, _, _, _ => none
  | n + 1, State_cells, History_oldest, History_size, History_saved, M_savedMany, M_thrown, M_s, M_saved, out => fld a0n a0 (p4 + 1) fun v20 => fld a0n a0 (p4 + 2) fun v21 => (s_L_fast v20 v21 State_cells History_oldest History_size History_saved out).bind fun v22 => fld a0n a0 (p4 + 1) fun v23 => fld a0n a0 (p4 + 2) fun v24 => (s_X11_fast v23 v24 M_savedMany M_thrown M_s M_saved).bind fun v25 => (s_X11_thrown v25.2.2.1).bind fun v26 => if (v26 = v22.1 : Prop) then (if (v22.1 = 0 : Prop) then (fld 1 v22.2.2.2.2.2 0 fun v27 => if ((lg_cmp v27 (Int32.toInt64 v25.1)) = 0 : Prop) then (some (v22.2.1, v22.2.2.1, v22.2.2.2.1, v22.2.2.2.2.1, v25.2.1, v25.2.2.1, v25.2.2.2.1, v25.2.2.2.2, v22.2.2.2.2.2)) else (none)) else (some (v22.2.1, v22.2.2.1, v22.2.2.2.1, v22.2.2.2.2.1, v25.2.1, v25.2.2.1, v25.2.2.2.1, v25.2.2.2.2, v22.2.2.2.2.2))) else (none)
set_option maxHeartbeats 4000000 in
set_option maxRecDepth 100000 in
theorem v_L_law_L292 {a0n : Nat} {a0 : Nat → Int32} {p4 : Int32} {History_snapshotTaken : Int32} {History_snapshot : Nat → Int32} {Buffer_size : Int32} {Buffer_codes : Nat → Int32} {Reader_pattern : Nat} {Reader_place : Int32} {Word_size : Int32} {Word_letters : Nat → Int32} {M_isTaken : Int32} {M_length : Int32} {M_spelt : Int32} {M_speltMany : Int32} {M_place : Int32} {M_kind : Int32} {M_one : Int32} {M_two : Int32} {M_three : Int32} {M_begins : Int32} {M_done : Int32} {M_stopBy : Int32} {M_hash : Int64} {M_snapshot : Nat → Int32} {M_text : Nat → Int32} : ∀ (n : Nat) {State_cells : (Nat → Int32)} {History_oldest : (Int32)} {History_size : (Int32)} {History_saved : (Nat → Int32)} {M_savedMany : (Int32)} {M_thrown : (Int32)} {M_s : (Nat → Int32)} {M_saved : (Nat → Int32)} {out : (Nat → Int64)} {res : (Nat → Int32) × (Int32) × (Int32) × (Nat → Int32) × (Int32) × (Int32) × (Nat → Int32) × (Nat → Int32) × (Nat → Int64)} (hf : s_L_law_L292 a0n a0 p4 n State_cells History_oldest History_size History_saved M_savedMany M_thrown M_s M_saved out = some res) {cl sl : Nat} (hc : cl + 1 ≤ 1062) (hs : sl + 6 ≤ 19011) (hx : V (fXlaw a0n a0) room_1 k_L_law 0 1762 [some (.ref 3000), some (.ref 0), some (.ref 11), some (.ref 16), some (.int p4), none, none, none, none] [] [.inl (5, [.ref 1, .ref 3, .ref 6, .ref 8, .ref 9]), .inl (3, [.ref 2]), .inr (910, .inl res.1), .inl (1, [.ref 4, .ref 5, .int res.2.1, .int res.2.2.1, .int History_snapshotTaken]), .inr (5460, .inl res.2.2.2.1), .inr (910, .inl History_snapshot), .inl (0, [.ref 7, .int Buffer_size]), .inr (60, .inl Buffer_codes), .inl (2, [.ref (Reader_pattern + 1000), .int Reader_place]), .inl (4, [.ref 10, .int Word_size]), .inr (8, .inl Word_letters), .inl (6, [.ref 12, .ref 13, .int res.2.2.2.2.1, .ref 14, .int M_isTaken, .ref 15, .int M_length, .int res.2.2.2.2.2.1, .int M_spelt, .int M_speltMany, .int M_place, .int M_kind, .int M_one, .int M_two, .int M_three, .int M_begins, .int M_done, .int M_stopBy, .long M_hash]), .inr (406, .inl res.2.2.2.2.2.2.1), .inr (2436, .inl res.2.2.2.2.2.2.2.1), .inr (406, .inl M_snapshot), .inr (60, .inl M_text), .inr (1, .inr res.2.2.2.2.2.2.2.2)] (cl + 1) (sl + 6)), V (fXlaw a0n a0) room_1 k_L_law 0 292 [some (.ref 3000), some (.ref 0), some (.ref 11), some (.ref 16), some (.int p4), none, none, none, none] [] [.inl (5, [.ref 1, .ref 3, .ref 6, .ref 8, .ref 9]), .inl (3, [.ref 2]), .inr (910, .inl State_cells), .inl (1, [.ref 4, .ref 5, .int History_oldest, .int History_size, .int History_snapshotTaken]), .inr (5460, .inl History_saved), .inr (910, .inl History_snapshot), .inl (0, [.ref 7, .int Buffer_size]), .inr (60, .inl Buffer_codes), .inl (2, [.ref (Reader_pattern + 1000), .int Reader_place]), .inl (4, [.ref 10, .int Word_size]), .inr (8, .inl Word_letters), .inl (6, [.ref 12, .ref 13, .int M_savedMany, .ref 14, .int M_isTaken, .ref 15, .int M_length, .int M_thrown, .int M_spelt, .int M_speltMany, .int M_place, .int M_kind, .int M_one, .int M_two, .int M_three, .int M_begins, .int M_done, .int M_stopBy, .long M_hash]), .inr (406, .inl M_s), .inr (2436, .inl M_saved), .inr (406, .inl M_snapshot), .inr (60, .inl M_text), .inr (1, .inr out)] cl sl := by
  intro n
  induction n with
  | zero =>
    intro State_cells History_oldest History_size History_saved M_savedMany M_thrown M_s M_saved out res hf cl sl hc hs hx
    rw [s_L_law_L292] at hf
    cases hf
  | succ n ih =>
    intro State_cells History_oldest History_size History_saved M_savedMany M_thrown M_s M_saved out res hf cl sl hc hs hx
    rw [s_L_law_L292] at hf
    refine V.aload_n (i := 1) dL_law_292 rfl rfl ?_
    refine V.aload_n (i := 0) dL_law_293 rfl rfl ?_
    refine V.iload (i := 4) dL_law_294 rfl ?_
    refine V.iconst (v := 1) dL_law_296 rfl ?_
    refine V.iadd dL_law_297 ?_
    obtain ⟨hi, v20, ev20, hf⟩ := fld_e hf
    refine V.sload dL_law_298 hi ?_
    refine V.cgi ev20 ?_
    refine V.aload_n (i := 0) dL_law_299 rfl rfl ?_
    refine V.iload (i := 4) dL_law_300 rfl ?_
    refine V.iconst (v := 2) dL_law_302 rfl ?_
    refine V.iadd dL_law_303 ?_
    obtain ⟨hi, v21, ev21, hf⟩ := fld_e hf
    refine V.sload dL_law_304 hi ?_
    refine V.cgi ev21 ?_
    refine V.aload_n (i := 3) dL_law_305 rfl rfl ?_
    obtain ⟨v22, hv22, hf⟩ := fbind hf
    refine V.callSn (pl := [0, 1, 2, 3, 4, 5, 6, 7, 8, 9, 10, 16]) (σ' := [.inl (5, [.ref 1, .ref 3, .ref 6, .ref 8, .ref 9]), .inl (3, [.ref 2]), .inr (910, .inl v22.2.1), .inl (1, [.ref 4, .ref 5, .int v22.2.2.1, .int v22.2.2.2.1, .int History_snapshotTaken]), .inr (5460, .inl v22.2.2.2.2.1), .inr (910, .inl History_snapshot), .inl (0, [.ref 7, .int Buffer_size]), .inr (60, .inl Buffer_codes), .inl (2, [.ref (Reader_pattern + 1000), .int Reader_place]), .inl (4, [.ref 10, .int Word_size]), .inr (8, .inl Word_letters), .inl (6, [.ref 12, .ref 13, .int M_savedMany, .ref 14, .int M_isTaken, .ref 15, .int M_length, .int M_thrown, .int M_spelt, .int M_speltMany, .int M_place, .int M_kind, .int M_one, .int M_two, .int M_three, .int M_begins, .int M_done, .int M_stopBy, .long M_hash]), .inr (406, .inl M_s), .inr (2436, .inl M_saved), .inr (406, .inl M_snapshot), .inr (60, .inl M_text), .inr (1, .inr v22.2.2.2.2.2)]) (st2 := [.int v22.1]) (cl2 := (cl + 1)) (sl2 := (sl + 6)) (ct_L_fast (a1 := v20) (a2 := v21) (State_cells := State_cells) (History_oldest := History_oldest) (History_size := History_size) (History_snapshotTaken := History_snapshotTaken) (History_saved := History_saved) (History_snapshot := History_snapshot) (Buffer_size := Buffer_size) (Buffer_codes := Buffer_codes) (Reader_pattern := Reader_pattern) (Reader_place := Reader_place) (Word_size := Word_size) (Word_letters := Word_letters) (out3 := out) hv22) dL_law_306 w695 w696 cal_L_fast ⟨⟨Nat.le_of_ble_eq_true rfl, Nat.le_of_ble_eq_true rfl⟩, (show cl + 1 ≤ 1062 by omega), (show sl + 6 ≤ 19011 by omega)⟩ (Nat.le_of_ble_eq_true rfl) rfl ⟨rfl, ⟨by decide, by decide⟩, rfl, (fr_cons (Or.inl (Nat.le_of_ble_eq_true rfl)) (fr_cons (Or.inl (Nat.le_of_ble_eq_true rfl)) (fr_cons (Or.inl (Nat.le_of_ble_eq_true rfl)) (fr_cons (Or.inl (Nat.le_of_ble_eq_true rfl)) (fr_cons (Or.inl (Nat.le_of_ble_eq_true rfl)) (fr_cons (Or.inl (Nat.le_of_ble_eq_true rfl)) (fr_cons (Or.inl (Nat.le_of_ble_eq_true rfl)) (fr_cons (Or.inl (Nat.le_of_ble_eq_true rfl)) (fr_cons (Or.inl (Nat.le_of_ble_eq_true rfl)) (fr_cons (Or.inr (Nat.le_add_left 1000 _)) (fr_cons (Or.inl (Nat.le_of_ble_eq_true rfl)) (fr_nil)))))))))))), rfl⟩ fr_i rfl rfl rfl rfl ?_
    refine V.istore (i := 5) (L' := [some (.ref 3000), some (.ref 0), some (.ref 11), some (.ref 16), some (.int p4), some (.int v22.1), none, none, none]) dL_law_309 (Nat.le_of_ble_eq_true rfl) rfl rfl ?_
    refine V.aload_n (i := 2) dL_law_311 rfl rfl ?_
    refine V.aload_n (i := 0) dL_law_312 rfl rfl ?_
    refine V.iload (i := 4) dL_law_313 rfl ?_
    refine V.iconst (v := 1) dL_law_315 rfl ?_
    refine V.iadd dL_law_316 ?_
    obtain ⟨hi, v23, ev23, hf⟩ := fld_e hf
    refine V.sload dL_law_317 hi ?_
    refine V.cgi ev23 ?_
    refine V.aload_n (i := 0) dL_law_318 rfl rfl ?_
    refine V.iload (i := 4) dL_law_319 rfl ?_
    refine V.iconst (v := 2) dL_law_321 rfl ?_
    refine V.iadd dL_law_322 ?_
    obtain ⟨hi, v24, ev24, hf⟩ := fld_e hf
    refine V.sload dL_law_323 hi ?_
    refine V.cgi ev24 ?_
    obtain ⟨v25, hv25, hf⟩ := fbind hf
    refine V.callVn (pl := [11, 12, 13, 14, 15]) (σ' := [.inl (5, [.ref 1, .ref 3, .ref 6, .ref 8, .ref 9]), .inl (3, [.ref 2]), .inr (910, .inl v22.2.1), .inl (1, [.ref 4, .ref 5, .int v22.2.2.1, .int v22.2.2.2.1, .int History_snapshotTaken]), .inr (5460, .inl v22.2.2.2.2.1), .inr (910, .inl History_snapshot), .inl (0, [.ref 7, .int Buffer_size]), .inr (60, .inl Buffer_codes), .inl (2, [.ref (Reader_pattern + 1000), .int Reader_place]), .inl (4, [.ref 10, .int Word_size]), .inr (8, .inl Word_letters), .inl (6, [.ref 12, .ref 13, .int v25.2.1, .ref 14, .int M_isTaken, .ref 15, .int M_length, .int v25.2.2.1, .int M_spelt, .int M_speltMany, .int M_place, .int M_kind, .int M_one, .int M_two, .int M_three, .int M_begins, .int M_done, .int M_stopBy, .long M_hash]), .inr (406, .inl v25.2.2.2.1), .inr (2436, .inl v25.2.2.2.2), .inr (406, .inl M_snapshot), .inr (60, .inl M_text), .inr (1, .inr v22.2.2.2.2.2)]) (st2 := [.int v25.1]) (cl2 := (cl + 1)) (sl2 := (sl + 6)) (ct_X11_fast (a1 := v23) (a2 := v24) (M_savedMany := M_savedMany) (M_isTaken := M_isTaken) (M_length := M_length) (M_thrown := M_thrown) (M_spelt := M_spelt) (M_speltMany := M_speltMany) (M_place := M_place) (M_kind := M_kind) (M_one := M_one) (M_two := M_two) (M_three := M_three) (M_begins := M_begins) (M_done := M_done) (M_stopBy := M_stopBy) (M_hash := M_hash) (M_s := M_s) (M_saved := M_saved) (M_snapshot := M_snapshot) (M_text := M_text) hv25) dL_law_324 w1212 ⟨w1213, w1214⟩ cal_X11_fast rfl ⟨⟨Nat.le_of_ble_eq_true rfl, Nat.le_of_ble_eq_true rfl⟩, (show (cl + 1) + 0 ≤ 1062 by omega), (show (sl + 6) + 0 ≤ 19011 by omega)⟩ (Nat.le_of_ble_eq_true rfl) (Or.inl ⟨_, _, _, _, rfl, rfl⟩) rfl ⟨rfl, ⟨by decide, by decide⟩, rfl, (fr_cons (Or.inl (Nat.le_of_ble_eq_true rfl)) (fr_cons (Or.inl (Nat.le_of_ble_eq_true rfl)) (fr_cons (Or.inl (Nat.le_of_ble_eq_true rfl)) (fr_cons (Or.inl (Nat.le_of_ble_eq_true rfl)) (fr_nil))))), rfl⟩ fr_i rfl rfl rfl rfl ?_
    refine V.istore (i := 6) (L' := [some (.ref 3000), some (.ref 0), some (.ref 11), some (.ref 16), some (.int p4), some (.int v22.1), some (.int v25.1), none, none]) dL_law_327 (Nat.le_of_ble_eq_true rfl) rfl rfl ?_
    refine V.aload_n (i := 2) dL_law_329 rfl rfl ?_
    obtain ⟨v26, hv26, hf⟩ := fbind hf
    refine V.callVn (pl := [11, 12, 13, 14, 15]) (σ' := [.inl (5, [.ref 1, .ref 3, .ref 6, .ref 8, .ref 9]), .inl (3, [.ref 2]), .inr (910, .inl v22.2.1), .inl (1, [.ref 4, .ref 5, .int v22.2.2.1, .int v22.2.2.2.1, .int History_snapshotTaken]), .inr (5460, .inl v22.2.2.2.2.1), .inr (910, .inl History_snapshot), .inl (0, [.ref 7, .int Buffer_size]), .inr (60, .inl Buffer_codes), .inl (2, [.ref (Reader_pattern + 1000), .int Reader_place]), .inl (4, [.ref 10, .int Word_size]), .inr (8, .inl Word_letters), .inl (6, [.ref 12, .ref 13, .int v25.2.1, .ref 14, .int M_isTaken, .ref 15, .int M_length, .int v25.2.2.1, .int M_spelt, .int M_speltMany, .int M_place, .int M_kind, .int M_one, .int M_two, .int M_three, .int M_begins, .int M_done, .int M_stopBy, .long M_hash]), .inr (406, .inl v25.2.2.2.1), .inr (2436, .inl v25.2.2.2.2), .inr (406, .inl M_snapshot), .inr (60, .inl M_text), .inr (1, .inr v22.2.2.2.2.2)]) (st2 := [.int v26]) (cl2 := (cl + 1)) (sl2 := (sl + 6)) (ct_X11_thrown (M_savedMany := v25.2.1) (M_isTaken := M_isTaken) (M_length := M_length) (M_thrown := v25.2.2.1) (M_spelt := M_spelt) (M_speltMany := M_speltMany) (M_place := M_place) (M_kind := M_kind) (M_one := M_one) (M_two := M_two) (M_three := M_three) (M_begins := M_begins) (M_done := M_done) (M_stopBy := M_stopBy) (M_hash := M_hash) (M_s := v25.2.2.2.1) (M_saved := v25.2.2.2.2) (M_snapshot := M_snapshot) (M_text := M_text) hv26) dL_law_330 w1101 ⟨w1102, w1103⟩ cal_X11_thrown rfl ⟨⟨Nat.le_of_ble_eq_true rfl, Nat.le_of_ble_eq_true rfl⟩, (show (cl + 1) + 0 ≤ 1062 by omega), (show (sl + 6) + 0 ≤ 19011 by omega)⟩ (Nat.le_of_ble_eq_true rfl) (Or.inl ⟨_, _, _, _, rfl, rfl⟩) rfl ⟨rfl, ⟨by decide, by decide⟩, rfl, (fr_cons (Or.inl (Nat.le_of_ble_eq_true rfl)) (fr_cons (Or.inl (Nat.le_of_ble_eq_true rfl)) (fr_cons (Or.inl (Nat.le_of_ble_eq_true rfl)) (fr_cons (Or.inl (Nat.le_of_ble_eq_true rfl)) (fr_nil))))), rfl⟩ fr_i rfl rfl rfl rfl ?_
    refine V.iload (i := 5) dL_law_333 rfl ?_
    refine V.icmp_eq (tgt := 340) dL_law_335 (by decide) (fun h => ?_) (fun h => ?_)
    · have hf := fif_t h hf
      refine V.iload (i := 5) dL_law_340 rfl ?_
      refine V.if_ne (tgt := 357) dL_law_342 (by decide) (fun h => ?_) (fun h => ?_)
      · have hf := fif_f h hf
        refine V.goto (tgt := 1762) dL_law_357 (by decide) ?_
        obtain rfl := Option.some.inj hf
        exact V.locs (L' := [some (.ref 3000), some (.ref 0), some (.ref 11), some (.ref 16), some (.int p4), none, none, none, none]) ⟨rfl, ⟨rfl, ⟨rfl, ⟨rfl, ⟨rfl, trivial⟩⟩⟩⟩⟩ (V.wide (by omega) (by omega) hx)
      · have hf := fif_t h hf
        refine V.aload_n (i := 3) dL_law_345 rfl rfl ?_
        refine V.iconst (v := 0) dL_law_346 rfl ?_
        obtain ⟨hi, v27, ev27, hf⟩ := fld_e hf
        refine V.fldL dL_law_347 rfl hi ev27 ?_
        refine V.iload (i := 6) dL_law_348 rfl ?_
        refine V.i2l dL_law_350 ?_
        refine V.lcmp dL_law_351 ?_
        refine V.if_eq (tgt := 357) dL_law_352 (by decide) (fun h => ?_) (fun h => ?_)
        · have hf := fif_t h hf
          refine V.goto (tgt := 1762) dL_law_357 (by decide) ?_
          obtain rfl := Option.some.inj hf
          exact V.locs (L' := [some (.ref 3000), some (.ref 0), some (.ref 11), some (.ref 16), some (.int p4), none, none, none, none]) ⟨rfl, ⟨rfl, ⟨rfl, ⟨rfl, ⟨rfl, trivial⟩⟩⟩⟩⟩ (V.wide (by omega) (by omega) hx)
        · have hf := fif_f h hf
          refine V.iconst (v := 0) dL_law_355 rfl ?_
          cases hf
    · have hf := fif_f h hf
      refine V.iconst (v := 0) dL_law_338 rfl ?_
      cases hf
def s_L_law_L360 (a0n : Nat) (a0 : Nat → Int32) (p4 : Int32) : Nat → (Nat → Int32) → (Int32) → (Int32) → (Nat → Int32) → (Int32) → (Nat → Int32) → (Int32) → (Int32) → (Nat → Int32) → (Nat → Int32) → (Nat → Int64) → Option ((Nat → Int32) × (Int32) × (Int32) × (Nat → Int32) × (Int32) × (Nat → Int32) × (Int32) × (Int32) × (Nat → Int32) × (Nat → Int32) × (Nat → Int64))
  | 0, _, _, _, _, _, _, _, _, _, _, _ => none
  | n + 1, State_cells, History_oldest, History_size, History_saved, Word_size, Word_letters, M_savedMany, M_thrown, M_s, M_saved, out => fld a0n a0 (p4 + 1) fun v29 => fld a0n a0 (p4 + 2) fun v30 => fld a0n a0 (p4 + 3) fun v31 => (s_L_give v29 v30 v31 State_cells History_oldest History_size History_saved Word_size Word_letters out).bind fun v32 => fld a0n a0 (p4 + 1) fun v33 => fld a0n a0 (p4 + 2) fun v34 => fld a0n a0 (p4 + 3) fun v35 => (s_X11_give v33 v34 v35 M_savedMany M_thrown M_s M_saved).bind fun v36 => (s_X11_thrown v36.2.2.1).bind fun v37 => if (v37 = v32.1 : Prop) then (if (v32.1 = 0 : Prop) then (fld 1 v32.2.2.2.2.2.2.2 0 fun v38 => if ((lg_cmp v38 (Int32.toInt64 v36.1)) = 0 : Prop) then (some (v32.2.1, v32.2.2.1, v32.2.2.2.1, v32.2.2.2.2.1, v32.2.2.2.2.2.1, v32.2.2.2.2.2.2.1, v36.2.1, v36.2.2.1, v36.2.2.2.1, v36.2.2.2.2, v32.2.2.2.2.2.2.2)) else (none)) else (some (v32.2.1, v32.2.2.1, v32.2.2.2.1, v32.2.2.2.2.1, v32.2.2.2.2.2.1, v32.2.2.2.2.2.2.1, v36.2.1, v36.2.2.1, v36.2.2.2.1, v36.2.2.2.2, v32.2.2.2.2.2.2.2))) else (none)
set_option maxHeartbeats 4000000 in
set_option maxRecDepth 100000 in
theorem v_L_law_L360 {a0n : Nat} {a0 : Nat → Int32} {p4 : Int32} {History_snapshotTaken : Int32} {History_snapshot : Nat → Int32} {Buffer_size : Int32} {Buffer_codes : Nat → Int32} {Reader_pattern : Nat} {Reader_place : Int32} {M_isTaken : Int32} {M_length : Int32} {M_spelt : Int32} {M_speltMany : Int32} {M_place : Int32} {M_kind : Int32} {M_one : Int32} {M_two : Int32} {M_three : Int32} {M_begins : Int32} {M_done : Int32} {M_stopBy : Int32} {M_hash : Int64} {M_snapshot : Nat → Int32} {M_text : Nat → Int32} : ∀ (n : Nat) {State_cells : (Nat → Int32)} {History_oldest : (Int32)} {History_size : (Int32)} {History_saved : (Nat → Int32)} {Word_size : (Int32)} {Word_letters : (Nat → Int32)} {M_savedMany : (Int32)} {M_thrown : (Int32)} {M_s : (Nat → Int32)} {M_saved : (Nat → Int32)} {out : (Nat → Int64)} {res : (Nat → Int32) × (Int32) × (Int32) × (Nat → Int32) × (Int32) × (Nat → Int32) × (Int32) × (Int32) × (Nat → Int32) × (Nat → Int32) × (Nat → Int64)} (hf : s_L_law_L360 a0n a0 p4 n State_cells History_oldest History_size History_saved Word_size Word_letters M_savedMany M_thrown M_s M_saved out = some res) {cl sl : Nat} (hc : cl + 1 ≤ 1062) (hs : sl + 6 ≤ 19011) (hx : V (fXlaw a0n a0) room_1 k_L_law 0 1762 [some (.ref 3000), some (.ref 0), some (.ref 11), some (.ref 16), some (.int p4), none, none, none, none] [] [.inl (5, [.ref 1, .ref 3, .ref 6, .ref 8, .ref 9]), .inl (3, [.ref 2]), .inr (910, .inl res.1), .inl (1, [.ref 4, .ref 5, .int res.2.1, .int res.2.2.1, .int History_snapshotTaken]), .inr (5460, .inl res.2.2.2.1), .inr (910, .inl History_snapshot), .inl (0, [.ref 7, .int Buffer_size]), .inr (60, .inl Buffer_codes), .inl (2, [.ref (Reader_pattern + 1000), .int Reader_place]), .inl (4, [.ref 10, .int res.2.2.2.2.1]), .inr (8, .inl res.2.2.2.2.2.1), .inl (6, [.ref 12, .ref 13, .int res.2.2.2.2.2.2.1, .ref 14, .int M_isTaken, .ref 15, .int M_length, .int res.2.2.2.2.2.2.2.1, .int M_spelt, .int M_speltMany, .int M_place, .int M_kind, .int M_one, .int M_two, .int M_three, .int M_begins, .int M_done, .int M_stopBy, .long M_hash]), .inr (406, .inl res.2.2.2.2.2.2.2.2.1), .inr (2436, .inl res.2.2.2.2.2.2.2.2.2.1), .inr (406, .inl M_snapshot), .inr (60, .inl M_text), .inr (1, .inr res.2.2.2.2.2.2.2.2.2.2)] (cl + 1) (sl + 6)), V (fXlaw a0n a0) room_1 k_L_law 0 360 [some (.ref 3000), some (.ref 0), some (.ref 11), some (.ref 16), some (.int p4), none, none, none, none] [] [.inl (5, [.ref 1, .ref 3, .ref 6, .ref 8, .ref 9]), .inl (3, [.ref 2]), .inr (910, .inl State_cells), .inl (1, [.ref 4, .ref 5, .int History_oldest, .int History_size, .int History_snapshotTaken]), .inr (5460, .inl History_saved), .inr (910, .inl History_snapshot), .inl (0, [.ref 7, .int Buffer_size]), .inr (60, .inl Buffer_codes), .inl (2, [.ref (Reader_pattern + 1000), .int Reader_place]), .inl (4, [.ref 10, .int Word_size]), .inr (8, .inl Word_letters), .inl (6, [.ref 12, .ref 13, .int M_savedMany, .ref 14, .int M_isTaken, .ref 15, .int M_length, .int M_thrown, .int M_spelt, .int M_speltMany, .int M_place, .int M_kind, .int M_one, .int M_two, .int M_three, .int M_begins, .int M_done, .int M_stopBy, .long M_hash]), .inr (406, .inl M_s), .inr (2436, .inl M_saved), .inr (406, .inl M_snapshot), .inr (60, .inl M_text), .inr (1, .inr out)] cl sl := by
  intro n
  induction n with
  | zero =>
    intro State_cells History_oldest History_size History_saved Word_size Word_letters M_savedMany M_thrown M_s M_saved out res hf cl sl hc hs hx
    rw [s_L_law_L360] at hf
    cases hf
  | succ n ih =>
    intro State_cells History_oldest History_size History_saved Word_size Word_letters M_savedMany M_thrown M_s M_saved out res hf cl sl hc hs hx
    rw [s_L_law_L360] at hf
    refine V.aload_n (i := 1) dL_law_360 rfl rfl ?_
    refine V.aload_n (i := 0) dL_law_361 rfl rfl ?_
    refine V.iload (i := 4) dL_law_362 rfl ?_
    refine V.iconst (v := 1) dL_law_364 rfl ?_
    refine V.iadd dL_law_365 ?_
    obtain ⟨hi, v29, ev29, hf⟩ := fld_e hf
    refine V.sload dL_law_366 hi ?_
    refine V.cgi ev29 ?_
    refine V.aload_n (i := 0) dL_law_367 rfl rfl ?_
    refine V.iload (i := 4) dL_law_368 rfl ?_
    refine V.iconst (v := 2) dL_law_370 rfl ?_
    refine V.iadd dL_law_371 ?_
    obtain ⟨hi, v30, ev30, hf⟩ := fld_e hf
    refine V.sload dL_law_372 hi ?_
    refine V.cgi ev30 ?_
    refine V.aload_n (i := 0) dL_law_373 rfl rfl ?_
    refine V.iload (i := 4) dL_law_374 rfl ?_
    refine V.iconst (v := 3) dL_law_376 rfl ?_
    refine V.iadd dL_law_377 ?_
    obtain ⟨hi, v31, ev31, hf⟩ := fld_e hf
    refine V.sload dL_law_378 hi ?_
    refine V.cgi ev31 ?_
    refine V.aload_n (i := 3) dL_law_379 rfl rfl ?_
    obtain ⟨v32, hv32, hf⟩ := fbind hf
    refine V.callSn (pl := [0, 1, 2, 3, 4, 5, 6, 7, 8, 9, 10, 16]) (σ' := [.inl (5, [.ref 1, .ref 3, .ref 6, .ref 8, .ref 9]), .inl (3, [.ref 2]), .inr (910, .inl v32.2.1), .inl (1, [.ref 4, .ref 5, .int v32.2.2.1, .int v32.2.2.2.1, .int History_snapshotTaken]), .inr (5460, .inl v32.2.2.2.2.1), .inr (910, .inl History_snapshot), .inl (0, [.ref 7, .int Buffer_size]), .inr (60, .inl Buffer_codes), .inl (2, [.ref (Reader_pattern + 1000), .int Reader_place]), .inl (4, [.ref 10, .int v32.2.2.2.2.2.1]), .inr (8, .inl v32.2.2.2.2.2.2.1), .inl (6, [.ref 12, .ref 13, .int M_savedMany, .ref 14, .int M_isTaken, .ref 15, .int M_length, .int M_thrown, .int M_spelt, .int M_speltMany, .int M_place, .int M_kind, .int M_one, .int M_two, .int M_three, .int M_begins, .int M_done, .int M_stopBy, .long M_hash]), .inr (406, .inl M_s), .inr (2436, .inl M_saved), .inr (406, .inl M_snapshot), .inr (60, .inl M_text), .inr (1, .inr v32.2.2.2.2.2.2.2)]) (st2 := [.int v32.1]) (cl2 := (cl + 1)) (sl2 := (sl + 6)) (ct_L_give (a1 := v29) (a2 := v30) (a3 := v31) (State_cells := State_cells) (History_oldest := History_oldest) (History_size := History_size) (History_snapshotTaken := History_snapshotTaken) (History_saved := History_saved) (History_snapshot := History_snapshot) (Buffer_size := Buffer_size) (Buffer_codes := Buffer_codes) (Reader_pattern := Reader_pattern) (Reader_place := Reader_place) (Word_size := Word_size) (Word_letters := Word_letters) (out4 := out) hv32) dL_law_380 w715 w716 cal_L_give ⟨⟨Nat.le_of_ble_eq_true rfl, Nat.le_of_ble_eq_true rfl⟩, (show cl + 1 ≤ 1062 by omega), (show sl + 6 ≤ 19011 by omega)⟩ (Nat.le_of_ble_eq_true rfl) rfl ⟨rfl, ⟨by decide, by decide⟩, rfl, (fr_cons (Or.inl (Nat.le_of_ble_eq_true rfl)) (fr_cons (Or.inl (Nat.le_of_ble_eq_true rfl)) (fr_cons (Or.inl (Nat.le_of_ble_eq_true rfl)) (fr_cons (Or.inl (Nat.le_of_ble_eq_true rfl)) (fr_cons (Or.inl (Nat.le_of_ble_eq_true rfl)) (fr_cons (Or.inl (Nat.le_of_ble_eq_true rfl)) (fr_cons (Or.inl (Nat.le_of_ble_eq_true rfl)) (fr_cons (Or.inl (Nat.le_of_ble_eq_true rfl)) (fr_cons (Or.inl (Nat.le_of_ble_eq_true rfl)) (fr_cons (Or.inr (Nat.le_add_left 1000 _)) (fr_cons (Or.inl (Nat.le_of_ble_eq_true rfl)) (fr_nil)))))))))))), rfl⟩ fr_i rfl rfl rfl rfl ?_
    refine V.istore (i := 5) (L' := [some (.ref 3000), some (.ref 0), some (.ref 11), some (.ref 16), some (.int p4), some (.int v32.1), none, none, none]) dL_law_383 (Nat.le_of_ble_eq_true rfl) rfl rfl ?_
    refine V.aload_n (i := 2) dL_law_385 rfl rfl ?_
    refine V.aload_n (i := 0) dL_law_386 rfl rfl ?_
    refine V.iload (i := 4) dL_law_387 rfl ?_
    refine V.iconst (v := 1) dL_law_389 rfl ?_
    refine V.iadd dL_law_390 ?_
    obtain ⟨hi, v33, ev33, hf⟩ := fld_e hf
    refine V.sload dL_law_391 hi ?_
    refine V.cgi ev33 ?_
    refine V.aload_n (i := 0) dL_law_392 rfl rfl ?_
    refine V.iload (i := 4) dL_law_393 rfl ?_
    refine V.iconst (v := 2) dL_law_395 rfl ?_
    refine V.iadd dL_law_396 ?_
    obtain ⟨hi, v34, ev34, hf⟩ := fld_e hf
    refine V.sload dL_law_397 hi ?_
    refine V.cgi ev34 ?_
    refine V.aload_n (i := 0) dL_law_398 rfl rfl ?_
    refine V.iload (i := 4) dL_law_399 rfl ?_
    refine V.iconst (v := 3) dL_law_401 rfl ?_
    refine V.iadd dL_law_402 ?_
    obtain ⟨hi, v35, ev35, hf⟩ := fld_e hf
    refine V.sload dL_law_403 hi ?_
    refine V.cgi ev35 ?_
    obtain ⟨v36, hv36, hf⟩ := fbind hf
    refine V.callVn (pl := [11, 12, 13, 14, 15]) (σ' := [.inl (5, [.ref 1, .ref 3, .ref 6, .ref 8, .ref 9]), .inl (3, [.ref 2]), .inr (910, .inl v32.2.1), .inl (1, [.ref 4, .ref 5, .int v32.2.2.1, .int v32.2.2.2.1, .int History_snapshotTaken]), .inr (5460, .inl v32.2.2.2.2.1), .inr (910, .inl History_snapshot), .inl (0, [.ref 7, .int Buffer_size]), .inr (60, .inl Buffer_codes), .inl (2, [.ref (Reader_pattern + 1000), .int Reader_place]), .inl (4, [.ref 10, .int v32.2.2.2.2.2.1]), .inr (8, .inl v32.2.2.2.2.2.2.1), .inl (6, [.ref 12, .ref 13, .int v36.2.1, .ref 14, .int M_isTaken, .ref 15, .int M_length, .int v36.2.2.1, .int M_spelt, .int M_speltMany, .int M_place, .int M_kind, .int M_one, .int M_two, .int M_three, .int M_begins, .int M_done, .int M_stopBy, .long M_hash]), .inr (406, .inl v36.2.2.2.1), .inr (2436, .inl v36.2.2.2.2), .inr (406, .inl M_snapshot), .inr (60, .inl M_text), .inr (1, .inr v32.2.2.2.2.2.2.2)]) (st2 := [.int v36.1]) (cl2 := (cl + 1)) (sl2 := (sl + 6)) (ct_X11_give (a1 := v33) (a2 := v34) (a3 := v35) (M_savedMany := M_savedMany) (M_isTaken := M_isTaken) (M_length := M_length) (M_thrown := M_thrown) (M_spelt := M_spelt) (M_speltMany := M_speltMany) (M_place := M_place) (M_kind := M_kind) (M_one := M_one) (M_two := M_two) (M_three := M_three) (M_begins := M_begins) (M_done := M_done) (M_stopBy := M_stopBy) (M_hash := M_hash) (M_s := M_s) (M_saved := M_saved) (M_snapshot := M_snapshot) (M_text := M_text) hv36) dL_law_404 w1228 ⟨w1229, w1230⟩ cal_X11_give rfl ⟨⟨Nat.le_of_ble_eq_true rfl, Nat.le_of_ble_eq_true rfl⟩, (show (cl + 1) + 0 ≤ 1062 by omega), (show (sl + 6) + 0 ≤ 19011 by omega)⟩ (Nat.le_of_ble_eq_true rfl) (Or.inl ⟨_, _, _, _, rfl, rfl⟩) rfl ⟨rfl, ⟨by decide, by decide⟩, rfl, (fr_cons (Or.inl (Nat.le_of_ble_eq_true rfl)) (fr_cons (Or.inl (Nat.le_of_ble_eq_true rfl)) (fr_cons (Or.inl (Nat.le_of_ble_eq_true rfl)) (fr_cons (Or.inl (Nat.le_of_ble_eq_true rfl)) (fr_nil))))), rfl⟩ fr_i rfl rfl rfl rfl ?_
    refine V.istore (i := 6) (L' := [some (.ref 3000), some (.ref 0), some (.ref 11), some (.ref 16), some (.int p4), some (.int v32.1), some (.int v36.1), none, none]) dL_law_407 (Nat.le_of_ble_eq_true rfl) rfl rfl ?_
    refine V.aload_n (i := 2) dL_law_409 rfl rfl ?_
    obtain ⟨v37, hv37, hf⟩ := fbind hf
    refine V.callVn (pl := [11, 12, 13, 14, 15]) (σ' := [.inl (5, [.ref 1, .ref 3, .ref 6, .ref 8, .ref 9]), .inl (3, [.ref 2]), .inr (910, .inl v32.2.1), .inl (1, [.ref 4, .ref 5, .int v32.2.2.1, .int v32.2.2.2.1, .int History_snapshotTaken]), .inr (5460, .inl v32.2.2.2.2.1), .inr (910, .inl History_snapshot), .inl (0, [.ref 7, .int Buffer_size]), .inr (60, .inl Buffer_codes), .inl (2, [.ref (Reader_pattern + 1000), .int Reader_place]), .inl (4, [.ref 10, .int v32.2.2.2.2.2.1]), .inr (8, .inl v32.2.2.2.2.2.2.1), .inl (6, [.ref 12, .ref 13, .int v36.2.1, .ref 14, .int M_isTaken, .ref 15, .int M_length, .int v36.2.2.1, .int M_spelt, .int M_speltMany, .int M_place, .int M_kind, .int M_one, .int M_two, .int M_three, .int M_begins, .int M_done, .int M_stopBy, .long M_hash]), .inr (406, .inl v36.2.2.2.1), .inr (2436, .inl v36.2.2.2.2), .inr (406, .inl M_snapshot), .inr (60, .inl M_text), .inr (1, .inr v32.2.2.2.2.2.2.2)]) (st2 := [.int v37]) (cl2 := (cl + 1)) (sl2 := (sl + 6)) (ct_X11_thrown (M_savedMany := v36.2.1) (M_isTaken := M_isTaken) (M_length := M_length) (M_thrown := v36.2.2.1) (M_spelt := M_spelt) (M_speltMany := M_speltMany) (M_place := M_place) (M_kind := M_kind) (M_one := M_one) (M_two := M_two) (M_three := M_three) (M_begins := M_begins) (M_done := M_done) (M_stopBy := M_stopBy) (M_hash := M_hash) (M_s := v36.2.2.2.1) (M_saved := v36.2.2.2.2) (M_snapshot := M_snapshot) (M_text := M_text) hv37) dL_law_410 w1101 ⟨w1102, w1103⟩ cal_X11_thrown rfl ⟨⟨Nat.le_of_ble_eq_true rfl, Nat.le_of_ble_eq_true rfl⟩, (show (cl + 1) + 0 ≤ 1062 by omega), (show (sl + 6) + 0 ≤ 19011 by omega)⟩ (Nat.le_of_ble_eq_true rfl) (Or.inl ⟨_, _, _, _, rfl, rfl⟩) rfl ⟨rfl, ⟨by decide, by decide⟩, rfl, (fr_cons (Or.inl (Nat.le_of_ble_eq_true rfl)) (fr_cons (Or.inl (Nat.le_of_ble_eq_true rfl)) (fr_cons (Or.inl (Nat.le_of_ble_eq_true rfl)) (fr_cons (Or.inl (Nat.le_of_ble_eq_true rfl)) (fr_nil))))), rfl⟩ fr_i rfl rfl rfl rfl ?_
    refine V.iload (i := 5) dL_law_413 rfl ?_
    refine V.icmp_eq (tgt := 420) dL_law_415 (by decide) (fun h => ?_) (fun h => ?_)
    · have hf := fif_t h hf
      refine V.iload (i := 5) dL_law_420 rfl ?_
      refine V.if_ne (tgt := 437) dL_law_422 (by decide) (fun h => ?_) (fun h => ?_)
      · have hf := fif_f h hf
        refine V.goto (tgt := 1762) dL_law_437 (by decide) ?_
        obtain rfl := Option.some.inj hf
        exact V.locs (L' := [some (.ref 3000), some (.ref 0), some (.ref 11), some (.ref 16), some (.int p4), none, none, none, none]) ⟨rfl, ⟨rfl, ⟨rfl, ⟨rfl, ⟨rfl, trivial⟩⟩⟩⟩⟩ (V.wide (by omega) (by omega) hx)
      · have hf := fif_t h hf
        refine V.aload_n (i := 3) dL_law_425 rfl rfl ?_
        refine V.iconst (v := 0) dL_law_426 rfl ?_
        obtain ⟨hi, v38, ev38, hf⟩ := fld_e hf
        refine V.fldL dL_law_427 rfl hi ev38 ?_
        refine V.iload (i := 6) dL_law_428 rfl ?_
        refine V.i2l dL_law_430 ?_
        refine V.lcmp dL_law_431 ?_
        refine V.if_eq (tgt := 437) dL_law_432 (by decide) (fun h => ?_) (fun h => ?_)
        · have hf := fif_t h hf
          refine V.goto (tgt := 1762) dL_law_437 (by decide) ?_
          obtain rfl := Option.some.inj hf
          exact V.locs (L' := [some (.ref 3000), some (.ref 0), some (.ref 11), some (.ref 16), some (.int p4), none, none, none, none]) ⟨rfl, ⟨rfl, ⟨rfl, ⟨rfl, ⟨rfl, trivial⟩⟩⟩⟩⟩ (V.wide (by omega) (by omega) hx)
        · have hf := fif_f h hf
          refine V.iconst (v := 0) dL_law_435 rfl ?_
          cases hf
    · have hf := fif_f h hf
      refine V.iconst (v := 0) dL_law_418 rfl ?_
      cases hf
def s_L_law_L440 (a0n : Nat) (a0 : Nat → Int32) (p4 : Int32) : Nat → (Nat → Int32) → (Int32) → (Int32) → (Nat → Int32) → (Int32) → (Int32) → (Nat → Int32) → (Nat → Int32) → (Nat → Int64) → Option ((Nat → Int32) × (Int32) × (Int32) × (Nat → Int32) × (Int32) × (Int32) × (Nat → Int32) × (Nat → Int32) × (Nat → Int64))
  | 0, _, _, _, _, _, _, _, _, _ => none
  | n + 1, State_cells, History_oldest, History_size, History_saved, M_savedMany, M_thrown, M_s, M_saved, out => fld a0n a0 (p4 + 1) fun v40 => (s_L_storm v40 State_cells History_oldest History_size History_saved out).bind fun v41 => fld a0n a0 (p4 + 1) fun v42 => (s_X11_storm v42 M_savedMany M_thrown M_s M_saved).bind fun v43 => (s_X11_thrown v43.2.2.1).bind fun v44 => if (v44 = v41.1 : Prop) then (if (v41.1 = 0 : Prop) then (fld 1 v41.2.2.2.2.2 0 fun v45 => if ((lg_cmp v45 (Int32.toInt64 v43.1)) = 0 : Prop) then (some (v41.2.1, v41.2.2.1, v41.2.2.2.1, v41.2.2.2.2.1, v43.2.1, v43.2.2.1, v43.2.2.2.1, v43.2.2.2.2, v41.2.2.2.2.2)) else (none)) else (some (v41.2.1, v41.2.2.1, v41.2.2.2.1, v41.2.2.2.2.1, v43.2.1, v43.2.2.1, v43.2.2.2.1, v43.2.2.2.2, v41.2.2.2.2.2))) else (none)
set_option maxHeartbeats 4000000 in
set_option maxRecDepth 100000 in
theorem v_L_law_L440 {a0n : Nat} {a0 : Nat → Int32} {p4 : Int32} {History_snapshotTaken : Int32} {History_snapshot : Nat → Int32} {Buffer_size : Int32} {Buffer_codes : Nat → Int32} {Reader_pattern : Nat} {Reader_place : Int32} {Word_size : Int32} {Word_letters : Nat → Int32} {M_isTaken : Int32} {M_length : Int32} {M_spelt : Int32} {M_speltMany : Int32} {M_place : Int32} {M_kind : Int32} {M_one : Int32} {M_two : Int32} {M_three : Int32} {M_begins : Int32} {M_done : Int32} {M_stopBy : Int32} {M_hash : Int64} {M_snapshot : Nat → Int32} {M_text : Nat → Int32} : ∀ (n : Nat) {State_cells : (Nat → Int32)} {History_oldest : (Int32)} {History_size : (Int32)} {History_saved : (Nat → Int32)} {M_savedMany : (Int32)} {M_thrown : (Int32)} {M_s : (Nat → Int32)} {M_saved : (Nat → Int32)} {out : (Nat → Int64)} {res : (Nat → Int32) × (Int32) × (Int32) × (Nat → Int32) × (Int32) × (Int32) × (Nat → Int32) × (Nat → Int32) × (Nat → Int64)} (hf : s_L_law_L440 a0n a0 p4 n State_cells History_oldest History_size History_saved M_savedMany M_thrown M_s M_saved out = some res) {cl sl : Nat} (hc : cl + 1 ≤ 1062) (hs : sl + 6 ≤ 19011) (hx : V (fXlaw a0n a0) room_1 k_L_law 0 1762 [some (.ref 3000), some (.ref 0), some (.ref 11), some (.ref 16), some (.int p4), none, none, none, none] [] [.inl (5, [.ref 1, .ref 3, .ref 6, .ref 8, .ref 9]), .inl (3, [.ref 2]), .inr (910, .inl res.1), .inl (1, [.ref 4, .ref 5, .int res.2.1, .int res.2.2.1, .int History_snapshotTaken]), .inr (5460, .inl res.2.2.2.1), .inr (910, .inl History_snapshot), .inl (0, [.ref 7, .int Buffer_size]), .inr (60, .inl Buffer_codes), .inl (2, [.ref (Reader_pattern + 1000), .int Reader_place]), .inl (4, [.ref 10, .int Word_size]), .inr (8, .inl Word_letters), .inl (6, [.ref 12, .ref 13, .int res.2.2.2.2.1, .ref 14, .int M_isTaken, .ref 15, .int M_length, .int res.2.2.2.2.2.1, .int M_spelt, .int M_speltMany, .int M_place, .int M_kind, .int M_one, .int M_two, .int M_three, .int M_begins, .int M_done, .int M_stopBy, .long M_hash]), .inr (406, .inl res.2.2.2.2.2.2.1), .inr (2436, .inl res.2.2.2.2.2.2.2.1), .inr (406, .inl M_snapshot), .inr (60, .inl M_text), .inr (1, .inr res.2.2.2.2.2.2.2.2)] (cl + 1) (sl + 6)), V (fXlaw a0n a0) room_1 k_L_law 0 440 [some (.ref 3000), some (.ref 0), some (.ref 11), some (.ref 16), some (.int p4), none, none, none, none] [] [.inl (5, [.ref 1, .ref 3, .ref 6, .ref 8, .ref 9]), .inl (3, [.ref 2]), .inr (910, .inl State_cells), .inl (1, [.ref 4, .ref 5, .int History_oldest, .int History_size, .int History_snapshotTaken]), .inr (5460, .inl History_saved), .inr (910, .inl History_snapshot), .inl (0, [.ref 7, .int Buffer_size]), .inr (60, .inl Buffer_codes), .inl (2, [.ref (Reader_pattern + 1000), .int Reader_place]), .inl (4, [.ref 10, .int Word_size]), .inr (8, .inl Word_letters), .inl (6, [.ref 12, .ref 13, .int M_savedMany, .ref 14, .int M_isTaken, .ref 15, .int M_length, .int M_thrown, .int M_spelt, .int M_speltMany, .int M_place, .int M_kind, .int M_one, .int M_two, .int M_three, .int M_begins, .int M_done, .int M_stopBy, .long M_hash]), .inr (406, .inl M_s), .inr (2436, .inl M_saved), .inr (406, .inl M_snapshot), .inr (60, .inl M_text), .inr (1, .inr out)] cl sl := by
  intro n
  induction n with
  | zero =>
    intro State_cells History_oldest History_size History_saved M_savedMany M_thrown M_s M_saved out res hf cl sl hc hs hx
    rw [s_L_law_L440] at hf
    cases hf
  | succ n ih =>
    intro State_cells History_oldest History_size History_saved M_savedMany M_thrown M_s M_saved out res hf cl sl hc hs hx
    rw [s_L_law_L440] at hf
    refine V.aload_n (i := 1) dL_law_440 rfl rfl ?_
    refine V.aload_n (i := 0) dL_law_441 rfl rfl ?_
    refine V.iload (i := 4) dL_law_442 rfl ?_
    refine V.iconst (v := 1) dL_law_444 rfl ?_
    refine V.iadd dL_law_445 ?_
    obtain ⟨hi, v40, ev40, hf⟩ := fld_e hf
    refine V.sload dL_law_446 hi ?_
    refine V.cgi ev40 ?_
    refine V.aload_n (i := 3) dL_law_447 rfl rfl ?_
    obtain ⟨v41, hv41, hf⟩ := fbind hf
    refine V.callSn (pl := [0, 1, 2, 3, 4, 5, 6, 7, 8, 9, 10, 16]) (σ' := [.inl (5, [.ref 1, .ref 3, .ref 6, .ref 8, .ref 9]), .inl (3, [.ref 2]), .inr (910, .inl v41.2.1), .inl (1, [.ref 4, .ref 5, .int v41.2.2.1, .int v41.2.2.2.1, .int History_snapshotTaken]), .inr (5460, .inl v41.2.2.2.2.1), .inr (910, .inl History_snapshot), .inl (0, [.ref 7, .int Buffer_size]), .inr (60, .inl Buffer_codes), .inl (2, [.ref (Reader_pattern + 1000), .int Reader_place]), .inl (4, [.ref 10, .int Word_size]), .inr (8, .inl Word_letters), .inl (6, [.ref 12, .ref 13, .int M_savedMany, .ref 14, .int M_isTaken, .ref 15, .int M_length, .int M_thrown, .int M_spelt, .int M_speltMany, .int M_place, .int M_kind, .int M_one, .int M_two, .int M_three, .int M_begins, .int M_done, .int M_stopBy, .long M_hash]), .inr (406, .inl M_s), .inr (2436, .inl M_saved), .inr (406, .inl M_snapshot), .inr (60, .inl M_text), .inr (1, .inr v41.2.2.2.2.2)]) (st2 := [.int v41.1]) (cl2 := (cl + 1)) (sl2 := (sl + 6)) (ct_L_storm (a1 := v40) (State_cells := State_cells) (History_oldest := History_oldest) (History_size := History_size) (History_snapshotTaken := History_snapshotTaken) (History_saved := History_saved) (History_snapshot := History_snapshot) (Buffer_size := Buffer_size) (Buffer_codes := Buffer_codes) (Reader_pattern := Reader_pattern) (Reader_place := Reader_place) (Word_size := Word_size) (Word_letters := Word_letters) (out2 := out) hv41) dL_law_448 w734 w735 cal_L_storm ⟨⟨Nat.le_of_ble_eq_true rfl, Nat.le_of_ble_eq_true rfl⟩, (show cl + 1 ≤ 1062 by omega), (show sl + 6 ≤ 19011 by omega)⟩ (Nat.le_of_ble_eq_true rfl) rfl ⟨rfl, ⟨by decide, by decide⟩, rfl, (fr_cons (Or.inl (Nat.le_of_ble_eq_true rfl)) (fr_cons (Or.inl (Nat.le_of_ble_eq_true rfl)) (fr_cons (Or.inl (Nat.le_of_ble_eq_true rfl)) (fr_cons (Or.inl (Nat.le_of_ble_eq_true rfl)) (fr_cons (Or.inl (Nat.le_of_ble_eq_true rfl)) (fr_cons (Or.inl (Nat.le_of_ble_eq_true rfl)) (fr_cons (Or.inl (Nat.le_of_ble_eq_true rfl)) (fr_cons (Or.inl (Nat.le_of_ble_eq_true rfl)) (fr_cons (Or.inl (Nat.le_of_ble_eq_true rfl)) (fr_cons (Or.inr (Nat.le_add_left 1000 _)) (fr_cons (Or.inl (Nat.le_of_ble_eq_true rfl)) (fr_nil)))))))))))), rfl⟩ fr_i rfl rfl rfl rfl ?_
    refine V.istore (i := 5) (L' := [some (.ref 3000), some (.ref 0), some (.ref 11), some (.ref 16), some (.int p4), some (.int v41.1), none, none, none]) dL_law_451 (Nat.le_of_ble_eq_true rfl) rfl rfl ?_
    refine V.aload_n (i := 2) dL_law_453 rfl rfl ?_
    refine V.aload_n (i := 0) dL_law_454 rfl rfl ?_
    refine V.iload (i := 4) dL_law_455 rfl ?_
    refine V.iconst (v := 1) dL_law_457 rfl ?_
    refine V.iadd dL_law_458 ?_
    obtain ⟨hi, v42, ev42, hf⟩ := fld_e hf
    refine V.sload dL_law_459 hi ?_
    refine V.cgi ev42 ?_
    obtain ⟨v43, hv43, hf⟩ := fbind hf
    refine V.callVn (pl := [11, 12, 13, 14, 15]) (σ' := [.inl (5, [.ref 1, .ref 3, .ref 6, .ref 8, .ref 9]), .inl (3, [.ref 2]), .inr (910, .inl v41.2.1), .inl (1, [.ref 4, .ref 5, .int v41.2.2.1, .int v41.2.2.2.1, .int History_snapshotTaken]), .inr (5460, .inl v41.2.2.2.2.1), .inr (910, .inl History_snapshot), .inl (0, [.ref 7, .int Buffer_size]), .inr (60, .inl Buffer_codes), .inl (2, [.ref (Reader_pattern + 1000), .int Reader_place]), .inl (4, [.ref 10, .int Word_size]), .inr (8, .inl Word_letters), .inl (6, [.ref 12, .ref 13, .int v43.2.1, .ref 14, .int M_isTaken, .ref 15, .int M_length, .int v43.2.2.1, .int M_spelt, .int M_speltMany, .int M_place, .int M_kind, .int M_one, .int M_two, .int M_three, .int M_begins, .int M_done, .int M_stopBy, .long M_hash]), .inr (406, .inl v43.2.2.2.1), .inr (2436, .inl v43.2.2.2.2), .inr (406, .inl M_snapshot), .inr (60, .inl M_text), .inr (1, .inr v41.2.2.2.2.2)]) (st2 := [.int v43.1]) (cl2 := (cl + 1)) (sl2 := (sl + 6)) (ct_X11_storm (a1 := v42) (M_savedMany := M_savedMany) (M_isTaken := M_isTaken) (M_length := M_length) (M_thrown := M_thrown) (M_spelt := M_spelt) (M_speltMany := M_speltMany) (M_place := M_place) (M_kind := M_kind) (M_one := M_one) (M_two := M_two) (M_three := M_three) (M_begins := M_begins) (M_done := M_done) (M_stopBy := M_stopBy) (M_hash := M_hash) (M_s := M_s) (M_saved := M_saved) (M_snapshot := M_snapshot) (M_text := M_text) hv43) dL_law_460 w1240 ⟨w1241, w1242⟩ cal_X11_storm rfl ⟨⟨Nat.le_of_ble_eq_true rfl, Nat.le_of_ble_eq_true rfl⟩, (show (cl + 1) + 0 ≤ 1062 by omega), (show (sl + 6) + 0 ≤ 19011 by omega)⟩ (Nat.le_of_ble_eq_true rfl) (Or.inl ⟨_, _, _, _, rfl, rfl⟩) rfl ⟨rfl, ⟨by decide, by decide⟩, rfl, (fr_cons (Or.inl (Nat.le_of_ble_eq_true rfl)) (fr_cons (Or.inl (Nat.le_of_ble_eq_true rfl)) (fr_cons (Or.inl (Nat.le_of_ble_eq_true rfl)) (fr_cons (Or.inl (Nat.le_of_ble_eq_true rfl)) (fr_nil))))), rfl⟩ fr_i rfl rfl rfl rfl ?_
    refine V.istore (i := 6) (L' := [some (.ref 3000), some (.ref 0), some (.ref 11), some (.ref 16), some (.int p4), some (.int v41.1), some (.int v43.1), none, none]) dL_law_463 (Nat.le_of_ble_eq_true rfl) rfl rfl ?_
    refine V.aload_n (i := 2) dL_law_465 rfl rfl ?_
    obtain ⟨v44, hv44, hf⟩ := fbind hf
    refine V.callVn (pl := [11, 12, 13, 14, 15]) (σ' := [.inl (5, [.ref 1, .ref 3, .ref 6, .ref 8, .ref 9]), .inl (3, [.ref 2]), .inr (910, .inl v41.2.1), .inl (1, [.ref 4, .ref 5, .int v41.2.2.1, .int v41.2.2.2.1, .int History_snapshotTaken]), .inr (5460, .inl v41.2.2.2.2.1), .inr (910, .inl History_snapshot), .inl (0, [.ref 7, .int Buffer_size]), .inr (60, .inl Buffer_codes), .inl (2, [.ref (Reader_pattern + 1000), .int Reader_place]), .inl (4, [.ref 10, .int Word_size]), .inr (8, .inl Word_letters), .inl (6, [.ref 12, .ref 13, .int v43.2.1, .ref 14, .int M_isTaken, .ref 15, .int M_length, .int v43.2.2.1, .int M_spelt, .int M_speltMany, .int M_place, .int M_kind, .int M_one, .int M_two, .int M_three, .int M_begins, .int M_done, .int M_stopBy, .long M_hash]), .inr (406, .inl v43.2.2.2.1), .inr (2436, .inl v43.2.2.2.2), .inr (406, .inl M_snapshot), .inr (60, .inl M_text), .inr (1, .inr v41.2.2.2.2.2)]) (st2 := [.int v44]) (cl2 := (cl + 1)) (sl2 := (sl + 6)) (ct_X11_thrown (M_savedMany := v43.2.1) (M_isTaken := M_isTaken) (M_length := M_length) (M_thrown := v43.2.2.1) (M_spelt := M_spelt) (M_speltMany := M_speltMany) (M_place := M_place) (M_kind := M_kind) (M_one := M_one) (M_two := M_two) (M_three := M_three) (M_begins := M_begins) (M_done := M_done) (M_stopBy := M_stopBy) (M_hash := M_hash) (M_s := v43.2.2.2.1) (M_saved := v43.2.2.2.2) (M_snapshot := M_snapshot) (M_text := M_text) hv44) dL_law_466 w1101 ⟨w1102, w1103⟩ cal_X11_thrown rfl ⟨⟨Nat.le_of_ble_eq_true rfl, Nat.le_of_ble_eq_true rfl⟩, (show (cl + 1) + 0 ≤ 1062 by omega), (show (sl + 6) + 0 ≤ 19011 by omega)⟩ (Nat.le_of_ble_eq_true rfl) (Or.inl ⟨_, _, _, _, rfl, rfl⟩) rfl ⟨rfl, ⟨by decide, by decide⟩, rfl, (fr_cons (Or.inl (Nat.le_of_ble_eq_true rfl)) (fr_cons (Or.inl (Nat.le_of_ble_eq_true rfl)) (fr_cons (Or.inl (Nat.le_of_ble_eq_true rfl)) (fr_cons (Or.inl (Nat.le_of_ble_eq_true rfl)) (fr_nil))))), rfl⟩ fr_i rfl rfl rfl rfl ?_
    refine V.iload (i := 5) dL_law_469 rfl ?_
    refine V.icmp_eq (tgt := 476) dL_law_471 (by decide) (fun h => ?_) (fun h => ?_)
    · have hf := fif_t h hf
      refine V.iload (i := 5) dL_law_476 rfl ?_
      refine V.if_ne (tgt := 493) dL_law_478 (by decide) (fun h => ?_) (fun h => ?_)
      · have hf := fif_f h hf
        refine V.goto (tgt := 1762) dL_law_493 (by decide) ?_
        obtain rfl := Option.some.inj hf
        exact V.locs (L' := [some (.ref 3000), some (.ref 0), some (.ref 11), some (.ref 16), some (.int p4), none, none, none, none]) ⟨rfl, ⟨rfl, ⟨rfl, ⟨rfl, ⟨rfl, trivial⟩⟩⟩⟩⟩ (V.wide (by omega) (by omega) hx)
      · have hf := fif_t h hf
        refine V.aload_n (i := 3) dL_law_481 rfl rfl ?_
        refine V.iconst (v := 0) dL_law_482 rfl ?_
        obtain ⟨hi, v45, ev45, hf⟩ := fld_e hf
        refine V.fldL dL_law_483 rfl hi ev45 ?_
        refine V.iload (i := 6) dL_law_484 rfl ?_
        refine V.i2l dL_law_486 ?_
        refine V.lcmp dL_law_487 ?_
        refine V.if_eq (tgt := 493) dL_law_488 (by decide) (fun h => ?_) (fun h => ?_)
        · have hf := fif_t h hf
          refine V.goto (tgt := 1762) dL_law_493 (by decide) ?_
          obtain rfl := Option.some.inj hf
          exact V.locs (L' := [some (.ref 3000), some (.ref 0), some (.ref 11), some (.ref 16), some (.int p4), none, none, none, none]) ⟨rfl, ⟨rfl, ⟨rfl, ⟨rfl, ⟨rfl, trivial⟩⟩⟩⟩⟩ (V.wide (by omega) (by omega) hx)
        · have hf := fif_f h hf
          refine V.iconst (v := 0) dL_law_491 rfl ?_
          cases hf
    · have hf := fif_f h hf
      refine V.iconst (v := 0) dL_law_474 rfl ?_
      cases hf
def s_L_law_L496 (a0n : Nat) (a0 : Nat → Int32) (p4 : Int32) : Nat → (Nat → Int32) → (Int32) → (Int32) → (Nat → Int32) → (Int32) → (Int32) → (Nat → Int32) → (Nat → Int32) → (Nat → Int64) → Option ((Nat → Int32) × (Int32) × (Int32) × (Nat → Int32) × (Int32) × (Int32) × (Nat → Int32) × (Nat → Int32) × (Nat → Int64))
  | 0, _, _, _, _, _, _, _, _, _ => none
  | n + 1, State_cells, History_oldest, History_size, History_saved, M_savedMany, M_thrown, M_s, M_saved, out => fld a0n a0 (p4 + 1) fun v47 => fld a0n a0 (p4 + 2) fun v48 => (s_L_belt v47 v48 State_cells History_oldest History_size History_saved out).bind fun v49 => fld a0n a0 (p4 + 1) fun v50 => fld a0n a0 (p4 + 2) fun v51 => (s_X11_belt v50 v51 M_savedMany M_thrown M_s M_saved).bind fun v52 => (s_X11_thrown v52.2.2.1).bind fun v53 => if (v53 = v49.1 : Prop) then (if (v49.1 = 0 : Prop) then (fld 1 v49.2.2.2.2.2 0 fun v54 => if ((lg_cmp v54 (Int32.toInt64 v52.1)) = 0 : Prop) then (some (v49.2.1, v49.2.2.1, v49.2.2.2.1, v49.2.2.2.2.1, v52.2.1, v52.2.2.1, v52.2.2.2.1, v52.2.2.2.2, v49.2.2.2.2.2)) else (none)) else (some (v49.2.1, v49.2.2.1, v49.2.2.2.1, v49.2.2.2.2.1, v52.2.1, v52.2.2.1, v52.2.2.2.1, v52.2.2.2.2, v49.2.2.2.2.2))) else (none)
set_option maxHeartbeats 4000000 in
set_option maxRecDepth 100000 in
theorem v_L_law_L496 {a0n : Nat} {a0 : Nat → Int32} {p4 : Int32} {History_snapshotTaken : Int32} {History_snapshot : Nat → Int32} {Buffer_size : Int32} {Buffer_codes : Nat → Int32} {Reader_pattern : Nat} {Reader_place : Int32} {Word_size : Int32} {Word_letters : Nat → Int32} {M_isTaken : Int32} {M_length : Int32} {M_spelt : Int32} {M_speltMany : Int32} {M_place : Int32} {M_kind : Int32} {M_one : Int32} {M_two : Int32} {M_three : Int32} {M_begins : Int32} {M_done : Int32} {M_stopBy : Int32} {M_hash : Int64} {M_snapshot : Nat → Int32} {M_text : Nat → Int32} : ∀ (n : Nat) {State_cells : (Nat → Int32)} {History_oldest : (Int32)} {History_size : (Int32)} {History_saved : (Nat → Int32)} {M_savedMany : (Int32)} {M_thrown : (Int32)} {M_s : (Nat → Int32)} {M_saved : (Nat → Int32)} {out : (Nat → Int64)} {res : (Nat → Int32) × (Int32) × (Int32) × (Nat → Int32) × (Int32) × (Int32) × (Nat → Int32) × (Nat → Int32) × (Nat → Int64)} (hf : s_L_law_L496 a0n a0 p4 n State_cells History_oldest History_size History_saved M_savedMany M_thrown M_s M_saved out = some res) {cl sl : Nat} (hc : cl + 1 ≤ 1062) (hs : sl + 6 ≤ 19011) (hx : V (fXlaw a0n a0) room_1 k_L_law 0 1762 [some (.ref 3000), some (.ref 0), some (.ref 11), some (.ref 16), some (.int p4), none, none, none, none] [] [.inl (5, [.ref 1, .ref 3, .ref 6, .ref 8, .ref 9]), .inl (3, [.ref 2]), .inr (910, .inl res.1), .inl (1, [.ref 4, .ref 5, .int res.2.1, .int res.2.2.1, .int History_snapshotTaken]), .inr (5460, .inl res.2.2.2.1), .inr (910, .inl History_snapshot), .inl (0, [.ref 7, .int Buffer_size]), .inr (60, .inl Buffer_codes), .inl (2, [.ref (Reader_pattern + 1000), .int Reader_place]), .inl (4, [.ref 10, .int Word_size]), .inr (8, .inl Word_letters), .inl (6, [.ref 12, .ref 13, .int res.2.2.2.2.1, .ref 14, .int M_isTaken, .ref 15, .int M_length, .int res.2.2.2.2.2.1, .int M_spelt, .int M_speltMany, .int M_place, .int M_kind, .int M_one, .int M_two, .int M_three, .int M_begins, .int M_done, .int M_stopBy, .long M_hash]), .inr (406, .inl res.2.2.2.2.2.2.1), .inr (2436, .inl res.2.2.2.2.2.2.2.1), .inr (406, .inl M_snapshot), .inr (60, .inl M_text), .inr (1, .inr res.2.2.2.2.2.2.2.2)] (cl + 1) (sl + 6)), V (fXlaw a0n a0) room_1 k_L_law 0 496 [some (.ref 3000), some (.ref 0), some (.ref 11), some (.ref 16), some (.int p4), none, none, none, none] [] [.inl (5, [.ref 1, .ref 3, .ref 6, .ref 8, .ref 9]), .inl (3, [.ref 2]), .inr (910, .inl State_cells), .inl (1, [.ref 4, .ref 5, .int History_oldest, .int History_size, .int History_snapshotTaken]), .inr (5460, .inl History_saved), .inr (910, .inl History_snapshot), .inl (0, [.ref 7, .int Buffer_size]), .inr (60, .inl Buffer_codes), .inl (2, [.ref (Reader_pattern + 1000), .int Reader_place]), .inl (4, [.ref 10, .int Word_size]), .inr (8, .inl Word_letters), .inl (6, [.ref 12, .ref 13, .int M_savedMany, .ref 14, .int M_isTaken, .ref 15, .int M_length, .int M_thrown, .int M_spelt, .int M_speltMany, .int M_place, .int M_kind, .int M_one, .int M_two, .int M_three, .int M_begins, .int M_done, .int M_stopBy, .long M_hash]), .inr (406, .inl M_s), .inr (2436, .inl M_saved), .inr (406, .inl M_snapshot), .inr (60, .inl M_text), .inr (1, .inr out)] cl sl := by
  intro n
  induction n with
  | zero =>
    intro State_cells History_oldest History_size History_saved M_savedMany M_thrown M_s M_saved out res hf cl sl hc hs hx
    rw [s_L_law_L496] at hf
    cases hf
  | succ n ih =>
    intro State_cells History_oldest History_size History_saved M_savedMany M_thrown M_s M_saved out res hf cl sl hc hs hx
    rw [s_L_law_L496] at hf
    refine V.aload_n (i := 1) dL_law_496 rfl rfl ?_
    refine V.aload_n (i := 0) dL_law_497 rfl rfl ?_
    refine V.iload (i := 4) dL_law_498 rfl ?_
    refine V.iconst (v := 1) dL_law_500 rfl ?_
    refine V.iadd dL_law_501 ?_
    obtain ⟨hi, v47, ev47, hf⟩ := fld_e hf
    refine V.sload dL_law_502 hi ?_
    refine V.cgi ev47 ?_
    refine V.aload_n (i := 0) dL_law_503 rfl rfl ?_
    refine V.iload (i := 4) dL_law_504 rfl ?_
    refine V.iconst (v := 2) dL_law_506 rfl ?_
    refine V.iadd dL_law_507 ?_
    obtain ⟨hi, v48, ev48, hf⟩ := fld_e hf
    refine V.sload dL_law_508 hi ?_
    refine V.cgi ev48 ?_
    refine V.aload_n (i := 3) dL_law_509 rfl rfl ?_
    obtain ⟨v49, hv49, hf⟩ := fbind hf
    refine V.callSn (pl := [0, 1, 2, 3, 4, 5, 6, 7, 8, 9, 10, 16]) (σ' := [.inl (5, [.ref 1, .ref 3, .ref 6, .ref 8, .ref 9]), .inl (3, [.ref 2]), .inr (910, .inl v49.2.1), .inl (1, [.ref 4, .ref 5, .int v49.2.2.1, .int v49.2.2.2.1, .int History_snapshotTaken]), .inr (5460, .inl v49.2.2.2.2.1), .inr (910, .inl History_snapshot), .inl (0, [.ref 7, .int Buffer_size]), .inr (60, .inl Buffer_codes), .inl (2, [.ref (Reader_pattern + 1000), .int Reader_place]), .inl (4, [.ref 10, .int Word_size]), .inr (8, .inl Word_letters), .inl (6, [.ref 12, .ref 13, .int M_savedMany, .ref 14, .int M_isTaken, .ref 15, .int M_length, .int M_thrown, .int M_spelt, .int M_speltMany, .int M_place, .int M_kind, .int M_one, .int M_two, .int M_three, .int M_begins, .int M_done, .int M_stopBy, .long M_hash]), .inr (406, .inl M_s), .inr (2436, .inl M_saved), .inr (406, .inl M_snapshot), .inr (60, .inl M_text), .inr (1, .inr v49.2.2.2.2.2)]) (st2 := [.int v49.1]) (cl2 := (cl + 1)) (sl2 := (sl + 6)) (ct_L_belt (a1 := v47) (a2 := v48) (State_cells := State_cells) (History_oldest := History_oldest) (History_size := History_size) (History_snapshotTaken := History_snapshotTaken) (History_saved := History_saved) (History_snapshot := History_snapshot) (Buffer_size := Buffer_size) (Buffer_codes := Buffer_codes) (Reader_pattern := Reader_pattern) (Reader_place := Reader_place) (Word_size := Word_size) (Word_letters := Word_letters) (out3 := out) hv49) dL_law_510 w758 w759 cal_L_belt ⟨⟨Nat.le_of_ble_eq_true rfl, Nat.le_of_ble_eq_true rfl⟩, (show cl + 1 ≤ 1062 by omega), (show sl + 6 ≤ 19011 by omega)⟩ (Nat.le_of_ble_eq_true rfl) rfl ⟨rfl, ⟨by decide, by decide⟩, rfl, (fr_cons (Or.inl (Nat.le_of_ble_eq_true rfl)) (fr_cons (Or.inl (Nat.le_of_ble_eq_true rfl)) (fr_cons (Or.inl (Nat.le_of_ble_eq_true rfl)) (fr_cons (Or.inl (Nat.le_of_ble_eq_true rfl)) (fr_cons (Or.inl (Nat.le_of_ble_eq_true rfl)) (fr_cons (Or.inl (Nat.le_of_ble_eq_true rfl)) (fr_cons (Or.inl (Nat.le_of_ble_eq_true rfl)) (fr_cons (Or.inl (Nat.le_of_ble_eq_true rfl)) (fr_cons (Or.inl (Nat.le_of_ble_eq_true rfl)) (fr_cons (Or.inr (Nat.le_add_left 1000 _)) (fr_cons (Or.inl (Nat.le_of_ble_eq_true rfl)) (fr_nil)))))))))))), rfl⟩ fr_i rfl rfl rfl rfl ?_
    refine V.istore (i := 5) (L' := [some (.ref 3000), some (.ref 0), some (.ref 11), some (.ref 16), some (.int p4), some (.int v49.1), none, none, none]) dL_law_513 (Nat.le_of_ble_eq_true rfl) rfl rfl ?_
    refine V.aload_n (i := 2) dL_law_515 rfl rfl ?_
    refine V.aload_n (i := 0) dL_law_516 rfl rfl ?_
    refine V.iload (i := 4) dL_law_517 rfl ?_
    refine V.iconst (v := 1) dL_law_519 rfl ?_
    refine V.iadd dL_law_520 ?_
    obtain ⟨hi, v50, ev50, hf⟩ := fld_e hf
    refine V.sload dL_law_521 hi ?_
    refine V.cgi ev50 ?_
    refine V.aload_n (i := 0) dL_law_522 rfl rfl ?_
    refine V.iload (i := 4) dL_law_523 rfl ?_
    refine V.iconst (v := 2) dL_law_525 rfl ?_
    refine V.iadd dL_law_526 ?_
    obtain ⟨hi, v51, ev51, hf⟩ := fld_e hf
    refine V.sload dL_law_527 hi ?_
    refine V.cgi ev51 ?_
    obtain ⟨v52, hv52, hf⟩ := fbind hf
    refine V.callVn (pl := [11, 12, 13, 14, 15]) (σ' := [.inl (5, [.ref 1, .ref 3, .ref 6, .ref 8, .ref 9]), .inl (3, [.ref 2]), .inr (910, .inl v49.2.1), .inl (1, [.ref 4, .ref 5, .int v49.2.2.1, .int v49.2.2.2.1, .int History_snapshotTaken]), .inr (5460, .inl v49.2.2.2.2.1), .inr (910, .inl History_snapshot), .inl (0, [.ref 7, .int Buffer_size]), .inr (60, .inl Buffer_codes), .inl (2, [.ref (Reader_pattern + 1000), .int Reader_place]), .inl (4, [.ref 10, .int Word_size]), .inr (8, .inl Word_letters), .inl (6, [.ref 12, .ref 13, .int v52.2.1, .ref 14, .int M_isTaken, .ref 15, .int M_length, .int v52.2.2.1, .int M_spelt, .int M_speltMany, .int M_place, .int M_kind, .int M_one, .int M_two, .int M_three, .int M_begins, .int M_done, .int M_stopBy, .long M_hash]), .inr (406, .inl v52.2.2.2.1), .inr (2436, .inl v52.2.2.2.2), .inr (406, .inl M_snapshot), .inr (60, .inl M_text), .inr (1, .inr v49.2.2.2.2.2)]) (st2 := [.int v52.1]) (cl2 := (cl + 1)) (sl2 := (sl + 6)) (ct_X11_belt (a1 := v50) (a2 := v51) (M_savedMany := M_savedMany) (M_isTaken := M_isTaken) (M_length := M_length) (M_thrown := M_thrown) (M_spelt := M_spelt) (M_speltMany := M_speltMany) (M_place := M_place) (M_kind := M_kind) (M_one := M_one) (M_two := M_two) (M_three := M_three) (M_begins := M_begins) (M_done := M_done) (M_stopBy := M_stopBy) (M_hash := M_hash) (M_s := M_s) (M_saved := M_saved) (M_snapshot := M_snapshot) (M_text := M_text) hv52) dL_law_528 w1259 ⟨w1260, w1261⟩ cal_X11_belt rfl ⟨⟨Nat.le_of_ble_eq_true rfl, Nat.le_of_ble_eq_true rfl⟩, (show (cl + 1) + 0 ≤ 1062 by omega), (show (sl + 6) + 0 ≤ 19011 by omega)⟩ (Nat.le_of_ble_eq_true rfl) (Or.inl ⟨_, _, _, _, rfl, rfl⟩) rfl ⟨rfl, ⟨by decide, by decide⟩, rfl, (fr_cons (Or.inl (Nat.le_of_ble_eq_true rfl)) (fr_cons (Or.inl (Nat.le_of_ble_eq_true rfl)) (fr_cons (Or.inl (Nat.le_of_ble_eq_true rfl)) (fr_cons (Or.inl (Nat.le_of_ble_eq_true rfl)) (fr_nil))))), rfl⟩ fr_i rfl rfl rfl rfl ?_
    refine V.istore (i := 6) (L' := [some (.ref 3000), some (.ref 0), some (.ref 11), some (.ref 16), some (.int p4), some (.int v49.1), some (.int v52.1), none, none]) dL_law_531 (Nat.le_of_ble_eq_true rfl) rfl rfl ?_
    refine V.aload_n (i := 2) dL_law_533 rfl rfl ?_
    obtain ⟨v53, hv53, hf⟩ := fbind hf
    refine V.callVn (pl := [11, 12, 13, 14, 15]) (σ' := [.inl (5, [.ref 1, .ref 3, .ref 6, .ref 8, .ref 9]), .inl (3, [.ref 2]), .inr (910, .inl v49.2.1), .inl (1, [.ref 4, .ref 5, .int v49.2.2.1, .int v49.2.2.2.1, .int History_snapshotTaken]), .inr (5460, .inl v49.2.2.2.2.1), .inr (910, .inl History_snapshot), .inl (0, [.ref 7, .int Buffer_size]), .inr (60, .inl Buffer_codes), .inl (2, [.ref (Reader_pattern + 1000), .int Reader_place]), .inl (4, [.ref 10, .int Word_size]), .inr (8, .inl Word_letters), .inl (6, [.ref 12, .ref 13, .int v52.2.1, .ref 14, .int M_isTaken, .ref 15, .int M_length, .int v52.2.2.1, .int M_spelt, .int M_speltMany, .int M_place, .int M_kind, .int M_one, .int M_two, .int M_three, .int M_begins, .int M_done, .int M_stopBy, .long M_hash]), .inr (406, .inl v52.2.2.2.1), .inr (2436, .inl v52.2.2.2.2), .inr (406, .inl M_snapshot), .inr (60, .inl M_text), .inr (1, .inr v49.2.2.2.2.2)]) (st2 := [.int v53]) (cl2 := (cl + 1)) (sl2 := (sl + 6)) (ct_X11_thrown (M_savedMany := v52.2.1) (M_isTaken := M_isTaken) (M_length := M_length) (M_thrown := v52.2.2.1) (M_spelt := M_spelt) (M_speltMany := M_speltMany) (M_place := M_place) (M_kind := M_kind) (M_one := M_one) (M_two := M_two) (M_three := M_three) (M_begins := M_begins) (M_done := M_done) (M_stopBy := M_stopBy) (M_hash := M_hash) (M_s := v52.2.2.2.1) (M_saved := v52.2.2.2.2) (M_snapshot := M_snapshot) (M_text := M_text) hv53) dL_law_534 w1101 ⟨w1102, w1103⟩ cal_X11_thrown rfl ⟨⟨Nat.le_of_ble_eq_true rfl, Nat.le_of_ble_eq_true rfl⟩, (show (cl + 1) + 0 ≤ 1062 by omega), (show (sl + 6) + 0 ≤ 19011 by omega)⟩ (Nat.le_of_ble_eq_true rfl) (Or.inl ⟨_, _, _, _, rfl, rfl⟩) rfl ⟨rfl, ⟨by decide, by decide⟩, rfl, (fr_cons (Or.inl (Nat.le_of_ble_eq_true rfl)) (fr_cons (Or.inl (Nat.le_of_ble_eq_true rfl)) (fr_cons (Or.inl (Nat.le_of_ble_eq_true rfl)) (fr_cons (Or.inl (Nat.le_of_ble_eq_true rfl)) (fr_nil))))), rfl⟩ fr_i rfl rfl rfl rfl ?_
    refine V.iload (i := 5) dL_law_537 rfl ?_
    refine V.icmp_eq (tgt := 544) dL_law_539 (by decide) (fun h => ?_) (fun h => ?_)
    · have hf := fif_t h hf
      refine V.iload (i := 5) dL_law_544 rfl ?_
      refine V.if_ne (tgt := 561) dL_law_546 (by decide) (fun h => ?_) (fun h => ?_)
      · have hf := fif_f h hf
        refine V.goto (tgt := 1762) dL_law_561 (by decide) ?_
        obtain rfl := Option.some.inj hf
        exact V.locs (L' := [some (.ref 3000), some (.ref 0), some (.ref 11), some (.ref 16), some (.int p4), none, none, none, none]) ⟨rfl, ⟨rfl, ⟨rfl, ⟨rfl, ⟨rfl, trivial⟩⟩⟩⟩⟩ (V.wide (by omega) (by omega) hx)
      · have hf := fif_t h hf
        refine V.aload_n (i := 3) dL_law_549 rfl rfl ?_
        refine V.iconst (v := 0) dL_law_550 rfl ?_
        obtain ⟨hi, v54, ev54, hf⟩ := fld_e hf
        refine V.fldL dL_law_551 rfl hi ev54 ?_
        refine V.iload (i := 6) dL_law_552 rfl ?_
        refine V.i2l dL_law_554 ?_
        refine V.lcmp dL_law_555 ?_
        refine V.if_eq (tgt := 561) dL_law_556 (by decide) (fun h => ?_) (fun h => ?_)
        · have hf := fif_t h hf
          refine V.goto (tgt := 1762) dL_law_561 (by decide) ?_
          obtain rfl := Option.some.inj hf
          exact V.locs (L' := [some (.ref 3000), some (.ref 0), some (.ref 11), some (.ref 16), some (.int p4), none, none, none, none]) ⟨rfl, ⟨rfl, ⟨rfl, ⟨rfl, ⟨rfl, trivial⟩⟩⟩⟩⟩ (V.wide (by omega) (by omega) hx)
        · have hf := fif_f h hf
          refine V.iconst (v := 0) dL_law_559 rfl ?_
          cases hf
    · have hf := fif_f h hf
      refine V.iconst (v := 0) dL_law_542 rfl ?_
      cases hf
def s_L_law_L564 (a0n : Nat) (a0 : Nat → Int32) (p4 : Int32) : Nat → (Nat → Int32) → (Int32) → (Int32) → (Nat → Int32) → (Int32) → (Int32) → (Nat → Int32) → (Nat → Int32) → (Nat → Int64) → Option ((Nat → Int32) × (Int32) × (Int32) × (Nat → Int32) × (Int32) × (Int32) × (Nat → Int32) × (Nat → Int32) × (Nat → Int64))
  | 0, _, _, _, _, _, _, _, _, _ => none
  | n + 1, State_cells, History_oldest, History_size, History_saved, M_savedMany, M_thrown, M_s, M_saved, out => fld a0n a0 (p4 + 1) fun v56 => fld a0n a0 (p4 + 2) fun v57 => (s_L_set v56 v57 State_cells History_oldest History_size History_saved out).bind fun v58 => fld a0n a0 (p4 + 1) fun v59 => fld a0n a0 (p4 + 2) fun v60 => (s_X11_set v59 v60 M_savedMany M_thrown M_s M_saved).bind fun v61 => (s_X11_thrown v61.2.2.1).bind fun v62 => if (v62 = v58.1 : Prop) then (if (v58.1 = 0 : Prop) then (fld 1 v58.2.2.2.2.2 0 fun v63 => if ((lg_cmp v63 (Int32.toInt64 v61.1)) = 0 : Prop) then (some (v58.2.1, v58.2.2.1, v58.2.2.2.1, v58.2.2.2.2.1, v61.2.1, v61.2.2.1, v61.2.2.2.1, v61.2.2.2.2, v58.2.2.2.2.2)) else (none)) else (some (v58.2.1, v58.2.2.1, v58.2.2.2.1, v58.2.2.2.2.1, v61.2.1, v61.2.2.1, v61.2.2.2.1, v61.2.2.2.2, v58.2.2.2.2.2))) else (none)
set_option maxHeartbeats 4000000 in
set_option maxRecDepth 100000 in
theorem v_L_law_L564 {a0n : Nat} {a0 : Nat → Int32} {p4 : Int32} {History_snapshotTaken : Int32} {History_snapshot : Nat → Int32} {Buffer_size : Int32} {Buffer_codes : Nat → Int32} {Reader_pattern : Nat} {Reader_place : Int32} {Word_size : Int32} {Word_letters : Nat → Int32} {M_isTaken : Int32} {M_length : Int32} {M_spelt : Int32} {M_speltMany : Int32} {M_place : Int32} {M_kind : Int32} {M_one : Int32} {M_two : Int32} {M_three : Int32} {M_begins : Int32} {M_done : Int32} {M_stopBy : Int32} {M_hash : Int64} {M_snapshot : Nat → Int32} {M_text : Nat → Int32} : ∀ (n : Nat) {State_cells : (Nat → Int32)} {History_oldest : (Int32)} {History_size : (Int32)} {History_saved : (Nat → Int32)} {M_savedMany : (Int32)} {M_thrown : (Int32)} {M_s : (Nat → Int32)} {M_saved : (Nat → Int32)} {out : (Nat → Int64)} {res : (Nat → Int32) × (Int32) × (Int32) × (Nat → Int32) × (Int32) × (Int32) × (Nat → Int32) × (Nat → Int32) × (Nat → Int64)} (hf : s_L_law_L564 a0n a0 p4 n State_cells History_oldest History_size History_saved M_savedMany M_thrown M_s M_saved out = some res) {cl sl : Nat} (hc : cl + 1 ≤ 1062) (hs : sl + 6 ≤ 19011) (hx : V (fXlaw a0n a0) room_1 k_L_law 0 1762 [some (.ref 3000), some (.ref 0), some (.ref 11), some (.ref 16), some (.int p4), none, none, none, none] [] [.inl (5, [.ref 1, .ref 3, .ref 6, .ref 8, .ref 9]), .inl (3, [.ref 2]), .inr (910, .inl res.1), .inl (1, [.ref 4, .ref 5, .int res.2.1, .int res.2.2.1, .int History_snapshotTaken]), .inr (5460, .inl res.2.2.2.1), .inr (910, .inl History_snapshot), .inl (0, [.ref 7, .int Buffer_size]), .inr (60, .inl Buffer_codes), .inl (2, [.ref (Reader_pattern + 1000), .int Reader_place]), .inl (4, [.ref 10, .int Word_size]), .inr (8, .inl Word_letters), .inl (6, [.ref 12, .ref 13, .int res.2.2.2.2.1, .ref 14, .int M_isTaken, .ref 15, .int M_length, .int res.2.2.2.2.2.1, .int M_spelt, .int M_speltMany, .int M_place, .int M_kind, .int M_one, .int M_two, .int M_three, .int M_begins, .int M_done, .int M_stopBy, .long M_hash]), .inr (406, .inl res.2.2.2.2.2.2.1), .inr (2436, .inl res.2.2.2.2.2.2.2.1), .inr (406, .inl M_snapshot), .inr (60, .inl M_text), .inr (1, .inr res.2.2.2.2.2.2.2.2)] (cl + 1) (sl + 6)), V (fXlaw a0n a0) room_1 k_L_law 0 564 [some (.ref 3000), some (.ref 0), some (.ref 11), some (.ref 16), some (.int p4), none, none, none, none] [] [.inl (5, [.ref 1, .ref 3, .ref 6, .ref 8, .ref 9]), .inl (3, [.ref 2]), .inr (910, .inl State_cells), .inl (1, [.ref 4, .ref 5, .int History_oldest, .int History_size, .int History_snapshotTaken]), .inr (5460, .inl History_saved), .inr (910, .inl History_snapshot), .inl (0, [.ref 7, .int Buffer_size]), .inr (60, .inl Buffer_codes), .inl (2, [.ref (Reader_pattern + 1000), .int Reader_place]), .inl (4, [.ref 10, .int Word_size]), .inr (8, .inl Word_letters), .inl (6, [.ref 12, .ref 13, .int M_savedMany, .ref 14, .int M_isTaken, .ref 15, .int M_length, .int M_thrown, .int M_spelt, .int M_speltMany, .int M_place, .int M_kind, .int M_one, .int M_two, .int M_three, .int M_begins, .int M_done, .int M_stopBy, .long M_hash]), .inr (406, .inl M_s), .inr (2436, .inl M_saved), .inr (406, .inl M_snapshot), .inr (60, .inl M_text), .inr (1, .inr out)] cl sl := by
  intro n
  induction n with
  | zero =>
    intro State_cells History_oldest History_size History_saved M_savedMany M_thrown M_s M_saved out res hf cl sl hc hs hx
    rw [s_L_law_L564] at hf
    cases hf
  | succ n ih =>
    intro State_cells History_oldest History_size History_saved M_savedMany M_thrown M_s M_saved out res hf cl sl hc hs hx
    rw [s_L_law_L564] at hf
    refine V.aload_n (i := 1) dL_law_564 rfl rfl ?_
    refine V.aload_n (i := 0) dL_law_565 rfl rfl ?_
    refine V.iload (i := 4) dL_law_566 rfl ?_
    refine V.iconst (v := 1) dL_law_568 rfl ?_
    refine V.iadd dL_law_569 ?_
    obtain ⟨hi, v56, ev56, hf⟩ := fld_e hf
    refine V.sload dL_law_570 hi ?_
    refine V.cgi ev56 ?_
    refine V.aload_n (i := 0) dL_law_571 rfl rfl ?_
    refine V.iload (i := 4) dL_law_572 rfl ?_
    refine V.iconst (v := 2) dL_law_574 rfl ?_
    refine V.iadd dL_law_575 ?_
    obtain ⟨hi, v57, ev57, hf⟩ := fld_e hf
    refine V.sload dL_law_576 hi ?_
    refine V.cgi ev57 ?_
    refine V.aload_n (i := 3) dL_law_577 rfl rfl ?_
    obtain ⟨v58, hv58, hf⟩ := fbind hf
    refine V.callSn (pl := [0, 1, 2, 3, 4, 5, 6, 7, 8, 9, 10, 16]) (σ' := [.inl (5, [.ref 1, .ref 3, .ref 6, .ref 8, .ref 9]), .inl (3, [.ref 2]), .inr (910, .inl v58.2.1), .inl (1, [.ref 4, .ref 5, .int v58.2.2.1, .int v58.2.2.2.1, .int History_snapshotTaken]), .inr (5460, .inl v58.2.2.2.2.1), .inr (910, .inl History_snapshot), .inl (0, [.ref 7, .int Buffer_size]), .inr (60, .inl Buffer_codes), .inl (2, [.ref (Reader_pattern + 1000), .int Reader_place]), .inl (4, [.ref 10, .int Word_size]), .inr (8, .inl Word_letters), .inl (6, [.ref 12, .ref 13, .int M_savedMany, .ref 14, .int M_isTaken, .ref 15, .int M_length, .int M_thrown, .int M_spelt, .int M_speltMany, .int M_place, .int M_kind, .int M_one, .int M_two, .int M_three, .int M_begins, .int M_done, .int M_stopBy, .long M_hash]), .inr (406, .inl M_s), .inr (2436, .inl M_saved), .inr (406, .inl M_snapshot), .inr (60, .inl M_text), .inr (1, .inr v58.2.2.2.2.2)]) (st2 := [.int v58.1]) (cl2 := (cl + 1)) (sl2 := (sl + 6)) (ct_L_set (a1 := v56) (a2 := v57) (State_cells := State_cells) (History_oldest := History_oldest) (History_size := History_size) (History_snapshotTaken := History_snapshotTaken) (History_saved := History_saved) (History_snapshot := History_snapshot) (Buffer_size := Buffer_size) (Buffer_codes := Buffer_codes) (Reader_pattern := Reader_pattern) (Reader_place := Reader_place) (Word_size := Word_size) (Word_letters := Word_letters) (out3 := out) hv58) dL_law_578 w770 w771 cal_L_set ⟨⟨Nat.le_of_ble_eq_true rfl, Nat.le_of_ble_eq_true rfl⟩, (show cl + 1 ≤ 1062 by omega), (show sl + 6 ≤ 19011 by omega)⟩ (Nat.le_of_ble_eq_true rfl) rfl ⟨rfl, ⟨by decide, by decide⟩, rfl, (fr_cons (Or.inl (Nat.le_of_ble_eq_true rfl)) (fr_cons (Or.inl (Nat.le_of_ble_eq_true rfl)) (fr_cons (Or.inl (Nat.le_of_ble_eq_true rfl)) (fr_cons (Or.inl (Nat.le_of_ble_eq_true rfl)) (fr_cons (Or.inl (Nat.le_of_ble_eq_true rfl)) (fr_cons (Or.inl (Nat.le_of_ble_eq_true rfl)) (fr_cons (Or.inl (Nat.le_of_ble_eq_true rfl)) (fr_cons (Or.inl (Nat.le_of_ble_eq_true rfl)) (fr_cons (Or.inl (Nat.le_of_ble_eq_true rfl)) (fr_cons (Or.inr (Nat.le_add_left 1000 _)) (fr_cons (Or.inl (Nat.le_of_ble_eq_true rfl)) (fr_nil)))))))))))), rfl⟩ fr_i rfl rfl rfl rfl ?_
    refine V.istore (i := 5) (L' := [some (.ref 3000), some (.ref 0), some (.ref 11), some (.ref 16), some (.int p4), some (.int v58.1), none, none, none]) dL_law_581 (Nat.le_of_ble_eq_true rfl) rfl rfl ?_
    refine V.aload_n (i := 2) dL_law_583 rfl rfl ?_
    refine V.aload_n (i := 0) dL_law_584 rfl rfl ?_
    refine V.iload (i := 4) dL_law_585 rfl ?_
    refine V.iconst (v := 1) dL_law_587 rfl ?_
    refine V.iadd dL_law_588 ?_
    obtain ⟨hi, v59, ev59, hf⟩ := fld_e hf
    refine V.sload dL_law_589 hi ?_
    refine V.cgi ev59 ?_
    refine V.aload_n (i := 0) dL_law_590 rfl rfl ?_
    refine V.iload (i := 4) dL_law_591 rfl ?_
    refine V.iconst (v := 2) dL_law_593 rfl ?_
    refine V.iadd dL_law_594 ?_
    obtain ⟨hi, v60, ev60, hf⟩ := fld_e hf
    refine V.sload dL_law_595 hi ?_
    refine V.cgi ev60 ?_
    obtain ⟨v61, hv61, hf⟩ := fbind hf
    refine V.callVn (pl := [11, 12, 13, 14, 15]) (σ' := [.inl (5, [.ref 1, .ref 3, .ref 6, .ref 8, .ref 9]), .inl (3, [.ref 2]), .inr (910, .inl v58.2.1), .inl (1, [.ref 4, .ref 5, .int v58.2.2.1, .int v58.2.2.2.1, .int History_snapshotTaken]), .inr (5460, .inl v58.2.2.2.2.1), .inr (910, .inl History_snapshot), .inl (0, [.ref 7, .int Buffer_size]), .inr (60, .inl Buffer_codes), .inl (2, [.ref (Reader_pattern + 1000), .int Reader_place]), .inl (4, [.ref 10, .int Word_size]), .inr (8, .inl Word_letters), .inl (6, [.ref 12, .ref 13, .int v61.2.1, .ref 14, .int M_isTaken, .ref 15, .int M_length, .int v61.2.2.1, .int M_spelt, .int M_speltMany, .int M_place, .int M_kind, .int M_one, .int M_two, .int M_three, .int M_begins, .int M_done, .int M_stopBy, .long M_hash]), .inr (406, .inl v61.2.2.2.1), .inr (2436, .inl v61.2.2.2.2), .inr (406, .inl M_snapshot), .inr (60, .inl M_text), .inr (1, .inr v58.2.2.2.2.2)]) (st2 := [.int v61.1]) (cl2 := (cl + 1)) (sl2 := (sl + 6)) (ct_X11_set (a1 := v59) (a2 := v60) (M_savedMany := M_savedMany) (M_isTaken := M_isTaken) (M_length := M_length) (M_thrown := M_thrown) (M_spelt := M_spelt) (M_speltMany := M_speltMany) (M_place := M_place) (M_kind := M_kind) (M_one := M_one) (M_two := M_two) (M_three := M_three) (M_begins := M_begins) (M_done := M_done) (M_stopBy := M_stopBy) (M_hash := M_hash) (M_s := M_s) (M_saved := M_saved) (M_snapshot := M_snapshot) (M_text := M_text) hv61) dL_law_596 w1263 ⟨w1264, w1265⟩ cal_X11_set rfl ⟨⟨Nat.le_of_ble_eq_true rfl, Nat.le_of_ble_eq_true rfl⟩, (show (cl + 1) + 0 ≤ 1062 by omega), (show (sl + 6) + 0 ≤ 19011 by omega)⟩ (Nat.le_of_ble_eq_true rfl) (Or.inl ⟨_, _, _, _, rfl, rfl⟩) rfl ⟨rfl, ⟨by decide, by decide⟩, rfl, (fr_cons (Or.inl (Nat.le_of_ble_eq_true rfl)) (fr_cons (Or.inl (Nat.le_of_ble_eq_true rfl)) (fr_cons (Or.inl (Nat.le_of_ble_eq_true rfl)) (fr_cons (Or.inl (Nat.le_of_ble_eq_true rfl)) (fr_nil))))), rfl⟩ fr_i rfl rfl rfl rfl ?_
    refine V.istore (i := 6) (L' := [some (.ref 3000), some (.ref 0), some (.ref 11), some (.ref 16), some (.int p4), some (.int v58.1), some (.int v61.1), none, none]) dL_law_599 (Nat.le_of_ble_eq_true rfl) rfl rfl ?_
    refine V.aload_n (i := 2) dL_law_601 rfl rfl ?_
    obtain ⟨v62, hv62, hf⟩ := fbind hf
    refine V.callVn (pl := [11, 12, 13, 14, 15]) (σ' := [.inl (5, [.ref 1, .ref 3, .ref 6, .ref 8, .ref 9]), .inl (3, [.ref 2]), .inr (910, .inl v58.2.1), .inl (1, [.ref 4, .ref 5, .int v58.2.2.1, .int v58.2.2.2.1, .int History_snapshotTaken]), .inr (5460, .inl v58.2.2.2.2.1), .inr (910, .inl History_snapshot), .inl (0, [.ref 7, .int Buffer_size]), .inr (60, .inl Buffer_codes), .inl (2, [.ref (Reader_pattern + 1000), .int Reader_place]), .inl (4, [.ref 10, .int Word_size]), .inr (8, .inl Word_letters), .inl (6, [.ref 12, .ref 13, .int v61.2.1, .ref 14, .int M_isTaken, .ref 15, .int M_length, .int v61.2.2.1, .int M_spelt, .int M_speltMany, .int M_place, .int M_kind, .int M_one, .int M_two, .int M_three, .int M_begins, .int M_done, .int M_stopBy, .long M_hash]), .inr (406, .inl v61.2.2.2.1), .inr (2436, .inl v61.2.2.2.2), .inr (406, .inl M_snapshot), .inr (60, .inl M_text), .inr (1, .inr v58.2.2.2.2.2)]) (st2 := [.int v62]) (cl2 := (cl + 1)) (sl2 := (sl + 6)) (ct_X11_thrown (M_savedMany := v61.2.1) (M_isTaken := M_isTaken) (M_length := M_length) (M_thrown := v61.2.2.1) (M_spelt := M_spelt) (M_speltMany := M_speltMany) (M_place := M_place) (M_kind := M_kind) (M_one := M_one) (M_two := M_two) (M_three := M_three) (M_begins := M_begins) (M_done := M_done) (M_stopBy := M_stopBy) (M_hash := M_hash) (M_s := v61.2.2.2.1) (M_saved := v61.2.2.2.2) (M_snapshot := M_snapshot) (M_text := M_text) hv62) dL_law_602 w1101 ⟨w1102, w1103⟩ cal_X11_thrown rfl ⟨⟨Nat.le_of_ble_eq_true rfl, Nat.le_of_ble_eq_true rfl⟩, (show (cl + 1) + 0 ≤ 1062 by omega), (show (sl + 6) + 0 ≤ 19011 by omega)⟩ (Nat.le_of_ble_eq_true rfl) (Or.inl ⟨_, _, _, _, rfl, rfl⟩) rfl ⟨rfl, ⟨by decide, by decide⟩, rfl, (fr_cons (Or.inl (Nat.le_of_ble_eq_true rfl)) (fr_cons (Or.inl (Nat.le_of_ble_eq_true rfl)) (fr_cons (Or.inl (Nat.le_of_ble_eq_true rfl)) (fr_cons (Or.inl (Nat.le_of_ble_eq_true rfl)) (fr_nil))))), rfl⟩ fr_i rfl rfl rfl rfl ?_
    refine V.iload (i := 5) dL_law_605 rfl ?_
    refine V.icmp_eq (tgt := 612) dL_law_607 (by decide) (fun h => ?_) (fun h => ?_)
    · have hf := fif_t h hf
      refine V.iload (i := 5) dL_law_612 rfl ?_
      refine V.if_ne (tgt := 629) dL_law_614 (by decide) (fun h => ?_) (fun h => ?_)
      · have hf := fif_f h hf
        refine V.goto (tgt := 1762) dL_law_629 (by decide) ?_
        obtain rfl := Option.some.inj hf
        exact V.locs (L' := [some (.ref 3000), some (.ref 0), some (.ref 11), some (.ref 16), some (.int p4), none, none, none, none]) ⟨rfl, ⟨rfl, ⟨rfl, ⟨rfl, ⟨rfl, trivial⟩⟩⟩⟩⟩ (V.wide (by omega) (by omega) hx)
      · have hf := fif_t h hf
        refine V.aload_n (i := 3) dL_law_617 rfl rfl ?_
        refine V.iconst (v := 0) dL_law_618 rfl ?_
        obtain ⟨hi, v63, ev63, hf⟩ := fld_e hf
        refine V.fldL dL_law_619 rfl hi ev63 ?_
        refine V.iload (i := 6) dL_law_620 rfl ?_
        refine V.i2l dL_law_622 ?_
        refine V.lcmp dL_law_623 ?_
        refine V.if_eq (tgt := 629) dL_law_624 (by decide) (fun h => ?_) (fun h => ?_)
        · have hf := fif_t h hf
          refine V.goto (tgt := 1762) dL_law_629 (by decide) ?_
          obtain rfl := Option.some.inj hf
          exact V.locs (L' := [some (.ref 3000), some (.ref 0), some (.ref 11), some (.ref 16), some (.int p4), none, none, none, none]) ⟨rfl, ⟨rfl, ⟨rfl, ⟨rfl, ⟨rfl, trivial⟩⟩⟩⟩⟩ (V.wide (by omega) (by omega) hx)
        · have hf := fif_f h hf
          refine V.iconst (v := 0) dL_law_627 rfl ?_
          cases hf
    · have hf := fif_f h hf
      refine V.iconst (v := 0) dL_law_610 rfl ?_
      cases hf
def s_L_law_L632 (a0n : Nat) (a0 : Nat → Int32) (p4 : Int32) : Nat → (Int32) → (Nat → Int32) → (Int32) → (Int32) → (Nat → Int32) → (Nat → Int64) → Option ((Int32) × (Nat → Int32) × (Int32) × (Int32) × (Nat → Int32) × (Nat → Int64))
  | 0, _, _, _, _, _, _ => none
  | n + 1, Buffer_size, Buffer_codes, M_length, M_thrown, M_text, out => fld a0n a0 (p4 + 1) fun v65 => (s_L_append v65 Buffer_size Buffer_codes out).bind fun v66 => fld a0n a0 (p4 + 1) fun v67 => (s_X11_append v67 M_length M_thrown M_text).bind fun v68 => (s_X11_thrown v68.2.2.1).bind fun v69 => if (v69 = v66.1 : Prop) then (if (v66.1 = 0 : Prop) then (fld 1 v66.2.2.2 0 fun v70 => if ((lg_cmp v70 (Int32.toInt64 v68.1)) = 0 : Prop) then (some (v66.2.1, v66.2.2.1, v68.2.1, v68.2.2.1, v68.2.2.2, v66.2.2.2)) else (none)) else (some (v66.2.1, v66.2.2.1, v68.2.1, v68.2.2.1, v68.2.2.2, v66.2.2.2))) else (none)
set_option maxHeartbeats 4000000 in
set_option maxRecDepth 100000 in
theorem v_L_law_L632 {a0n : Nat} {a0 : Nat → Int32} {p4 : Int32} {State_cells : Nat → Int32} {History_oldest : Int32} {History_size : Int32} {History_snapshotTaken : Int32} {History_saved : Nat → Int32} {History_snapshot : Nat → Int32} {Reader_pattern : Nat} {Reader_place : Int32} {Word_size : Int32} {Word_letters : Nat → Int32} {M_savedMany : Int32} {M_isTaken : Int32} {M_spelt : Int32} {M_speltMany : Int32} {M_place : Int32} {M_kind : Int32} {M_one : Int32} {M_two : Int32} {M_three : Int32} {M_begins : Int32} {M_done : Int32} {M_stopBy : Int32} {M_hash : Int64} {M_s : Nat → Int32} {M_saved : Nat → Int32} {M_snapshot : Nat → Int32} : ∀ (n : Nat) {Buffer_size : (Int32)} {Buffer_codes : (Nat → Int32)} {M_length : (Int32)} {M_thrown : (Int32)} {M_text : (Nat → Int32)} {out : (Nat → Int64)} {res : (Int32) × (Nat → Int32) × (Int32) × (Int32) × (Nat → Int32) × (Nat → Int64)} (hf : s_L_law_L632 a0n a0 p4 n Buffer_size Buffer_codes M_length M_thrown M_text out = some res) {cl sl : Nat} (hc : cl + 1 ≤ 1062) (hs : sl + 6 ≤ 19011) (hx : V (fXlaw a0n a0) room_1 k_L_law 0 1762 [some (.ref 3000), some (.ref 0), some (.ref 11), some (.ref 16), some (.int p4), none, none, none, none] [] [.inl (5, [.ref 1, .ref 3, .ref 6, .ref 8, .ref 9]), .inl (3, [.ref 2]), .inr (910, .inl State_cells), .inl (1, [.ref 4, .ref 5, .int History_oldest, .int History_size, .int History_snapshotTaken]), .inr (5460, .inl History_saved), .inr (910, .inl History_snapshot), .inl (0, [.ref 7, .int res.1]), .inr (60, .inl res.2.1), .inl (2, [.ref (Reader_pattern + 1000), .int Reader_place]), .inl (4, [.ref 10, .int Word_size]), .inr (8, .inl Word_letters), .inl (6, [.ref 12, .ref 13, .int M_savedMany, .ref 14, .int M_isTaken, .ref 15, .int res.2.2.1, .int res.2.2.2.1, .int M_spelt, .int M_speltMany, .int M_place, .int M_kind, .int M_one, .int M_two, .int M_three, .int M_begins, .int M_done, .int M_stopBy, .long M_hash]), .inr (406, .inl M_s), .inr (2436, .inl M_saved), .inr (406, .inl M_snapshot), .inr (60, .inl res.2.2.2.2.1), .inr (1, .inr res.2.2.2.2.2)] (cl + 1) (sl + 6)), V (fXlaw a0n a0) room_1 k_L_law 0 632 [some (.ref 3000), some (.ref 0), some (.ref 11), some (.ref 16), some (.int p4), none, none, none, none] [] [.inl (5, [.ref 1, .ref 3, .ref 6, .ref 8, .ref 9]), .inl (3, [.ref 2]), .inr (910, .inl State_cells), .inl (1, [.ref 4, .ref 5, .int History_oldest, .int History_size, .int History_snapshotTaken]), .inr (5460, .inl History_saved), .inr (910, .inl History_snapshot), .inl (0, [.ref 7, .int Buffer_size]), .inr (60, .inl Buffer_codes), .inl (2, [.ref (Reader_pattern + 1000), .int Reader_place]), .inl (4, [.ref 10, .int Word_size]), .inr (8, .inl Word_letters), .inl (6, [.ref 12, .ref 13, .int M_savedMany, .ref 14, .int M_isTaken, .ref 15, .int M_length, .int M_thrown, .int M_spelt, .int M_speltMany, .int M_place, .int M_kind, .int M_one, .int M_two, .int M_three, .int M_begins, .int M_done, .int M_stopBy, .long M_hash]), .inr (406, .inl M_s), .inr (2436, .inl M_saved), .inr (406, .inl M_snapshot), .inr (60, .inl M_text), .inr (1, .inr out)] cl sl := by
  intro n
  induction n with
  | zero =>
    intro Buffer_size Buffer_codes M_length M_thrown M_text out res hf cl sl hc hs hx
    rw [s_L_law_L632] at hf
    cases hf
  | succ n ih =>
    intro Buffer_size Buffer_codes M_length M_thrown M_text out res hf cl sl hc hs hx
    rw [s_L_law_L632] at hf
    refine V.aload_n (i := 1) dL_law_632 rfl rfl ?_
    refine V.aload_n (i := 0) dL_law_633 rfl rfl ?_
    refine V.iload (i := 4) dL_law_634 rfl ?_
    refine V.iconst (v := 1) dL_law_636 rfl ?_
    refine V.iadd dL_law_637 ?_
    obtain ⟨hi, v65, ev65, hf⟩ := fld_e hf
    refine V.sload dL_law_638 hi ?_
    refine V.cgi ev65 ?_
    refine V.aload_n (i := 3) dL_law_639 rfl rfl ?_
    obtain ⟨v66, hv66, hf⟩ := fbind hf
    refine V.callSn (pl := [0, 1, 2, 3, 4, 5, 6, 7, 8, 9, 10, 16]) (σ' := [.inl (5, [.ref 1, .ref 3, .ref 6, .ref 8, .ref 9]), .inl (3, [.ref 2]), .inr (910, .inl State_cells), .inl (1, [.ref 4, .ref 5, .int History_oldest, .int History_size, .int History_snapshotTaken]), .inr (5460, .inl History_saved), .inr (910, .inl History_snapshot), .inl (0, [.ref 7, .int v66.2.1]), .inr (60, .inl v66.2.2.1), .inl (2, [.ref (Reader_pattern + 1000), .int Reader_place]), .inl (4, [.ref 10, .int Word_size]), .inr (8, .inl Word_letters), .inl (6, [.ref 12, .ref 13, .int M_savedMany, .ref 14, .int M_isTaken, .ref 15, .int M_length, .int M_thrown, .int M_spelt, .int M_speltMany, .int M_place, .int M_kind, .int M_one, .int M_two, .int M_three, .int M_begins, .int M_done, .int M_stopBy, .long M_hash]), .inr (406, .inl M_s), .inr (2436, .inl M_saved), .inr (406, .inl M_snapshot), .inr (60, .inl M_text), .inr (1, .inr v66.2.2.2)]) (st2 := [.int v66.1]) (cl2 := (cl + 1)) (sl2 := (sl + 6)) (ct_L_append (a1 := v65) (State_cells := State_cells) (History_oldest := History_oldest) (History_size := History_size) (History_snapshotTaken := History_snapshotTaken) (History_saved := History_saved) (History_snapshot := History_snapshot) (Buffer_size := Buffer_size) (Buffer_codes := Buffer_codes) (Reader_pattern := Reader_pattern) (Reader_place := Reader_place) (Word_size := Word_size) (Word_letters := Word_letters) (out2 := out) hv66) dL_law_640 w779 w780 cal_L_append ⟨⟨Nat.le_of_ble_eq_true rfl, Nat.le_of_ble_eq_true rfl⟩, (show cl + 1 ≤ 1062 by omega), (show sl + 6 ≤ 19011 by omega)⟩ (Nat.le_of_ble_eq_true rfl) rfl ⟨rfl, ⟨by decide, by decide⟩, rfl, (fr_cons (Or.inl (Nat.le_of_ble_eq_true rfl)) (fr_cons (Or.inl (Nat.le_of_ble_eq_true rfl)) (fr_cons (Or.inl (Nat.le_of_ble_eq_true rfl)) (fr_cons (Or.inl (Nat.le_of_ble_eq_true rfl)) (fr_cons (Or.inl (Nat.le_of_ble_eq_true rfl)) (fr_cons (Or.inl (Nat.le_of_ble_eq_true rfl)) (fr_cons (Or.inl (Nat.le_of_ble_eq_true rfl)) (fr_cons (Or.inl (Nat.le_of_ble_eq_true rfl)) (fr_cons (Or.inl (Nat.le_of_ble_eq_true rfl)) (fr_cons (Or.inr (Nat.le_add_left 1000 _)) (fr_cons (Or.inl (Nat.le_of_ble_eq_true rfl)) (fr_nil)))))))))))), rfl⟩ fr_i rfl rfl rfl rfl ?_
    refine V.istore (i := 5) (L' := [some (.ref 3000), some (.ref 0), some (.ref 11), some (.ref 16), some (.int p4), some (.int v66.1), none, none, none]) dL_law_643 (Nat.le_of_ble_eq_true rfl) rfl rfl ?_
    refine V.aload_n (i := 2) dL_law_645 rfl rfl ?_
    refine V.aload_n (i := 0) dL_law_646 rfl rfl ?_
    refine V.iload (i := 4) dL_law_647 rfl ?_
    refine V.iconst (v := 1) dL_law_649 rfl ?_
    refine V.iadd dL_law_650 ?_
    obtain ⟨hi, v67, ev67, hf⟩ := fld_e hf
    refine V.sload dL_law_651 hi ?_
    refine V.cgi ev67 ?_
    obtain ⟨v68, hv68, hf⟩ := fbind hf
    refine V.callVn (pl := [11, 12, 13, 14, 15]) (σ' := [.inl (5, [.ref 1, .ref 3, .ref 6, .ref 8, .ref 9]), .inl (3, [.ref 2]), .inr (910, .inl State_cells), .inl (1, [.ref 4, .ref 5, .int History_oldest, .int History_size, .int History_snapshotTaken]), .inr (5460, .inl History_saved), .inr (910, .inl History_snapshot), .inl (0, [.ref 7, .int v66.2.1]), .inr (60, .inl v66.2.2.1), .inl (2, [.ref (Reader_pattern + 1000), .int Reader_place]), .inl (4, [.ref 10, .int Word_size]), .inr (8, .inl Word_letters), .inl (6, [.ref 12, .ref 13, .int M_savedMany, .ref 14, .int M_isTaken, .ref 15, .int v68.2.1, .int v68.2.2.1, .int M_spelt, .int M_speltMany, .int M_place, .int M_kind, .int M_one, .int M_two, .int M_three, .int M_begins, .int M_done, .int M_stopBy, .long M_hash]), .inr (406, .inl M_s), .inr (2436, .inl M_saved), .inr (406, .inl M_snapshot), .inr (60, .inl v68.2.2.2), .inr (1, .inr v66.2.2.2)]) (st2 := [.int v68.1]) (cl2 := (cl + 1)) (sl2 := (sl + 6)) (ct_X11_append (a1 := v67) (M_savedMany := M_savedMany) (M_isTaken := M_isTaken) (M_length := M_length) (M_thrown := M_thrown) (M_spelt := M_spelt) (M_speltMany := M_speltMany) (M_place := M_place) (M_kind := M_kind) (M_one := M_one) (M_two := M_two) (M_three := M_three) (M_begins := M_begins) (M_done := M_done) (M_stopBy := M_stopBy) (M_hash := M_hash) (M_s := M_s) (M_saved := M_saved) (M_snapshot := M_snapshot) (M_text := M_text) hv68) dL_law_652 w1267 ⟨w1268, w1269⟩ cal_X11_append rfl ⟨⟨Nat.le_of_ble_eq_true rfl, Nat.le_of_ble_eq_true rfl⟩, (show (cl + 1) + 0 ≤ 1062 by omega), (show (sl + 6) + 0 ≤ 19011 by omega)⟩ (Nat.le_of_ble_eq_true rfl) (Or.inl ⟨_, _, _, _, rfl, rfl⟩) rfl ⟨rfl, ⟨by decide, by decide⟩, rfl, (fr_cons (Or.inl (Nat.le_of_ble_eq_true rfl)) (fr_cons (Or.inl (Nat.le_of_ble_eq_true rfl)) (fr_cons (Or.inl (Nat.le_of_ble_eq_true rfl)) (fr_cons (Or.inl (Nat.le_of_ble_eq_true rfl)) (fr_nil))))), rfl⟩ fr_i rfl rfl rfl rfl ?_
    refine V.istore (i := 6) (L' := [some (.ref 3000), some (.ref 0), some (.ref 11), some (.ref 16), some (.int p4), some (.int v66.1), some (.int v68.1), none, none]) dL_law_655 (Nat.le_of_ble_eq_true rfl) rfl rfl ?_
    refine V.aload_n (i := 2) dL_law_657 rfl rfl ?_
    obtain ⟨v69, hv69, hf⟩ := fbind hf
    refine V.callVn (pl := [11, 12, 13, 14, 15]) (σ' := [.inl (5, [.ref 1, .ref 3, .ref 6, .ref 8, .ref 9]), .inl (3, [.ref 2]), .inr (910, .inl State_cells), .inl (1, [.ref 4, .ref 5, .int History_oldest, .int History_size, .int History_snapshotTaken]), .inr (5460, .inl History_saved), .inr (910, .inl History_snapshot), .inl (0, [.ref 7, .int v66.2.1]), .inr (60, .inl v66.2.2.1), .inl (2, [.ref (Reader_pattern + 1000), .int Reader_place]), .inl (4, [.ref 10, .int Word_size]), .inr (8, .inl Word_letters), .inl (6, [.ref 12, .ref 13, .int M_savedMany, .ref 14, .int M_isTaken, .ref 15, .int v68.2.1, .int v68.2.2.1, .int M_spelt, .int M_speltMany, .int M_place, .int M_kind, .int M_one, .int M_two, .int M_three, .int M_begins, .int M_done, .int M_stopBy, .long M_hash]), .inr (406, .inl M_s), .inr (2436, .inl M_saved), .inr (406, .inl M_snapshot), .inr (60, .inl v68.2.2.2), .inr (1, .inr v66.2.2.2)]) (st2 := [.int v69]) (cl2 := (cl + 1)) (sl2 := (sl + 6)) (ct_X11_thrown (M_savedMany := M_savedMany) (M_isTaken := M_isTaken) (M_length := v68.2.1) (M_thrown := v68.2.2.1) (M_spelt := M_spelt) (M_speltMany := M_speltMany) (M_place := M_place) (M_kind := M_kind) (M_one := M_one) (M_two := M_two) (M_three := M_three) (M_begins := M_begins) (M_done := M_done) (M_stopBy := M_stopBy) (M_hash := M_hash) (M_s := M_s) (M_saved := M_saved) (M_snapshot := M_snapshot) (M_text := v68.2.2.2) hv69) dL_law_658 w1101 ⟨w1102, w1103⟩ cal_X11_thrown rfl ⟨⟨Nat.le_of_ble_eq_true rfl, Nat.le_of_ble_eq_true rfl⟩, (show (cl + 1) + 0 ≤ 1062 by omega), (show (sl + 6) + 0 ≤ 19011 by omega)⟩ (Nat.le_of_ble_eq_true rfl) (Or.inl ⟨_, _, _, _, rfl, rfl⟩) rfl ⟨rfl, ⟨by decide, by decide⟩, rfl, (fr_cons (Or.inl (Nat.le_of_ble_eq_true rfl)) (fr_cons (Or.inl (Nat.le_of_ble_eq_true rfl)) (fr_cons (Or.inl (Nat.le_of_ble_eq_true rfl)) (fr_cons (Or.inl (Nat.le_of_ble_eq_true rfl)) (fr_nil))))), rfl⟩ fr_i rfl rfl rfl rfl ?_
    refine V.iload (i := 5) dL_law_661 rfl ?_
    refine V.icmp_eq (tgt := 668) dL_law_663 (by decide) (fun h => ?_) (fun h => ?_)
    · have hf := fif_t h hf
      refine V.iload (i := 5) dL_law_668 rfl ?_
      refine V.if_ne (tgt := 685) dL_law_670 (by decide) (fun h => ?_) (fun h => ?_)
      · have hf := fif_f h hf
        refine V.goto (tgt := 1762) dL_law_685 (by decide) ?_
        obtain rfl := Option.some.inj hf
        exact V.locs (L' := [some (.ref 3000), some (.ref 0), some (.ref 11), some (.ref 16), some (.int p4), none, none, none, none]) ⟨rfl, ⟨rfl, ⟨rfl, ⟨rfl, ⟨rfl, trivial⟩⟩⟩⟩⟩ (V.wide (by omega) (by omega) hx)
      · have hf := fif_t h hf
        refine V.aload_n (i := 3) dL_law_673 rfl rfl ?_
        refine V.iconst (v := 0) dL_law_674 rfl ?_
        obtain ⟨hi, v70, ev70, hf⟩ := fld_e hf
        refine V.fldL dL_law_675 rfl hi ev70 ?_
        refine V.iload (i := 6) dL_law_676 rfl ?_
        refine V.i2l dL_law_678 ?_
        refine V.lcmp dL_law_679 ?_
        refine V.if_eq (tgt := 685) dL_law_680 (by decide) (fun h => ?_) (fun h => ?_)
        · have hf := fif_t h hf
          refine V.goto (tgt := 1762) dL_law_685 (by decide) ?_
          obtain rfl := Option.some.inj hf
          exact V.locs (L' := [some (.ref 3000), some (.ref 0), some (.ref 11), some (.ref 16), some (.int p4), none, none, none, none]) ⟨rfl, ⟨rfl, ⟨rfl, ⟨rfl, ⟨rfl, trivial⟩⟩⟩⟩⟩ (V.wide (by omega) (by omega) hx)
        · have hf := fif_f h hf
          refine V.iconst (v := 0) dL_law_683 rfl ?_
          cases hf
    · have hf := fif_f h hf
      refine V.iconst (v := 0) dL_law_666 rfl ?_
      cases hf
def s_L_law_L688 (a0n : Nat) (a0 : Nat → Int32) : Nat → (Int32) → (Int32) → (Int32) → Option ((Int32) × (Int32) × (Int32))
  | 0, _, _, _ => none
  | n + 1, Buffer_size, M_length, M_thrown => (s_X10_clearBuffer Buffer_size).bind fun v72 => (s_X11_clearBuffer M_length M_thrown).bind fun v73 => if (v72.1 = v73.1 : Prop) then (some (v72.2, v73.2.1, v73.2.2)) else (none)
set_option maxHeartbeats 4000000 in
set_option maxRecDepth 100000 in
theorem v_L_law_L688 {a0n : Nat} {a0 : Nat → Int32} {p4 : Int32} {State_cells : Nat → Int32} {History_oldest : Int32} {History_size : Int32} {History_snapshotTaken : Int32} {History_saved : Nat → Int32} {History_snapshot : Nat → Int32} {Buffer_codes : Nat → Int32} {Reader_pattern : Nat} {Reader_place : Int32} {Word_size : Int32} {Word_letters : Nat → Int32} {M_savedMany : Int32} {M_isTaken : Int32} {M_spelt : Int32} {M_speltMany : Int32} {M_place : Int32} {M_kind : Int32} {M_one : Int32} {M_two : Int32} {M_three : Int32} {M_begins : Int32} {M_done : Int32} {M_stopBy : Int32} {M_hash : Int64} {M_s : Nat → Int32} {M_saved : Nat → Int32} {M_snapshot : Nat → Int32} {M_text : Nat → Int32} {out : Nat → Int64} : ∀ (n : Nat) {Buffer_size : (Int32)} {M_length : (Int32)} {M_thrown : (Int32)} {res : (Int32) × (Int32) × (Int32)} (hf : s_L_law_L688 a0n a0 n Buffer_size M_length M_thrown = some res) {cl sl : Nat} (hc : cl + 1 ≤ 1062) (hs : sl + 6 ≤ 19011) (hx : V (fXlaw a0n a0) room_1 k_L_law 0 1762 [some (.ref 3000), some (.ref 0), some (.ref 11), some (.ref 16), some (.int p4), none, none, none, none] [] [.inl (5, [.ref 1, .ref 3, .ref 6, .ref 8, .ref 9]), .inl (3, [.ref 2]), .inr (910, .inl State_cells), .inl (1, [.ref 4, .ref 5, .int History_oldest, .int History_size, .int History_snapshotTaken]), .inr (5460, .inl History_saved), .inr (910, .inl History_snapshot), .inl (0, [.ref 7, .int res.1]), .inr (60, .inl Buffer_codes), .inl (2, [.ref (Reader_pattern + 1000), .int Reader_place]), .inl (4, [.ref 10, .int Word_size]), .inr (8, .inl Word_letters), .inl (6, [.ref 12, .ref 13, .int M_savedMany, .ref 14, .int M_isTaken, .ref 15, .int res.2.1, .int res.2.2, .int M_spelt, .int M_speltMany, .int M_place, .int M_kind, .int M_one, .int M_two, .int M_three, .int M_begins, .int M_done, .int M_stopBy, .long M_hash]), .inr (406, .inl M_s), .inr (2436, .inl M_saved), .inr (406, .inl M_snapshot), .inr (60, .inl M_text), .inr (1, .inr out)] (cl + 1) (sl + 6)), V (fXlaw a0n a0) room_1 k_L_law 0 688 [some (.ref 3000), some (.ref 0), some (.ref 11), some (.ref 16), some (.int p4), none, none, none, none] [] [.inl (5, [.ref 1, .ref 3, .ref 6, .ref 8, .ref 9]), .inl (3, [.ref 2]), .inr (910, .inl State_cells), .inl (1, [.ref 4, .ref 5, .int History_oldest, .int History_size, .int History_snapshotTaken]), .inr (5460, .inl History_saved), .inr (910, .inl History_snapshot), .inl (0, [.ref 7, .int Buffer_size]), .inr (60, .inl Buffer_codes), .inl (2, [.ref (Reader_pattern + 1000), .int Reader_place]), .inl (4, [.ref 10, .int Word_size]), .inr (8, .inl Word_letters), .inl (6, [.ref 12, .ref 13, .int M_savedMany, .ref 14, .int M_isTaken, .ref 15, .int M_length, .int M_thrown, .int M_spelt, .int M_speltMany, .int M_place, .int M_kind, .int M_one, .int M_two, .int M_three, .int M_begins, .int M_done, .int M_stopBy, .long M_hash]), .inr (406, .inl M_s), .inr (2436, .inl M_saved), .inr (406, .inl M_snapshot), .inr (60, .inl M_text), .inr (1, .inr out)] cl sl := by
  intro n
  induction n with
  | zero =>
    intro Buffer_size M_length M_thrown res hf cl sl hc hs hx
    rw [s_L_law_L688] at hf
    cases hf
  | succ n ih =>
    intro Buffer_size M_length M_thrown res hf cl sl hc hs hx
    rw [s_L_law_L688] at hf
    refine V.aload_n (i := 1) dL_law_688 rfl rfl ?_
    obtain ⟨v72, hv72, hf⟩ := fbind hf
    refine V.callVn (pl := [0, 1, 2, 3, 4, 5, 6, 7, 8, 9, 10]) (σ' := [.inl (5, [.ref 1, .ref 3, .ref 6, .ref 8, .ref 9]), .inl (3, [.ref 2]), .inr (910, .inl State_cells), .inl (1, [.ref 4, .ref 5, .int History_oldest, .int History_size, .int History_snapshotTaken]), .inr (5460, .inl History_saved), .inr (910, .inl History_snapshot), .inl (0, [.ref 7, .int v72.2]), .inr (60, .inl Buffer_codes), .inl (2, [.ref (Reader_pattern + 1000), .int Reader_place]), .inl (4, [.ref 10, .int Word_size]), .inr (8, .inl Word_letters), .inl (6, [.ref 12, .ref 13, .int M_savedMany, .ref 14, .int M_isTaken, .ref 15, .int M_length, .int M_thrown, .int M_spelt, .int M_speltMany, .int M_place, .int M_kind, .int M_one, .int M_two, .int M_three, .int M_begins, .int M_done, .int M_stopBy, .long M_hash]), .inr (406, .inl M_s), .inr (2436, .inl M_saved), .inr (406, .inl M_snapshot), .inr (60, .inl M_text), .inr (1, .inr out)]) (st2 := [.int v72.1]) (cl2 := cl) (sl2 := sl) (ct_X10_clearBuffer (State_cells := State_cells) (History_oldest := History_oldest) (History_size := History_size) (History_snapshotTaken := History_snapshotTaken) (History_saved := History_saved) (History_snapshot := History_snapshot) (Buffer_size := Buffer_size) (Buffer_codes := Buffer_codes) (Reader_pattern := Reader_pattern) (Reader_place := Reader_place) (Word_size := Word_size) (Word_letters := Word_letters) hv72) dL_law_689 w197 ⟨w198, w199⟩ cal_X10_clearBuffer rfl ⟨⟨Nat.le_of_ble_eq_true rfl, Nat.le_of_ble_eq_true rfl⟩, (show cl + 0 ≤ 1062 by omega), (show sl + 0 ≤ 19011 by omega)⟩ (Nat.le_of_ble_eq_true rfl) (Or.inl ⟨_, _, _, _, rfl, rfl⟩) rfl ⟨rfl, ⟨by decide, by decide⟩, rfl, (fr_cons (Or.inl (Nat.le_of_ble_eq_true rfl)) (fr_cons (Or.inl (Nat.le_of_ble_eq_true rfl)) (fr_cons (Or.inl (Nat.le_of_ble_eq_true rfl)) (fr_cons (Or.inl (Nat.le_of_ble_eq_true rfl)) (fr_cons (Or.inl (Nat.le_of_ble_eq_true rfl)) (fr_cons (Or.inl (Nat.le_of_ble_eq_true rfl)) (fr_cons (Or.inl (Nat.le_of_ble_eq_true rfl)) (fr_cons (Or.inl (Nat.le_of_ble_eq_true rfl)) (fr_cons (Or.inl (Nat.le_of_ble_eq_true rfl)) (fr_cons (Or.inr (Nat.le_add_left 1000 _)) (fr_cons (Or.inl (Nat.le_of_ble_eq_true rfl)) (fr_nil)))))))))))), rfl⟩ fr_i rfl rfl rfl rfl ?_
    refine V.aload_n (i := 2) dL_law_692 rfl rfl ?_
    obtain ⟨v73, hv73, hf⟩ := fbind hf
    refine V.callVn (pl := [11, 12, 13, 14, 15]) (σ' := [.inl (5, [.ref 1, .ref 3, .ref 6, .ref 8, .ref 9]), .inl (3, [.ref 2]), .inr (910, .inl State_cells), .inl (1, [.ref 4, .ref 5, .int History_oldest, .int History_size, .int History_snapshotTaken]), .inr (5460, .inl History_saved), .inr (910, .inl History_snapshot), .inl (0, [.ref 7, .int v72.2]), .inr (60, .inl Buffer_codes), .inl (2, [.ref (Reader_pattern + 1000), .int Reader_place]), .inl (4, [.ref 10, .int Word_size]), .inr (8, .inl Word_letters), .inl (6, [.ref 12, .ref 13, .int M_savedMany, .ref 14, .int M_isTaken, .ref 15, .int v73.2.1, .int v73.2.2, .int M_spelt, .int M_speltMany, .int M_place, .int M_kind, .int M_one, .int M_two, .int M_three, .int M_begins, .int M_done, .int M_stopBy, .long M_hash]), .inr (406, .inl M_s), .inr (2436, .inl M_saved), .inr (406, .inl M_snapshot), .inr (60, .inl M_text), .inr (1, .inr out)]) (st2 := [.int v73.1, .int v72.1]) (cl2 := cl) (sl2 := sl) (ct_X11_clearBuffer (M_savedMany := M_savedMany) (M_isTaken := M_isTaken) (M_length := M_length) (M_thrown := M_thrown) (M_spelt := M_spelt) (M_speltMany := M_speltMany) (M_place := M_place) (M_kind := M_kind) (M_one := M_one) (M_two := M_two) (M_three := M_three) (M_begins := M_begins) (M_done := M_done) (M_stopBy := M_stopBy) (M_hash := M_hash) (M_s := M_s) (M_saved := M_saved) (M_snapshot := M_snapshot) (M_text := M_text) hv73) dL_law_693 w1271 ⟨w1272, w1273⟩ cal_X11_clearBuffer rfl ⟨⟨Nat.le_of_ble_eq_true rfl, Nat.le_of_ble_eq_true rfl⟩, (show cl + 0 ≤ 1062 by omega), (show sl + 0 ≤ 19011 by omega)⟩ (Nat.le_of_ble_eq_true rfl) (Or.inl ⟨_, _, _, _, rfl, rfl⟩) rfl ⟨rfl, ⟨by decide, by decide⟩, rfl, (fr_cons (Or.inl (Nat.le_of_ble_eq_true rfl)) (fr_cons (Or.inl (Nat.le_of_ble_eq_true rfl)) (fr_cons (Or.inl (Nat.le_of_ble_eq_true rfl)) (fr_cons (Or.inl (Nat.le_of_ble_eq_true rfl)) (fr_nil))))), rfl⟩ fr_i rfl rfl rfl rfl ?_
    refine V.icmp_eq (tgt := 1762) dL_law_696 (by decide) (fun h => ?_) (fun h => ?_)
    · have hf := fif_t h hf
      obtain rfl := Option.some.inj hf
      exact V.wide (by omega) (by omega) hx
    · have hf := fif_f h hf
      refine V.iconst (v := 0) dL_law_699 rfl ?_
      cases hf
def s_L_law_L701 (a0n : Nat) (a0 : Nat → Int32) (Buffer_size : Int32) (Buffer_codes : Nat → Int32) (M_length : Int32) (M_text : Nat → Int32) : Nat → (Nat) → (Int32) → (Int32) → (Int32) → (Int32) → (Int32) → (Int32) → (Int32) → (Int32) → (Int32) → (Int32) → (Int32) → (Int32) → (Nat → Int32) → Option ((Nat) × (Int32) × (Int32) × (Int32) × (Int32) × (Int32) × (Int32) × (Int32) × (Int32) × (Int32) × (Int32) × (Int32) × (Int32) × (Nat → Int32))
  | 0, _, _, _, _, _, _, _, _, _, _, _, _, _, _ => none
  | n + 1, Reader_pattern, Reader_place, M_thrown, M_spelt, M_speltMany, M_place, M_kind, M_one, M_two, M_three, M_begins, M_done, M_stopBy, M_s => (s_X10_firstError Buffer_size Buffer_codes Reader_pattern Reader_place).bind fun v75 => (s_X11_firstError M_length M_thrown M_spelt M_speltMany M_place M_kind M_one M_two M_three M_begins M_done M_stopBy M_s M_text).bind fun v76 => if (v75.1 = v76.1 : Prop) then (some (v75.2.1, v75.2.2, v76.2.1, v76.2.2.1, v76.2.2.2.1, v76.2.2.2.2.1, v76.2.2.2.2.2.1, v76.2.2.2.2.2.2.1, v76.2.2.2.2.2.2.2.1, v76.2.2.2.2.2.2.2.2.1, v76.2.2.2.2.2.2.2.2.2.1, v76.2.2.2.2.2.2.2.2.2.2.1, v76.2.2.2.2.2.2.2.2.2.2.2.1, v76.2.2.2.2.2.2.2.2.2.2.2.2)) else (none)
set_option maxHeartbeats 4000000 in
set_option maxRecDepth 100000 in
theorem v_L_law_L701 {a0n : Nat} {a0 : Nat → Int32} {p4 : Int32} {State_cells : Nat → Int32} {History_oldest : Int32} {History_size : Int32} {History_snapshotTaken : Int32} {History_saved : Nat → Int32} {History_snapshot : Nat → Int32} {Buffer_size : Int32} {Buffer_codes : Nat → Int32} {Word_size : Int32} {Word_letters : Nat → Int32} {M_savedMany : Int32} {M_isTaken : Int32} {M_length : Int32} {M_hash : Int64} {M_saved : Nat → Int32} {M_snapshot : Nat → Int32} {M_text : Nat → Int32} {out : Nat → Int64} : ∀ (n : Nat) {Reader_pattern : (Nat)} {Reader_place : (Int32)} {M_thrown : (Int32)} {M_spelt : (Int32)} {M_speltMany : (Int32)} {M_place : (Int32)} {M_kind : (Int32)} {M_one : (Int32)} {M_two : (Int32)} {M_three : (Int32)} {M_begins : (Int32)} {M_done : (Int32)} {M_stopBy : (Int32)} {M_s : (Nat → Int32)} {res : (Nat) × (Int32) × (Int32) × (Int32) × (Int32) × (Int32) × (Int32) × (Int32) × (Int32) × (Int32) × (Int32) × (Int32) × (Int32) × (Nat → Int32)} (hf : s_L_law_L701 a0n a0 Buffer_size Buffer_codes M_length M_text n Reader_pattern Reader_place M_thrown M_spelt M_speltMany M_place M_kind M_one M_two M_three M_begins M_done M_stopBy M_s = some res) {cl sl : Nat} (hc : cl + 1 ≤ 1062) (hs : sl + 6 ≤ 19011) (hx : V (fXlaw a0n a0) room_1 k_L_law 0 1762 [some (.ref 3000), some (.ref 0), some (.ref 11), some (.ref 16), some (.int p4), none, none, none, none] [] [.inl (5, [.ref 1, .ref 3, .ref 6, .ref 8, .ref 9]), .inl (3, [.ref 2]), .inr (910, .inl State_cells), .inl (1, [.ref 4, .ref 5, .int History_oldest, .int History_size, .int History_snapshotTaken]), .inr (5460, .inl History_saved), .inr (910, .inl History_snapshot), .inl (0, [.ref 7, .int Buffer_size]), .inr (60, .inl Buffer_codes), .inl (2, [.ref (res.1 + 1000), .int res.2.1]), .inl (4, [.ref 10, .int Word_size]), .inr (8, .inl Word_letters), .inl (6, [.ref 12, .ref 13, .int M_savedMany, .ref 14, .int M_isTaken, .ref 15, .int M_length, .int res.2.2.1, .int res.2.2.2.1, .int res.2.2.2.2.1, .int res.2.2.2.2.2.1, .int res.2.2.2.2.2.2.1, .int res.2.2.2.2.2.2.2.1, .int res.2.2.2.2.2.2.2.2.1, .int res.2.2.2.2.2.2.2.2.2.1, .int res.2.2.2.2.2.2.2.2.2.2.1, .int res.2.2.2.2.2.2.2.2.2.2.2.1, .int res.2.2.2.2.2.2.2.2.2.2.2.2.1, .long M_hash]), .inr (406, .inl res.2.2.2.2.2.2.2.2.2.2.2.2.2), .inr (2436, .inl M_saved), .inr (406, .inl M_snapshot), .inr (60, .inl M_text), .inr (1, .inr out)] (cl + 1) (sl + 6)), V (fXlaw a0n a0) room_1 k_L_law 0 701 [some (.ref 3000), some (.ref 0), some (.ref 11), some (.ref 16), some (.int p4), none, none, none, none] [] [.inl (5, [.ref 1, .ref 3, .ref 6, .ref 8, .ref 9]), .inl (3, [.ref 2]), .inr (910, .inl State_cells), .inl (1, [.ref 4, .ref 5, .int History_oldest, .int History_size, .int History_snapshotTaken]), .inr (5460, .inl History_saved), .inr (910, .inl History_snapshot), .inl (0, [.ref 7, .int Buffer_size]), .inr (60, .inl Buffer_codes), .inl (2, [.ref (Reader_pattern + 1000), .int Reader_place]), .inl (4, [.ref 10, .int Word_size]), .inr (8, .inl Word_letters), .inl (6, [.ref 12, .ref 13, .int M_savedMany, .ref 14, .int M_isTaken, .ref 15, .int M_length, .int M_thrown, .int M_spelt, .int M_speltMany, .int M_place, .int M_kind, .int M_one, .int M_two, .int M_three, .int M_begins, .int M_done, .int M_stopBy, .long M_hash]), .inr (406, .inl M_s), .inr (2436, .inl M_saved), .inr (406, .inl M_snapshot), .inr (60, .inl M_text), .inr (1, .inr out)] cl sl := by
  intro n
  induction n with
  | zero =>
    intro Reader_pattern Reader_place M_thrown M_spelt M_speltMany M_place M_kind M_one M_two M_three M_begins M_done M_stopBy M_s res hf cl sl hc hs hx
    rw [s_L_law_L701] at hf
    cases hf
  | succ n ih =>
    intro Reader_pattern Reader_place M_thrown M_spelt M_speltMany M_place M_kind M_one M_two M_three M_begins M_done M_stopBy M_s res hf cl sl hc hs hx
    rw [s_L_law_L701] at hf
    refine V.aload_n (i := 1) dL_law_701 rfl rfl ?_
    obtain ⟨v75, hv75, hf⟩ := fbind hf
    refine V.callVn (pl := [0, 1, 2, 3, 4, 5, 6, 7, 8, 9, 10]) (σ' := [.inl (5, [.ref 1, .ref 3, .ref 6, .ref 8, .ref 9]), .inl (3, [.ref 2]), .inr (910, .inl State_cells), .inl (1, [.ref 4, .ref 5, .int History_oldest, .int History_size, .int History_snapshotTaken]), .inr (5460, .inl History_saved), .inr (910, .inl History_snapshot), .inl (0, [.ref 7, .int Buffer_size]), .inr (60, .inl Buffer_codes), .inl (2, [.ref (v75.2.1 + 1000), .int v75.2.2]), .inl (4, [.ref 10, .int Word_size]), .inr (8, .inl Word_letters), .inl (6, [.ref 12, .ref 13, .int M_savedMany, .ref 14, .int M_isTaken, .ref 15, .int M_length, .int M_thrown, .int M_spelt, .int M_speltMany, .int M_place, .int M_kind, .int M_one, .int M_two, .int M_three, .int M_begins, .int M_done, .int M_stopBy, .long M_hash]), .inr (406, .inl M_s), .inr (2436, .inl M_saved), .inr (406, .inl M_snapshot), .inr (60, .inl M_text), .inr (1, .inr out)]) (st2 := [.int v75.1]) (cl2 := cl) (sl2 := sl) (ct_X10_firstError (State_cells := State_cells) (History_oldest := History_oldest) (History_size := History_size) (History_snapshotTaken := History_snapshotTaken) (History_saved := History_saved) (History_snapshot := History_snapshot) (Buffer_size := Buffer_size) (Buffer_codes := Buffer_codes) (Reader_pattern := Reader_pattern) (Reader_place := Reader_place) (Word_size := Word_size) (Word_letters := Word_letters) hv75) dL_law_702 w205 ⟨w206, w207⟩ cal_X10_firstError rfl ⟨⟨Nat.le_of_ble_eq_true rfl, Nat.le_of_ble_eq_true rfl⟩, (show cl + 0 ≤ 1062 by omega), (show sl + 0 ≤ 19011 by omega)⟩ (Nat.le_of_ble_eq_true rfl) (Or.inl ⟨_, _, _, _, rfl, rfl⟩) rfl ⟨rfl, ⟨by decide, by decide⟩, rfl, (fr_cons (Or.inl (Nat.le_of_ble_eq_true rfl)) (fr_cons (Or.inl (Nat.le_of_ble_eq_true rfl)) (fr_cons (Or.inl (Nat.le_of_ble_eq_true rfl)) (fr_cons (Or.inl (Nat.le_of_ble_eq_true rfl)) (fr_cons (Or.inl (Nat.le_of_ble_eq_true rfl)) (fr_cons (Or.inl (Nat.le_of_ble_eq_true rfl)) (fr_cons (Or.inl (Nat.le_of_ble_eq_true rfl)) (fr_cons (Or.inl (Nat.le_of_ble_eq_true rfl)) (fr_cons (Or.inl (Nat.le_of_ble_eq_true rfl)) (fr_cons (Or.inr (Nat.le_add_left 1000 _)) (fr_cons (Or.inl (Nat.le_of_ble_eq_true rfl)) (fr_nil)))))))))))), rfl⟩ fr_i rfl rfl rfl rfl ?_
    refine V.aload_n (i := 2) dL_law_705 rfl rfl ?_
    obtain ⟨v76, hv76, hf⟩ := fbind hf
    refine V.callVn (pl := [11, 12, 13, 14, 15]) (σ' := [.inl (5, [.ref 1, .ref 3, .ref 6, .ref 8, .ref 9]), .inl (3, [.ref 2]), .inr (910, .inl State_cells), .inl (1, [.ref 4, .ref 5, .int History_oldest, .int History_size, .int History_snapshotTaken]), .inr (5460, .inl History_saved), .inr (910, .inl History_snapshot), .inl (0, [.ref 7, .int Buffer_size]), .inr (60, .inl Buffer_codes), .inl (2, [.ref (v75.2.1 + 1000), .int v75.2.2]), .inl (4, [.ref 10, .int Word_size]), .inr (8, .inl Word_letters), .inl (6, [.ref 12, .ref 13, .int M_savedMany, .ref 14, .int M_isTaken, .ref 15, .int M_length, .int v76.2.1, .int v76.2.2.1, .int v76.2.2.2.1, .int v76.2.2.2.2.1, .int v76.2.2.2.2.2.1, .int v76.2.2.2.2.2.2.1, .int v76.2.2.2.2.2.2.2.1, .int v76.2.2.2.2.2.2.2.2.1, .int v76.2.2.2.2.2.2.2.2.2.1, .int v76.2.2.2.2.2.2.2.2.2.2.1, .int v76.2.2.2.2.2.2.2.2.2.2.2.1, .long M_hash]), .inr (406, .inl v76.2.2.2.2.2.2.2.2.2.2.2.2), .inr (2436, .inl M_saved), .inr (406, .inl M_snapshot), .inr (60, .inl M_text), .inr (1, .inr out)]) (st2 := [.int v76.1, .int v75.1]) (cl2 := cl) (sl2 := sl) (ct_X11_firstError (M_savedMany := M_savedMany) (M_isTaken := M_isTaken) (M_length := M_length) (M_thrown := M_thrown) (M_spelt := M_spelt) (M_speltMany := M_speltMany) (M_place := M_place) (M_kind := M_kind) (M_one := M_one) (M_two := M_two) (M_three := M_three) (M_begins := M_begins) (M_done := M_done) (M_stopBy := M_stopBy) (M_hash := M_hash) (M_s := M_s) (M_saved := M_saved) (M_snapshot := M_snapshot) (M_text := M_text) hv76) dL_law_706 w1279 ⟨w1280, w1281⟩ cal_X11_firstError rfl ⟨⟨Nat.le_of_ble_eq_true rfl, Nat.le_of_ble_eq_true rfl⟩, (show cl + 0 ≤ 1062 by omega), (show sl + 0 ≤ 19011 by omega)⟩ (Nat.le_of_ble_eq_true rfl) (Or.inl ⟨_, _, _, _, rfl, rfl⟩) rfl ⟨rfl, ⟨by decide, by decide⟩, rfl, (fr_cons (Or.inl (Nat.le_of_ble_eq_true rfl)) (fr_cons (Or.inl (Nat.le_of_ble_eq_true rfl)) (fr_cons (Or.inl (Nat.le_of_ble_eq_true rfl)) (fr_cons (Or.inl (Nat.le_of_ble_eq_true rfl)) (fr_nil))))), rfl⟩ fr_i rfl rfl rfl rfl ?_
    refine V.icmp_eq (tgt := 1762) dL_law_709 (by decide) (fun h => ?_) (fun h => ?_)
    · have hf := fif_t h hf
      obtain rfl := Option.some.inj hf
      exact V.wide (by omega) (by omega) hx
    · have hf := fif_f h hf
      refine V.iconst (v := 0) dL_law_712 rfl ?_
      cases hf
def s_L_law_L714 (a0n : Nat) (a0 : Nat → Int32) (Buffer_codes : Nat → Int32) (M_text : Nat → Int32) : Nat → (Nat → Int32) → (Int32) → (Int32) → (Nat → Int32) → (Int32) → (Nat) → (Int32) → (Int32) → (Nat → Int32) → (Int32) → (Int32) → (Int32) → (Int32) → (Int32) → (Int32) → (Int32) → (Int32) → (Int32) → (Int32) → (Int32) → (Int32) → (Int32) → (Nat → Int32) → (Nat → Int32) → (Nat → Int64) → Option ((Nat → Int32) × (Int32) × (Int32) × (Nat → Int32) × (Int32) × (Nat) × (Int32) × (Int32) × (Nat → Int32) × (Int32) × (Int32) × (Int32) × (Int32) × (Int32) × (Int32) × (Int32) × (Int32) × (Int32) × (Int32) × (Int32) × (Int32) × (Int32) × (Nat → Int32) × (Nat → Int32) × (Nat → Int64))
  | 0, _, _, _, _, _, _, _, _, _, _, _, _, _, _, _, _, _, _, _, _, _, _, _, _, _ => none
  | n + 1, State_cells, History_oldest, History_size, History_saved, Buffer_size, Reader_pattern, Reader_place, Word_size, Word_letters, M_savedMany, M_length, M_thrown, M_spelt, M_speltMany, M_place, M_kind, M_one, M_two, M_three, M_begins, M_done, M_stopBy, M_s, M_saved, out => (s_L_work State_cells History_oldest History_size History_saved Buffer_size Buffer_codes Reader_pattern Reader_place Word_size Word_letters out).bind fun v78 => (s_X11_work M_savedMany M_length M_thrown M_spelt M_speltMany M_place M_kind M_one M_two M_three M_begins M_done M_stopBy M_s M_saved M_text).bind fun v79 => (s_X11_thrown v79.2.2.2.1).bind fun v80 => if (v80 = v78.1 : Prop) then (if (v78.1 = 0 : Prop) then (fld 1 v78.2.2.2.2.2.2.2.2.2.2 0 fun v81 => if ((lg_cmp v81 (Int32.toInt64 v79.1)) = 0 : Prop) then (some (v78.2.1, v78.2.2.1, v78.2.2.2.1, v78.2.2.2.2.1, v78.2.2.2.2.2.1, v78.2.2.2.2.2.2.1, v78.2.2.2.2.2.2.2.1, v78.2.2.2.2.2.2.2.2.1, v78.2.2.2.2.2.2.2.2.2.1, v79.2.1, v79.2.2.1, v79.2.2.2.1, v79.2.2.2.2.1, v79.2.2.2.2.2.1, v79.2.2.2.2.2.2.1, v79.2.2.2.2.2.2.2.1, v79.2.2.2.2.2.2.2.2.1, v79.2.2.2.2.2.2.2.2.2.1, v79.2.2.2.2.2.2.2.2.2.2.1, v79.2.2.2.2.2.2.2.2.2.2.2.1, v79.2.2.2.2.2.2.2.2.2.2.2.2.1, v79.2.2.2.2.2.2.2.2.2.2.2.2.2.1, v79.2.2.2.2.2.2.2.2.2.2.2.2.2.2.1, v79.2.2.2.2.2.2.2.2.2.2.2.2.2.2.2, v78.2.2.2.2.2.2.2.2.2.2)) else (none)) else (some (v78.2.1, v78.2.2.1, v78.2.2.2.1, v78.2.2.2.2.1, v78.2.2.2.2.2.1, v78.2.2.2.2.2.2.1, v78.2.2.2.2.2.2.2.1, v78.2.2.2.2.2.2.2.2.1, v78.2.2.2.2.2.2.2.2.2.1, v79.2.1, v79.2.2.1, v79.2.2.2.1, v79.2.2.2.2.1, v79.2.2.2.2.2.1, v79.2.2.2.2.2.2.1, v79.2.2.2.2.2.2.2.1, v79.2.2.2.2.2.2.2.2.1, v79.2.2.2.2.2.2.2.2.2.1, v79.2.2.2.2.2.2.2.2.2.2.1, v79.2.2.2.2.2.2.2.2.2.2.2.1, v79.2.2.2.2.2.2.2.2.2.2.2.2.1, v79.2.2.2.2.2.2.2.2.2.2.2.2.2.1, v79.2.2.2.2.2.2.2.2.2.2.2.2.2.2.1, v79.2.2.2.2.2.2.2.2.2.2.2.2.2.2.2, v78.2.2.2.2.2.2.2.2.2.2))) else (none)
set_option maxHeartbeats 4000000 in
set_option maxRecDepth 100000 in
theorem v_L_law_L714 {a0n : Nat} {a0 : Nat → Int32} {p4 : Int32} {History_snapshotTaken : Int32} {History_snapshot : Nat → Int32} {Buffer_codes : Nat → Int32} {M_isTaken : Int32} {M_hash : Int64} {M_snapshot : Nat → Int32} {M_text : Nat → Int32} : ∀ (n : Nat) {State_cells : (Nat → Int32)} {History_oldest : (Int32)} {History_size : (Int32)} {History_saved : (Nat → Int32)} {Buffer_size : (Int32)} {Reader_pattern : (Nat)} {Reader_place : (Int32)} {Word_size : (Int32)} {Word_letters : (Nat → Int32)} {M_savedMany : (Int32)} {M_length : (Int32)} {M_thrown : (Int32)} {M_spelt : (Int32)} {M_speltMany : (Int32)} {M_place : (Int32)} {M_kind : (Int32)} {M_one : (Int32)} {M_two : (Int32)} {M_three : (Int32)} {M_begins : (Int32)} {M_done : (Int32)} {M_stopBy : (Int32)} {M_s : (Nat → Int32)} {M_saved : (Nat → Int32)} {out : (Nat → Int64)} {res : (Nat → Int32) × (Int32) × (Int32) × (Nat → Int32) × (Int32) × (Nat) × (Int32) × (Int32) × (Nat → Int32) × (Int32) × (Int32) × (Int32) × (Int32) × (Int32) × (Int32) × (Int32) × (Int32) × (Int32) × (Int32) × (Int32) × (Int32) × (Int32) × (Nat → Int32) × (Nat → Int32) × (Nat → Int64)} (hf : s_L_law_L714 a0n a0 Buffer_codes M_text n State_cells History_oldest History_size History_saved Buffer_size Reader_pattern Reader_place Word_size Word_letters M_savedMany M_length M_thrown M_spelt M_speltMany M_place M_kind M_one M_two M_three M_begins M_done M_stopBy M_s M_saved out = some res) {cl sl : Nat} (hc : cl + 1 ≤ 1062) (hs : sl + 6 ≤ 19011) (hx : V (fXlaw a0n a0) room_1 k_L_law 0 1762 [some (.ref 3000), some (.ref 0), some (.ref 11), some (.ref 16), some (.int p4), none, none, none, none] [] [.inl (5, [.ref 1, .ref 3, .ref 6, .ref 8, .ref 9]), .inl (3, [.ref 2]), .inr (910, .inl res.1), .inl (1, [.ref 4, .ref 5, .int res.2.1, .int res.2.2.1, .int History_snapshotTaken]), .inr (5460, .inl res.2.2.2.1), .inr (910, .inl History_snapshot), .inl (0, [.ref 7, .int res.2.2.2.2.1]), .inr (60, .inl Buffer_codes), .inl (2, [.ref (res.2.2.2.2.2.1 + 1000), .int res.2.2.2.2.2.2.1]), .inl (4, [.ref 10, .int res.2.2.2.2.2.2.2.1]), .inr (8, .inl res.2.2.2.2.2.2.2.2.1), .inl (6, [.ref 12, .ref 13, .int res.2.2.2.2.2.2.2.2.2.1, .ref 14, .int M_isTaken, .ref 15, .int res.2.2.2.2.2.2.2.2.2.2.1, .int res.2.2.2.2.2.2.2.2.2.2.2.1, .int res.2.2.2.2.2.2.2.2.2.2.2.2.1, .int res.2.2.2.2.2.2.2.2.2.2.2.2.2.1, .int res.2.2.2.2.2.2.2.2.2.2.2.2.2.2.1, .int res.2.2.2.2.2.2.2.2.2.2.2.2.2.2.2.1, .int res.2.2.2.2.2.2.2.2.2.2.2.2.2.2.2.2.1, .int res.2.2.2.2.2.2.2.2.2.2.2.2.2.2.2.2.2.1, .int res.2.2.2.2.2.2.2.2.2.2.2.2.2.2.2.2.2.2.1, .int res.2.2.2.2.2.2.2.2.2.2.2.2.2.2.2.2.2.2.2.1, .int res.2.2.2.2.2.2.2.2.2.2.2.2.2.2.2.2.2.2.2.2.1, .int res.2.2.2.2.2.2.2.2.2.2.2.2.2.2.2.2.2.2.2.2.2.1, .long M_hash]), .inr (406, .inl res.2.2.2.2.2.2.2.2.2.2.2.2.2.2.2.2.2.2.2.2.2.2.1), .inr (2436, .inl res.2.2.2.2.2.2.2.2.2.2.2.2.2.2.2.2.2.2.2.2.2.2.2.1), .inr (406, .inl M_snapshot), .inr (60, .inl M_text), .inr (1, .inr res.2.2.2.2.2.2.2.2.2.2.2.2.2.2.2.2.2.2.2.2.2.2.2.2)] (cl + 1) (sl + 6)), V (fXlaw a0n a0) room_1 k_L_law 0 714 [some (.ref 3000), some (.ref 0), some (.ref 11), some (.ref 16), some (.int p4), none, none, none, none] [] [.inl (5, [.ref 1, .ref 3, .ref 6, .ref 8, .ref 9]), .inl (3, [.ref 2]), .inr (910, .inl State_cells), .inl (1, [.ref 4, .ref 5, .int History_oldest, .int History_size, .int History_snapshotTaken]), .inr (5460, .inl History_saved), .inr (910, .inl History_snapshot), .inl (0, [.ref 7, .int Buffer_size]), .inr (60, .inl Buffer_codes), .inl (2, [.ref (Reader_pattern + 1000), .int Reader_place]), .inl (4, [.ref 10, .int Word_size]), .inr (8, .inl Word_letters), .inl (6, [.ref 12, .ref 13, .int M_savedMany, .ref 14, .int M_isTaken, .ref 15, .int M_length, .int M_thrown, .int M_spelt, .int M_speltMany, .int M_place, .int M_kind, .int M_one, .int M_two, .int M_three, .int M_begins, .int M_done, .int M_stopBy, .long M_hash]), .inr (406, .inl M_s), .inr (2436, .inl M_saved), .inr (406, .inl M_snapshot), .inr (60, .inl M_text), .inr (1, .inr out)] cl sl := by
  intro n
  induction n with
  | zero =>
    intro State_cells History_oldest History_size History_saved Buffer_size Reader_pattern Reader_place Word_size Word_letters M_savedMany M_length M_thrown M_spelt M_speltMany M_place M_kind M_one M_two M_three M_begins M_done M_stopBy M_s M_saved out res hf cl sl hc hs hx
    rw [s_L_law_L714] at hf
    cases hf
  | succ n ih =>
    intro State_cells History_oldest History_size History_saved Buffer_size Reader_pattern Reader_place Word_size Word_letters M_savedMany M_length M_thrown M_spelt M_speltMany M_place M_kind M_one M_two M_three M_begins M_done M_stopBy M_s M_saved out res hf cl sl hc hs hx
    rw [s_L_law_L714] at hf
    refine V.aload_n (i := 1) dL_law_714 rfl rfl ?_
    refine V.aload_n (i := 3) dL_law_715 rfl rfl ?_
    obtain ⟨v78, hv78, hf⟩ := fbind hf
    refine V.callSn (pl := [0, 1, 2, 3, 4, 5, 6, 7, 8, 9, 10, 16]) (σ' := [.inl (5, [.ref 1, .ref 3, .ref 6, .ref 8, .ref 9]), .inl (3, [.ref 2]), .inr (910, .inl v78.2.1), .inl (1, [.ref 4, .ref 5, .int v78.2.2.1, .int v78.2.2.2.1, .int History_snapshotTaken]), .inr (5460, .inl v78.2.2.2.2.1), .inr (910, .inl History_snapshot), .inl (0, [.ref 7, .int v78.2.2.2.2.2.1]), .inr (60, .inl Buffer_codes), .inl (2, [.ref (v78.2.2.2.2.2.2.1 + 1000), .int v78.2.2.2.2.2.2.2.1]), .inl (4, [.ref 10, .int v78.2.2.2.2.2.2.2.2.1]), .inr (8, .inl v78.2.2.2.2.2.2.2.2.2.1), .inl (6, [.ref 12, .ref 13, .int M_savedMany, .ref 14, .int M_isTaken, .ref 15, .int M_length, .int M_thrown, .int M_spelt, .int M_speltMany, .int M_place, .int M_kind, .int M_one, .int M_two, .int M_three, .int M_begins, .int M_done, .int M_stopBy, .long M_hash]), .inr (406, .inl M_s), .inr (2436, .inl M_saved), .inr (406, .inl M_snapshot), .inr (60, .inl M_text), .inr (1, .inr v78.2.2.2.2.2.2.2.2.2.2)]) (st2 := [.int v78.1]) (cl2 := (cl + 1)) (sl2 := (sl + 6)) (ct_L_work (State_cells := State_cells) (History_oldest := History_oldest) (History_size := History_size) (History_snapshotTaken := History_snapshotTaken) (History_saved := History_saved) (History_snapshot := History_snapshot) (Buffer_size := Buffer_size) (Buffer_codes := Buffer_codes) (Reader_pattern := Reader_pattern) (Reader_place := Reader_place) (Word_size := Word_size) (Word_letters := Word_letters) (out1 := out) hv78) dL_law_716 w796 w797 cal_L_work ⟨⟨Nat.le_of_ble_eq_true rfl, Nat.le_of_ble_eq_true rfl⟩, (show cl + 1 ≤ 1062 by omega), (show sl + 6 ≤ 19011 by omega)⟩ (Nat.le_of_ble_eq_true rfl) rfl ⟨rfl, ⟨by decide, by decide⟩, rfl, (fr_cons (Or.inl (Nat.le_of_ble_eq_true rfl)) (fr_cons (Or.inl (Nat.le_of_ble_eq_true rfl)) (fr_cons (Or.inl (Nat.le_of_ble_eq_true rfl)) (fr_cons (Or.inl (Nat.le_of_ble_eq_true rfl)) (fr_cons (Or.inl (Nat.le_of_ble_eq_true rfl)) (fr_cons (Or.inl (Nat.le_of_ble_eq_true rfl)) (fr_cons (Or.inl (Nat.le_of_ble_eq_true rfl)) (fr_cons (Or.inl (Nat.le_of_ble_eq_true rfl)) (fr_cons (Or.inl (Nat.le_of_ble_eq_true rfl)) (fr_cons (Or.inr (Nat.le_add_left 1000 _)) (fr_cons (Or.inl (Nat.le_of_ble_eq_true rfl)) (fr_nil)))))))))))), rfl⟩ fr_i rfl rfl rfl rfl ?_
    refine V.istore (i := 5) (L' := [some (.ref 3000), some (.ref 0), some (.ref 11), some (.ref 16), some (.int p4), some (.int v78.1), none, none, none]) dL_law_719 (Nat.le_of_ble_eq_true rfl) rfl rfl ?_
    refine V.aload_n (i := 2) dL_law_721 rfl rfl ?_
    obtain ⟨v79, hv79, hf⟩ := fbind hf
    refine V.callVn (pl := [11, 12, 13, 14, 15]) (σ' := [.inl (5, [.ref 1, .ref 3, .ref 6, .ref 8, .ref 9]), .inl (3, [.ref 2]), .inr (910, .inl v78.2.1), .inl (1, [.ref 4, .ref 5, .int v78.2.2.1, .int v78.2.2.2.1, .int History_snapshotTaken]), .inr (5460, .inl v78.2.2.2.2.1), .inr (910, .inl History_snapshot), .inl (0, [.ref 7, .int v78.2.2.2.2.2.1]), .inr (60, .inl Buffer_codes), .inl (2, [.ref (v78.2.2.2.2.2.2.1 + 1000), .int v78.2.2.2.2.2.2.2.1]), .inl (4, [.ref 10, .int v78.2.2.2.2.2.2.2.2.1]), .inr (8, .inl v78.2.2.2.2.2.2.2.2.2.1), .inl (6, [.ref 12, .ref 13, .int v79.2.1, .ref 14, .int M_isTaken, .ref 15, .int v79.2.2.1, .int v79.2.2.2.1, .int v79.2.2.2.2.1, .int v79.2.2.2.2.2.1, .int v79.2.2.2.2.2.2.1, .int v79.2.2.2.2.2.2.2.1, .int v79.2.2.2.2.2.2.2.2.1, .int v79.2.2.2.2.2.2.2.2.2.1, .int v79.2.2.2.2.2.2.2.2.2.2.1, .int v79.2.2.2.2.2.2.2.2.2.2.2.1, .int v79.2.2.2.2.2.2.2.2.2.2.2.2.1, .int v79.2.2.2.2.2.2.2.2.2.2.2.2.2.1, .long M_hash]), .inr (406, .inl v79.2.2.2.2.2.2.2.2.2.2.2.2.2.2.1), .inr (2436, .inl v79.2.2.2.2.2.2.2.2.2.2.2.2.2.2.2), .inr (406, .inl M_snapshot), .inr (60, .inl M_text), .inr (1, .inr v78.2.2.2.2.2.2.2.2.2.2)]) (st2 := [.int v79.1]) (cl2 := (cl + 1)) (sl2 := (sl + 6)) (ct_X11_work (M_savedMany := M_savedMany) (M_isTaken := M_isTaken) (M_length := M_length) (M_thrown := M_thrown) (M_spelt := M_spelt) (M_speltMany := M_speltMany) (M_place := M_place) (M_kind := M_kind) (M_one := M_one) (M_two := M_two) (M_three := M_three) (M_begins := M_begins) (M_done := M_done) (M_stopBy := M_stopBy) (M_hash := M_hash) (M_s := M_s) (M_saved := M_saved) (M_snapshot := M_snapshot) (M_text := M_text) hv79) dL_law_722 w1319 ⟨w1320, w1321⟩ cal_X11_work rfl ⟨⟨Nat.le_of_ble_eq_true rfl, Nat.le_of_ble_eq_true rfl⟩, (show (cl + 1) + 0 ≤ 1062 by omega), (show (sl + 6) + 0 ≤ 19011 by omega)⟩ (Nat.le_of_ble_eq_true rfl) (Or.inl ⟨_, _, _, _, rfl, rfl⟩) rfl ⟨rfl, ⟨by decide, by decide⟩, rfl, (fr_cons (Or.inl (Nat.le_of_ble_eq_true rfl)) (fr_cons (Or.inl (Nat.le_of_ble_eq_true rfl)) (fr_cons (Or.inl (Nat.le_of_ble_eq_true rfl)) (fr_cons (Or.inl (Nat.le_of_ble_eq_true rfl)) (fr_nil))))), rfl⟩ fr_i rfl rfl rfl rfl ?_
    refine V.istore (i := 6) (L' := [some (.ref 3000), some (.ref 0), some (.ref 11), some (.ref 16), some (.int p4), some (.int v78.1), some (.int v79.1), none, none]) dL_law_725 (Nat.le_of_ble_eq_true rfl) rfl rfl ?_
    refine V.aload_n (i := 2) dL_law_727 rfl rfl ?_
    obtain ⟨v80, hv80, hf⟩ := fbind hf
    refine V.callVn (pl := [11, 12, 13, 14, 15]) (σ' := [.inl (5, [.ref 1, .ref 3, .ref 6, .ref 8, .ref 9]), .inl (3, [.ref 2]), .inr (910, .inl v78.2.1), .inl (1, [.ref 4, .ref 5, .int v78.2.2.1, .int v78.2.2.2.1, .int History_snapshotTaken]), .inr (5460, .inl v78.2.2.2.2.1), .inr (910, .inl History_snapshot), .inl (0, [.ref 7, .int v78.2.2.2.2.2.1]), .inr (60, .inl Buffer_codes), .inl (2, [.ref (v78.2.2.2.2.2.2.1 + 1000), .int v78.2.2.2.2.2.2.2.1]), .inl (4, [.ref 10, .int v78.2.2.2.2.2.2.2.2.1]), .inr (8, .inl v78.2.2.2.2.2.2.2.2.2.1), .inl (6, [.ref 12, .ref 13, .int v79.2.1, .ref 14, .int M_isTaken, .ref 15, .int v79.2.2.1, .int v79.2.2.2.1, .int v79.2.2.2.2.1, .int v79.2.2.2.2.2.1, .int v79.2.2.2.2.2.2.1, .int v79.2.2.2.2.2.2.2.1, .int v79.2.2.2.2.2.2.2.2.1, .int v79.2.2.2.2.2.2.2.2.2.1, .int v79.2.2.2.2.2.2.2.2.2.2.1, .int v79.2.2.2.2.2.2.2.2.2.2.2.1, .int v79.2.2.2.2.2.2.2.2.2.2.2.2.1, .int v79.2.2.2.2.2.2.2.2.2.2.2.2.2.1, .long M_hash]), .inr (406, .inl v79.2.2.2.2.2.2.2.2.2.2.2.2.2.2.1), .inr (2436, .inl v79.2.2.2.2.2.2.2.2.2.2.2.2.2.2.2), .inr (406, .inl M_snapshot), .inr (60, .inl M_text), .inr (1, .inr v78.2.2.2.2.2.2.2.2.2.2)]) (st2 := [.int v80]) (cl2 := (cl + 1)) (sl2 := (sl + 6)) (ct_X11_thrown (M_savedMany := v79.2.1) (M_isTaken := M_isTaken) (M_length := v79.2.2.1) (M_thrown := v79.2.2.2.1) (M_spelt := v79.2.2.2.2.1) (M_speltMany := v79.2.2.2.2.2.1) (M_place := v79.2.2.2.2.2.2.1) (M_kind := v79.2.2.2.2.2.2.2.1) (M_one := v79.2.2.2.2.2.2.2.2.1) (M_two := v79.2.2.2.2.2.2.2.2.2.1) (M_three := v79.2.2.2.2.2.2.2.2.2.2.1) (M_begins := v79.2.2.2.2.2.2.2.2.2.2.2.1) (M_done := v79.2.2.2.2.2.2.2.2.2.2.2.2.1) (M_stopBy := v79.2.2.2.2.2.2.2.2.2.2.2.2.2.1) (M_hash := M_hash) (M_s := v79.2.2.2.2.2.2.2.2.2.2.2.2.2.2.1) (M_saved := v79.2.2.2.2.2.2.2.2.2.2.2.2.2.2.2) (M_snapshot := M_snapshot) (M_text := M_text) hv80) dL_law_728 w1101 ⟨w1102, w1103⟩ cal_X11_thrown rfl ⟨⟨Nat.le_of_ble_eq_true rfl, Nat.le_of_ble_eq_true rfl⟩, (show (cl + 1) + 0 ≤ 1062 by omega), (show (sl + 6) + 0 ≤ 19011 by omega)⟩ (Nat.le_of_ble_eq_true rfl) (Or.inl ⟨_, _, _, _, rfl, rfl⟩) rfl ⟨rfl, ⟨by decide, by decide⟩, rfl, (fr_cons (Or.inl (Nat.le_of_ble_eq_true rfl)) (fr_cons (Or.inl (Nat.le_of_ble_eq_true rfl)) (fr_cons (Or.inl (Nat.le_of_ble_eq_true rfl)) (fr_cons (Or.inl (Nat.le_of_ble_eq_true rfl)) (fr_nil))))), rfl⟩ fr_i rfl rfl rfl rfl ?_
    refine V.iload (i := 5) dL_law_731 rfl ?_
    refine V.icmp_eq (tgt := 738) dL_law_733 (by decide) (fun h => ?_) (fun h => ?_)
    · have hf := fif_t h hf
      refine V.iload (i := 5) dL_law_738 rfl ?_
      refine V.if_ne (tgt := 755) dL_law_740 (by decide) (fun h => ?_) (fun h => ?_)
      · have hf := fif_f h hf
        refine V.goto (tgt := 1762) dL_law_755 (by decide) ?_
        obtain rfl := Option.some.inj hf
        exact V.locs (L' := [some (.ref 3000), some (.ref 0), some (.ref 11), some (.ref 16), some (.int p4), none, none, none, none]) ⟨rfl, ⟨rfl, ⟨rfl, ⟨rfl, ⟨rfl, trivial⟩⟩⟩⟩⟩ (V.wide (by omega) (by omega) hx)
      · have hf := fif_t h hf
        refine V.aload_n (i := 3) dL_law_743 rfl rfl ?_
        refine V.iconst (v := 0) dL_law_744 rfl ?_
        obtain ⟨hi, v81, ev81, hf⟩ := fld_e hf
        refine V.fldL dL_law_745 rfl hi ev81 ?_
        refine V.iload (i := 6) dL_law_746 rfl ?_
        refine V.i2l dL_law_748 ?_
        refine V.lcmp dL_law_749 ?_
        refine V.if_eq (tgt := 755) dL_law_750 (by decide) (fun h => ?_) (fun h => ?_)
        · have hf := fif_t h hf
          refine V.goto (tgt := 1762) dL_law_755 (by decide) ?_
          obtain rfl := Option.some.inj hf
          exact V.locs (L' := [some (.ref 3000), some (.ref 0), some (.ref 11), some (.ref 16), some (.int p4), none, none, none, none]) ⟨rfl, ⟨rfl, ⟨rfl, ⟨rfl, ⟨rfl, trivial⟩⟩⟩⟩⟩ (V.wide (by omega) (by omega) hx)
        · have hf := fif_f h hf
          refine V.iconst (v := 0) dL_law_753 rfl ?_
          cases hf
    · have hf := fif_f h hf
      refine V.iconst (v := 0) dL_law_736 rfl ?_
      cases hf
def s_L_law_L758 (a0n : Nat) (a0 : Nat → Int32) (p4 : Int32) (State_cells : Nat → Int32) (M_s : Nat → Int32) : Nat → (Int32) → (Nat → Int64) → Option ((Int32) × (Nat → Int64))
  | 0, _, _ => none
  | n + 1, M_thrown, out => fld a0n a0 (p4 + 1) fun v83 => (s_L_stopped v83 State_cells out).bind fun v84 => fld a0n a0 (p4 + 1) fun v85 => (s_X11_stopped v85 M_thrown M_s).bind fun v86 => (s_X11_thrown v86.2).bind fun v87 => if (v87 = v84.1 : Prop) then (if (v84.1 = 0 : Prop) then (fld 1 v84.2 0 fun v88 => if ((lg_cmp v88 (Int32.toInt64 v86.1)) = 0 : Prop) then (some (v86.2, v84.2)) else (none)) else (some (v86.2, v84.2))) else (none)
set_option maxHeartbeats 4000000 in
set_option maxRecDepth 100000 in
theorem v_L_law_L758 {a0n : Nat} {a0 : Nat → Int32} {p4 : Int32} {State_cells : Nat → Int32} {History_oldest : Int32} {History_size : Int32} {History_snapshotTaken : Int32} {History_saved : Nat → Int32} {History_snapshot : Nat → Int32} {Buffer_size : Int32} {Buffer_codes : Nat → Int32} {Reader_pattern : Nat} {Reader_place : Int32} {Word_size : Int32} {Word_letters : Nat → Int32} {M_savedMany : Int32} {M_isTaken : Int32} {M_length : Int32} {M_spelt : Int32} {M_speltMany : Int32} {M_place : Int32} {M_kind : Int32} {M_one : Int32} {M_two : Int32} {M_three : Int32} {M_begins : Int32} {M_done : Int32} {M_stopBy : Int32} {M_hash : Int64} {M_s : Nat → Int32} {M_saved : Nat → Int32} {M_snapshot : Nat → Int32} {M_text : Nat → Int32} : ∀ (n : Nat) {M_thrown : (Int32)} {out : (Nat → Int64)} {res : (Int32) × (Nat → Int64)} (hf : s_L_law_L758 a0n a0 p4 State_cells M_s n M_thrown out = some res) {cl sl : Nat} (hc : cl + 1 ≤ 1062) (hs : sl + 6 ≤ 19011) (hx : V (fXlaw a0n a0) room_1 k_L_law 0 1762 [some (.ref 3000), some (.ref 0), some (.ref 11), some (.ref 16), some (.int p4), none, none, none, none] [] [.inl (5, [.ref 1, .ref 3, .ref 6, .ref 8, .ref 9]), .inl (3, [.ref 2]), .inr (910, .inl State_cells), .inl (1, [.ref 4, .ref 5, .int History_oldest, .int History_size, .int History_snapshotTaken]), .inr (5460, .inl History_saved), .inr (910, .inl History_snapshot), .inl (0, [.ref 7, .int Buffer_size]), .inr (60, .inl Buffer_codes), .inl (2, [.ref (Reader_pattern + 1000), .int Reader_place]), .inl (4, [.ref 10, .int Word_size]), .inr (8, .inl Word_letters), .inl (6, [.ref 12, .ref 13, .int M_savedMany, .ref 14, .int M_isTaken, .ref 15, .int M_length, .int res.1, .int M_spelt, .int M_speltMany, .int M_place, .int M_kind, .int M_one, .int M_two, .int M_three, .int M_begins, .int M_done, .int M_stopBy, .long M_hash]), .inr (406, .inl M_s), .inr (2436, .inl M_saved), .inr (406, .inl M_snapshot), .inr (60, .inl M_text), .inr (1, .inr res.2)] (cl + 1) (sl + 6)), V (fXlaw a0n a0) room_1 k_L_law 0 758 [some (.ref 3000), some (.ref 0), some (.ref 11), some (.ref 16), some (.int p4), none, none, none, none] [] [.inl (5, [.ref 1, .ref 3, .ref 6, .ref 8, .ref 9]), .inl (3, [.ref 2]), .inr (910, .inl State_cells), .inl (1, [.ref 4, .ref 5, .int History_oldest, .int History_size, .int History_snapshotTaken]), .inr (5460, .inl History_saved), .inr (910, .inl History_snapshot), .inl (0, [.ref 7, .int Buffer_size]), .inr (60, .inl Buffer_codes), .inl (2, [.ref (Reader_pattern + 1000), .int Reader_place]), .inl (4, [.ref 10, .int Word_size]), .inr (8, .inl Word_letters), .inl (6, [.ref 12, .ref 13, .int M_savedMany, .ref 14, .int M_isTaken, .ref 15, .int M_length, .int M_thrown, .int M_spelt, .int M_speltMany, .int M_place, .int M_kind, .int M_one, .int M_two, .int M_three, .int M_begins, .int M_done, .int M_stopBy, .long M_hash]), .inr (406, .inl M_s), .inr (2436, .inl M_saved), .inr (406, .inl M_snapshot), .inr (60, .inl M_text), .inr (1, .inr out)] cl sl := by
  intro n
  induction n with
  | zero =>
    intro M_thrown out res hf cl sl hc hs hx
    rw [s_L_law_L758] at hf
    cases hf
  | succ n ih =>
    intro M_thrown out res hf cl sl hc hs hx
    rw [s_L_law_L758] at hf
    refine V.aload_n (i := 1) dL_law_758 rfl rfl ?_
    refine V.aload_n (i := 0) dL_law_759 rfl rfl ?_
    refine V.iload (i := 4) dL_law_760 rfl ?_
    refine V.iconst (v := 1) dL_law_762 rfl ?_
    refine V.iadd dL_law_763 ?_
    obtain ⟨hi, v83, ev83, hf⟩ := fld_e hf
    refine V.sload dL_law_764 hi ?_
    refine V.cgi ev83 ?_
    refine V.aload_n (i := 3) dL_law_765 rfl rfl ?_
    obtain ⟨v84, hv84, hf⟩ := fbind hf
    refine V.callSn (pl := [0, 1, 2, 3, 4, 5, 6, 7, 8, 9, 10, 16]) (σ' := [.inl (5, [.ref 1, .ref 3, .ref 6, .ref 8, .ref 9]), .inl (3, [.ref 2]), .inr (910, .inl State_cells), .inl (1, [.ref 4, .ref 5, .int History_oldest, .int History_size, .int History_snapshotTaken]), .inr (5460, .inl History_saved), .inr (910, .inl History_snapshot), .inl (0, [.ref 7, .int Buffer_size]), .inr (60, .inl Buffer_codes), .inl (2, [.ref (Reader_pattern + 1000), .int Reader_place]), .inl (4, [.ref 10, .int Word_size]), .inr (8, .inl Word_letters), .inl (6, [.ref 12, .ref 13, .int M_savedMany, .ref 14, .int M_isTaken, .ref 15, .int M_length, .int M_thrown, .int M_spelt, .int M_speltMany, .int M_place, .int M_kind, .int M_one, .int M_two, .int M_three, .int M_begins, .int M_done, .int M_stopBy, .long M_hash]), .inr (406, .inl M_s), .inr (2436, .inl M_saved), .inr (406, .inl M_snapshot), .inr (60, .inl M_text), .inr (1, .inr v84.2)]) (st2 := [.int v84.1]) (cl2 := (cl + 1)) (sl2 := (sl + 6)) (ct_L_stopped (a1 := v83) (State_cells := State_cells) (History_oldest := History_oldest) (History_size := History_size) (History_snapshotTaken := History_snapshotTaken) (History_saved := History_saved) (History_snapshot := History_snapshot) (Buffer_size := Buffer_size) (Buffer_codes := Buffer_codes) (Reader_pattern := Reader_pattern) (Reader_place := Reader_place) (Word_size := Word_size) (Word_letters := Word_letters) (out2 := out) hv84) dL_law_766 w890 w891 cal_L_stopped ⟨⟨Nat.le_of_ble_eq_true rfl, Nat.le_of_ble_eq_true rfl⟩, (show cl + 1 ≤ 1062 by omega), (show sl + 6 ≤ 19011 by omega)⟩ (Nat.le_of_ble_eq_true rfl) rfl ⟨rfl, ⟨by decide, by decide⟩, rfl, (fr_cons (Or.inl (Nat.le_of_ble_eq_true rfl)) (fr_cons (Or.inl (Nat.le_of_ble_eq_true rfl)) (fr_cons (Or.inl (Nat.le_of_ble_eq_true rfl)) (fr_cons (Or.inl (Nat.le_of_ble_eq_true rfl)) (fr_cons (Or.inl (Nat.le_of_ble_eq_true rfl)) (fr_cons (Or.inl (Nat.le_of_ble_eq_true rfl)) (fr_cons (Or.inl (Nat.le_of_ble_eq_true rfl)) (fr_cons (Or.inl (Nat.le_of_ble_eq_true rfl)) (fr_cons (Or.inl (Nat.le_of_ble_eq_true rfl)) (fr_cons (Or.inr (Nat.le_add_left 1000 _)) (fr_cons (Or.inl (Nat.le_of_ble_eq_true rfl)) (fr_nil)))))))))))), rfl⟩ fr_i rfl rfl rfl rfl ?_
    refine V.istore (i := 5) (L' := [some (.ref 3000), some (.ref 0), some (.ref 11), some (.ref 16), some (.int p4), some (.int v84.1), none, none, none]) dL_law_769 (Nat.le_of_ble_eq_true rfl) rfl rfl ?_
    refine V.aload_n (i := 2) dL_law_771 rfl rfl ?_
    refine V.aload_n (i := 0) dL_law_772 rfl rfl ?_
    refine V.iload (i := 4) dL_law_773 rfl ?_
    refine V.iconst (v := 1) dL_law_775 rfl ?_
    refine V.iadd dL_law_776 ?_
    obtain ⟨hi, v85, ev85, hf⟩ := fld_e hf
    refine V.sload dL_law_777 hi ?_
    refine V.cgi ev85 ?_
    obtain ⟨v86, hv86, hf⟩ := fbind hf
    refine V.callVn (pl := [11, 12, 13, 14, 15]) (σ' := [.inl (5, [.ref 1, .ref 3, .ref 6, .ref 8, .ref 9]), .inl (3, [.ref 2]), .inr (910, .inl State_cells), .inl (1, [.ref 4, .ref 5, .int History_oldest, .int History_size, .int History_snapshotTaken]), .inr (5460, .inl History_saved), .inr (910, .inl History_snapshot), .inl (0, [.ref 7, .int Buffer_size]), .inr (60, .inl Buffer_codes), .inl (2, [.ref (Reader_pattern + 1000), .int Reader_place]), .inl (4, [.ref 10, .int Word_size]), .inr (8, .inl Word_letters), .inl (6, [.ref 12, .ref 13, .int M_savedMany, .ref 14, .int M_isTaken, .ref 15, .int M_length, .int v86.2, .int M_spelt, .int M_speltMany, .int M_place, .int M_kind, .int M_one, .int M_two, .int M_three, .int M_begins, .int M_done, .int M_stopBy, .long M_hash]), .inr (406, .inl M_s), .inr (2436, .inl M_saved), .inr (406, .inl M_snapshot), .inr (60, .inl M_text), .inr (1, .inr v84.2)]) (st2 := [.int v86.1]) (cl2 := (cl + 1)) (sl2 := (sl + 6)) (ct_X11_stopped (a1 := v85) (M_savedMany := M_savedMany) (M_isTaken := M_isTaken) (M_length := M_length) (M_thrown := M_thrown) (M_spelt := M_spelt) (M_speltMany := M_speltMany) (M_place := M_place) (M_kind := M_kind) (M_one := M_one) (M_two := M_two) (M_three := M_three) (M_begins := M_begins) (M_done := M_done) (M_stopBy := M_stopBy) (M_hash := M_hash) (M_s := M_s) (M_saved := M_saved) (M_snapshot := M_snapshot) (M_text := M_text) hv86) dL_law_778 w1323 ⟨w1324, w1325⟩ cal_X11_stopped rfl ⟨⟨Nat.le_of_ble_eq_true rfl, Nat.le_of_ble_eq_true rfl⟩, (show (cl + 1) + 0 ≤ 1062 by omega), (show (sl + 6) + 0 ≤ 19011 by omega)⟩ (Nat.le_of_ble_eq_true rfl) (Or.inl ⟨_, _, _, _, rfl, rfl⟩) rfl ⟨rfl, ⟨by decide, by decide⟩, rfl, (fr_cons (Or.inl (Nat.le_of_ble_eq_true rfl)) (fr_cons (Or.inl (Nat.le_of_ble_eq_true rfl)) (fr_cons (Or.inl (Nat.le_of_ble_eq_true rfl)) (fr_cons (Or.inl (Nat.le_of_ble_eq_true rfl)) (fr_nil))))), rfl⟩ fr_i rfl rfl rfl rfl ?_
    refine V.istore (i := 6) (L' := [some (.ref 3000), some (.ref 0), some (.ref 11), some (.ref 16), some (.int p4), some (.int v84.1), some (.int v86.1), none, none]) dL_law_781 (Nat.le_of_ble_eq_true rfl) rfl rfl ?_
    refine V.aload_n (i := 2) dL_law_783 rfl rfl ?_
    obtain ⟨v87, hv87, hf⟩ := fbind hf
    refine V.callVn (pl := [11, 12, 13, 14, 15]) (σ' := [.inl (5, [.ref 1, .ref 3, .ref 6, .ref 8, .ref 9]), .inl (3, [.ref 2]), .inr (910, .inl State_cells), .inl (1, [.ref 4, .ref 5, .int History_oldest, .int History_size, .int History_snapshotTaken]), .inr (5460, .inl History_saved), .inr (910, .inl History_snapshot), .inl (0, [.ref 7, .int Buffer_size]), .inr (60, .inl Buffer_codes), .inl (2, [.ref (Reader_pattern + 1000), .int Reader_place]), .inl (4, [.ref 10, .int Word_size]), .inr (8, .inl Word_letters), .inl (6, [.ref 12, .ref 13, .int M_savedMany, .ref 14, .int M_isTaken, .ref 15, .int M_length, .int v86.2, .int M_spelt, .int M_speltMany, .int M_place, .int M_kind, .int M_one, .int M_two, .int M_three, .int M_begins, .int M_done, .int M_stopBy, .long M_hash]), .inr (406, .inl M_s), .inr (2436, .inl M_saved), .inr (406, .inl M_snapshot), .inr (60, .inl M_text), .inr (1, .inr v84.2)]) (st2 := [.int v87]) (cl2 := (cl + 1)) (sl2 := (sl + 6)) (ct_X11_thrown (M_savedMany := M_savedMany) (M_isTaken := M_isTaken) (M_length := M_length) (M_thrown := v86.2) (M_spelt := M_spelt) (M_speltMany := M_speltMany) (M_place := M_place) (M_kind := M_kind) (M_one := M_one) (M_two := M_two) (M_three := M_three) (M_begins := M_begins) (M_done := M_done) (M_stopBy := M_stopBy) (M_hash := M_hash) (M_s := M_s) (M_saved := M_saved) (M_snapshot := M_snapshot) (M_text := M_text) hv87) dL_law_784 w1101 ⟨w1102, w1103⟩ cal_X11_thrown rfl ⟨⟨Nat.le_of_ble_eq_true rfl, Nat.le_of_ble_eq_true rfl⟩, (show (cl + 1) + 0 ≤ 1062 by omega), (show (sl + 6) + 0 ≤ 19011 by omega)⟩ (Nat.le_of_ble_eq_true rfl) (Or.inl ⟨_, _, _, _, rfl, rfl⟩) rfl ⟨rfl, ⟨by decide, by decide⟩, rfl, (fr_cons (Or.inl (Nat.le_of_ble_eq_true rfl)) (fr_cons (Or.inl (Nat.le_of_ble_eq_true rfl)) (fr_cons (Or.inl (Nat.le_of_ble_eq_true rfl)) (fr_cons (Or.inl (Nat.le_of_ble_eq_true rfl)) (fr_nil))))), rfl⟩ fr_i rfl rfl rfl rfl ?_
    refine V.iload (i := 5) dL_law_787 rfl ?_
    refine V.icmp_eq (tgt := 794) dL_law_789 (by decide) (fun h => ?_) (fun h => ?_)
    · have hf := fif_t h hf
      refine V.iload (i := 5) dL_law_794 rfl ?_
      refine V.if_ne (tgt := 811) dL_law_796 (by decide) (fun h => ?_) (fun h => ?_)
      · have hf := fif_f h hf
        refine V.goto (tgt := 1762) dL_law_811 (by decide) ?_
        obtain rfl := Option.some.inj hf
        exact V.locs (L' := [some (.ref 3000), some (.ref 0), some (.ref 11), some (.ref 16), some (.int p4), none, none, none, none]) ⟨rfl, ⟨rfl, ⟨rfl, ⟨rfl, ⟨rfl, trivial⟩⟩⟩⟩⟩ (V.wide (by omega) (by omega) hx)
      · have hf := fif_t h hf
        refine V.aload_n (i := 3) dL_law_799 rfl rfl ?_
        refine V.iconst (v := 0) dL_law_800 rfl ?_
        obtain ⟨hi, v88, ev88, hf⟩ := fld_e hf
        refine V.fldL dL_law_801 rfl hi ev88 ?_
        refine V.iload (i := 6) dL_law_802 rfl ?_
        refine V.i2l dL_law_804 ?_
        refine V.lcmp dL_law_805 ?_
        refine V.if_eq (tgt := 811) dL_law_806 (by decide) (fun h => ?_) (fun h => ?_)
        · have hf := fif_t h hf
          refine V.goto (tgt := 1762) dL_law_811 (by decide) ?_
          obtain rfl := Option.some.inj hf
          exact V.locs (L' := [some (.ref 3000), some (.ref 0), some (.ref 11), some (.ref 16), some (.int p4), none, none, none, none]) ⟨rfl, ⟨rfl, ⟨rfl, ⟨rfl, ⟨rfl, trivial⟩⟩⟩⟩⟩ (V.wide (by omega) (by omega) hx)
        · have hf := fif_f h hf
          refine V.iconst (v := 0) dL_law_809 rfl ?_
          cases hf
    · have hf := fif_f h hf
      refine V.iconst (v := 0) dL_law_792 rfl ?_
      cases hf
def s_L_law_L814 (a0n : Nat) (a0 : Nat → Int32) (p4 : Int32) (State_cells : Nat → Int32) (M_s : Nat → Int32) : Nat → (Int32) → (Nat → Int64) → Option ((Int32) × (Nat → Int64))
  | 0, _, _ => none
  | n + 1, M_thrown, out => fld a0n a0 (p4 + 1) fun v90 => fld a0n a0 (p4 + 2) fun v91 => (s_L_told v90 v91 State_cells out).bind fun v92 => fld a0n a0 (p4 + 1) fun v93 => fld a0n a0 (p4 + 2) fun v94 => (s_X11_told v93 v94 M_thrown M_s).bind fun v95 => (s_X11_thrown v95.2).bind fun v96 => if (v96 = v92.1 : Prop) then (if (v92.1 = 0 : Prop) then (fld 1 v92.2 0 fun v97 => if ((lg_cmp v97 (Int32.toInt64 v95.1)) = 0 : Prop) then (some (v95.2, v92.2)) else (none)) else (some (v95.2, v92.2))) else (none)
set_option maxHeartbeats 4000000 in
set_option maxRecDepth 100000 in
theorem v_L_law_L814 {a0n : Nat} {a0 : Nat → Int32} {p4 : Int32} {State_cells : Nat → Int32} {History_oldest : Int32} {History_size : Int32} {History_snapshotTaken : Int32} {History_saved : Nat → Int32} {History_snapshot : Nat → Int32} {Buffer_size : Int32} {Buffer_codes : Nat → Int32} {Reader_pattern : Nat} {Reader_place : Int32} {Word_size : Int32} {Word_letters : Nat → Int32} {M_savedMany : Int32} {M_isTaken : Int32} {M_length : Int32} {M_spelt : Int32} {M_speltMany : Int32} {M_place : Int32} {M_kind : Int32} {M_one : Int32} {M_two : Int32} {M_three : Int32} {M_begins : Int32} {M_done : Int32} {M_stopBy : Int32} {M_hash : Int64} {M_s : Nat → Int32} {M_saved : Nat → Int32} {M_snapshot : Nat → Int32} {M_text : Nat → Int32} : ∀ (n : Nat) {M_thrown : (Int32)} {out : (Nat → Int64)} {res : (Int32) × (Nat → Int64)} (hf : s_L_law_L814 a0n a0 p4 State_cells M_s n M_thrown out = some res) {cl sl : Nat} (hc : cl + 1 ≤ 1062) (hs : sl + 6 ≤ 19011) (hx : V (fXlaw a0n a0) room_1 k_L_law 0 1762 [some (.ref 3000), some (.ref 0), some (.ref 11), some (.ref 16), some (.int p4), none, none, none, none] [] [.inl (5, [.ref 1, .ref 3, .ref 6, .ref 8, .ref 9]), .inl (3, [.ref 2]), .inr (910, .inl State_cells), .inl (1, [.ref 4, .ref 5, .int History_oldest, .int History_size, .int History_snapshotTaken]), .inr (5460, .inl History_saved), .inr (910, .inl History_snapshot), .inl (0, [.ref 7, .int Buffer_size]), .inr (60, .inl Buffer_codes), .inl (2, [.ref (Reader_pattern + 1000), .int Reader_place]), .inl (4, [.ref 10, .int Word_size]), .inr (8, .inl Word_letters), .inl (6, [.ref 12, .ref 13, .int M_savedMany, .ref 14, .int M_isTaken, .ref 15, .int M_length, .int res.1, .int M_spelt, .int M_speltMany, .int M_place, .int M_kind, .int M_one, .int M_two, .int M_three, .int M_begins, .int M_done, .int M_stopBy, .long M_hash]), .inr (406, .inl M_s), .inr (2436, .inl M_saved), .inr (406, .inl M_snapshot), .inr (60, .inl M_text), .inr (1, .inr res.2)] (cl + 1) (sl + 6)), V (fXlaw a0n a0) room_1 k_L_law 0 814 [some (.ref 3000), some (.ref 0), some (.ref 11), some (.ref 16), some (.int p4), none, none, none, none] [] [.inl (5, [.ref 1, .ref 3, .ref 6, .ref 8, .ref 9]), .inl (3, [.ref 2]), .inr (910, .inl State_cells), .inl (1, [.ref 4, .ref 5, .int History_oldest, .int History_size, .int History_snapshotTaken]), .inr (5460, .inl History_saved), .inr (910, .inl History_snapshot), .inl (0, [.ref 7, .int Buffer_size]), .inr (60, .inl Buffer_codes), .inl (2, [.ref (Reader_pattern + 1000), .int Reader_place]), .inl (4, [.ref 10, .int Word_size]), .inr (8, .inl Word_letters), .inl (6, [.ref 12, .ref 13, .int M_savedMany, .ref 14, .int M_isTaken, .ref 15, .int M_length, .int M_thrown, .int M_spelt, .int M_speltMany, .int M_place, .int M_kind, .int M_one, .int M_two, .int M_three, .int M_begins, .int M_done, .int M_stopBy, .long M_hash]), .inr (406, .inl M_s), .inr (2436, .inl M_saved), .inr (406, .inl M_snapshot), .inr (60, .inl M_text), .inr (1, .inr out)] cl sl := by
  intro n
  induction n with
  | zero =>
    intro M_thrown out res hf cl sl hc hs hx
    rw [s_L_law_L814] at hf
    cases hf
  | succ n ih =>
    intro M_thrown out res hf cl sl hc hs hx
    rw [s_L_law_L814] at hf
    refine V.aload_n (i := 1) dL_law_814 rfl rfl ?_
    refine V.aload_n (i := 0) dL_law_815 rfl rfl ?_
    refine V.iload (i := 4) dL_law_816 rfl ?_
    refine V.iconst (v := 1) dL_law_818 rfl ?_
    refine V.iadd dL_law_819 ?_
    obtain ⟨hi, v90, ev90, hf⟩ := fld_e hf
    refine V.sload dL_law_820 hi ?_
    refine V.cgi ev90 ?_
    refine V.aload_n (i := 0) dL_law_821 rfl rfl ?_
    refine V.iload (i := 4) dL_law_822 rfl ?_
    refine V.iconst (v := 2) dL_law_824 rfl ?_
    refine V.iadd dL_law_825 ?_
    obtain ⟨hi, v91, ev91, hf⟩ := fld_e hf
    refine V.sload dL_law_826 hi ?_
    refine V.cgi ev91 ?_
    refine V.aload_n (i := 3) dL_law_827 rfl rfl ?_
    obtain ⟨v92, hv92, hf⟩ := fbind hf
    refine V.callSn (pl := [0, 1, 2, 3, 4, 5, 6, 7, 8, 9, 10, 16]) (σ' := [.inl (5, [.ref 1, .ref 3, .ref 6, .ref 8, .ref 9]), .inl (3, [.ref 2]), .inr (910, .inl State_cells), .inl (1, [.ref 4, .ref 5, .int History_oldest, .int History_size, .int History_snapshotTaken]), .inr (5460, .inl History_saved), .inr (910, .inl History_snapshot), .inl (0, [.ref 7, .int Buffer_size]), .inr (60, .inl Buffer_codes), .inl (2, [.ref (Reader_pattern + 1000), .int Reader_place]), .inl (4, [.ref 10, .int Word_size]), .inr (8, .inl Word_letters), .inl (6, [.ref 12, .ref 13, .int M_savedMany, .ref 14, .int M_isTaken, .ref 15, .int M_length, .int M_thrown, .int M_spelt, .int M_speltMany, .int M_place, .int M_kind, .int M_one, .int M_two, .int M_three, .int M_begins, .int M_done, .int M_stopBy, .long M_hash]), .inr (406, .inl M_s), .inr (2436, .inl M_saved), .inr (406, .inl M_snapshot), .inr (60, .inl M_text), .inr (1, .inr v92.2)]) (st2 := [.int v92.1]) (cl2 := (cl + 1)) (sl2 := (sl + 6)) (ct_L_told (a1 := v90) (a2 := v91) (State_cells := State_cells) (History_oldest := History_oldest) (History_size := History_size) (History_snapshotTaken := History_snapshotTaken) (History_saved := History_saved) (History_snapshot := History_snapshot) (Buffer_size := Buffer_size) (Buffer_codes := Buffer_codes) (Reader_pattern := Reader_pattern) (Reader_place := Reader_place) (Word_size := Word_size) (Word_letters := Word_letters) (out3 := out) hv92) dL_law_828 w898 w899 cal_L_told ⟨⟨Nat.le_of_ble_eq_true rfl, Nat.le_of_ble_eq_true rfl⟩, (show cl + 1 ≤ 1062 by omega), (show sl + 6 ≤ 19011 by omega)⟩ (Nat.le_of_ble_eq_true rfl) rfl ⟨rfl, ⟨by decide, by decide⟩, rfl, (fr_cons (Or.inl (Nat.le_of_ble_eq_true rfl)) (fr_cons (Or.inl (Nat.le_of_ble_eq_true rfl)) (fr_cons (Or.inl (Nat.le_of_ble_eq_true rfl)) (fr_cons (Or.inl (Nat.le_of_ble_eq_true rfl)) (fr_cons (Or.inl (Nat.le_of_ble_eq_true rfl)) (fr_cons (Or.inl (Nat.le_of_ble_eq_true rfl)) (fr_cons (Or.inl (Nat.le_of_ble_eq_true rfl)) (fr_cons (Or.inl (Nat.le_of_ble_eq_true rfl)) (fr_cons (Or.inl (Nat.le_of_ble_eq_true rfl)) (fr_cons (Or.inr (Nat.le_add_left 1000 _)) (fr_cons (Or.inl (Nat.le_of_ble_eq_true rfl)) (fr_nil)))))))))))), rfl⟩ fr_i rfl rfl rfl rfl ?_
    refine V.istore (i := 5) (L' := [some (.ref 3000), some (.ref 0), some (.ref 11), some (.ref 16), some (.int p4), some (.int v92.1), none, none, none]) dL_law_831 (Nat.le_of_ble_eq_true rfl) rfl rfl ?_
    refine V.aload_n (i := 2) dL_law_833 rfl rfl ?_
    refine V.aload_n (i := 0) dL_law_834 rfl rfl ?_
    refine V.iload (i := 4) dL_law_835 rfl ?_
    refine V.iconst (v := 1) dL_law_837 rfl ?_
    refine V.iadd dL_law_838 ?_
    obtain ⟨hi, v93, ev93, hf⟩ := fld_e hf
    refine V.sload dL_law_839 hi ?_
    refine V.cgi ev93 ?_
    refine V.aload_n (i := 0) dL_law_840 rfl rfl ?_
    refine V.iload (i := 4) dL_law_841 rfl ?_
    refine V.iconst (v := 2) dL_law_843 rfl ?_
    refine V.iadd dL_law_844 ?_
    obtain ⟨hi, v94, ev94, hf⟩ := fld_e hf
    refine V.sload dL_law_845 hi ?_
    refine V.cgi ev94 ?_
    obtain ⟨v95, hv95, hf⟩ := fbind hf
    refine V.callVn (pl := [11, 12, 13, 14, 15]) (σ' := [.inl (5, [.ref 1, .ref 3, .ref 6, .ref 8, .ref 9]), .inl (3, [.ref 2]), .inr (910, .inl State_cells), .inl (1, [.ref 4, .ref 5, .int History_oldest, .int History_size, .int History_snapshotTaken]), .inr (5460, .inl History_saved), .inr (910, .inl History_snapshot), .inl (0, [.ref 7, .int Buffer_size]), .inr (60, .inl Buffer_codes), .inl (2, [.ref (Reader_pattern + 1000), .int Reader_place]), .inl (4, [.ref 10, .int Word_size]), .inr (8, .inl Word_letters), .inl (6, [.ref 12, .ref 13, .int M_savedMany, .ref 14, .int M_isTaken, .ref 15, .int M_length, .int v95.2, .int M_spelt, .int M_speltMany, .int M_place, .int M_kind, .int M_one, .int M_two, .int M_three, .int M_begins, .int M_done, .int M_stopBy, .long M_hash]), .inr (406, .inl M_s), .inr (2436, .inl M_saved), .inr (406, .inl M_snapshot), .inr (60, .inl M_text), .inr (1, .inr v92.2)]) (st2 := [.int v95.1]) (cl2 := (cl + 1)) (sl2 := (sl + 6)) (ct_X11_told (a1 := v93) (a2 := v94) (M_savedMany := M_savedMany) (M_isTaken := M_isTaken) (M_length := M_length) (M_thrown := M_thrown) (M_spelt := M_spelt) (M_speltMany := M_speltMany) (M_place := M_place) (M_kind := M_kind) (M_one := M_one) (M_two := M_two) (M_three := M_three) (M_begins := M_begins) (M_done := M_done) (M_stopBy := M_stopBy) (M_hash := M_hash) (M_s := M_s) (M_saved := M_saved) (M_snapshot := M_snapshot) (M_text := M_text) hv95) dL_law_846 w1327 ⟨w1328, w1329⟩ cal_X11_told rfl ⟨⟨Nat.le_of_ble_eq_true rfl, Nat.le_of_ble_eq_true rfl⟩, (show (cl + 1) + 0 ≤ 1062 by omega), (show (sl + 6) + 0 ≤ 19011 by omega)⟩ (Nat.le_of_ble_eq_true rfl) (Or.inl ⟨_, _, _, _, rfl, rfl⟩) rfl ⟨rfl, ⟨by decide, by decide⟩, rfl, (fr_cons (Or.inl (Nat.le_of_ble_eq_true rfl)) (fr_cons (Or.inl (Nat.le_of_ble_eq_true rfl)) (fr_cons (Or.inl (Nat.le_of_ble_eq_true rfl)) (fr_cons (Or.inl (Nat.le_of_ble_eq_true rfl)) (fr_nil))))), rfl⟩ fr_i rfl rfl rfl rfl ?_
    refine V.istore (i := 6) (L' := [some (.ref 3000), some (.ref 0), some (.ref 11), some (.ref 16), some (.int p4), some (.int v92.1), some (.int v95.1), none, none]) dL_law_849 (Nat.le_of_ble_eq_true rfl) rfl rfl ?_
    refine V.aload_n (i := 2) dL_law_851 rfl rfl ?_
    obtain ⟨v96, hv96, hf⟩ := fbind hf
    refine V.callVn (pl := [11, 12, 13, 14, 15]) (σ' := [.inl (5, [.ref 1, .ref 3, .ref 6, .ref 8, .ref 9]), .inl (3, [.ref 2]), .inr (910, .inl State_cells), .inl (1, [.ref 4, .ref 5, .int History_oldest, .int History_size, .int History_snapshotTaken]), .inr (5460, .inl History_saved), .inr (910, .inl History_snapshot), .inl (0, [.ref 7, .int Buffer_size]), .inr (60, .inl Buffer_codes), .inl (2, [.ref (Reader_pattern + 1000), .int Reader_place]), .inl (4, [.ref 10, .int Word_size]), .inr (8, .inl Word_letters), .inl (6, [.ref 12, .ref 13, .int M_savedMany, .ref 14, .int M_isTaken, .ref 15, .int M_length, .int v95.2, .int M_spelt, .int M_speltMany, .int M_place, .int M_kind, .int M_one, .int M_two, .int M_three, .int M_begins, .int M_done, .int M_stopBy, .long M_hash]), .inr (406, .inl M_s), .inr (2436, .inl M_saved), .inr (406, .inl M_snapshot), .inr (60, .inl M_text), .inr (1, .inr v92.2)]) (st2 := [.int v96]) (cl2 := (cl + 1)) (sl2 := (sl + 6)) (ct_X11_thrown (M_savedMany := M_savedMany) (M_isTaken := M_isTaken) (M_length := M_length) (M_thrown := v95.2) (M_spelt := M_spelt) (M_speltMany := M_speltMany) (M_place := M_place) (M_kind := M_kind) (M_one := M_one) (M_two := M_two) (M_three := M_three) (M_begins := M_begins) (M_done := M_done) (M_stopBy := M_stopBy) (M_hash := M_hash) (M_s := M_s) (M_saved := M_saved) (M_snapshot := M_snapshot) (M_text := M_text) hv96) dL_law_852 w1101 ⟨w1102, w1103⟩ cal_X11_thrown rfl ⟨⟨Nat.le_of_ble_eq_true rfl, Nat.le_of_ble_eq_true rfl⟩, (show (cl + 1) + 0 ≤ 1062 by omega), (show (sl + 6) + 0 ≤ 19011 by omega)⟩ (Nat.le_of_ble_eq_true rfl) (Or.inl ⟨_, _, _, _, rfl, rfl⟩) rfl ⟨rfl, ⟨by decide, by decide⟩, rfl, (fr_cons (Or.inl (Nat.le_of_ble_eq_true rfl)) (fr_cons (Or.inl (Nat.le_of_ble_eq_true rfl)) (fr_cons (Or.inl (Nat.le_of_ble_eq_true rfl)) (fr_cons (Or.inl (Nat.le_of_ble_eq_true rfl)) (fr_nil))))), rfl⟩ fr_i rfl rfl rfl rfl ?_
    refine V.iload (i := 5) dL_law_855 rfl ?_
    refine V.icmp_eq (tgt := 862) dL_law_857 (by decide) (fun h => ?_) (fun h => ?_)
    · have hf := fif_t h hf
      refine V.iload (i := 5) dL_law_862 rfl ?_
      refine V.if_ne (tgt := 879) dL_law_864 (by decide) (fun h => ?_) (fun h => ?_)
      · have hf := fif_f h hf
        refine V.goto (tgt := 1762) dL_law_879 (by decide) ?_
        obtain rfl := Option.some.inj hf
        exact V.locs (L' := [some (.ref 3000), some (.ref 0), some (.ref 11), some (.ref 16), some (.int p4), none, none, none, none]) ⟨rfl, ⟨rfl, ⟨rfl, ⟨rfl, ⟨rfl, trivial⟩⟩⟩⟩⟩ (V.wide (by omega) (by omega) hx)
      · have hf := fif_t h hf
        refine V.aload_n (i := 3) dL_law_867 rfl rfl ?_
        refine V.iconst (v := 0) dL_law_868 rfl ?_
        obtain ⟨hi, v97, ev97, hf⟩ := fld_e hf
        refine V.fldL dL_law_869 rfl hi ev97 ?_
        refine V.iload (i := 6) dL_law_870 rfl ?_
        refine V.i2l dL_law_872 ?_
        refine V.lcmp dL_law_873 ?_
        refine V.if_eq (tgt := 879) dL_law_874 (by decide) (fun h => ?_) (fun h => ?_)
        · have hf := fif_t h hf
          refine V.goto (tgt := 1762) dL_law_879 (by decide) ?_
          obtain rfl := Option.some.inj hf
          exact V.locs (L' := [some (.ref 3000), some (.ref 0), some (.ref 11), some (.ref 16), some (.int p4), none, none, none, none]) ⟨rfl, ⟨rfl, ⟨rfl, ⟨rfl, ⟨rfl, trivial⟩⟩⟩⟩⟩ (V.wide (by omega) (by omega) hx)
        · have hf := fif_f h hf
          refine V.iconst (v := 0) dL_law_877 rfl ?_
          cases hf
    · have hf := fif_f h hf
      refine V.iconst (v := 0) dL_law_860 rfl ?_
      cases hf
def s_L_law_L882 (a0n : Nat) (a0 : Nat → Int32) (History_oldest : Int32) (History_saved : Nat → Int32) (M_saved : Nat → Int32) : Nat → (Nat → Int32) → (Int32) → (Int32) → (Int32) → (Nat → Int32) → (Nat → Int64) → Option ((Nat → Int32) × (Int32) × (Int32) × (Int32) × (Nat → Int32) × (Nat → Int64))
  | 0, _, _, _, _, _, _ => none
  | n + 1, State_cells, History_size, M_savedMany, M_thrown, M_s, out => (s_L_undo State_cells History_oldest History_size History_saved out).bind fun v99 => (s_X11_undo M_savedMany M_thrown M_s M_saved).bind fun v100 => (s_X11_thrown v100.2.2.1).bind fun v101 => if (v101 = v99.1 : Prop) then (if (v99.1 = 0 : Prop) then (fld 1 v99.2.2.2 0 fun v102 => if ((lg_cmp v102 (Int32.toInt64 v100.1)) = 0 : Prop) then (some (v99.2.1, v99.2.2.1, v100.2.1, v100.2.2.1, v100.2.2.2, v99.2.2.2)) else (none)) else (some (v99.2.1, v99.2.2.1, v100.2.1, v100.2.2.1, v100.2.2.2, v99.2.2.2))) else (none)
set_option maxHeartbeats 4000000 in
set_option maxRecDepth 100000 in
theorem v_L_law_L882 {a0n : Nat} {a0 : Nat → Int32} {p4 : Int32} {History_oldest : Int32} {History_snapshotTaken : Int32} {History_saved : Nat → Int32} {History_snapshot : Nat → Int32} {Buffer_size : Int32} {Buffer_codes : Nat → Int32} {Reader_pattern : Nat} {Reader_place : Int32} {Word_size : Int32} {Word_letters : Nat → Int32} {M_isTaken : Int32} {M_length : Int32} {M_spelt : Int32} {M_speltMany : Int32} {M_place : Int32} {M_kind : Int32} {M_one : Int32} {M_two : Int32} {M_three : Int32} {M_begins : Int32} {M_done : Int32} {M_stopBy : Int32} {M_hash : Int64} {M_saved : Nat → Int32} {M_snapshot : Nat → Int32} {M_text : Nat → Int32} : ∀ (n : Nat) {State_cells : (Nat → Int32)} {History_size : (Int32)} {M_savedMany : (Int32)} {M_thrown : (Int32)} {M_s : (Nat → Int32)} {out : (Nat → Int64)} {res : (Nat → Int32) × (Int32) × (Int32) × (Int32) × (Nat → Int32) × (Nat → Int64)} (hf : s_L_law_L882 a0n a0 History_oldest History_saved M_saved n State_cells History_size M_savedMany M_thrown M_s out = some res) {cl sl : Nat} (hc : cl + 1 ≤ 1062) (hs : sl + 6 ≤ 19011) (hx : V (fXlaw a0n a0) room_1 k_L_law 0 1762 [some (.ref 3000), some (.ref 0), some (.ref 11), some (.ref 16), some (.int p4), none, none, none, none] [] [.inl (5, [.ref 1, .ref 3, .ref 6, .ref 8, .ref 9]), .inl (3, [.ref 2]), .inr (910, .inl res.1), .inl (1, [.ref 4, .ref 5, .int History_oldest, .int res.2.1, .int History_snapshotTaken]), .inr (5460, .inl History_saved), .inr (910, .inl History_snapshot), .inl (0, [.ref 7, .int Buffer_size]), .inr (60, .inl Buffer_codes), .inl (2, [.ref (Reader_pattern + 1000), .int Reader_place]), .inl (4, [.ref 10, .int Word_size]), .inr (8, .inl Word_letters), .inl (6, [.ref 12, .ref 13, .int res.2.2.1, .ref 14, .int M_isTaken, .ref 15, .int M_length, .int res.2.2.2.1, .int M_spelt, .int M_speltMany, .int M_place, .int M_kind, .int M_one, .int M_two, .int M_three, .int M_begins, .int M_done, .int M_stopBy, .long M_hash]), .inr (406, .inl res.2.2.2.2.1), .inr (2436, .inl M_saved), .inr (406, .inl M_snapshot), .inr (60, .inl M_text), .inr (1, .inr res.2.2.2.2.2)] (cl + 1) (sl + 6)), V (fXlaw a0n a0) room_1 k_L_law 0 882 [some (.ref 3000), some (.ref 0), some (.ref 11), some (.ref 16), some (.int p4), none, none, none, none] [] [.inl (5, [.ref 1, .ref 3, .ref 6, .ref 8, .ref 9]), .inl (3, [.ref 2]), .inr (910, .inl State_cells), .inl (1, [.ref 4, .ref 5, .int History_oldest, .int History_size, .int History_snapshotTaken]), .inr (5460, .inl History_saved), .inr (910, .inl History_snapshot), .inl (0, [.ref 7, .int Buffer_size]), .inr (60, .inl Buffer_codes), .inl (2, [.ref (Reader_pattern + 1000), .int Reader_place]), .inl (4, [.ref 10, .int Word_size]), .inr (8, .inl Word_letters), .inl (6, [.ref 12, .ref 13, .int M_savedMany, .ref 14, .int M_isTaken, .ref 15, .int M_length, .int M_thrown, .int M_spelt, .int M_speltMany, .int M_place, .int M_kind, .int M_one, .int M_two, .int M_three, .int M_begins, .int M_done, .int M_stopBy, .long M_hash]), .inr (406, .inl M_s), .inr (2436, .inl M_saved), .inr (406, .inl M_snapshot), .inr (60, .inl M_text), .inr (1, .inr out)] cl sl := by
  intro n
  induction n with
  | zero =>
    intro State_cells History_size M_savedMany M_thrown M_s out res hf cl sl hc hs hx
    rw [s_L_law_L882] at hf
    cases hf
  | succ n ih =>
    intro State_cells History_size M_savedMany M_thrown M_s out res hf cl sl hc hs hx
    rw [s_L_law_L882] at hf
    refine V.aload_n (i := 1) dL_law_882 rfl rfl ?_
    refine V.aload_n (i := 3) dL_law_883 rfl rfl ?_
    obtain ⟨v99, hv99, hf⟩ := fbind hf
    refine V.callSn (pl := [0, 1, 2, 3, 4, 5, 6, 7, 8, 9, 10, 16]) (σ' := [.inl (5, [.ref 1, .ref 3, .ref 6, .ref 8, .ref 9]), .inl (3, [.ref 2]), .inr (910, .inl v99.2.1), .inl (1, [.ref 4, .ref 5, .int History_oldest, .int v99.2.2.1, .int History_snapshotTaken]), .inr (5460, .inl History_saved), .inr (910, .inl History_snapshot), .inl (0, [.ref 7, .int Buffer_size]), .inr (60, .inl Buffer_codes), .inl (2, [.ref (Reader_pattern + 1000), .int Reader_place]), .inl (4, [.ref 10, .int Word_size]), .inr (8, .inl Word_letters), .inl (6, [.ref 12, .ref 13, .int M_savedMany, .ref 14, .int M_isTaken, .ref 15, .int M_length, .int M_thrown, .int M_spelt, .int M_speltMany, .int M_place, .int M_kind, .int M_one, .int M_two, .int M_three, .int M_begins, .int M_done, .int M_stopBy, .long M_hash]), .inr (406, .inl M_s), .inr (2436, .inl M_saved), .inr (406, .inl M_snapshot), .inr (60, .inl M_text), .inr (1, .inr v99.2.2.2)]) (st2 := [.int v99.1]) (cl2 := (cl + 1)) (sl2 := (sl + 6)) (ct_L_undo (State_cells := State_cells) (History_oldest := History_oldest) (History_size := History_size) (History_snapshotTaken := History_snapshotTaken) (History_saved := History_saved) (History_snapshot := History_snapshot) (Buffer_size := Buffer_size) (Buffer_codes := Buffer_codes) (Reader_pattern := Reader_pattern) (Reader_place := Reader_place) (Word_size := Word_size) (Word_letters := Word_letters) (out1 := out) hv99) dL_law_884 w907 w908 cal_L_undo ⟨⟨Nat.le_of_ble_eq_true rfl, Nat.le_of_ble_eq_true rfl⟩, (show cl + 1 ≤ 1062 by omega), (show sl + 6 ≤ 19011 by omega)⟩ (Nat.le_of_ble_eq_true rfl) rfl ⟨rfl, ⟨by decide, by decide⟩, rfl, (fr_cons (Or.inl (Nat.le_of_ble_eq_true rfl)) (fr_cons (Or.inl (Nat.le_of_ble_eq_true rfl)) (fr_cons (Or.inl (Nat.le_of_ble_eq_true rfl)) (fr_cons (Or.inl (Nat.le_of_ble_eq_true rfl)) (fr_cons (Or.inl (Nat.le_of_ble_eq_true rfl)) (fr_cons (Or.inl (Nat.le_of_ble_eq_true rfl)) (fr_cons (Or.inl (Nat.le_of_ble_eq_true rfl)) (fr_cons (Or.inl (Nat.le_of_ble_eq_true rfl)) (fr_cons (Or.inl (Nat.le_of_ble_eq_true rfl)) (fr_cons (Or.inr (Nat.le_add_left 1000 _)) (fr_cons (Or.inl (Nat.le_of_ble_eq_true rfl)) (fr_nil)))))))))))), rfl⟩ fr_i rfl rfl rfl rfl ?_
    refine V.istore (i := 5) (L' := [some (.ref 3000), some (.ref 0), some (.ref 11), some (.ref 16), some (.int p4), some (.int v99.1), none, none, none]) dL_law_887 (Nat.le_of_ble_eq_true rfl) rfl rfl ?_
    refine V.aload_n (i := 2) dL_law_889 rfl rfl ?_
    obtain ⟨v100, hv100, hf⟩ := fbind hf
    refine V.callVn (pl := [11, 12, 13, 14, 15]) (σ' := [.inl (5, [.ref 1, .ref 3, .ref 6, .ref 8, .ref 9]), .inl (3, [.ref 2]), .inr (910, .inl v99.2.1), .inl (1, [.ref 4, .ref 5, .int History_oldest, .int v99.2.2.1, .int History_snapshotTaken]), .inr (5460, .inl History_saved), .inr (910, .inl History_snapshot), .inl (0, [.ref 7, .int Buffer_size]), .inr (60, .inl Buffer_codes), .inl (2, [.ref (Reader_pattern + 1000), .int Reader_place]), .inl (4, [.ref 10, .int Word_size]), .inr (8, .inl Word_letters), .inl (6, [.ref 12, .ref 13, .int v100.2.1, .ref 14, .int M_isTaken, .ref 15, .int M_length, .int v100.2.2.1, .int M_spelt, .int M_speltMany, .int M_place, .int M_kind, .int M_one, .int M_two, .int M_three, .int M_begins, .int M_done, .int M_stopBy, .long M_hash]), .inr (406, .inl v100.2.2.2), .inr (2436, .inl M_saved), .inr (406, .inl M_snapshot), .inr (60, .inl M_text), .inr (1, .inr v99.2.2.2)]) (st2 := [.int v100.1]) (cl2 := (cl + 1)) (sl2 := (sl + 6)) (ct_X11_undo (M_savedMany := M_savedMany) (M_isTaken := M_isTaken) (M_length := M_length) (M_thrown := M_thrown) (M_spelt := M_spelt) (M_speltMany := M_speltMany) (M_place := M_place) (M_kind := M_kind) (M_one := M_one) (M_two := M_two) (M_three := M_three) (M_begins := M_begins) (M_done := M_done) (M_stopBy := M_stopBy) (M_hash := M_hash) (M_s := M_s) (M_saved := M_saved) (M_snapshot := M_snapshot) (M_text := M_text) hv100) dL_law_890 w1335 ⟨w1336, w1337⟩ cal_X11_undo rfl ⟨⟨Nat.le_of_ble_eq_true rfl, Nat.le_of_ble_eq_true rfl⟩, (show (cl + 1) + 0 ≤ 1062 by omega), (show (sl + 6) + 0 ≤ 19011 by omega)⟩ (Nat.le_of_ble_eq_true rfl) (Or.inl ⟨_, _, _, _, rfl, rfl⟩) rfl ⟨rfl, ⟨by decide, by decide⟩, rfl, (fr_cons (Or.inl (Nat.le_of_ble_eq_true rfl)) (fr_cons (Or.inl (Nat.le_of_ble_eq_true rfl)) (fr_cons (Or.inl (Nat.le_of_ble_eq_true rfl)) (fr_cons (Or.inl (Nat.le_of_ble_eq_true rfl)) (fr_nil))))), rfl⟩ fr_i rfl rfl rfl rfl ?_
    refine V.istore (i := 6) (L' := [some (.ref 3000), some (.ref 0), some (.ref 11), some (.ref 16), some (.int p4), some (.int v99.1), some (.int v100.1), none, none]) dL_law_893 (Nat.le_of_ble_eq_true rfl) rfl rfl ?_
    refine V.aload_n (i := 2) dL_law_895 rfl rfl ?_
    obtain ⟨v101, hv101, hf⟩ := fbind hf
    refine V.callVn (pl := [11, 12, 13, 14, 15]) (σ' := [.inl (5, [.ref 1, .ref 3, .ref 6, .ref 8, .ref 9]), .inl (3, [.ref 2]), .inr (910, .inl v99.2.1), .inl (1, [.ref 4, .ref 5, .int History_oldest, .int v99.2.2.1, .int History_snapshotTaken]), .inr (5460, .inl History_saved), .inr (910, .inl History_snapshot), .inl (0, [.ref 7, .int Buffer_size]), .inr (60, .inl Buffer_codes), .inl (2, [.ref (Reader_pattern + 1000), .int Reader_place]), .inl (4, [.ref 10, .int Word_size]), .inr (8, .inl Word_letters), .inl (6, [.ref 12, .ref 13, .int v100.2.1, .ref 14, .int M_isTaken, .ref 15, .int M_length, .int v100.2.2.1, .int M_spelt, .int M_speltMany, .int M_place, .int M_kind, .int M_one, .int M_two, .int M_three, .int M_begins, .int M_done, .int M_stopBy, .long M_hash]), .inr (406, .inl v100.2.2.2), .inr (2436, .inl M_saved), .inr (406, .inl M_snapshot), .inr (60, .inl M_text), .inr (1, .inr v99.2.2.2)]) (st2 := [.int v101]) (cl2 := (cl + 1)) (sl2 := (sl + 6)) (ct_X11_thrown (M_savedMany := v100.2.1) (M_isTaken := M_isTaken) (M_length := M_length) (M_thrown := v100.2.2.1) (M_spelt := M_spelt) (M_speltMany := M_speltMany) (M_place := M_place) (M_kind := M_kind) (M_one := M_one) (M_two := M_two) (M_three := M_three) (M_begins := M_begins) (M_done := M_done) (M_stopBy := M_stopBy) (M_hash := M_hash) (M_s := v100.2.2.2) (M_saved := M_saved) (M_snapshot := M_snapshot) (M_text := M_text) hv101) dL_law_896 w1101 ⟨w1102, w1103⟩ cal_X11_thrown rfl ⟨⟨Nat.le_of_ble_eq_true rfl, Nat.le_of_ble_eq_true rfl⟩, (show (cl + 1) + 0 ≤ 1062 by omega), (show (sl + 6) + 0 ≤ 19011 by omega)⟩ (Nat.le_of_ble_eq_true rfl) (Or.inl ⟨_, _, _, _, rfl, rfl⟩) rfl ⟨rfl, ⟨by decide, by decide⟩, rfl, (fr_cons (Or.inl (Nat.le_of_ble_eq_true rfl)) (fr_cons (Or.inl (Nat.le_of_ble_eq_true rfl)) (fr_cons (Or.inl (Nat.le_of_ble_eq_true rfl)) (fr_cons (Or.inl (Nat.le_of_ble_eq_true rfl)) (fr_nil))))), rfl⟩ fr_i rfl rfl rfl rfl ?_
    refine V.iload (i := 5) dL_law_899 rfl ?_
    refine V.icmp_eq (tgt := 906) dL_law_901 (by decide) (fun h => ?_) (fun h => ?_)
    · have hf := fif_t h hf
      refine V.iload (i := 5) dL_law_906 rfl ?_
      refine V.if_ne (tgt := 923) dL_law_908 (by decide) (fun h => ?_) (fun h => ?_)
      · have hf := fif_f h hf
        refine V.goto (tgt := 1762) dL_law_923 (by decide) ?_
        obtain rfl := Option.some.inj hf
        exact V.locs (L' := [some (.ref 3000), some (.ref 0), some (.ref 11), some (.ref 16), some (.int p4), none, none, none, none]) ⟨rfl, ⟨rfl, ⟨rfl, ⟨rfl, ⟨rfl, trivial⟩⟩⟩⟩⟩ (V.wide (by omega) (by omega) hx)
      · have hf := fif_t h hf
        refine V.aload_n (i := 3) dL_law_911 rfl rfl ?_
        refine V.iconst (v := 0) dL_law_912 rfl ?_
        obtain ⟨hi, v102, ev102, hf⟩ := fld_e hf
        refine V.fldL dL_law_913 rfl hi ev102 ?_
        refine V.iload (i := 6) dL_law_914 rfl ?_
        refine V.i2l dL_law_916 ?_
        refine V.lcmp dL_law_917 ?_
        refine V.if_eq (tgt := 923) dL_law_918 (by decide) (fun h => ?_) (fun h => ?_)
        · have hf := fif_t h hf
          refine V.goto (tgt := 1762) dL_law_923 (by decide) ?_
          obtain rfl := Option.some.inj hf
          exact V.locs (L' := [some (.ref 3000), some (.ref 0), some (.ref 11), some (.ref 16), some (.int p4), none, none, none, none]) ⟨rfl, ⟨rfl, ⟨rfl, ⟨rfl, ⟨rfl, trivial⟩⟩⟩⟩⟩ (V.wide (by omega) (by omega) hx)
        · have hf := fif_f h hf
          refine V.iconst (v := 0) dL_law_921 rfl ?_
          cases hf
    · have hf := fif_f h hf
      refine V.iconst (v := 0) dL_law_904 rfl ?_
      cases hf
def s_L_law_L926 (a0n : Nat) (a0 : Nat → Int32) (State_cells : Nat → Int32) (M_s : Nat → Int32) : Nat → (Int32) → (Nat → Int32) → (Int32) → (Int32) → (Nat → Int32) → Option ((Int32) × (Nat → Int32) × (Int32) × (Int32) × (Nat → Int32))
  | 0, _, _, _, _, _ => none
  | n + 1, History_snapshotTaken, History_snapshot, M_isTaken, M_thrown, M_snapshot => (s_X10_keep State_cells History_snapshotTaken History_snapshot).bind fun v104 => (s_X11_keep M_isTaken M_thrown M_s M_snapshot).bind fun v105 => if (v104.1 = v105.1 : Prop) then (some (v104.2.1, v104.2.2, v105.2.1, v105.2.2.1, v105.2.2.2)) else (none)
set_option maxHeartbeats 4000000 in
set_option maxRecDepth 100000 in
theorem v_L_law_L926 {a0n : Nat} {a0 : Nat → Int32} {p4 : Int32} {State_cells : Nat → Int32} {History_oldest : Int32} {History_size : Int32} {History_saved : Nat → Int32} {Buffer_size : Int32} {Buffer_codes : Nat → Int32} {Reader_pattern : Nat} {Reader_place : Int32} {Word_size : Int32} {Word_letters : Nat → Int32} {M_savedMany : Int32} {M_length : Int32} {M_spelt : Int32} {M_speltMany : Int32} {M_place : Int32} {M_kind : Int32} {M_one : Int32} {M_two : Int32} {M_three : Int32} {M_begins : Int32} {M_done : Int32} {M_stopBy : Int32} {M_hash : Int64} {M_s : Nat → Int32} {M_saved : Nat → Int32} {M_text : Nat → Int32} {out : Nat → Int64} : ∀ (n : Nat) {History_snapshotTaken : (Int32)} {History_snapshot : (Nat → Int32)} {M_isTaken : (Int32)} {M_thrown : (Int32)} {M_snapshot : (Nat → Int32)} {res : (Int32) × (Nat → Int32) × (Int32) × (Int32) × (Nat → Int32)} (hf : s_L_law_L926 a0n a0 State_cells M_s n History_snapshotTaken History_snapshot M_isTaken M_thrown M_snapshot = some res) {cl sl : Nat} (hc : cl + 1 ≤ 1062) (hs : sl + 6 ≤ 19011) (hx : V (fXlaw a0n a0) room_1 k_L_law 0 1762 [some (.ref 3000), some (.ref 0), some (.ref 11), some (.ref 16), some (.int p4), none, none, none, none] [] [.inl (5, [.ref 1, .ref 3, .ref 6, .ref 8, .ref 9]), .inl (3, [.ref 2]), .inr (910, .inl State_cells), .inl (1, [.ref 4, .ref 5, .int History_oldest, .int History_size, .int res.1]), .inr (5460, .inl History_saved), .inr (910, .inl res.2.1), .inl (0, [.ref 7, .int Buffer_size]), .inr (60, .inl Buffer_codes), .inl (2, [.ref (Reader_pattern + 1000), .int Reader_place]), .inl (4, [.ref 10, .int Word_size]), .inr (8, .inl Word_letters), .inl (6, [.ref 12, .ref 13, .int M_savedMany, .ref 14, .int res.2.2.1, .ref 15, .int M_length, .int res.2.2.2.1, .int M_spelt, .int M_speltMany, .int M_place, .int M_kind, .int M_one, .int M_two, .int M_three, .int M_begins, .int M_done, .int M_stopBy, .long M_hash]), .inr (406, .inl M_s), .inr (2436, .inl M_saved), .inr (406, .inl res.2.2.2.2), .inr (60, .inl M_text), .inr (1, .inr out)] (cl + 1) (sl + 6)), V (fXlaw a0n a0) room_1 k_L_law 0 926 [some (.ref 3000), some (.ref 0), some (.ref 11), some (.ref 16), some (.int p4), none, none, none, none] [] [.inl (5, [.ref 1, .ref 3, .ref 6, .ref 8, .ref 9]), .inl (3, [.ref 2]), .inr (910, .inl State_cells), .inl (1, [.ref 4, .ref 5, .int History_oldest, .int History_size, .int History_snapshotTaken]), .inr (5460, .inl History_saved), .inr (910, .inl History_snapshot), .inl (0, [.ref 7, .int Buffer_size]), .inr (60, .inl Buffer_codes), .inl (2, [.ref (Reader_pattern + 1000), .int Reader_place]), .inl (4, [.ref 10, .int Word_size]), .inr (8, .inl Word_letters), .inl (6, [.ref 12, .ref 13, .int M_savedMany, .ref 14, .int M_isTaken, .ref 15, .int M_length, .int M_thrown, .int M_spelt, .int M_speltMany, .int M_place, .int M_kind, .int M_one, .int M_two, .int M_three, .int M_begins, .int M_done, .int M_stopBy, .long M_hash]), .inr (406, .inl M_s), .inr (2436, .inl M_saved), .inr (406, .inl M_snapshot), .inr (60, .inl M_text), .inr (1, .inr out)] cl sl := by
  intro n
  induction n with
  | zero =>
    intro History_snapshotTaken History_snapshot M_isTaken M_thrown M_snapshot res hf cl sl hc hs hx
    rw [s_L_law_L926] at hf
    cases hf
  | succ n ih =>
    intro History_snapshotTaken History_snapshot M_isTaken M_thrown M_snapshot res hf cl sl hc hs hx
    rw [s_L_law_L926] at hf
    refine V.aload_n (i := 1) dL_law_926 rfl rfl ?_
    obtain ⟨v104, hv104, hf⟩ := fbind hf
    refine V.callVn (pl := [0, 1, 2, 3, 4, 5, 6, 7, 8, 9, 10]) (σ' := [.inl (5, [.ref 1, .ref 3, .ref 6, .ref 8, .ref 9]), .inl (3, [.ref 2]), .inr (910, .inl State_cells), .inl (1, [.ref 4, .ref 5, .int History_oldest, .int History_size, .int v104.2.1]), .inr (5460, .inl History_saved), .inr (910, .inl v104.2.2), .inl (0, [.ref 7, .int Buffer_size]), .inr (60, .inl Buffer_codes), .inl (2, [.ref (Reader_pattern + 1000), .int Reader_place]), .inl (4, [.ref 10, .int Word_size]), .inr (8, .inl Word_letters), .inl (6, [.ref 12, .ref 13, .int M_savedMany, .ref 14, .int M_isTaken, .ref 15, .int M_length, .int M_thrown, .int M_spelt, .int M_speltMany, .int M_place, .int M_kind, .int M_one, .int M_two, .int M_three, .int M_begins, .int M_done, .int M_stopBy, .long M_hash]), .inr (406, .inl M_s), .inr (2436, .inl M_saved), .inr (406, .inl M_snapshot), .inr (60, .inl M_text), .inr (1, .inr out)]) (st2 := [.int v104.1]) (cl2 := cl) (sl2 := sl) (ct_X10_keep (State_cells := State_cells) (History_oldest := History_oldest) (History_size := History_size) (History_snapshotTaken := History_snapshotTaken) (History_saved := History_saved) (History_snapshot := History_snapshot) (Buffer_size := Buffer_size) (Buffer_codes := Buffer_codes) (Reader_pattern := Reader_pattern) (Reader_place := Reader_place) (Word_size := Word_size) (Word_letters := Word_letters) hv104) dL_law_927 w291 ⟨w292, w293⟩ cal_X10_keep rfl ⟨⟨Nat.le_of_ble_eq_true rfl, Nat.le_of_ble_eq_true rfl⟩, (show cl + 0 ≤ 1062 by omega), (show sl + 0 ≤ 19011 by omega)⟩ (Nat.le_of_ble_eq_true rfl) (Or.inl ⟨_, _, _, _, rfl, rfl⟩) rfl ⟨rfl, ⟨by decide, by decide⟩, rfl, (fr_cons (Or.inl (Nat.le_of_ble_eq_true rfl)) (fr_cons (Or.inl (Nat.le_of_ble_eq_true rfl)) (fr_cons (Or.inl (Nat.le_of_ble_eq_true rfl)) (fr_cons (Or.inl (Nat.le_of_ble_eq_true rfl)) (fr_cons (Or.inl (Nat.le_of_ble_eq_true rfl)) (fr_cons (Or.inl (Nat.le_of_ble_eq_true rfl)) (fr_cons (Or.inl (Nat.le_of_ble_eq_true rfl)) (fr_cons (Or.inl (Nat.le_of_ble_eq_true rfl)) (fr_cons (Or.inl (Nat.le_of_ble_eq_true rfl)) (fr_cons (Or.inr (Nat.le_add_left 1000 _)) (fr_cons (Or.inl (Nat.le_of_ble_eq_true rfl)) (fr_nil)))))))))))), rfl⟩ fr_i rfl rfl rfl rfl ?_
    refine V.aload_n (i := 2) dL_law_930 rfl rfl ?_
    obtain ⟨v105, hv105, hf⟩ := fbind hf
    refine V.callVn (pl := [11, 12, 13, 14, 15]) (σ' := [.inl (5, [.ref 1, .ref 3, .ref 6, .ref 8, .ref 9]), .inl (3, [.ref 2]), .inr (910, .inl State_cells), .inl (1, [.ref 4, .ref 5, .int History_oldest, .int History_size, .int v104.2.1]), .inr (5460, .inl History_saved), .inr (910, .inl v104.2.2), .inl (0, [.ref 7, .int Buffer_size]), .inr (60, .inl Buffer_codes), .inl (2, [.ref (Reader_pattern + 1000), .int Reader_place]), .inl (4, [.ref 10, .int Word_size]), .inr (8, .inl Word_letters), .inl (6, [.ref 12, .ref 13, .int M_savedMany, .ref 14, .int v105.2.1, .ref 15, .int M_length, .int v105.2.2.1, .int M_spelt, .int M_speltMany, .int M_place, .int M_kind, .int M_one, .int M_two, .int M_three, .int M_begins, .int M_done, .int M_stopBy, .long M_hash]), .inr (406, .inl M_s), .inr (2436, .inl M_saved), .inr (406, .inl v105.2.2.2), .inr (60, .inl M_text), .inr (1, .inr out)]) (st2 := [.int v105.1, .int v104.1]) (cl2 := cl) (sl2 := sl) (ct_X11_keep (M_savedMany := M_savedMany) (M_isTaken := M_isTaken) (M_length := M_length) (M_thrown := M_thrown) (M_spelt := M_spelt) (M_speltMany := M_speltMany) (M_place := M_place) (M_kind := M_kind) (M_one := M_one) (M_two := M_two) (M_three := M_three) (M_begins := M_begins) (M_done := M_done) (M_stopBy := M_stopBy) (M_hash := M_hash) (M_s := M_s) (M_saved := M_saved) (M_snapshot := M_snapshot) (M_text := M_text) hv105) dL_law_931 w1339 ⟨w1340, w1341⟩ cal_X11_keep rfl ⟨⟨Nat.le_of_ble_eq_true rfl, Nat.le_of_ble_eq_true rfl⟩, (show cl + 0 ≤ 1062 by omega), (show sl + 0 ≤ 19011 by omega)⟩ (Nat.le_of_ble_eq_true rfl) (Or.inl ⟨_, _, _, _, rfl, rfl⟩) rfl ⟨rfl, ⟨by decide, by decide⟩, rfl, (fr_cons (Or.inl (Nat.le_of_ble_eq_true rfl)) (fr_cons (Or.inl (Nat.le_of_ble_eq_true rfl)) (fr_cons (Or.inl (Nat.le_of_ble_eq_true rfl)) (fr_cons (Or.inl (Nat.le_of_ble_eq_true rfl)) (fr_nil))))), rfl⟩ fr_i rfl rfl rfl rfl ?_
    refine V.icmp_eq (tgt := 1762) dL_law_934 (by decide) (fun h => ?_) (fun h => ?_)
    · have hf := fif_t h hf
      obtain rfl := Option.some.inj hf
      exact V.wide (by omega) (by omega) hx
    · have hf := fif_f h hf
      refine V.iconst (v := 0) dL_law_937 rfl ?_
      cases hf
def s_L_law_L939 (a0n : Nat) (a0 : Nat → Int32) (History_snapshotTaken : Int32) (History_snapshot : Nat → Int32) (M_isTaken : Int32) (M_snapshot : Nat → Int32) : Nat → (Nat → Int32) → (Int32) → (Int32) → (Nat → Int32) → (Int32) → (Int32) → (Nat → Int32) → (Nat → Int32) → (Nat → Int64) → Option ((Nat → Int32) × (Int32) × (Int32) × (Nat → Int32) × (Int32) × (Int32) × (Nat → Int32) × (Nat → Int32) × (Nat → Int64))
  | 0, _, _, _, _, _, _, _, _, _ => none
  | n + 1, State_cells, History_oldest, History_size, History_saved, M_savedMany, M_thrown, M_s, M_saved, out => (s_L_restore State_cells History_oldest History_size History_snapshotTaken History_saved History_snapshot out).bind fun v107 => (s_X11_restore M_savedMany M_isTaken M_thrown M_s M_saved M_snapshot).bind fun v108 => (s_X11_thrown v108.2.2.1).bind fun v109 => if (v109 = v107.1 : Prop) then (if (v107.1 = 0 : Prop) then (fld 1 v107.2.2.2.2.2 0 fun v110 => if ((lg_cmp v110 (Int32.toInt64 v108.1)) = 0 : Prop) then (some (v107.2.1, v107.2.2.1, v107.2.2.2.1, v107.2.2.2.2.1, v108.2.1, v108.2.2.1, v108.2.2.2.1, v108.2.2.2.2, v107.2.2.2.2.2)) else (none)) else (some (v107.2.1, v107.2.2.1, v107.2.2.2.1, v107.2.2.2.2.1, v108.2.1, v108.2.2.1, v108.2.2.2.1, v108.2.2.2.2, v107.2.2.2.2.2))) else (none)
set_option maxHeartbeats 4000000 in
set_option maxRecDepth 100000 in
theorem v_L_law_L939 {a0n : Nat} {a0 : Nat → Int32} {p4 : Int32} {History_snapshotTaken : Int32} {History_snapshot : Nat → Int32} {Buffer_size : Int32} {Buffer_codes : Nat → Int32} {Reader_pattern : Nat} {Reader_place : Int32} {Word_size : Int32} {Word_letters : Nat → Int32} {M_isTaken : Int32} {M_length : Int32} {M_spelt : Int32} {M_speltMany : Int32} {M_place : Int32} {M_kind : Int32} {M_one : Int32} {M_two : Int32} {M_three : Int32} {M_begins : Int32} {M_done : Int32} {M_stopBy : Int32} {M_hash : Int64} {M_snapshot : Nat → Int32} {M_text : Nat → Int32} : ∀ (n : Nat) {State_cells : (Nat → Int32)} {History_oldest : (Int32)} {History_size : (Int32)} {History_saved : (Nat → Int32)} {M_savedMany : (Int32)} {M_thrown : (Int32)} {M_s : (Nat → Int32)} {M_saved : (Nat → Int32)} {out : (Nat → Int64)} {res : (Nat → Int32) × (Int32) × (Int32) × (Nat → Int32) × (Int32) × (Int32) × (Nat → Int32) × (Nat → Int32) × (Nat → Int64)} (hf : s_L_law_L939 a0n a0 History_snapshotTaken History_snapshot M_isTaken M_snapshot n State_cells History_oldest History_size History_saved M_savedMany M_thrown M_s M_saved out = some res) {cl sl : Nat} (hc : cl + 1 ≤ 1062) (hs : sl + 6 ≤ 19011) (hx : V (fXlaw a0n a0) room_1 k_L_law 0 1762 [some (.ref 3000), some (.ref 0), some (.ref 11), some (.ref 16), some (.int p4), none, none, none, none] [] [.inl (5, [.ref 1, .ref 3, .ref 6, .ref 8, .ref 9]), .inl (3, [.ref 2]), .inr (910, .inl res.1), .inl (1, [.ref 4, .ref 5, .int res.2.1, .int res.2.2.1, .int History_snapshotTaken]), .inr (5460, .inl res.2.2.2.1), .inr (910, .inl History_snapshot), .inl (0, [.ref 7, .int Buffer_size]), .inr (60, .inl Buffer_codes), .inl (2, [.ref (Reader_pattern + 1000), .int Reader_place]), .inl (4, [.ref 10, .int Word_size]), .inr (8, .inl Word_letters), .inl (6, [.ref 12, .ref 13, .int res.2.2.2.2.1, .ref 14, .int M_isTaken, .ref 15, .int M_length, .int res.2.2.2.2.2.1, .int M_spelt, .int M_speltMany, .int M_place, .int M_kind, .int M_one, .int M_two, .int M_three, .int M_begins, .int M_done, .int M_stopBy, .long M_hash]), .inr (406, .inl res.2.2.2.2.2.2.1), .inr (2436, .inl res.2.2.2.2.2.2.2.1), .inr (406, .inl M_snapshot), .inr (60, .inl M_text), .inr (1, .inr res.2.2.2.2.2.2.2.2)] (cl + 1) (sl + 6)), V (fXlaw a0n a0) room_1 k_L_law 0 939 [some (.ref 3000), some (.ref 0), some (.ref 11), some (.ref 16), some (.int p4), none, none, none, none] [] [.inl (5, [.ref 1, .ref 3, .ref 6, .ref 8, .ref 9]), .inl (3, [.ref 2]), .inr (910, .inl State_cells), .inl (1, [.ref 4, .ref 5, .int History_oldest, .int History_size, .int History_snapshotTaken]), .inr (5460, .inl History_saved), .inr (910, .inl History_snapshot), .inl (0, [.ref 7, .int Buffer_size]), .inr (60, .inl Buffer_codes), .inl (2, [.ref (Reader_pattern + 1000), .int Reader_place]), .inl (4, [.ref 10, .int Word_size]), .inr (8, .inl Word_letters), .inl (6, [.ref 12, .ref 13, .int M_savedMany, .ref 14, .int M_isTaken, .ref 15, .int M_length, .int M_thrown, .int M_spelt, .int M_speltMany, .int M_place, .int M_kind, .int M_one, .int M_two, .int M_three, .int M_begins, .int M_done, .int M_stopBy, .long M_hash]), .inr (406, .inl M_s), .inr (2436, .inl M_saved), .inr (406, .inl M_snapshot), .inr (60, .inl M_text), .inr (1, .inr out)] cl sl := by
  intro n
  induction n with
  | zero =>
    intro State_cells History_oldest History_size History_saved M_savedMany M_thrown M_s M_saved out res hf cl sl hc hs hx
    rw [s_L_law_L939] at hf
    cases hf
  | succ n ih =>
    intro State_cells History_oldest History_size History_saved M_savedMany M_thrown M_s M_saved out res hf cl sl hc hs hx
    rw [s_L_law_L939] at hf
    refine V.aload_n (i := 1) dL_law_939 rfl rfl ?_
    refine V.aload_n (i := 3) dL_law_940 rfl rfl ?_
    obtain ⟨v107, hv107, hf⟩ := fbind hf
    refine V.callSn (pl := [0, 1, 2, 3, 4, 5, 6, 7, 8, 9, 10, 16]) (σ' := [.inl (5, [.ref 1, .ref 3, .ref 6, .ref 8, .ref 9]), .inl (3, [.ref 2]), .inr (910, .inl v107.2.1), .inl (1, [.ref 4, .ref 5, .int v107.2.2.1, .int v107.2.2.2.1, .int History_snapshotTaken]), .inr (5460, .inl v107.2.2.2.2.1), .inr (910, .inl History_snapshot), .inl (0, [.ref 7, .int Buffer_size]), .inr (60, .inl Buffer_codes), .inl (2, [.ref (Reader_pattern + 1000), .int Reader_place]), .inl (4, [.ref 10, .int Word_size]), .inr (8, .inl Word_letters), .inl (6, [.ref 12, .ref 13, .int M_savedMany, .ref 14, .int M_isTaken, .ref 15, .int M_length, .int M_thrown, .int M_spelt, .int M_speltMany, .int M_place, .int M_kind, .int M_one, .int M_two, .int M_three, .int M_begins, .int M_done, .int M_stopBy, .long M_hash]), .inr (406, .inl M_s), .inr (2436, .inl M_saved), .inr (406, .inl M_snapshot), .inr (60, .inl M_text), .inr (1, .inr v107.2.2.2.2.2)]) (st2 := [.int v107.1]) (cl2 := (cl + 1)) (sl2 := (sl + 6)) (ct_L_restore (State_cells := State_cells) (History_oldest := History_oldest) (History_size := History_size) (History_snapshotTaken := History_snapshotTaken) (History_saved := History_saved) (History_snapshot := History_snapshot) (Buffer_size := Buffer_size) (Buffer_codes := Buffer_codes) (Reader_pattern := Reader_pattern) (Reader_place := Reader_place) (Word_size := Word_size) (Word_letters := Word_letters) (out1 := out) hv107) dL_law_941 w923 w924 cal_L_restore ⟨⟨Nat.le_of_ble_eq_true rfl, Nat.le_of_ble_eq_true rfl⟩, (show cl + 1 ≤ 1062 by omega), (show sl + 6 ≤ 19011 by omega)⟩ (Nat.le_of_ble_eq_true rfl) rfl ⟨rfl, ⟨by decide, by decide⟩, rfl, (fr_cons (Or.inl (Nat.le_of_ble_eq_true rfl)) (fr_cons (Or.inl (Nat.le_of_ble_eq_true rfl)) (fr_cons (Or.inl (Nat.le_of_ble_eq_true rfl)) (fr_cons (Or.inl (Nat.le_of_ble_eq_true rfl)) (fr_cons (Or.inl (Nat.le_of_ble_eq_true rfl)) (fr_cons (Or.inl (Nat.le_of_ble_eq_true rfl)) (fr_cons (Or.inl (Nat.le_of_ble_eq_true rfl)) (fr_cons (Or.inl (Nat.le_of_ble_eq_true rfl)) (fr_cons (Or.inl (Nat.le_of_ble_eq_true rfl)) (fr_cons (Or.inr (Nat.le_add_left 1000 _)) (fr_cons (Or.inl (Nat.le_of_ble_eq_true rfl)) (fr_nil)))))))))))), rfl⟩ fr_i rfl rfl rfl rfl ?_
    refine V.istore (i := 5) (L' := [some (.ref 3000), some (.ref 0), some (.ref 11), some (.ref 16), some (.int p4), some (.int v107.1), none, none, none]) dL_law_944 (Nat.le_of_ble_eq_true rfl) rfl rfl ?_
    refine V.aload_n (i := 2) dL_law_946 rfl rfl ?_
    obtain ⟨v108, hv108, hf⟩ := fbind hf
    refine V.callVn (pl := [11, 12, 13, 14, 15]) (σ' := [.inl (5, [.ref 1, .ref 3, .ref 6, .ref 8, .ref 9]), .inl (3, [.ref 2]), .inr (910, .inl v107.2.1), .inl (1, [.ref 4, .ref 5, .int v107.2.2.1, .int v107.2.2.2.1, .int History_snapshotTaken]), .inr (5460, .inl v107.2.2.2.2.1), .inr (910, .inl History_snapshot), .inl (0, [.ref 7, .int Buffer_size]), .inr (60, .inl Buffer_codes), .inl (2, [.ref (Reader_pattern + 1000), .int Reader_place]), .inl (4, [.ref 10, .int Word_size]), .inr (8, .inl Word_letters), .inl (6, [.ref 12, .ref 13, .int v108.2.1, .ref 14, .int M_isTaken, .ref 15, .int M_length, .int v108.2.2.1, .int M_spelt, .int M_speltMany, .int M_place, .int M_kind, .int M_one, .int M_two, .int M_three, .int M_begins, .int M_done, .int M_stopBy, .long M_hash]), .inr (406, .inl v108.2.2.2.1), .inr (2436, .inl v108.2.2.2.2), .inr (406, .inl M_snapshot), .inr (60, .inl M_text), .inr (1, .inr v107.2.2.2.2.2)]) (st2 := [.int v108.1]) (cl2 := (cl + 1)) (sl2 := (sl + 6)) (ct_X11_restore (M_savedMany := M_savedMany) (M_isTaken := M_isTaken) (M_length := M_length) (M_thrown := M_thrown) (M_spelt := M_spelt) (M_speltMany := M_speltMany) (M_place := M_place) (M_kind := M_kind) (M_one := M_one) (M_two := M_two) (M_three := M_three) (M_begins := M_begins) (M_done := M_done) (M_stopBy := M_stopBy) (M_hash := M_hash) (M_s := M_s) (M_saved := M_saved) (M_snapshot := M_snapshot) (M_text := M_text) hv108) dL_law_947 w1347 ⟨w1348, w1349⟩ cal_X11_restore rfl ⟨⟨Nat.le_of_ble_eq_true rfl, Nat.le_of_ble_eq_true rfl⟩, (show (cl + 1) + 0 ≤ 1062 by omega), (show (sl + 6) + 0 ≤ 19011 by omega)⟩ (Nat.le_of_ble_eq_true rfl) (Or.inl ⟨_, _, _, _, rfl, rfl⟩) rfl ⟨rfl, ⟨by decide, by decide⟩, rfl, (fr_cons (Or.inl (Nat.le_of_ble_eq_true rfl)) (fr_cons (Or.inl (Nat.le_of_ble_eq_true rfl)) (fr_cons (Or.inl (Nat.le_of_ble_eq_true rfl)) (fr_cons (Or.inl (Nat.le_of_ble_eq_true rfl)) (fr_nil))))), rfl⟩ fr_i rfl rfl rfl rfl ?_
    refine V.istore (i := 6) (L' := [some (.ref 3000), some (.ref 0), some (.ref 11), some (.ref 16), some (.int p4), some (.int v107.1), some (.int v108.1), none, none]) dL_law_950 (Nat.le_of_ble_eq_true rfl) rfl rfl ?_
    refine V.aload_n (i := 2) dL_law_952 rfl rfl ?_
    obtain ⟨v109, hv109, hf⟩ := fbind hf
    refine V.callVn (pl := [11, 12, 13, 14, 15]) (σ' := [.inl (5, [.ref 1, .ref 3, .ref 6, .ref 8, .ref 9]), .inl (3, [.ref 2]), .inr (910, .inl v107.2.1), .inl (1, [.ref 4, .ref 5, .int v107.2.2.1, .int v107.2.2.2.1, .int History_snapshotTaken]), .inr (5460, .inl v107.2.2.2.2.1), .inr (910, .inl History_snapshot), .inl (0, [.ref 7, .int Buffer_size]), .inr (60, .inl Buffer_codes), .inl (2, [.ref (Reader_pattern + 1000), .int Reader_place]), .inl (4, [.ref 10, .int Word_size]), .inr (8, .inl Word_letters), .inl (6, [.ref 12, .ref 13, .int v108.2.1, .ref 14, .int M_isTaken, .ref 15, .int M_length, .int v108.2.2.1, .int M_spelt, .int M_speltMany, .int M_place, .int M_kind, .int M_one, .int M_two, .int M_three, .int M_begins, .int M_done, .int M_stopBy, .long M_hash]), .inr (406, .inl v108.2.2.2.1), .inr (2436, .inl v108.2.2.2.2), .inr (406, .inl M_snapshot), .inr (60, .inl M_text), .inr (1, .inr v107.2.2.2.2.2)]) (st2 := [.int v109]) (cl2 := (cl + 1)) (sl2 := (sl + 6)) (ct_X11_thrown (M_savedMany := v108.2.1) (M_isTaken := M_isTaken) (M_length := M_length) (M_thrown := v108.2.2.1) (M_spelt := M_spelt) (M_speltMany := M_speltMany) (M_place := M_place) (M_kind := M_kind) (M_one := M_one) (M_two := M_two) (M_three := M_three) (M_begins := M_begins) (M_done := M_done) (M_stopBy := M_stopBy) (M_hash := M_hash) (M_s := v108.2.2.2.1) (M_saved := v108.2.2.2.2) (M_snapshot := M_snapshot) (M_text := M_text) hv109) dL_law_953 w1101 ⟨w1102, w1103⟩ cal_X11_thrown rfl ⟨⟨Nat.le_of_ble_eq_true rfl, Nat.le_of_ble_eq_true rfl⟩, (show (cl + 1) + 0 ≤ 1062 by omega), (show (sl + 6) + 0 ≤ 19011 by omega)⟩ (Nat.le_of_ble_eq_true rfl) (Or.inl ⟨_, _, _, _, rfl, rfl⟩) rfl ⟨rfl, ⟨by decide, by decide⟩, rfl, (fr_cons (Or.inl (Nat.le_of_ble_eq_true rfl)) (fr_cons (Or.inl (Nat.le_of_ble_eq_true rfl)) (fr_cons (Or.inl (Nat.le_of_ble_eq_true rfl)) (fr_cons (Or.inl (Nat.le_of_ble_eq_true rfl)) (fr_nil))))), rfl⟩ fr_i rfl rfl rfl rfl ?_
    refine V.iload (i := 5) dL_law_956 rfl ?_
    refine V.icmp_eq (tgt := 963) dL_law_958 (by decide) (fun h => ?_) (fun h => ?_)
    · have hf := fif_t h hf
      refine V.iload (i := 5) dL_law_963 rfl ?_
      refine V.if_ne (tgt := 980) dL_law_965 (by decide) (fun h => ?_) (fun h => ?_)
      · have hf := fif_f h hf
        refine V.goto (tgt := 1762) dL_law_980 (by decide) ?_
        obtain rfl := Option.some.inj hf
        exact V.locs (L' := [some (.ref 3000), some (.ref 0), some (.ref 11), some (.ref 16), some (.int p4), none, none, none, none]) ⟨rfl, ⟨rfl, ⟨rfl, ⟨rfl, ⟨rfl, trivial⟩⟩⟩⟩⟩ (V.wide (by omega) (by omega) hx)
      · have hf := fif_t h hf
        refine V.aload_n (i := 3) dL_law_968 rfl rfl ?_
        refine V.iconst (v := 0) dL_law_969 rfl ?_
        obtain ⟨hi, v110, ev110, hf⟩ := fld_e hf
        refine V.fldL dL_law_970 rfl hi ev110 ?_
        refine V.iload (i := 6) dL_law_971 rfl ?_
        refine V.i2l dL_law_973 ?_
        refine V.lcmp dL_law_974 ?_
        refine V.if_eq (tgt := 980) dL_law_975 (by decide) (fun h => ?_) (fun h => ?_)
        · have hf := fif_t h hf
          refine V.goto (tgt := 1762) dL_law_980 (by decide) ?_
          obtain rfl := Option.some.inj hf
          exact V.locs (L' := [some (.ref 3000), some (.ref 0), some (.ref 11), some (.ref 16), some (.int p4), none, none, none, none]) ⟨rfl, ⟨rfl, ⟨rfl, ⟨rfl, ⟨rfl, trivial⟩⟩⟩⟩⟩ (V.wide (by omega) (by omega) hx)
        · have hf := fif_f h hf
          refine V.iconst (v := 0) dL_law_978 rfl ?_
          cases hf
    · have hf := fif_f h hf
      refine V.iconst (v := 0) dL_law_961 rfl ?_
      cases hf
def s_L_law_L983 (a0n : Nat) (a0 : Nat → Int32) (p4 : Int32) (State_cells : Nat → Int32) (M_s : Nat → Int32) : Nat → (Int32) → (Nat → Int64) → Option ((Int32) × (Nat → Int64))
  | 0, _, _ => none
  | n + 1, M_thrown, out => fld a0n a0 (p4 + 1) fun v112 => fld a0n a0 (p4 + 2) fun v113 => (s_L_letter v112 v113 State_cells out).bind fun v114 => fld a0n a0 (p4 + 1) fun v115 => fld a0n a0 (p4 + 2) fun v116 => (s_X11_letter v115 v116 M_thrown M_s).bind fun v117 => (s_X11_thrown v117.2).bind fun v118 => if (v118 = v114.1 : Prop) then (if (v114.1 = 0 : Prop) then (fld 1 v114.2 0 fun v119 => if ((lg_cmp v119 (Int32.toInt64 v117.1)) = 0 : Prop) then (some (v117.2, v114.2)) else (none)) else (some (v117.2, v114.2))) else (none)
set_option maxHeartbeats 4000000 in
set_option maxRecDepth 100000 in
theorem v_L_law_L983 {a0n : Nat} {a0 : Nat → Int32} {p4 : Int32} {State_cells : Nat → Int32} {History_oldest : Int32} {History_size : Int32} {History_snapshotTaken : Int32} {History_saved : Nat → Int32} {History_snapshot : Nat → Int32} {Buffer_size : Int32} {Buffer_codes : Nat → Int32} {Reader_pattern : Nat} {Reader_place : Int32} {Word_size : Int32} {Word_letters : Nat → Int32} {M_savedMany : Int32} {M_isTaken : Int32} {M_length : Int32} {M_spelt : Int32} {M_speltMany : Int32} {M_place : Int32} {M_kind : Int32} {M_one : Int32} {M_two : Int32} {M_three : Int32} {M_begins : Int32} {M_done : Int32} {M_stopBy : Int32} {M_hash : Int64} {M_s : Nat → Int32} {M_saved : Nat → Int32} {M_snapshot : Nat → Int32} {M_text : Nat → Int32} : ∀ (n : Nat) {M_thrown : (Int32)} {out : (Nat → Int64)} {res : (Int32) × (Nat → Int64)} (hf : s_L_law_L983 a0n a0 p4 State_cells M_s n M_thrown out = some res) {cl sl : Nat} (hc : cl + 1 ≤ 1062) (hs : sl + 6 ≤ 19011) (hx : V (fXlaw a0n a0) room_1 k_L_law 0 1762 [some (.ref 3000), some (.ref 0), some (.ref 11), some (.ref 16), some (.int p4), none, none, none, none] [] [.inl (5, [.ref 1, .ref 3, .ref 6, .ref 8, .ref 9]), .inl (3, [.ref 2]), .inr (910, .inl State_cells), .inl (1, [.ref 4, .ref 5, .int History_oldest, .int History_size, .int History_snapshotTaken]), .inr (5460, .inl History_saved), .inr (910, .inl History_snapshot), .inl (0, [.ref 7, .int Buffer_size]), .inr (60, .inl Buffer_codes), .inl (2, [.ref (Reader_pattern + 1000), .int Reader_place]), .inl (4, [.ref 10, .int Word_size]), .inr (8, .inl Word_letters), .inl (6, [.ref 12, .ref 13, .int M_savedMany, .ref 14, .int M_isTaken, .ref 15, .int M_length, .int res.1, .int M_spelt, .int M_speltMany, .int M_place, .int M_kind, .int M_one, .int M_two, .int M_three, .int M_begins, .int M_done, .int M_stopBy, .long M_hash]), .inr (406, .inl M_s), .inr (2436, .inl M_saved), .inr (406, .inl M_snapshot), .inr (60, .inl M_text), .inr (1, .inr res.2)] (cl + 1) (sl + 6)), V (fXlaw a0n a0) room_1 k_L_law 0 983 [some (.ref 3000), some (.ref 0), some (.ref 11), some (.ref 16), some (.int p4), none, none, none, none] [] [.inl (5, [.ref 1, .ref 3, .ref 6, .ref 8, .ref 9]), .inl (3, [.ref 2]), .inr (910, .inl State_cells), .inl (1, [.ref 4, .ref 5, .int History_oldest, .int History_size, .int History_snapshotTaken]), .inr (5460, .inl History_saved), .inr (910, .inl History_snapshot), .inl (0, [.ref 7, .int Buffer_size]), .inr (60, .inl Buffer_codes), .inl (2, [.ref (Reader_pattern + 1000), .int Reader_place]), .inl (4, [.ref 10, .int Word_size]), .inr (8, .inl Word_letters), .inl (6, [.ref 12, .ref 13, .int M_savedMany, .ref 14, .int M_isTaken, .ref 15, .int M_length, .int M_thrown, .int M_spelt, .int M_speltMany, .int M_place, .int M_kind, .int M_one, .int M_two, .int M_three, .int M_begins, .int M_done, .int M_stopBy, .long M_hash]), .inr (406, .inl M_s), .inr (2436, .inl M_saved), .inr (406, .inl M_snapshot), .inr (60, .inl M_text), .inr (1, .inr out)] cl sl := by
  intro n
  induction n with
  | zero =>
    intro M_thrown out res hf cl sl hc hs hx
    rw [s_L_law_L983] at hf
    cases hf
  | succ n ih =>
    intro M_thrown out res hf cl sl hc hs hx
    rw [s_L_law_L983] at hf
    refine V.aload_n (i := 1) dL_law_983 rfl rfl ?_
    refine V.aload_n (i := 0) dL_law_984 rfl rfl ?_
    refine V.iload (i := 4) dL_law_985 rfl ?_
    refine V.iconst (v := 1) dL_law_987 rfl ?_
    refine V.iadd dL_law_988 ?_
    obtain ⟨hi, v112, ev112, hf⟩ := fld_e hf
    refine V.sload dL_law_989 hi ?_
    refine V.cgi ev112 ?_
    refine V.aload_n (i := 0) dL_law_990 rfl rfl ?_
    refine V.iload (i := 4) dL_law_991 rfl ?_
    refine V.iconst (v := 2) dL_law_993 rfl ?_
    refine V.iadd dL_law_994 ?_
    obtain ⟨hi, v113, ev113, hf⟩ := fld_e hf
    refine V.sload dL_law_995 hi ?_
    refine V.cgi ev113 ?_
    refine V.aload_n (i := 3) dL_law_996 rfl rfl ?_
    obtain ⟨v114, hv114, hf⟩ := fbind hf
    refine V.callSn (pl := [0, 1, 2, 3, 4, 5, 6, 7, 8, 9, 10, 16]) (σ' := [.inl (5, [.ref 1, .ref 3, .ref 6, .ref 8, .ref 9]), .inl (3, [.ref 2]), .inr (910, .inl State_cells), .inl (1, [.ref 4, .ref 5, .int History_oldest, .int History_size, .int History_snapshotTaken]), .inr (5460, .inl History_saved), .inr (910, .inl History_snapshot), .inl (0, [.ref 7, .int Buffer_size]), .inr (60, .inl Buffer_codes), .inl (2, [.ref (Reader_pattern + 1000), .int Reader_place]), .inl (4, [.ref 10, .int Word_size]), .inr (8, .inl Word_letters), .inl (6, [.ref 12, .ref 13, .int M_savedMany, .ref 14, .int M_isTaken, .ref 15, .int M_length, .int M_thrown, .int M_spelt, .int M_speltMany, .int M_place, .int M_kind, .int M_one, .int M_two, .int M_three, .int M_begins, .int M_done, .int M_stopBy, .long M_hash]), .inr (406, .inl M_s), .inr (2436, .inl M_saved), .inr (406, .inl M_snapshot), .inr (60, .inl M_text), .inr (1, .inr v114.2)]) (st2 := [.int v114.1]) (cl2 := (cl + 1)) (sl2 := (sl + 6)) (ct_L_letter (a1 := v112) (a2 := v113) (State_cells := State_cells) (History_oldest := History_oldest) (History_size := History_size) (History_snapshotTaken := History_snapshotTaken) (History_saved := History_saved) (History_snapshot := History_snapshot) (Buffer_size := Buffer_size) (Buffer_codes := Buffer_codes) (Reader_pattern := Reader_pattern) (Reader_place := Reader_place) (Word_size := Word_size) (Word_letters := Word_letters) (out3 := out) hv114) dL_law_997 w939 w940 cal_L_letter ⟨⟨Nat.le_of_ble_eq_true rfl, Nat.le_of_ble_eq_true rfl⟩, (show cl + 1 ≤ 1062 by omega), (show sl + 6 ≤ 19011 by omega)⟩ (Nat.le_of_ble_eq_true rfl) rfl ⟨rfl, ⟨by decide, by decide⟩, rfl, (fr_cons (Or.inl (Nat.le_of_ble_eq_true rfl)) (fr_cons (Or.inl (Nat.le_of_ble_eq_true rfl)) (fr_cons (Or.inl (Nat.le_of_ble_eq_true rfl)) (fr_cons (Or.inl (Nat.le_of_ble_eq_true rfl)) (fr_cons (Or.inl (Nat.le_of_ble_eq_true rfl)) (fr_cons (Or.inl (Nat.le_of_ble_eq_true rfl)) (fr_cons (Or.inl (Nat.le_of_ble_eq_true rfl)) (fr_cons (Or.inl (Nat.le_of_ble_eq_true rfl)) (fr_cons (Or.inl (Nat.le_of_ble_eq_true rfl)) (fr_cons (Or.inr (Nat.le_add_left 1000 _)) (fr_cons (Or.inl (Nat.le_of_ble_eq_true rfl)) (fr_nil)))))))))))), rfl⟩ fr_i rfl rfl rfl rfl ?_
    refine V.istore (i := 5) (L' := [some (.ref 3000), some (.ref 0), some (.ref 11), some (.ref 16), some (.int p4), some (.int v114.1), none, none, none]) dL_law_1000 (Nat.le_of_ble_eq_true rfl) rfl rfl ?_
    refine V.aload_n (i := 2) dL_law_1002 rfl rfl ?_
    refine V.aload_n (i := 0) dL_law_1003 rfl rfl ?_
    refine V.iload (i := 4) dL_law_1004 rfl ?_
    refine V.iconst (v := 1) dL_law_1006 rfl ?_
    refine V.iadd dL_law_1007 ?_
    obtain ⟨hi, v115, ev115, hf⟩ := fld_e hf
    refine V.sload dL_law_1008 hi ?_
    refine V.cgi ev115 ?_
    refine V.aload_n (i := 0) dL_law_1009 rfl rfl ?_
    refine V.iload (i := 4) dL_law_1010 rfl ?_
    refine V.iconst (v := 2) dL_law_1012 rfl ?_
    refine V.iadd dL_law_1013 ?_
    obtain ⟨hi, v116, ev116, hf⟩ := fld_e hf
    refine V.sload dL_law_1014 hi ?_
    refine V.cgi ev116 ?_
    obtain ⟨v117, hv117, hf⟩ := fbind hf
    refine V.callVn (pl := [11, 12, 13, 14, 15]) (σ' := [.inl (5, [.ref 1, .ref 3, .ref 6, .ref 8, .ref 9]), .inl (3, [.ref 2]), .inr (910, .inl State_cells), .inl (1, [.ref 4, .ref 5, .int History_oldest, .int History_size, .int History_snapshotTaken]), .inr (5460, .inl History_saved), .inr (910, .inl History_snapshot), .inl (0, [.ref 7, .int Buffer_size]), .inr (60, .inl Buffer_codes), .inl (2, [.ref (Reader_pattern + 1000), .int Reader_place]), .inl (4, [.ref 10, .int Word_size]), .inr (8, .inl Word_letters), .inl (6, [.ref 12, .ref 13, .int M_savedMany, .ref 14, .int M_isTaken, .ref 15, .int M_length, .int v117.2, .int M_spelt, .int M_speltMany, .int M_place, .int M_kind, .int M_one, .int M_two, .int M_three, .int M_begins, .int M_done, .int M_stopBy, .long M_hash]), .inr (406, .inl M_s), .inr (2436, .inl M_saved), .inr (406, .inl M_snapshot), .inr (60, .inl M_text), .inr (1, .inr v114.2)]) (st2 := [.int v117.1]) (cl2 := (cl + 1)) (sl2 := (sl + 6)) (ct_X11_letter (a1 := v115) (a2 := v116) (M_savedMany := M_savedMany) (M_isTaken := M_isTaken) (M_length := M_length) (M_thrown := M_thrown) (M_spelt := M_spelt) (M_speltMany := M_speltMany) (M_place := M_place) (M_kind := M_kind) (M_one := M_one) (M_two := M_two) (M_three := M_three) (M_begins := M_begins) (M_done := M_done) (M_stopBy := M_stopBy) (M_hash := M_hash) (M_s := M_s) (M_saved := M_saved) (M_snapshot := M_snapshot) (M_text := M_text) hv117) dL_law_1015 w1351 ⟨w1352, w1353⟩ cal_X11_letter rfl ⟨⟨Nat.le_of_ble_eq_true rfl, Nat.le_of_ble_eq_true rfl⟩, (show (cl + 1) + 0 ≤ 1062 by omega), (show (sl + 6) + 0 ≤ 19011 by omega)⟩ (Nat.le_of_ble_eq_true rfl) (Or.inl ⟨_, _, _, _, rfl, rfl⟩) rfl ⟨rfl, ⟨by decide, by decide⟩, rfl, (fr_cons (Or.inl (Nat.le_of_ble_eq_true rfl)) (fr_cons (Or.inl (Nat.le_of_ble_eq_true rfl)) (fr_cons (Or.inl (Nat.le_of_ble_eq_true rfl)) (fr_cons (Or.inl (Nat.le_of_ble_eq_true rfl)) (fr_nil))))), rfl⟩ fr_i rfl rfl rfl rfl ?_
    refine V.istore (i := 6) (L' := [some (.ref 3000), some (.ref 0), some (.ref 11), some (.ref 16), some (.int p4), some (.int v114.1), some (.int v117.1), none, none]) dL_law_1018 (Nat.le_of_ble_eq_true rfl) rfl rfl ?_
    refine V.aload_n (i := 2) dL_law_1020 rfl rfl ?_
    obtain ⟨v118, hv118, hf⟩ := fbind hf
    refine V.callVn (pl := [11, 12, 13, 14, 15]) (σ' := [.inl (5, [.ref 1, .ref 3, .ref 6, .ref 8, .ref 9]), .inl (3, [.ref 2]), .inr (910, .inl State_cells), .inl (1, [.ref 4, .ref 5, .int History_oldest, .int History_size, .int History_snapshotTaken]), .inr (5460, .inl History_saved), .inr (910, .inl History_snapshot), .inl (0, [.ref 7, .int Buffer_size]), .inr (60, .inl Buffer_codes), .inl (2, [.ref (Reader_pattern + 1000), .int Reader_place]), .inl (4, [.ref 10, .int Word_size]), .inr (8, .inl Word_letters), .inl (6, [.ref 12, .ref 13, .int M_savedMany, .ref 14, .int M_isTaken, .ref 15, .int M_length, .int v117.2, .int M_spelt, .int M_speltMany, .int M_place, .int M_kind, .int M_one, .int M_two, .int M_three, .int M_begins, .int M_done, .int M_stopBy, .long M_hash]), .inr (406, .inl M_s), .inr (2436, .inl M_saved), .inr (406, .inl M_snapshot), .inr (60, .inl M_text), .inr (1, .inr v114.2)]) (st2 := [.int v118]) (cl2 := (cl + 1)) (sl2 := (sl + 6)) (ct_X11_thrown (M_savedMany := M_savedMany) (M_isTaken := M_isTaken) (M_length := M_length) (M_thrown := v117.2) (M_spelt := M_spelt) (M_speltMany := M_speltMany) (M_place := M_place) (M_kind := M_kind) (M_one := M_one) (M_two := M_two) (M_three := M_three) (M_begins := M_begins) (M_done := M_done) (M_stopBy := M_stopBy) (M_hash := M_hash) (M_s := M_s) (M_saved := M_saved) (M_snapshot := M_snapshot) (M_text := M_text) hv118) dL_law_1021 w1101 ⟨w1102, w1103⟩ cal_X11_thrown rfl ⟨⟨Nat.le_of_ble_eq_true rfl, Nat.le_of_ble_eq_true rfl⟩, (show (cl + 1) + 0 ≤ 1062 by omega), (show (sl + 6) + 0 ≤ 19011 by omega)⟩ (Nat.le_of_ble_eq_true rfl) (Or.inl ⟨_, _, _, _, rfl, rfl⟩) rfl ⟨rfl, ⟨by decide, by decide⟩, rfl, (fr_cons (Or.inl (Nat.le_of_ble_eq_true rfl)) (fr_cons (Or.inl (Nat.le_of_ble_eq_true rfl)) (fr_cons (Or.inl (Nat.le_of_ble_eq_true rfl)) (fr_cons (Or.inl (Nat.le_of_ble_eq_true rfl)) (fr_nil))))), rfl⟩ fr_i rfl rfl rfl rfl ?_
    refine V.iload (i := 5) dL_law_1024 rfl ?_
    refine V.icmp_eq (tgt := 1031) dL_law_1026 (by decide) (fun h => ?_) (fun h => ?_)
    · have hf := fif_t h hf
      refine V.iload (i := 5) dL_law_1031 rfl ?_
      refine V.if_ne (tgt := 1048) dL_law_1033 (by decide) (fun h => ?_) (fun h => ?_)
      · have hf := fif_f h hf
        refine V.goto (tgt := 1762) dL_law_1048 (by decide) ?_
        obtain rfl := Option.some.inj hf
        exact V.locs (L' := [some (.ref 3000), some (.ref 0), some (.ref 11), some (.ref 16), some (.int p4), none, none, none, none]) ⟨rfl, ⟨rfl, ⟨rfl, ⟨rfl, ⟨rfl, trivial⟩⟩⟩⟩⟩ (V.wide (by omega) (by omega) hx)
      · have hf := fif_t h hf
        refine V.aload_n (i := 3) dL_law_1036 rfl rfl ?_
        refine V.iconst (v := 0) dL_law_1037 rfl ?_
        obtain ⟨hi, v119, ev119, hf⟩ := fld_e hf
        refine V.fldL dL_law_1038 rfl hi ev119 ?_
        refine V.iload (i := 6) dL_law_1039 rfl ?_
        refine V.i2l dL_law_1041 ?_
        refine V.lcmp dL_law_1042 ?_
        refine V.if_eq (tgt := 1048) dL_law_1043 (by decide) (fun h => ?_) (fun h => ?_)
        · have hf := fif_t h hf
          refine V.goto (tgt := 1762) dL_law_1048 (by decide) ?_
          obtain rfl := Option.some.inj hf
          exact V.locs (L' := [some (.ref 3000), some (.ref 0), some (.ref 11), some (.ref 16), some (.int p4), none, none, none, none]) ⟨rfl, ⟨rfl, ⟨rfl, ⟨rfl, ⟨rfl, trivial⟩⟩⟩⟩⟩ (V.wide (by omega) (by omega) hx)
        · have hf := fif_f h hf
          refine V.iconst (v := 0) dL_law_1046 rfl ?_
          cases hf
    · have hf := fif_f h hf
      refine V.iconst (v := 0) dL_law_1029 rfl ?_
      cases hf
def s_L_law_L1051 (a0n : Nat) (a0 : Nat → Int32) (p4 : Int32) (State_cells : Nat → Int32) (M_s : Nat → Int32) : Nat → (Int32) → (Nat → Int64) → Option ((Int32) × (Nat → Int64))
  | 0, _, _ => none
  | n + 1, M_thrown, out => fld a0n a0 (p4 + 1) fun v121 => fld a0n a0 (p4 + 2) fun v122 => fld a0n a0 (p4 + 3) fun v123 => fld a0n a0 (p4 + 4) fun v124 => (s_L_knot v121 v122 v123 v124 State_cells out).bind fun v125 => fld a0n a0 (p4 + 1) fun v126 => fld a0n a0 (p4 + 2) fun v127 => fld a0n a0 (p4 + 3) fun v128 => fld a0n a0 (p4 + 4) fun v129 => (s_X11_knot v126 v127 v128 v129 M_thrown M_s).bind fun v130 => (s_X11_thrown v130.2).bind fun v131 => if (v131 = v125.1 : Prop) then (if (v125.1 = 0 : Prop) then (fld 1 v125.2 0 fun v132 => if ((lg_cmp v132 (Int32.toInt64 v130.1)) = 0 : Prop) then (some (v130.2, v125.2)) else (none)) else (some (v130.2, v125.2))) else (none)
set_option maxHeartbeats 4000000 in
set_option maxRecDepth 100000 in
theorem v_L_law_L1051 {a0n : Nat} {a0 : Nat → Int32} {p4 : Int32} {State_cells : Nat → Int32} {History_oldest : Int32} {History_size : Int32} {History_snapshotTaken : Int32} {History_saved : Nat → Int32} {History_snapshot : Nat → Int32} {Buffer_size : Int32} {Buffer_codes : Nat → Int32} {Reader_pattern : Nat} {Reader_place : Int32} {Word_size : Int32} {Word_letters : Nat → Int32} {M_savedMany : Int32} {M_isTaken : Int32} {M_length : Int32} {M_spelt : Int32} {M_speltMany : Int32} {M_place : Int32} {M_kind : Int32} {M_one : Int32} {M_two : Int32} {M_three : Int32} {M_begins : Int32} {M_done : Int32} {M_stopBy : Int32} {M_hash : Int64} {M_s : Nat → Int32} {M_saved : Nat → Int32} {M_snapshot : Nat → Int32} {M_text : Nat → Int32} : ∀ (n : Nat) {M_thrown : (Int32)} {out : (Nat → Int64)} {res : (Int32) × (Nat → Int64)} (hf : s_L_law_L1051 a0n a0 p4 State_cells M_s n M_thrown out = some res) {cl sl : Nat} (hc : cl + 1 ≤ 1062) (hs : sl + 6 ≤ 19011) (hx : V (fXlaw a0n a0) room_1 k_L_law 0 1762 [some (.ref 3000), some (.ref 0), some (.ref 11), some (.ref 16), some (.int p4), none, none, none, none] [] [.inl (5, [.ref 1, .ref 3, .ref 6, .ref 8, .ref 9]), .inl (3, [.ref 2]), .inr (910, .inl State_cells), .inl (1, [.ref 4, .ref 5, .int History_oldest, .int History_size, .int History_snapshotTaken]), .inr (5460, .inl History_saved), .inr (910, .inl History_snapshot), .inl (0, [.ref 7, .int Buffer_size]), .inr (60, .inl Buffer_codes), .inl (2, [.ref (Reader_pattern + 1000), .int Reader_place]), .inl (4, [.ref 10, .int Word_size]), .inr (8, .inl Word_letters), .inl (6, [.ref 12, .ref 13, .int M_savedMany, .ref 14, .int M_isTaken, .ref 15, .int M_length, .int res.1, .int M_spelt, .int M_speltMany, .int M_place, .int M_kind, .int M_one, .int M_two, .int M_three, .int M_begins, .int M_done, .int M_stopBy, .long M_hash]), .inr (406, .inl M_s), .inr (2436, .inl M_saved), .inr (406, .inl M_snapshot), .inr (60, .inl M_text), .inr (1, .inr res.2)] (cl + 1) (sl + 6)), V (fXlaw a0n a0) room_1 k_L_law 0 1051 [some (.ref 3000), some (.ref 0), some (.ref 11), some (.ref 16), some (.int p4), none, none, none, none] [] [.inl (5, [.ref 1, .ref 3, .ref 6, .ref 8, .ref 9]), .inl (3, [.ref 2]), .inr (910, .inl State_cells), .inl (1, [.ref 4, .ref 5, .int History_oldest, .int History_size, .int History_snapshotTaken]), .inr (5460, .inl History_saved), .inr (910, .inl History_snapshot), .inl (0, [.ref 7, .int Buffer_size]), .inr (60, .inl Buffer_codes), .inl (2, [.ref (Reader_pattern + 1000), .int Reader_place]), .inl (4, [.ref 10, .int Word_size]), .inr (8, .inl Word_letters), .inl (6, [.ref 12, .ref 13, .int M_savedMany, .ref 14, .int M_isTaken, .ref 15, .int M_length, .int M_thrown, .int M_spelt, .int M_speltMany, .int M_place, .int M_kind, .int M_one, .int M_two, .int M_three, .int M_begins, .int M_done, .int M_stopBy, .long M_hash]), .inr (406, .inl M_s), .inr (2436, .inl M_saved), .inr (406, .inl M_snapshot), .inr (60, .inl M_text), .inr (1, .inr out)] cl sl := by
  intro n
  induction n with
  | zero =>
    intro M_thrown out res hf cl sl hc hs hx
    rw [s_L_law_L1051] at hf
    cases hf
  | succ n ih =>
    intro M_thrown out res hf cl sl hc hs hx
    rw [s_L_law_L1051] at hf
    refine V.aload_n (i := 1) dL_law_1051 rfl rfl ?_
    refine V.aload_n (i := 0) dL_law_1052 rfl rfl ?_
    refine V.iload (i := 4) dL_law_1053 rfl ?_
    refine V.iconst (v := 1) dL_law_1055 rfl ?_
    refine V.iadd dL_law_1056 ?_
    obtain ⟨hi, v121, ev121, hf⟩ := fld_e hf
    refine V.sload dL_law_1057 hi ?_
    refine V.cgi ev121 ?_
    refine V.aload_n (i := 0) dL_law_1058 rfl rfl ?_
    refine V.iload (i := 4) dL_law_1059 rfl ?_
    refine V.iconst (v := 2) dL_law_1061 rfl ?_
    refine V.iadd dL_law_1062 ?_
    obtain ⟨hi, v122, ev122, hf⟩ := fld_e hf
    refine V.sload dL_law_1063 hi ?_
    refine V.cgi ev122 ?_
    refine V.aload_n (i := 0) dL_law_1064 rfl rfl ?_
    refine V.iload (i := 4) dL_law_1065 rfl ?_
    refine V.iconst (v := 3) dL_law_1067 rfl ?_
    refine V.iadd dL_law_1068 ?_
    obtain ⟨hi, v123, ev123, hf⟩ := fld_e hf
    refine V.sload dL_law_1069 hi ?_
    refine V.cgi ev123 ?_
    refine V.aload_n (i := 0) dL_law_1070 rfl rfl ?_
    refine V.iload (i := 4) dL_law_1071 rfl ?_
    refine V.iconst (v := 4) dL_law_1073 rfl ?_
    refine V.iadd dL_law_1074 ?_
    obtain ⟨hi, v124, ev124, hf⟩ := fld_e hf
    refine V.sload dL_law_1075 hi ?_
    refine V.cgi ev124 ?_
    refine V.aload_n (i := 3) dL_law_1076 rfl rfl ?_
    obtain ⟨v125, hv125, hf⟩ := fbind hf
    refine V.callSn (pl := [0, 1, 2, 3, 4, 5, 6, 7, 8, 9, 10, 16]) (σ' := [.inl (5, [.ref 1, .ref 3, .ref 6, .ref 8, .ref 9]), .inl (3, [.ref 2]), .inr (910, .inl State_cells), .inl (1, [.ref 4, .ref 5, .int History_oldest, .int History_size, .int History_snapshotTaken]), .inr (5460, .inl History_saved), .inr (910, .inl History_snapshot), .inl (0, [.ref 7, .int Buffer_size]), .inr (60, .inl Buffer_codes), .inl (2, [.ref (Reader_pattern + 1000), .int Reader_place]), .inl (4, [.ref 10, .int Word_size]), .inr (8, .inl Word_letters), .inl (6, [.ref 12, .ref 13, .int M_savedMany, .ref 14, .int M_isTaken, .ref 15, .int M_length, .int M_thrown, .int M_spelt, .int M_speltMany, .int M_place, .int M_kind, .int M_one, .int M_two, .int M_three, .int M_begins, .int M_done, .int M_stopBy, .long M_hash]), .inr (406, .inl M_s), .inr (2436, .inl M_saved), .inr (406, .inl M_snapshot), .inr (60, .inl M_text), .inr (1, .inr v125.2)]) (st2 := [.int v125.1]) (cl2 := (cl + 1)) (sl2 := (sl + 6)) (ct_L_knot (a1 := v121) (a2 := v122) (a3 := v123) (a4 := v124) (State_cells := State_cells) (History_oldest := History_oldest) (History_size := History_size) (History_snapshotTaken := History_snapshotTaken) (History_saved := History_saved) (History_snapshot := History_snapshot) (Buffer_size := Buffer_size) (Buffer_codes := Buffer_codes) (Reader_pattern := Reader_pattern) (Reader_place := Reader_place) (Word_size := Word_size) (Word_letters := Word_letters) (out5 := out) hv125) dL_law_1077 w952 w953 cal_L_knot ⟨⟨Nat.le_of_ble_eq_true rfl, Nat.le_of_ble_eq_true rfl⟩, (show cl + 1 ≤ 1062 by omega), (show sl + 6 ≤ 19011 by omega)⟩ (Nat.le_of_ble_eq_true rfl) rfl ⟨rfl, ⟨by decide, by decide⟩, rfl, (fr_cons (Or.inl (Nat.le_of_ble_eq_true rfl)) (fr_cons (Or.inl (Nat.le_of_ble_eq_true rfl)) (fr_cons (Or.inl (Nat.le_of_ble_eq_true rfl)) (fr_cons (Or.inl (Nat.le_of_ble_eq_true rfl)) (fr_cons (Or.inl (Nat.le_of_ble_eq_true rfl)) (fr_cons (Or.inl (Nat.le_of_ble_eq_true rfl)) (fr_cons (Or.inl (Nat.le_of_ble_eq_true rfl)) (fr_cons (Or.inl (Nat.le_of_ble_eq_true rfl)) (fr_cons (Or.inl (Nat.le_of_ble_eq_true rfl)) (fr_cons (Or.inr (Nat.le_add_left 1000 _)) (fr_cons (Or.inl (Nat.le_of_ble_eq_true rfl)) (fr_nil)))))))))))), rfl⟩ fr_i rfl rfl rfl rfl ?_
    refine V.istore (i := 5) (L' := [some (.ref 3000), some (.ref 0), some (.ref 11), some (.ref 16), some (.int p4), some (.int v125.1), none, none, none]) dL_law_1080 (Nat.le_of_ble_eq_true rfl) rfl rfl ?_
    refine V.aload_n (i := 2) dL_law_1082 rfl rfl ?_
    refine V.aload_n (i := 0) dL_law_1083 rfl rfl ?_
    refine V.iload (i := 4) dL_law_1084 rfl ?_
    refine V.iconst (v := 1) dL_law_1086 rfl ?_
    refine V.iadd dL_law_1087 ?_
    obtain ⟨hi, v126, ev126, hf⟩ := fld_e hf
    refine V.sload dL_law_1088 hi ?_
    refine V.cgi ev126 ?_
    refine V.aload_n (i := 0) dL_law_1089 rfl rfl ?_
    refine V.iload (i := 4) dL_law_1090 rfl ?_
    refine V.iconst (v := 2) dL_law_1092 rfl ?_
    refine V.iadd dL_law_1093 ?_
    obtain ⟨hi, v127, ev127, hf⟩ := fld_e hf
    refine V.sload dL_law_1094 hi ?_
    refine V.cgi ev127 ?_
    refine V.aload_n (i := 0) dL_law_1095 rfl rfl ?_
    refine V.iload (i := 4) dL_law_1096 rfl ?_
    refine V.iconst (v := 3) dL_law_1098 rfl ?_
    refine V.iadd dL_law_1099 ?_
    obtain ⟨hi, v128, ev128, hf⟩ := fld_e hf
    refine V.sload dL_law_1100 hi ?_
    refine V.cgi ev128 ?_
    refine V.aload_n (i := 0) dL_law_1101 rfl rfl ?_
    refine V.iload (i := 4) dL_law_1102 rfl ?_
    refine V.iconst (v := 4) dL_law_1104 rfl ?_
    refine V.iadd dL_law_1105 ?_
    obtain ⟨hi, v129, ev129, hf⟩ := fld_e hf
    refine V.sload dL_law_1106 hi ?_
    refine V.cgi ev129 ?_
    obtain ⟨v130, hv130, hf⟩ := fbind hf
    refine V.callVn (pl := [11, 12, 13, 14, 15]) (σ' := [.inl (5, [.ref 1, .ref 3, .ref 6, .ref 8, .ref 9]), .inl (3, [.ref 2]), .inr (910, .inl State_cells), .inl (1, [.ref 4, .ref 5, .int History_oldest, .int History_size, .int History_snapshotTaken]), .inr (5460, .inl History_saved), .inr (910, .inl History_snapshot), .inl (0, [.ref 7, .int Buffer_size]), .inr (60, .inl Buffer_codes), .inl (2, [.ref (Reader_pattern + 1000), .int Reader_place]), .inl (4, [.ref 10, .int Word_size]), .inr (8, .inl Word_letters), .inl (6, [.ref 12, .ref 13, .int M_savedMany, .ref 14, .int M_isTaken, .ref 15, .int M_length, .int v130.2, .int M_spelt, .int M_speltMany, .int M_place, .int M_kind, .int M_one, .int M_two, .int M_three, .int M_begins, .int M_done, .int M_stopBy, .long M_hash]), .inr (406, .inl M_s), .inr (2436, .inl M_saved), .inr (406, .inl M_snapshot), .inr (60, .inl M_text), .inr (1, .inr v125.2)]) (st2 := [.int v130.1]) (cl2 := (cl + 1)) (sl2 := (sl + 6)) (ct_X11_knot (a1 := v126) (a2 := v127) (a3 := v128) (a4 := v129) (M_savedMany := M_savedMany) (M_isTaken := M_isTaken) (M_length := M_length) (M_thrown := M_thrown) (M_spelt := M_spelt) (M_speltMany := M_speltMany) (M_place := M_place) (M_kind := M_kind) (M_one := M_one) (M_two := M_two) (M_three := M_three) (M_begins := M_begins) (M_done := M_done) (M_stopBy := M_stopBy) (M_hash := M_hash) (M_s := M_s) (M_saved := M_saved) (M_snapshot := M_snapshot) (M_text := M_text) hv130) dL_law_1107 w1363 ⟨w1364, w1365⟩ cal_X11_knot rfl ⟨⟨Nat.le_of_ble_eq_true rfl, Nat.le_of_ble_eq_true rfl⟩, (show (cl + 1) + 0 ≤ 1062 by omega), (show (sl + 6) + 0 ≤ 19011 by omega)⟩ (Nat.le_of_ble_eq_true rfl) (Or.inl ⟨_, _, _, _, rfl, rfl⟩) rfl ⟨rfl, ⟨by decide, by decide⟩, rfl, (fr_cons (Or.inl (Nat.le_of_ble_eq_true rfl)) (fr_cons (Or.inl (Nat.le_of_ble_eq_true rfl)) (fr_cons (Or.inl (Nat.le_of_ble_eq_true rfl)) (fr_cons (Or.inl (Nat.le_of_ble_eq_true rfl)) (fr_nil))))), rfl⟩ fr_i rfl rfl rfl rfl ?_
    refine V.istore (i := 6) (L' := [some (.ref 3000), some (.ref 0), some (.ref 11), some (.ref 16), some (.int p4), some (.int v125.1), some (.int v130.1), none, none]) dL_law_1110 (Nat.le_of_ble_eq_true rfl) rfl rfl ?_
    refine V.aload_n (i := 2) dL_law_1112 rfl rfl ?_
    obtain ⟨v131, hv131, hf⟩ := fbind hf
    refine V.callVn (pl := [11, 12, 13, 14, 15]) (σ' := [.inl (5, [.ref 1, .ref 3, .ref 6, .ref 8, .ref 9]), .inl (3, [.ref 2]), .inr (910, .inl State_cells), .inl (1, [.ref 4, .ref 5, .int History_oldest, .int History_size, .int History_snapshotTaken]), .inr (5460, .inl History_saved), .inr (910, .inl History_snapshot), .inl (0, [.ref 7, .int Buffer_size]), .inr (60, .inl Buffer_codes), .inl (2, [.ref (Reader_pattern + 1000), .int Reader_place]), .inl (4, [.ref 10, .int Word_size]), .inr (8, .inl Word_letters), .inl (6, [.ref 12, .ref 13, .int M_savedMany, .ref 14, .int M_isTaken, .ref 15, .int M_length, .int v130.2, .int M_spelt, .int M_speltMany, .int M_place, .int M_kind, .int M_one, .int M_two, .int M_three, .int M_begins, .int M_done, .int M_stopBy, .long M_hash]), .inr (406, .inl M_s), .inr (2436, .inl M_saved), .inr (406, .inl M_snapshot), .inr (60, .inl M_text), .inr (1, .inr v125.2)]) (st2 := [.int v131]) (cl2 := (cl + 1)) (sl2 := (sl + 6)) (ct_X11_thrown (M_savedMany := M_savedMany) (M_isTaken := M_isTaken) (M_length := M_length) (M_thrown := v130.2) (M_spelt := M_spelt) (M_speltMany := M_speltMany) (M_place := M_place) (M_kind := M_kind) (M_one := M_one) (M_two := M_two) (M_three := M_three) (M_begins := M_begins) (M_done := M_done) (M_stopBy := M_stopBy) (M_hash := M_hash) (M_s := M_s) (M_saved := M_saved) (M_snapshot := M_snapshot) (M_text := M_text) hv131) dL_law_1113 w1101 ⟨w1102, w1103⟩ cal_X11_thrown rfl ⟨⟨Nat.le_of_ble_eq_true rfl, Nat.le_of_ble_eq_true rfl⟩, (show (cl + 1) + 0 ≤ 1062 by omega), (show (sl + 6) + 0 ≤ 19011 by omega)⟩ (Nat.le_of_ble_eq_true rfl) (Or.inl ⟨_, _, _, _, rfl, rfl⟩) rfl ⟨rfl, ⟨by decide, by decide⟩, rfl, (fr_cons (Or.inl (Nat.le_of_ble_eq_true rfl)) (fr_cons (Or.inl (Nat.le_of_ble_eq_true rfl)) (fr_cons (Or.inl (Nat.le_of_ble_eq_true rfl)) (fr_cons (Or.inl (Nat.le_of_ble_eq_true rfl)) (fr_nil))))), rfl⟩ fr_i rfl rfl rfl rfl ?_
    refine V.iload (i := 5) dL_law_1116 rfl ?_
    refine V.icmp_eq (tgt := 1123) dL_law_1118 (by decide) (fun h => ?_) (fun h => ?_)
    · have hf := fif_t h hf
      refine V.iload (i := 5) dL_law_1123 rfl ?_
      refine V.if_ne (tgt := 1140) dL_law_1125 (by decide) (fun h => ?_) (fun h => ?_)
      · have hf := fif_f h hf
        refine V.goto (tgt := 1762) dL_law_1140 (by decide) ?_
        obtain rfl := Option.some.inj hf
        exact V.locs (L' := [some (.ref 3000), some (.ref 0), some (.ref 11), some (.ref 16), some (.int p4), none, none, none, none]) ⟨rfl, ⟨rfl, ⟨rfl, ⟨rfl, ⟨rfl, trivial⟩⟩⟩⟩⟩ (V.wide (by omega) (by omega) hx)
      · have hf := fif_t h hf
        refine V.aload_n (i := 3) dL_law_1128 rfl rfl ?_
        refine V.iconst (v := 0) dL_law_1129 rfl ?_
        obtain ⟨hi, v132, ev132, hf⟩ := fld_e hf
        refine V.fldL dL_law_1130 rfl hi ev132 ?_
        refine V.iload (i := 6) dL_law_1131 rfl ?_
        refine V.i2l dL_law_1133 ?_
        refine V.lcmp dL_law_1134 ?_
        refine V.if_eq (tgt := 1140) dL_law_1135 (by decide) (fun h => ?_) (fun h => ?_)
        · have hf := fif_t h hf
          refine V.goto (tgt := 1762) dL_law_1140 (by decide) ?_
          obtain rfl := Option.some.inj hf
          exact V.locs (L' := [some (.ref 3000), some (.ref 0), some (.ref 11), some (.ref 16), some (.int p4), none, none, none, none]) ⟨rfl, ⟨rfl, ⟨rfl, ⟨rfl, ⟨rfl, trivial⟩⟩⟩⟩⟩ (V.wide (by omega) (by omega) hx)
        · have hf := fif_f h hf
          refine V.iconst (v := 0) dL_law_1138 rfl ?_
          cases hf
    · have hf := fif_f h hf
      refine V.iconst (v := 0) dL_law_1121 rfl ?_
      cases hf
def s_L_law_L1143 (a0n : Nat) (a0 : Nat → Int32) (p4 : Int32) (State_cells : Nat → Int32) (M_s : Nat → Int32) : Nat → (Int32) → (Nat → Int64) → Option ((Int32) × (Nat → Int64))
  | 0, _, _ => none
  | n + 1, M_thrown, out => fld a0n a0 (p4 + 1) fun v134 => fld a0n a0 (p4 + 2) fun v135 => fld a0n a0 (p4 + 3) fun v136 => (s_L_name v134 v135 v136 State_cells out).bind fun v137 => fld a0n a0 (p4 + 1) fun v138 => fld a0n a0 (p4 + 2) fun v139 => fld a0n a0 (p4 + 3) fun v140 => (s_X11_name v138 v139 v140 M_thrown M_s).bind fun v141 => (s_X11_thrown v141.2).bind fun v142 => if (v142 = v137.1 : Prop) then (if (v137.1 = 0 : Prop) then (fld 1 v137.2 0 fun v143 => if ((lg_cmp v143 (Int32.toInt64 v141.1)) = 0 : Prop) then (some (v141.2, v137.2)) else (none)) else (some (v141.2, v137.2))) else (none)
set_option maxHeartbeats 4000000 in
set_option maxRecDepth 100000 in
theorem v_L_law_L1143 {a0n : Nat} {a0 : Nat → Int32} {p4 : Int32} {State_cells : Nat → Int32} {History_oldest : Int32} {History_size : Int32} {History_snapshotTaken : Int32} {History_saved : Nat → Int32} {History_snapshot : Nat → Int32} {Buffer_size : Int32} {Buffer_codes : Nat → Int32} {Reader_pattern : Nat} {Reader_place : Int32} {Word_size : Int32} {Word_letters : Nat → Int32} {M_savedMany : Int32} {M_isTaken : Int32} {M_length : Int32} {M_spelt : Int32} {M_speltMany : Int32} {M_place : Int32} {M_kind : Int32} {M_one : Int32} {M_two : Int32} {M_three : Int32} {M_begins : Int32} {M_done : Int32} {M_stopBy : Int32} {M_hash : Int64} {M_s : Nat → Int32} {M_saved : Nat → Int32} {M_snapshot : Nat → Int32} {M_text : Nat → Int32} : ∀ (n : Nat) {M_thrown : (Int32)} {out : (Nat → Int64)} {res : (Int32) × (Nat → Int64)} (hf : s_L_law_L1143 a0n a0 p4 State_cells M_s n M_thrown out = some res) {cl sl : Nat} (hc : cl + 1 ≤ 1062) (hs : sl + 6 ≤ 19011) (hx : V (fXlaw a0n a0) room_1 k_L_law 0 1762 [some (.ref 3000), some (.ref 0), some (.ref 11), some (.ref 16), some (.int p4), none, none, none, none] [] [.inl (5, [.ref 1, .ref 3, .ref 6, .ref 8, .ref 9]), .inl (3, [.ref 2]), .inr (910, .inl State_cells), .inl (1, [.ref 4, .ref 5, .int History_oldest, .int History_size, .int History_snapshotTaken]), .inr (5460, .inl History_saved), .inr (910, .inl History_snapshot), .inl (0, [.ref 7, .int Buffer_size]), .inr (60, .inl Buffer_codes), .inl (2, [.ref (Reader_pattern + 1000), .int Reader_place]), .inl (4, [.ref 10, .int Word_size]), .inr (8, .inl Word_letters), .inl (6, [.ref 12, .ref 13, .int M_savedMany, .ref 14, .int M_isTaken, .ref 15, .int M_length, .int res.1, .int M_spelt, .int M_speltMany, .int M_place, .int M_kind, .int M_one, .int M_two, .int M_three, .int M_begins, .int M_done, .int M_stopBy, .long M_hash]), .inr (406, .inl M_s), .inr (2436, .inl M_saved), .inr (406, .inl M_snapshot), .inr (60, .inl M_text), .inr (1, .inr res.2)] (cl + 1) (sl + 6)), V (fXlaw a0n a0) room_1 k_L_law 0 1143 [some (.ref 3000), some (.ref 0), some (.ref 11), some (.ref 16), some (.int p4), none, none, none, none] [] [.inl (5, [.ref 1, .ref 3, .ref 6, .ref 8, .ref 9]), .inl (3, [.ref 2]), .inr (910, .inl State_cells), .inl (1, [.ref 4, .ref 5, .int History_oldest, .int History_size, .int History_snapshotTaken]), .inr (5460, .inl History_saved), .inr (910, .inl History_snapshot), .inl (0, [.ref 7, .int Buffer_size]), .inr (60, .inl Buffer_codes), .inl (2, [.ref (Reader_pattern + 1000), .int Reader_place]), .inl (4, [.ref 10, .int Word_size]), .inr (8, .inl Word_letters), .inl (6, [.ref 12, .ref 13, .int M_savedMany, .ref 14, .int M_isTaken, .ref 15, .int M_length, .int M_thrown, .int M_spelt, .int M_speltMany, .int M_place, .int M_kind, .int M_one, .int M_two, .int M_three, .int M_begins, .int M_done, .int M_stopBy, .long M_hash]), .inr (406, .inl M_s), .inr (2436, .inl M_saved), .inr (406, .inl M_snapshot), .inr (60, .inl M_text), .inr (1, .inr out)] cl sl := by
  intro n
  induction n with
  | zero =>
    intro M_thrown out res hf cl sl hc hs hx
    rw [s_L_law_L1143] at hf
    cases hf
  | succ n ih =>
    intro M_thrown out res hf cl sl hc hs hx
    rw [s_L_law_L1143] at hf
    refine V.aload_n (i := 1) dL_law_1143 rfl rfl ?_
    refine V.aload_n (i := 0) dL_law_1144 rfl rfl ?_
    refine V.iload (i := 4) dL_law_1145 rfl ?_
    refine V.iconst (v := 1) dL_law_1147 rfl ?_
    refine V.iadd dL_law_1148 ?_
    obtain ⟨hi, v134, ev134, hf⟩ := fld_e hf
    refine V.sload dL_law_1149 hi ?_
    refine V.cgi ev134 ?_
    refine V.aload_n (i := 0) dL_law_1150 rfl rfl ?_
    refine V.iload (i := 4) dL_law_1151 rfl ?_
    refine V.iconst (v := 2) dL_law_1153 rfl ?_
    refine V.iadd dL_law_1154 ?_
    obtain ⟨hi, v135, ev135, hf⟩ := fld_e hf
    refine V.sload dL_law_1155 hi ?_
    refine V.cgi ev135 ?_
    refine V.aload_n (i := 0) dL_law_1156 rfl rfl ?_
    refine V.iload (i := 4) dL_law_1157 rfl ?_
    refine V.iconst (v := 3) dL_law_1159 rfl ?_
    refine V.iadd dL_law_1160 ?_
    obtain ⟨hi, v136, ev136, hf⟩ := fld_e hf
    refine V.sload dL_law_1161 hi ?_
    refine V.cgi ev136 ?_
    refine V.aload_n (i := 3) dL_law_1162 rfl rfl ?_
    obtain ⟨v137, hv137, hf⟩ := fbind hf
    refine V.callSn (pl := [0, 1, 2, 3, 4, 5, 6, 7, 8, 9, 10, 16]) (σ' := [.inl (5, [.ref 1, .ref 3, .ref 6, .ref 8, .ref 9]), .inl (3, [.ref 2]), .inr (910, .inl State_cells), .inl (1, [.ref 4, .ref 5, .int History_oldest, .int History_size, .int History_snapshotTaken]), .inr (5460, .inl History_saved), .inr (910, .inl History_snapshot), .inl (0, [.ref 7, .int Buffer_size]), .inr (60, .inl Buffer_codes), .inl (2, [.ref (Reader_pattern + 1000), .int Reader_place]), .inl (4, [.ref 10, .int Word_size]), .inr (8, .inl Word_letters), .inl (6, [.ref 12, .ref 13, .int M_savedMany, .ref 14, .int M_isTaken, .ref 15, .int M_length, .int M_thrown, .int M_spelt, .int M_speltMany, .int M_place, .int M_kind, .int M_one, .int M_two, .int M_three, .int M_begins, .int M_done, .int M_stopBy, .long M_hash]), .inr (406, .inl M_s), .inr (2436, .inl M_saved), .inr (406, .inl M_snapshot), .inr (60, .inl M_text), .inr (1, .inr v137.2)]) (st2 := [.int v137.1]) (cl2 := (cl + 1)) (sl2 := (sl + 6)) (ct_L_name (a1 := v134) (a2 := v135) (a3 := v136) (State_cells := State_cells) (History_oldest := History_oldest) (History_size := History_size) (History_snapshotTaken := History_snapshotTaken) (History_saved := History_saved) (History_snapshot := History_snapshot) (Buffer_size := Buffer_size) (Buffer_codes := Buffer_codes) (Reader_pattern := Reader_pattern) (Reader_place := Reader_place) (Word_size := Word_size) (Word_letters := Word_letters) (out4 := out) hv137) dL_law_1163 w961 w962 cal_L_name ⟨⟨Nat.le_of_ble_eq_true rfl, Nat.le_of_ble_eq_true rfl⟩, (show cl + 1 ≤ 1062 by omega), (show sl + 6 ≤ 19011 by omega)⟩ (Nat.le_of_ble_eq_true rfl) rfl ⟨rfl, ⟨by decide, by decide⟩, rfl, (fr_cons (Or.inl (Nat.le_of_ble_eq_true rfl)) (fr_cons (Or.inl (Nat.le_of_ble_eq_true rfl)) (fr_cons (Or.inl (Nat.le_of_ble_eq_true rfl)) (fr_cons (Or.inl (Nat.le_of_ble_eq_true rfl)) (fr_cons (Or.inl (Nat.le_of_ble_eq_true rfl)) (fr_cons (Or.inl (Nat.le_of_ble_eq_true rfl)) (fr_cons (Or.inl (Nat.le_of_ble_eq_true rfl)) (fr_cons (Or.inl (Nat.le_of_ble_eq_true rfl)) (fr_cons (Or.inl (Nat.le_of_ble_eq_true rfl)) (fr_cons (Or.inr (Nat.le_add_left 1000 _)) (fr_cons (Or.inl (Nat.le_of_ble_eq_true rfl)) (fr_nil)))))))))))), rfl⟩ fr_i rfl rfl rfl rfl ?_
    refine V.istore (i := 5) (L' := [some (.ref 3000), some (.ref 0), some (.ref 11), some (.ref 16), some (.int p4), some (.int v137.1), none, none, none]) dL_law_1166 (Nat.le_of_ble_eq_true rfl) rfl rfl ?_
    refine V.aload_n (i := 2) dL_law_1168 rfl rfl ?_
    refine V.aload_n (i := 0) dL_law_1169 rfl rfl ?_
    refine V.iload (i := 4) dL_law_1170 rfl ?_
    refine V.iconst (v := 1) dL_law_1172 rfl ?_
    refine V.iadd dL_law_1173 ?_
    obtain ⟨hi, v138, ev138, hf⟩ := fld_e hf
    refine V.sload dL_law_1174 hi ?_
    refine V.cgi ev138 ?_
    refine V.aload_n (i := 0) dL_law_1175 rfl rfl ?_
    refine V.iload (i := 4) dL_law_1176 rfl ?_
    refine V.iconst (v := 2) dL_law_1178 rfl ?_
    refine V.iadd dL_law_1179 ?_
    obtain ⟨hi, v139, ev139, hf⟩ := fld_e hf
    refine V.sload dL_law_1180 hi ?_
    refine V.cgi ev139 ?_
    refine V.aload_n (i := 0) dL_law_1181 rfl rfl ?_
    refine V.iload (i := 4) dL_law_1182 rfl ?_
    refine V.iconst (v := 3) dL_law_1184 rfl ?_
    refine V.iadd dL_law_1185 ?_
    obtain ⟨hi, v140, ev140, hf⟩ := fld_e hf
    refine V.sload dL_law_1186 hi ?_
    refine V.cgi ev140 ?_
    obtain ⟨v141, hv141, hf⟩ := fbind hf
    refine V.callVn (pl := [11, 12, 13, 14, 15]) (σ' := [.inl (5, [.ref 1, .ref 3, .ref 6, .ref 8, .ref 9]), .inl (3, [.ref 2]), .inr (910, .inl State_cells), .inl (1, [.ref 4, .ref 5, .int History_oldest, .int History_size, .int History_snapshotTaken]), .inr (5460, .inl History_saved), .inr (910, .inl History_snapshot), .inl (0, [.ref 7, .int Buffer_size]), .inr (60, .inl Buffer_codes), .inl (2, [.ref (Reader_pattern + 1000), .int Reader_place]), .inl (4, [.ref 10, .int Word_size]), .inr (8, .inl Word_letters), .inl (6, [.ref 12, .ref 13, .int M_savedMany, .ref 14, .int M_isTaken, .ref 15, .int M_length, .int v141.2, .int M_spelt, .int M_speltMany, .int M_place, .int M_kind, .int M_one, .int M_two, .int M_three, .int M_begins, .int M_done, .int M_stopBy, .long M_hash]), .inr (406, .inl M_s), .inr (2436, .inl M_saved), .inr (406, .inl M_snapshot), .inr (60, .inl M_text), .inr (1, .inr v137.2)]) (st2 := [.int v141.1]) (cl2 := (cl + 1)) (sl2 := (sl + 6)) (ct_X11_name (a1 := v138) (a2 := v139) (a3 := v140) (M_savedMany := M_savedMany) (M_isTaken := M_isTaken) (M_length := M_length) (M_thrown := M_thrown) (M_spelt := M_spelt) (M_speltMany := M_speltMany) (M_place := M_place) (M_kind := M_kind) (M_one := M_one) (M_two := M_two) (M_three := M_three) (M_begins := M_begins) (M_done := M_done) (M_stopBy := M_stopBy) (M_hash := M_hash) (M_s := M_s) (M_saved := M_saved) (M_snapshot := M_snapshot) (M_text := M_text) hv141) dL_law_1187 w1371 ⟨w1372, w1373⟩ cal_X11_name rfl ⟨⟨Nat.le_of_ble_eq_true rfl, Nat.le_of_ble_eq_true rfl⟩, (show (cl + 1) + 0 ≤ 1062 by omega), (show (sl + 6) + 0 ≤ 19011 by omega)⟩ (Nat.le_of_ble_eq_true rfl) (Or.inl ⟨_, _, _, _, rfl, rfl⟩) rfl ⟨rfl, ⟨by decide, by decide⟩, rfl, (fr_cons (Or.inl (Nat.le_of_ble_eq_true rfl)) (fr_cons (Or.inl (Nat.le_of_ble_eq_true rfl)) (fr_cons (Or.inl (Nat.le_of_ble_eq_true rfl)) (fr_cons (Or.inl (Nat.le_of_ble_eq_true rfl)) (fr_nil))))), rfl⟩ fr_i rfl rfl rfl rfl ?_
    refine V.istore (i := 6) (L' := [some (.ref 3000), some (.ref 0), some (.ref 11), some (.ref 16), some (.int p4), some (.int v137.1), some (.int v141.1), none, none]) dL_law_1190 (Nat.le_of_ble_eq_true rfl) rfl rfl ?_
    refine V.aload_n (i := 2) dL_law_1192 rfl rfl ?_
    obtain ⟨v142, hv142, hf⟩ := fbind hf
    refine V.callVn (pl := [11, 12, 13, 14, 15]) (σ' := [.inl (5, [.ref 1, .ref 3, .ref 6, .ref 8, .ref 9]), .inl (3, [.ref 2]), .inr (910, .inl State_cells), .inl (1, [.ref 4, .ref 5, .int History_oldest, .int History_size, .int History_snapshotTaken]), .inr (5460, .inl History_saved), .inr (910, .inl History_snapshot), .inl (0, [.ref 7, .int Buffer_size]), .inr (60, .inl Buffer_codes), .inl (2, [.ref (Reader_pattern + 1000), .int Reader_place]), .inl (4, [.ref 10, .int Word_size]), .inr (8, .inl Word_letters), .inl (6, [.ref 12, .ref 13, .int M_savedMany, .ref 14, .int M_isTaken, .ref 15, .int M_length, .int v141.2, .int M_spelt, .int M_speltMany, .int M_place, .int M_kind, .int M_one, .int M_two, .int M_three, .int M_begins, .int M_done, .int M_stopBy, .long M_hash]), .inr (406, .inl M_s), .inr (2436, .inl M_saved), .inr (406, .inl M_snapshot), .inr (60, .inl M_text), .inr (1, .inr v137.2)]) (st2 := [.int v142]) (cl2 := (cl + 1)) (sl2 := (sl + 6)) (ct_X11_thrown (M_savedMany := M_savedMany) (M_isTaken := M_isTaken) (M_length := M_length) (M_thrown := v141.2) (M_spelt := M_spelt) (M_speltMany := M_speltMany) (M_place := M_place) (M_kind := M_kind) (M_one := M_one) (M_two := M_two) (M_three := M_three) (M_begins := M_begins) (M_done := M_done) (M_stopBy := M_stopBy) (M_hash := M_hash) (M_s := M_s) (M_saved := M_saved) (M_snapshot := M_snapshot) (M_text := M_text) hv142) dL_law_1193 w1101 ⟨w1102, w1103⟩ cal_X11_thrown rfl ⟨⟨Nat.le_of_ble_eq_true rfl, Nat.le_of_ble_eq_true rfl⟩, (show (cl + 1) + 0 ≤ 1062 by omega), (show (sl + 6) + 0 ≤ 19011 by omega)⟩ (Nat.le_of_ble_eq_true rfl) (Or.inl ⟨_, _, _, _, rfl, rfl⟩) rfl ⟨rfl, ⟨by decide, by decide⟩, rfl, (fr_cons (Or.inl (Nat.le_of_ble_eq_true rfl)) (fr_cons (Or.inl (Nat.le_of_ble_eq_true rfl)) (fr_cons (Or.inl (Nat.le_of_ble_eq_true rfl)) (fr_cons (Or.inl (Nat.le_of_ble_eq_true rfl)) (fr_nil))))), rfl⟩ fr_i rfl rfl rfl rfl ?_
    refine V.iload (i := 5) dL_law_1196 rfl ?_
    refine V.icmp_eq (tgt := 1203) dL_law_1198 (by decide) (fun h => ?_) (fun h => ?_)
    · have hf := fif_t h hf
      refine V.iload (i := 5) dL_law_1203 rfl ?_
      refine V.if_ne (tgt := 1220) dL_law_1205 (by decide) (fun h => ?_) (fun h => ?_)
      · have hf := fif_f h hf
        refine V.goto (tgt := 1762) dL_law_1220 (by decide) ?_
        obtain rfl := Option.some.inj hf
        exact V.locs (L' := [some (.ref 3000), some (.ref 0), some (.ref 11), some (.ref 16), some (.int p4), none, none, none, none]) ⟨rfl, ⟨rfl, ⟨rfl, ⟨rfl, ⟨rfl, trivial⟩⟩⟩⟩⟩ (V.wide (by omega) (by omega) hx)
      · have hf := fif_t h hf
        refine V.aload_n (i := 3) dL_law_1208 rfl rfl ?_
        refine V.iconst (v := 0) dL_law_1209 rfl ?_
        obtain ⟨hi, v143, ev143, hf⟩ := fld_e hf
        refine V.fldL dL_law_1210 rfl hi ev143 ?_
        refine V.iload (i := 6) dL_law_1211 rfl ?_
        refine V.i2l dL_law_1213 ?_
        refine V.lcmp dL_law_1214 ?_
        refine V.if_eq (tgt := 1220) dL_law_1215 (by decide) (fun h => ?_) (fun h => ?_)
        · have hf := fif_t h hf
          refine V.goto (tgt := 1762) dL_law_1220 (by decide) ?_
          obtain rfl := Option.some.inj hf
          exact V.locs (L' := [some (.ref 3000), some (.ref 0), some (.ref 11), some (.ref 16), some (.int p4), none, none, none, none]) ⟨rfl, ⟨rfl, ⟨rfl, ⟨rfl, ⟨rfl, trivial⟩⟩⟩⟩⟩ (V.wide (by omega) (by omega) hx)
        · have hf := fif_f h hf
          refine V.iconst (v := 0) dL_law_1218 rfl ?_
          cases hf
    · have hf := fif_f h hf
      refine V.iconst (v := 0) dL_law_1201 rfl ?_
      cases hf
def s_L_law_L1223 (a0n : Nat) (a0 : Nat → Int32) (p4 : Int32) (State_cells : Nat → Int32) (M_s : Nat → Int32) : Nat → (Int32) → (Nat → Int64) → Option ((Int32) × (Nat → Int64))
  | 0, _, _ => none
  | n + 1, M_thrown, out => fld a0n a0 (p4 + 1) fun v145 => fld a0n a0 (p4 + 2) fun v146 => (s_L_fisher v145 v146 State_cells out).bind fun v147 => fld a0n a0 (p4 + 1) fun v148 => fld a0n a0 (p4 + 2) fun v149 => (s_X11_fisher v148 v149 M_thrown M_s).bind fun v150 => (s_X11_thrown v150.2).bind fun v151 => if (v151 = v147.1 : Prop) then (if (v147.1 = 0 : Prop) then (fld 1 v147.2 0 fun v152 => if ((lg_cmp v152 (Int32.toInt64 v150.1)) = 0 : Prop) then (some (v150.2, v147.2)) else (none)) else (some (v150.2, v147.2))) else (none)
set_option maxHeartbeats 4000000 in
set_option maxRecDepth 100000 in
theorem v_L_law_L1223 {a0n : Nat} {a0 : Nat → Int32} {p4 : Int32} {State_cells : Nat → Int32} {History_oldest : Int32} {History_size : Int32} {History_snapshotTaken : Int32} {History_saved : Nat → Int32} {History_snapshot : Nat → Int32} {Buffer_size : Int32} {Buffer_codes : Nat → Int32} {Reader_pattern : Nat} {Reader_place : Int32} {Word_size : Int32} {Word_letters : Nat → Int32} {M_savedMany : Int32} {M_isTaken : Int32} {M_length : Int32} {M_spelt : Int32} {M_speltMany : Int32} {M_place : Int32} {M_kind : Int32} {M_one : Int32} {M_two : Int32} {M_three : Int32} {M_begins : Int32} {M_done : Int32} {M_stopBy : Int32} {M_hash : Int64} {M_s : Nat → Int32} {M_saved : Nat → Int32} {M_snapshot : Nat → Int32} {M_text : Nat → Int32} : ∀ (n : Nat) {M_thrown : (Int32)} {out : (Nat → Int64)} {res : (Int32) × (Nat → Int64)} (hf : s_L_law_L1223 a0n a0 p4 State_cells M_s n M_thrown out = some res) {cl sl : Nat} (hc : cl + 1 ≤ 1062) (hs : sl + 6 ≤ 19011) (hx : V (fXlaw a0n a0) room_1 k_L_law 0 1762 [some (.ref 3000), some (.ref 0), some (.ref 11), some (.ref 16), some (.int p4), none, none, none, none] [] [.inl (5, [.ref 1, .ref 3, .ref 6, .ref 8, .ref 9]), .inl (3, [.ref 2]), .inr (910, .inl State_cells), .inl (1, [.ref 4, .ref 5, .int History_oldest, .int History_size, .int History_snapshotTaken]), .inr (5460, .inl History_saved), .inr (910, .inl History_snapshot), .inl (0, [.ref 7, .int Buffer_size]), .inr (60, .inl Buffer_codes), .inl (2, [.ref (Reader_pattern + 1000), .int Reader_place]), .inl (4, [.ref 10, .int Word_size]), .inr (8, .inl Word_letters), .inl (6, [.ref 12, .ref 13, .int M_savedMany, .ref 14, .int M_isTaken, .ref 15, .int M_length, .int res.1, .int M_spelt, .int M_speltMany, .int M_place, .int M_kind, .int M_one, .int M_two, .int M_three, .int M_begins, .int M_done, .int M_stopBy, .long M_hash]), .inr (406, .inl M_s), .inr (2436, .inl M_saved), .inr (406, .inl M_snapshot), .inr (60, .inl M_text), .inr (1, .inr res.2)] (cl + 1) (sl + 6)), V (fXlaw a0n a0) room_1 k_L_law 0 1223 [some (.ref 3000), some (.ref 0), some (.ref 11), some (.ref 16), some (.int p4), none, none, none, none] [] [.inl (5, [.ref 1, .ref 3, .ref 6, .ref 8, .ref 9]), .inl (3, [.ref 2]), .inr (910, .inl State_cells), .inl (1, [.ref 4, .ref 5, .int History_oldest, .int History_size, .int History_snapshotTaken]), .inr (5460, .inl History_saved), .inr (910, .inl History_snapshot), .inl (0, [.ref 7, .int Buffer_size]), .inr (60, .inl Buffer_codes), .inl (2, [.ref (Reader_pattern + 1000), .int Reader_place]), .inl (4, [.ref 10, .int Word_size]), .inr (8, .inl Word_letters), .inl (6, [.ref 12, .ref 13, .int M_savedMany, .ref 14, .int M_isTaken, .ref 15, .int M_length, .int M_thrown, .int M_spelt, .int M_speltMany, .int M_place, .int M_kind, .int M_one, .int M_two, .int M_three, .int M_begins, .int M_done, .int M_stopBy, .long M_hash]), .inr (406, .inl M_s), .inr (2436, .inl M_saved), .inr (406, .inl M_snapshot), .inr (60, .inl M_text), .inr (1, .inr out)] cl sl := by
  intro n
  induction n with
  | zero =>
    intro M_thrown out res hf cl sl hc hs hx
    rw [s_L_law_L1223] at hf
    cases hf
  | succ n ih =>
    intro M_thrown out res hf cl sl hc hs hx
    rw [s_L_law_L1223] at hf
    refine V.aload_n (i := 1) dL_law_1223 rfl rfl ?_
    refine V.aload_n (i := 0) dL_law_1224 rfl rfl ?_
    refine V.iload (i := 4) dL_law_1225 rfl ?_
    refine V.iconst (v := 1) dL_law_1227 rfl ?_
    refine V.iadd dL_law_1228 ?_
    obtain ⟨hi, v145, ev145, hf⟩ := fld_e hf
    refine V.sload dL_law_1229 hi ?_
    refine V.cgi ev145 ?_
    refine V.aload_n (i := 0) dL_law_1230 rfl rfl ?_
    refine V.iload (i := 4) dL_law_1231 rfl ?_
    refine V.iconst (v := 2) dL_law_1233 rfl ?_
    refine V.iadd dL_law_1234 ?_
    obtain ⟨hi, v146, ev146, hf⟩ := fld_e hf
    refine V.sload dL_law_1235 hi ?_
    refine V.cgi ev146 ?_
    refine V.aload_n (i := 3) dL_law_1236 rfl rfl ?_
    obtain ⟨v147, hv147, hf⟩ := fbind hf
    refine V.callSn (pl := [0, 1, 2, 3, 4, 5, 6, 7, 8, 9, 10, 16]) (σ' := [.inl (5, [.ref 1, .ref 3, .ref 6, .ref 8, .ref 9]), .inl (3, [.ref 2]), .inr (910, .inl State_cells), .inl (1, [.ref 4, .ref 5, .int History_oldest, .int History_size, .int History_snapshotTaken]), .inr (5460, .inl History_saved), .inr (910, .inl History_snapshot), .inl (0, [.ref 7, .int Buffer_size]), .inr (60, .inl Buffer_codes), .inl (2, [.ref (Reader_pattern + 1000), .int Reader_place]), .inl (4, [.ref 10, .int Word_size]), .inr (8, .inl Word_letters), .inl (6, [.ref 12, .ref 13, .int M_savedMany, .ref 14, .int M_isTaken, .ref 15, .int M_length, .int M_thrown, .int M_spelt, .int M_speltMany, .int M_place, .int M_kind, .int M_one, .int M_two, .int M_three, .int M_begins, .int M_done, .int M_stopBy, .long M_hash]), .inr (406, .inl M_s), .inr (2436, .inl M_saved), .inr (406, .inl M_snapshot), .inr (60, .inl M_text), .inr (1, .inr v147.2)]) (st2 := [.int v147.1]) (cl2 := (cl + 1)) (sl2 := (sl + 6)) (ct_L_fisher (a1 := v145) (a2 := v146) (State_cells := State_cells) (History_oldest := History_oldest) (History_size := History_size) (History_snapshotTaken := History_snapshotTaken) (History_saved := History_saved) (History_snapshot := History_snapshot) (Buffer_size := Buffer_size) (Buffer_codes := Buffer_codes) (Reader_pattern := Reader_pattern) (Reader_place := Reader_place) (Word_size := Word_size) (Word_letters := Word_letters) (out3 := out) hv147) dL_law_1237 w969 w970 cal_L_fisher ⟨⟨Nat.le_of_ble_eq_true rfl, Nat.le_of_ble_eq_true rfl⟩, (show cl + 1 ≤ 1062 by omega), (show sl + 6 ≤ 19011 by omega)⟩ (Nat.le_of_ble_eq_true rfl) rfl ⟨rfl, ⟨by decide, by decide⟩, rfl, (fr_cons (Or.inl (Nat.le_of_ble_eq_true rfl)) (fr_cons (Or.inl (Nat.le_of_ble_eq_true rfl)) (fr_cons (Or.inl (Nat.le_of_ble_eq_true rfl)) (fr_cons (Or.inl (Nat.le_of_ble_eq_true rfl)) (fr_cons (Or.inl (Nat.le_of_ble_eq_true rfl)) (fr_cons (Or.inl (Nat.le_of_ble_eq_true rfl)) (fr_cons (Or.inl (Nat.le_of_ble_eq_true rfl)) (fr_cons (Or.inl (Nat.le_of_ble_eq_true rfl)) (fr_cons (Or.inl (Nat.le_of_ble_eq_true rfl)) (fr_cons (Or.inr (Nat.le_add_left 1000 _)) (fr_cons (Or.inl (Nat.le_of_ble_eq_true rfl)) (fr_nil)))))))))))), rfl⟩ fr_i rfl rfl rfl rfl ?_
    refine V.istore (i := 5) (L' := [some (.ref 3000), some (.ref 0), some (.ref 11), some (.ref 16), some (.int p4), some (.int v147.1), none, none, none]) dL_law_1240 (Nat.le_of_ble_eq_true rfl) rfl rfl ?_
    refine V.aload_n (i := 2) dL_law_1242 rfl rfl ?_
    refine V.aload_n (i := 0) dL_law_1243 rfl rfl ?_
    refine V.iload (i := 4) dL_law_1244 rfl ?_
    refine V.iconst (v := 1) dL_law_1246 rfl ?_
    refine V.iadd dL_law_1247 ?_
    obtain ⟨hi, v148, ev148, hf⟩ := fld_e hf
    refine V.sload dL_law_1248 hi ?_
    refine V.cgi ev148 ?_
    refine V.aload_n (i := 0) dL_law_1249 rfl rfl ?_
    refine V.iload (i := 4) dL_law_1250 rfl ?_
    refine V.iconst (v := 2) dL_law_1252 rfl ?_
    refine V.iadd dL_law_1253 ?_
    obtain ⟨hi, v149, ev149, hf⟩ := fld_e hf
    refine V.sload dL_law_1254 hi ?_
    refine V.cgi ev149 ?_
    obtain ⟨v150, hv150, hf⟩ := fbind hf
    refine V.callVn (pl := [11, 12, 13, 14, 15]) (σ' := [.inl (5, [.ref 1, .ref 3, .ref 6, .ref 8, .ref 9]), .inl (3, [.ref 2]), .inr (910, .inl State_cells), .inl (1, [.ref 4, .ref 5, .int History_oldest, .int History_size, .int History_snapshotTaken]), .inr (5460, .inl History_saved), .inr (910, .inl History_snapshot), .inl (0, [.ref 7, .int Buffer_size]), .inr (60, .inl Buffer_codes), .inl (2, [.ref (Reader_pattern + 1000), .int Reader_place]), .inl (4, [.ref 10, .int Word_size]), .inr (8, .inl Word_letters), .inl (6, [.ref 12, .ref 13, .int M_savedMany, .ref 14, .int M_isTaken, .ref 15, .int M_length, .int v150.2, .int M_spelt, .int M_speltMany, .int M_place, .int M_kind, .int M_one, .int M_two, .int M_three, .int M_begins, .int M_done, .int M_stopBy, .long M_hash]), .inr (406, .inl M_s), .inr (2436, .inl M_saved), .inr (406, .inl M_snapshot), .inr (60, .inl M_text), .inr (1, .inr v147.2)]) (st2 := [.int v150.1]) (cl2 := (cl + 1)) (sl2 := (sl + 6)) (ct_X11_fisher (a1 := v148) (a2 := v149) (M_savedMany := M_savedMany) (M_isTaken := M_isTaken) (M_length := M_length) (M_thrown := M_thrown) (M_spelt := M_spelt) (M_speltMany := M_speltMany) (M_place := M_place) (M_kind := M_kind) (M_one := M_one) (M_two := M_two) (M_three := M_three) (M_begins := M_begins) (M_done := M_done) (M_stopBy := M_stopBy) (M_hash := M_hash) (M_s := M_s) (M_saved := M_saved) (M_snapshot := M_snapshot) (M_text := M_text) hv150) dL_law_1255 w1383 ⟨w1384, w1385⟩ cal_X11_fisher rfl ⟨⟨Nat.le_of_ble_eq_true rfl, Nat.le_of_ble_eq_true rfl⟩, (show (cl + 1) + 0 ≤ 1062 by omega), (show (sl + 6) + 0 ≤ 19011 by omega)⟩ (Nat.le_of_ble_eq_true rfl) (Or.inl ⟨_, _, _, _, rfl, rfl⟩) rfl ⟨rfl, ⟨by decide, by decide⟩, rfl, (fr_cons (Or.inl (Nat.le_of_ble_eq_true rfl)) (fr_cons (Or.inl (Nat.le_of_ble_eq_true rfl)) (fr_cons (Or.inl (Nat.le_of_ble_eq_true rfl)) (fr_cons (Or.inl (Nat.le_of_ble_eq_true rfl)) (fr_nil))))), rfl⟩ fr_i rfl rfl rfl rfl ?_
    refine V.istore (i := 6) (L' := [some (.ref 3000), some (.ref 0), some (.ref 11), some (.ref 16), some (.int p4), some (.int v147.1), some (.int v150.1), none, none]) dL_law_1258 (Nat.le_of_ble_eq_true rfl) rfl rfl ?_
    refine V.aload_n (i := 2) dL_law_1260 rfl rfl ?_
    obtain ⟨v151, hv151, hf⟩ := fbind hf
    refine V.callVn (pl := [11, 12, 13, 14, 15]) (σ' := [.inl (5, [.ref 1, .ref 3, .ref 6, .ref 8, .ref 9]), .inl (3, [.ref 2]), .inr (910, .inl State_cells), .inl (1, [.ref 4, .ref 5, .int History_oldest, .int History_size, .int History_snapshotTaken]), .inr (5460, .inl History_saved), .inr (910, .inl History_snapshot), .inl (0, [.ref 7, .int Buffer_size]), .inr (60, .inl Buffer_codes), .inl (2, [.ref (Reader_pattern + 1000), .int Reader_place]), .inl (4, [.ref 10, .int Word_size]), .inr (8, .inl Word_letters), .inl (6, [.ref 12, .ref 13, .int M_savedMany, .ref 14, .int M_isTaken, .ref 15, .int M_length, .int v150.2, .int M_spelt, .int M_speltMany, .int M_place, .int M_kind, .int M_one, .int M_two, .int M_three, .int M_begins, .int M_done, .int M_stopBy, .long M_hash]), .inr (406, .inl M_s), .inr (2436, .inl M_saved), .inr (406, .inl M_snapshot), .inr (60, .inl M_text), .inr (1, .inr v147.2)]) (st2 := [.int v151]) (cl2 := (cl + 1)) (sl2 := (sl + 6)) (ct_X11_thrown (M_savedMany := M_savedMany) (M_isTaken := M_isTaken) (M_length := M_length) (M_thrown := v150.2) (M_spelt := M_spelt) (M_speltMany := M_speltMany) (M_place := M_place) (M_kind := M_kind) (M_one := M_one) (M_two := M_two) (M_three := M_three) (M_begins := M_begins) (M_done := M_done) (M_stopBy := M_stopBy) (M_hash := M_hash) (M_s := M_s) (M_saved := M_saved) (M_snapshot := M_snapshot) (M_text := M_text) hv151) dL_law_1261 w1101 ⟨w1102, w1103⟩ cal_X11_thrown rfl ⟨⟨Nat.le_of_ble_eq_true rfl, Nat.le_of_ble_eq_true rfl⟩, (show (cl + 1) + 0 ≤ 1062 by omega), (show (sl + 6) + 0 ≤ 19011 by omega)⟩ (Nat.le_of_ble_eq_true rfl) (Or.inl ⟨_, _, _, _, rfl, rfl⟩) rfl ⟨rfl, ⟨by decide, by decide⟩, rfl, (fr_cons (Or.inl (Nat.le_of_ble_eq_true rfl)) (fr_cons (Or.inl (Nat.le_of_ble_eq_true rfl)) (fr_cons (Or.inl (Nat.le_of_ble_eq_true rfl)) (fr_cons (Or.inl (Nat.le_of_ble_eq_true rfl)) (fr_nil))))), rfl⟩ fr_i rfl rfl rfl rfl ?_
    refine V.iload (i := 5) dL_law_1264 rfl ?_
    refine V.icmp_eq (tgt := 1271) dL_law_1266 (by decide) (fun h => ?_) (fun h => ?_)
    · have hf := fif_t h hf
      refine V.iload (i := 5) dL_law_1271 rfl ?_
      refine V.if_ne (tgt := 1288) dL_law_1273 (by decide) (fun h => ?_) (fun h => ?_)
      · have hf := fif_f h hf
        refine V.goto (tgt := 1762) dL_law_1288 (by decide) ?_
        obtain rfl := Option.some.inj hf
        exact V.locs (L' := [some (.ref 3000), some (.ref 0), some (.ref 11), some (.ref 16), some (.int p4), none, none, none, none]) ⟨rfl, ⟨rfl, ⟨rfl, ⟨rfl, ⟨rfl, trivial⟩⟩⟩⟩⟩ (V.wide (by omega) (by omega) hx)
      · have hf := fif_t h hf
        refine V.aload_n (i := 3) dL_law_1276 rfl rfl ?_
        refine V.iconst (v := 0) dL_law_1277 rfl ?_
        obtain ⟨hi, v152, ev152, hf⟩ := fld_e hf
        refine V.fldL dL_law_1278 rfl hi ev152 ?_
        refine V.iload (i := 6) dL_law_1279 rfl ?_
        refine V.i2l dL_law_1281 ?_
        refine V.lcmp dL_law_1282 ?_
        refine V.if_eq (tgt := 1288) dL_law_1283 (by decide) (fun h => ?_) (fun h => ?_)
        · have hf := fif_t h hf
          refine V.goto (tgt := 1762) dL_law_1288 (by decide) ?_
          obtain rfl := Option.some.inj hf
          exact V.locs (L' := [some (.ref 3000), some (.ref 0), some (.ref 11), some (.ref 16), some (.int p4), none, none, none, none]) ⟨rfl, ⟨rfl, ⟨rfl, ⟨rfl, ⟨rfl, trivial⟩⟩⟩⟩⟩ (V.wide (by omega) (by omega) hx)
        · have hf := fif_f h hf
          refine V.iconst (v := 0) dL_law_1286 rfl ?_
          cases hf
    · have hf := fif_f h hf
      refine V.iconst (v := 0) dL_law_1269 rfl ?_
      cases hf
def s_L_law_L1291 (a0n : Nat) (a0 : Nat → Int32) (p4 : Int32) (State_cells : Nat → Int32) (M_s : Nat → Int32) : Nat → (Int32) → (Nat → Int64) → Option ((Int32) × (Nat → Int64))
  | 0, _, _ => none
  | n + 1, M_thrown, out => fld a0n a0 (p4 + 1) fun v154 => fld a0n a0 (p4 + 2) fun v155 => (s_L_drowned v154 v155 State_cells out).bind fun v156 => fld a0n a0 (p4 + 1) fun v157 => fld a0n a0 (p4 + 2) fun v158 => (s_X11_drowned v157 v158 M_thrown M_s).bind fun v159 => (s_X11_thrown v159.2).bind fun v160 => if (v160 = v156.1 : Prop) then (if (v156.1 = 0 : Prop) then (fld 1 v156.2 0 fun v161 => if ((lg_cmp v161 (Int32.toInt64 v159.1)) = 0 : Prop) then (some (v159.2, v156.2)) else (none)) else (some (v159.2, v156.2))) else (none)
set_option maxHeartbeats 4000000 in
set_option maxRecDepth 100000 in
theorem v_L_law_L1291 {a0n : Nat} {a0 : Nat → Int32} {p4 : Int32} {State_cells : Nat → Int32} {History_oldest : Int32} {History_size : Int32} {History_snapshotTaken : Int32} {History_saved : Nat → Int32} {History_snapshot : Nat → Int32} {Buffer_size : Int32} {Buffer_codes : Nat → Int32} {Reader_pattern : Nat} {Reader_place : Int32} {Word_size : Int32} {Word_letters : Nat → Int32} {M_savedMany : Int32} {M_isTaken : Int32} {M_length : Int32} {M_spelt : Int32} {M_speltMany : Int32} {M_place : Int32} {M_kind : Int32} {M_one : Int32} {M_two : Int32} {M_three : Int32} {M_begins : Int32} {M_done : Int32} {M_stopBy : Int32} {M_hash : Int64} {M_s : Nat → Int32} {M_saved : Nat → Int32} {M_snapshot : Nat → Int32} {M_text : Nat → Int32} : ∀ (n : Nat) {M_thrown : (Int32)} {out : (Nat → Int64)} {res : (Int32) × (Nat → Int64)} (hf : s_L_law_L1291 a0n a0 p4 State_cells M_s n M_thrown out = some res) {cl sl : Nat} (hc : cl + 1 ≤ 1062) (hs : sl + 6 ≤ 19011) (hx : V (fXlaw a0n a0) room_1 k_L_law 0 1762 [some (.ref 3000), some (.ref 0), some (.ref 11), some (.ref 16), some (.int p4), none, none, none, none] [] [.inl (5, [.ref 1, .ref 3, .ref 6, .ref 8, .ref 9]), .inl (3, [.ref 2]), .inr (910, .inl State_cells), .inl (1, [.ref 4, .ref 5, .int History_oldest, .int History_size, .int History_snapshotTaken]), .inr (5460, .inl History_saved), .inr (910, .inl History_snapshot), .inl (0, [.ref 7, .int Buffer_size]), .inr (60, .inl Buffer_codes), .inl (2, [.ref (Reader_pattern + 1000), .int Reader_place]), .inl (4, [.ref 10, .int Word_size]), .inr (8, .inl Word_letters), .inl (6, [.ref 12, .ref 13, .int M_savedMany, .ref 14, .int M_isTaken, .ref 15, .int M_length, .int res.1, .int M_spelt, .int M_speltMany, .int M_place, .int M_kind, .int M_one, .int M_two, .int M_three, .int M_begins, .int M_done, .int M_stopBy, .long M_hash]), .inr (406, .inl M_s), .inr (2436, .inl M_saved), .inr (406, .inl M_snapshot), .inr (60, .inl M_text), .inr (1, .inr res.2)] (cl + 1) (sl + 6)), V (fXlaw a0n a0) room_1 k_L_law 0 1291 [some (.ref 3000), some (.ref 0), some (.ref 11), some (.ref 16), some (.int p4), none, none, none, none] [] [.inl (5, [.ref 1, .ref 3, .ref 6, .ref 8, .ref 9]), .inl (3, [.ref 2]), .inr (910, .inl State_cells), .inl (1, [.ref 4, .ref 5, .int History_oldest, .int History_size, .int History_snapshotTaken]), .inr (5460, .inl History_saved), .inr (910, .inl History_snapshot), .inl (0, [.ref 7, .int Buffer_size]), .inr (60, .inl Buffer_codes), .inl (2, [.ref (Reader_pattern + 1000), .int Reader_place]), .inl (4, [.ref 10, .int Word_size]), .inr (8, .inl Word_letters), .inl (6, [.ref 12, .ref 13, .int M_savedMany, .ref 14, .int M_isTaken, .ref 15, .int M_length, .int M_thrown, .int M_spelt, .int M_speltMany, .int M_place, .int M_kind, .int M_one, .int M_two, .int M_three, .int M_begins, .int M_done, .int M_stopBy, .long M_hash]), .inr (406, .inl M_s), .inr (2436, .inl M_saved), .inr (406, .inl M_snapshot), .inr (60, .inl M_text), .inr (1, .inr out)] cl sl := by
  intro n
  induction n with
  | zero =>
    intro M_thrown out res hf cl sl hc hs hx
    rw [s_L_law_L1291] at hf
    cases hf
  | succ n ih =>
    intro M_thrown out res hf cl sl hc hs hx
    rw [s_L_law_L1291] at hf
    refine V.aload_n (i := 1) dL_law_1291 rfl rfl ?_
    refine V.aload_n (i := 0) dL_law_1292 rfl rfl ?_
    refine V.iload (i := 4) dL_law_1293 rfl ?_
    refine V.iconst (v := 1) dL_law_1295 rfl ?_
    refine V.iadd dL_law_1296 ?_
    obtain ⟨hi, v154, ev154, hf⟩ := fld_e hf
    refine V.sload dL_law_1297 hi ?_
    refine V.cgi ev154 ?_
    refine V.aload_n (i := 0) dL_law_1298 rfl rfl ?_
    refine V.iload (i := 4) dL_law_1299 rfl ?_
    refine V.iconst (v := 2) dL_law_1301 rfl ?_
    refine V.iadd dL_law_1302 ?_
    obtain ⟨hi, v155, ev155, hf⟩ := fld_e hf
    refine V.sload dL_law_1303 hi ?_
    refine V.cgi ev155 ?_
    refine V.aload_n (i := 3) dL_law_1304 rfl rfl ?_
    obtain ⟨v156, hv156, hf⟩ := fbind hf
    refine V.callSn (pl := [0, 1, 2, 3, 4, 5, 6, 7, 8, 9, 10, 16]) (σ' := [.inl (5, [.ref 1, .ref 3, .ref 6, .ref 8, .ref 9]), .inl (3, [.ref 2]), .inr (910, .inl State_cells), .inl (1, [.ref 4, .ref 5, .int History_oldest, .int History_size, .int History_snapshotTaken]), .inr (5460, .inl History_saved), .inr (910, .inl History_snapshot), .inl (0, [.ref 7, .int Buffer_size]), .inr (60, .inl Buffer_codes), .inl (2, [.ref (Reader_pattern + 1000), .int Reader_place]), .inl (4, [.ref 10, .int Word_size]), .inr (8, .inl Word_letters), .inl (6, [.ref 12, .ref 13, .int M_savedMany, .ref 14, .int M_isTaken, .ref 15, .int M_length, .int M_thrown, .int M_spelt, .int M_speltMany, .int M_place, .int M_kind, .int M_one, .int M_two, .int M_three, .int M_begins, .int M_done, .int M_stopBy, .long M_hash]), .inr (406, .inl M_s), .inr (2436, .inl M_saved), .inr (406, .inl M_snapshot), .inr (60, .inl M_text), .inr (1, .inr v156.2)]) (st2 := [.int v156.1]) (cl2 := (cl + 1)) (sl2 := (sl + 6)) (ct_L_drowned (a1 := v154) (a2 := v155) (State_cells := State_cells) (History_oldest := History_oldest) (History_size := History_size) (History_snapshotTaken := History_snapshotTaken) (History_saved := History_saved) (History_snapshot := History_snapshot) (Buffer_size := Buffer_size) (Buffer_codes := Buffer_codes) (Reader_pattern := Reader_pattern) (Reader_place := Reader_place) (Word_size := Word_size) (Word_letters := Word_letters) (out3 := out) hv156) dL_law_1305 w977 w978 cal_L_drowned ⟨⟨Nat.le_of_ble_eq_true rfl, Nat.le_of_ble_eq_true rfl⟩, (show cl + 1 ≤ 1062 by omega), (show sl + 6 ≤ 19011 by omega)⟩ (Nat.le_of_ble_eq_true rfl) rfl ⟨rfl, ⟨by decide, by decide⟩, rfl, (fr_cons (Or.inl (Nat.le_of_ble_eq_true rfl)) (fr_cons (Or.inl (Nat.le_of_ble_eq_true rfl)) (fr_cons (Or.inl (Nat.le_of_ble_eq_true rfl)) (fr_cons (Or.inl (Nat.le_of_ble_eq_true rfl)) (fr_cons (Or.inl (Nat.le_of_ble_eq_true rfl)) (fr_cons (Or.inl (Nat.le_of_ble_eq_true rfl)) (fr_cons (Or.inl (Nat.le_of_ble_eq_true rfl)) (fr_cons (Or.inl (Nat.le_of_ble_eq_true rfl)) (fr_cons (Or.inl (Nat.le_of_ble_eq_true rfl)) (fr_cons (Or.inr (Nat.le_add_left 1000 _)) (fr_cons (Or.inl (Nat.le_of_ble_eq_true rfl)) (fr_nil)))))))))))), rfl⟩ fr_i rfl rfl rfl rfl ?_
    refine V.istore (i := 5) (L' := [some (.ref 3000), some (.ref 0), some (.ref 11), some (.ref 16), some (.int p4), some (.int v156.1), none, none, none]) dL_law_1308 (Nat.le_of_ble_eq_true rfl) rfl rfl ?_
    refine V.aload_n (i := 2) dL_law_1310 rfl rfl ?_
    refine V.aload_n (i := 0) dL_law_1311 rfl rfl ?_
    refine V.iload (i := 4) dL_law_1312 rfl ?_
    refine V.iconst (v := 1) dL_law_1314 rfl ?_
    refine V.iadd dL_law_1315 ?_
    obtain ⟨hi, v157, ev157, hf⟩ := fld_e hf
    refine V.sload dL_law_1316 hi ?_
    refine V.cgi ev157 ?_
    refine V.aload_n (i := 0) dL_law_1317 rfl rfl ?_
    refine V.iload (i := 4) dL_law_1318 rfl ?_
    refine V.iconst (v := 2) dL_law_1320 rfl ?_
    refine V.iadd dL_law_1321 ?_
    obtain ⟨hi, v158, ev158, hf⟩ := fld_e hf
    refine V.sload dL_law_1322 hi ?_
    refine V.cgi ev158 ?_
    obtain ⟨v159, hv159, hf⟩ := fbind hf
    refine V.callVn (pl := [11, 12, 13, 14, 15]) (σ' := [.inl (5, [.ref 1, .ref 3, .ref 6, .ref 8, .ref 9]), .inl (3, [.ref 2]), .inr (910, .inl State_cells), .inl (1, [.ref 4, .ref 5, .int History_oldest, .int History_size, .int History_snapshotTaken]), .inr (5460, .inl History_saved), .inr (910, .inl History_snapshot), .inl (0, [.ref 7, .int Buffer_size]), .inr (60, .inl Buffer_codes), .inl (2, [.ref (Reader_pattern + 1000), .int Reader_place]), .inl (4, [.ref 10, .int Word_size]), .inr (8, .inl Word_letters), .inl (6, [.ref 12, .ref 13, .int M_savedMany, .ref 14, .int M_isTaken, .ref 15, .int M_length, .int v159.2, .int M_spelt, .int M_speltMany, .int M_place, .int M_kind, .int M_one, .int M_two, .int M_three, .int M_begins, .int M_done, .int M_stopBy, .long M_hash]), .inr (406, .inl M_s), .inr (2436, .inl M_saved), .inr (406, .inl M_snapshot), .inr (60, .inl M_text), .inr (1, .inr v156.2)]) (st2 := [.int v159.1]) (cl2 := (cl + 1)) (sl2 := (sl + 6)) (ct_X11_drowned (a1 := v157) (a2 := v158) (M_savedMany := M_savedMany) (M_isTaken := M_isTaken) (M_length := M_length) (M_thrown := M_thrown) (M_spelt := M_spelt) (M_speltMany := M_speltMany) (M_place := M_place) (M_kind := M_kind) (M_one := M_one) (M_two := M_two) (M_three := M_three) (M_begins := M_begins) (M_done := M_done) (M_stopBy := M_stopBy) (M_hash := M_hash) (M_s := M_s) (M_saved := M_saved) (M_snapshot := M_snapshot) (M_text := M_text) hv159) dL_law_1323 w1391 ⟨w1392, w1393⟩ cal_X11_drowned rfl ⟨⟨Nat.le_of_ble_eq_true rfl, Nat.le_of_ble_eq_true rfl⟩, (show (cl + 1) + 0 ≤ 1062 by omega), (show (sl + 6) + 0 ≤ 19011 by omega)⟩ (Nat.le_of_ble_eq_true rfl) (Or.inl ⟨_, _, _, _, rfl, rfl⟩) rfl ⟨rfl, ⟨by decide, by decide⟩, rfl, (fr_cons (Or.inl (Nat.le_of_ble_eq_true rfl)) (fr_cons (Or.inl (Nat.le_of_ble_eq_true rfl)) (fr_cons (Or.inl (Nat.le_of_ble_eq_true rfl)) (fr_cons (Or.inl (Nat.le_of_ble_eq_true rfl)) (fr_nil))))), rfl⟩ fr_i rfl rfl rfl rfl ?_
    refine V.istore (i := 6) (L' := [some (.ref 3000), some (.ref 0), some (.ref 11), some (.ref 16), some (.int p4), some (.int v156.1), some (.int v159.1), none, none]) dL_law_1326 (Nat.le_of_ble_eq_true rfl) rfl rfl ?_
    refine V.aload_n (i := 2) dL_law_1328 rfl rfl ?_
    obtain ⟨v160, hv160, hf⟩ := fbind hf
    refine V.callVn (pl := [11, 12, 13, 14, 15]) (σ' := [.inl (5, [.ref 1, .ref 3, .ref 6, .ref 8, .ref 9]), .inl (3, [.ref 2]), .inr (910, .inl State_cells), .inl (1, [.ref 4, .ref 5, .int History_oldest, .int History_size, .int History_snapshotTaken]), .inr (5460, .inl History_saved), .inr (910, .inl History_snapshot), .inl (0, [.ref 7, .int Buffer_size]), .inr (60, .inl Buffer_codes), .inl (2, [.ref (Reader_pattern + 1000), .int Reader_place]), .inl (4, [.ref 10, .int Word_size]), .inr (8, .inl Word_letters), .inl (6, [.ref 12, .ref 13, .int M_savedMany, .ref 14, .int M_isTaken, .ref 15, .int M_length, .int v159.2, .int M_spelt, .int M_speltMany, .int M_place, .int M_kind, .int M_one, .int M_two, .int M_three, .int M_begins, .int M_done, .int M_stopBy, .long M_hash]), .inr (406, .inl M_s), .inr (2436, .inl M_saved), .inr (406, .inl M_snapshot), .inr (60, .inl M_text), .inr (1, .inr v156.2)]) (st2 := [.int v160]) (cl2 := (cl + 1)) (sl2 := (sl + 6)) (ct_X11_thrown (M_savedMany := M_savedMany) (M_isTaken := M_isTaken) (M_length := M_length) (M_thrown := v159.2) (M_spelt := M_spelt) (M_speltMany := M_speltMany) (M_place := M_place) (M_kind := M_kind) (M_one := M_one) (M_two := M_two) (M_three := M_three) (M_begins := M_begins) (M_done := M_done) (M_stopBy := M_stopBy) (M_hash := M_hash) (M_s := M_s) (M_saved := M_saved) (M_snapshot := M_snapshot) (M_text := M_text) hv160) dL_law_1329 w1101 ⟨w1102, w1103⟩ cal_X11_thrown rfl ⟨⟨Nat.le_of_ble_eq_true rfl, Nat.le_of_ble_eq_true rfl⟩, (show (cl + 1) + 0 ≤ 1062 by omega), (show (sl + 6) + 0 ≤ 19011 by omega)⟩ (Nat.le_of_ble_eq_true rfl) (Or.inl ⟨_, _, _, _, rfl, rfl⟩) rfl ⟨rfl, ⟨by decide, by decide⟩, rfl, (fr_cons (Or.inl (Nat.le_of_ble_eq_true rfl)) (fr_cons (Or.inl (Nat.le_of_ble_eq_true rfl)) (fr_cons (Or.inl (Nat.le_of_ble_eq_true rfl)) (fr_cons (Or.inl (Nat.le_of_ble_eq_true rfl)) (fr_nil))))), rfl⟩ fr_i rfl rfl rfl rfl ?_
    refine V.iload (i := 5) dL_law_1332 rfl ?_
    refine V.icmp_eq (tgt := 1339) dL_law_1334 (by decide) (fun h => ?_) (fun h => ?_)
    · have hf := fif_t h hf
      refine V.iload (i := 5) dL_law_1339 rfl ?_
      refine V.if_ne (tgt := 1356) dL_law_1341 (by decide) (fun h => ?_) (fun h => ?_)
      · have hf := fif_f h hf
        refine V.goto (tgt := 1762) dL_law_1356 (by decide) ?_
        obtain rfl := Option.some.inj hf
        exact V.locs (L' := [some (.ref 3000), some (.ref 0), some (.ref 11), some (.ref 16), some (.int p4), none, none, none, none]) ⟨rfl, ⟨rfl, ⟨rfl, ⟨rfl, ⟨rfl, trivial⟩⟩⟩⟩⟩ (V.wide (by omega) (by omega) hx)
      · have hf := fif_t h hf
        refine V.aload_n (i := 3) dL_law_1344 rfl rfl ?_
        refine V.iconst (v := 0) dL_law_1345 rfl ?_
        obtain ⟨hi, v161, ev161, hf⟩ := fld_e hf
        refine V.fldL dL_law_1346 rfl hi ev161 ?_
        refine V.iload (i := 6) dL_law_1347 rfl ?_
        refine V.i2l dL_law_1349 ?_
        refine V.lcmp dL_law_1350 ?_
        refine V.if_eq (tgt := 1356) dL_law_1351 (by decide) (fun h => ?_) (fun h => ?_)
        · have hf := fif_t h hf
          refine V.goto (tgt := 1762) dL_law_1356 (by decide) ?_
          obtain rfl := Option.some.inj hf
          exact V.locs (L' := [some (.ref 3000), some (.ref 0), some (.ref 11), some (.ref 16), some (.int p4), none, none, none, none]) ⟨rfl, ⟨rfl, ⟨rfl, ⟨rfl, ⟨rfl, trivial⟩⟩⟩⟩⟩ (V.wide (by omega) (by omega) hx)
        · have hf := fif_f h hf
          refine V.iconst (v := 0) dL_law_1354 rfl ?_
          cases hf
    · have hf := fif_f h hf
      refine V.iconst (v := 0) dL_law_1337 rfl ?_
      cases hf
def s_L_law_L1359 (a0n : Nat) (a0 : Nat → Int32) (State_cells : Nat → Int32) (Buffer_size : Int32) (Buffer_codes : Nat → Int32) (M_length : Int32) (M_s : Nat → Int32) (M_text : Nat → Int32) : Nat → (Int32) → (Nat → Int32) → (Int32) → (Int32) → (Int32) → (Nat → Int64) → Option ((Int32) × (Nat → Int32) × (Int32) × (Int32) × (Int32) × (Nat → Int64))
  | 0, _, _, _, _, _, _ => none
  | n + 1, Word_size, Word_letters, M_thrown, M_spelt, M_speltMany, out => (s_L_find State_cells Buffer_size Buffer_codes Word_size Word_letters out).bind fun v163 => (s_X11_find M_length M_thrown M_spelt M_speltMany M_s M_text).bind fun v164 => (s_X11_thrown v164.2.1).bind fun v165 => if (v165 = v163.1 : Prop) then (if (v163.1 = 0 : Prop) then (fld 1 v163.2.2.2 0 fun v166 => if ((lg_cmp v166 (Int32.toInt64 v164.1)) = 0 : Prop) then (some (v163.2.1, v163.2.2.1, v164.2.1, v164.2.2.1, v164.2.2.2, v163.2.2.2)) else (none)) else (some (v163.2.1, v163.2.2.1, v164.2.1, v164.2.2.1, v164.2.2.2, v163.2.2.2))) else (none)
set_option maxHeartbeats 4000000 in
set_option maxRecDepth 100000 in
theorem v_L_law_L1359 {a0n : Nat} {a0 : Nat → Int32} {p4 : Int32} {State_cells : Nat → Int32} {History_oldest : Int32} {History_size : Int32} {History_snapshotTaken : Int32} {History_saved : Nat → Int32} {History_snapshot : Nat → Int32} {Buffer_size : Int32} {Buffer_codes : Nat → Int32} {Reader_pattern : Nat} {Reader_place : Int32} {M_savedMany : Int32} {M_isTaken : Int32} {M_length : Int32} {M_place : Int32} {M_kind : Int32} {M_one : Int32} {M_two : Int32} {M_three : Int32} {M_begins : Int32} {M_done : Int32} {M_stopBy : Int32} {M_hash : Int64} {M_s : Nat → Int32} {M_saved : Nat → Int32} {M_snapshot : Nat → Int32} {M_text : Nat → Int32} : ∀ (n : Nat) {Word_size : (Int32)} {Word_letters : (Nat → Int32)} {M_thrown : (Int32)} {M_spelt : (Int32)} {M_speltMany : (Int32)} {out : (Nat → Int64)} {res : (Int32) × (Nat → Int32) × (Int32) × (Int32) × (Int32) × (Nat → Int64)} (hf : s_L_law_L1359 a0n a0 State_cells Buffer_size Buffer_codes M_length M_s M_text n Word_size Word_letters M_thrown M_spelt M_speltMany out = some res) {cl sl : Nat} (hc : cl + 1 ≤ 1062) (hs : sl + 6 ≤ 19011) (hx : V (fXlaw a0n a0) room_1 k_L_law 0 1762 [some (.ref 3000), some (.ref 0), some (.ref 11), some (.ref 16), some (.int p4), none, none, none, none] [] [.inl (5, [.ref 1, .ref 3, .ref 6, .ref 8, .ref 9]), .inl (3, [.ref 2]), .inr (910, .inl State_cells), .inl (1, [.ref 4, .ref 5, .int History_oldest, .int History_size, .int History_snapshotTaken]), .inr (5460, .inl History_saved), .inr (910, .inl History_snapshot), .inl (0, [.ref 7, .int Buffer_size]), .inr (60, .inl Buffer_codes), .inl (2, [.ref (Reader_pattern + 1000), .int Reader_place]), .inl (4, [.ref 10, .int res.1]), .inr (8, .inl res.2.1), .inl (6, [.ref 12, .ref 13, .int M_savedMany, .ref 14, .int M_isTaken, .ref 15, .int M_length, .int res.2.2.1, .int res.2.2.2.1, .int res.2.2.2.2.1, .int M_place, .int M_kind, .int M_one, .int M_two, .int M_three, .int M_begins, .int M_done, .int M_stopBy, .long M_hash]), .inr (406, .inl M_s), .inr (2436, .inl M_saved), .inr (406, .inl M_snapshot), .inr (60, .inl M_text), .inr (1, .inr res.2.2.2.2.2)] (cl + 1) (sl + 6)), V (fXlaw a0n a0) room_1 k_L_law 0 1359 [some (.ref 3000), some (.ref 0), some (.ref 11), some (.ref 16), some (.int p4), none, none, none, none] [] [.inl (5, [.ref 1, .ref 3, .ref 6, .ref 8, .ref 9]), .inl (3, [.ref 2]), .inr (910, .inl State_cells), .inl (1, [.ref 4, .ref 5, .int History_oldest, .int History_size, .int History_snapshotTaken]), .inr (5460, .inl History_saved), .inr (910, .inl History_snapshot), .inl (0, [.ref 7, .int Buffer_size]), .inr (60, .inl Buffer_codes), .inl (2, [.ref (Reader_pattern + 1000), .int Reader_place]), .inl (4, [.ref 10, .int Word_size]), .inr (8, .inl Word_letters), .inl (6, [.ref 12, .ref 13, .int M_savedMany, .ref 14, .int M_isTaken, .ref 15, .int M_length, .int M_thrown, .int M_spelt, .int M_speltMany, .int M_place, .int M_kind, .int M_one, .int M_two, .int M_three, .int M_begins, .int M_done, .int M_stopBy, .long M_hash]), .inr (406, .inl M_s), .inr (2436, .inl M_saved), .inr (406, .inl M_snapshot), .inr (60, .inl M_text), .inr (1, .inr out)] cl sl := by
  intro n
  induction n with
  | zero =>
    intro Word_size Word_letters M_thrown M_spelt M_speltMany out res hf cl sl hc hs hx
    rw [s_L_law_L1359] at hf
    cases hf
  | succ n ih =>
    intro Word_size Word_letters M_thrown M_spelt M_speltMany out res hf cl sl hc hs hx
    rw [s_L_law_L1359] at hf
    refine V.aload_n (i := 1) dL_law_1359 rfl rfl ?_
    refine V.aload_n (i := 3) dL_law_1360 rfl rfl ?_
    obtain ⟨v163, hv163, hf⟩ := fbind hf
    refine V.callSn (pl := [0, 1, 2, 3, 4, 5, 6, 7, 8, 9, 10, 16]) (σ' := [.inl (5, [.ref 1, .ref 3, .ref 6, .ref 8, .ref 9]), .inl (3, [.ref 2]), .inr (910, .inl State_cells), .inl (1, [.ref 4, .ref 5, .int History_oldest, .int History_size, .int History_snapshotTaken]), .inr (5460, .inl History_saved), .inr (910, .inl History_snapshot), .inl (0, [.ref 7, .int Buffer_size]), .inr (60, .inl Buffer_codes), .inl (2, [.ref (Reader_pattern + 1000), .int Reader_place]), .inl (4, [.ref 10, .int v163.2.1]), .inr (8, .inl v163.2.2.1), .inl (6, [.ref 12, .ref 13, .int M_savedMany, .ref 14, .int M_isTaken, .ref 15, .int M_length, .int M_thrown, .int M_spelt, .int M_speltMany, .int M_place, .int M_kind, .int M_one, .int M_two, .int M_three, .int M_begins, .int M_done, .int M_stopBy, .long M_hash]), .inr (406, .inl M_s), .inr (2436, .inl M_saved), .inr (406, .inl M_snapshot), .inr (60, .inl M_text), .inr (1, .inr v163.2.2.2)]) (st2 := [.int v163.1]) (cl2 := (cl + 1)) (sl2 := (sl + 6)) (ct_L_find (State_cells := State_cells) (History_oldest := History_oldest) (History_size := History_size) (History_snapshotTaken := History_snapshotTaken) (History_saved := History_saved) (History_snapshot := History_snapshot) (Buffer_size := Buffer_size) (Buffer_codes := Buffer_codes) (Reader_pattern := Reader_pattern) (Reader_place := Reader_place) (Word_size := Word_size) (Word_letters := Word_letters) (out1 := out) hv163) dL_law_1361 w986 w987 cal_L_find ⟨⟨Nat.le_of_ble_eq_true rfl, Nat.le_of_ble_eq_true rfl⟩, (show cl + 1 ≤ 1062 by omega), (show sl + 6 ≤ 19011 by omega)⟩ (Nat.le_of_ble_eq_true rfl) rfl ⟨rfl, ⟨by decide, by decide⟩, rfl, (fr_cons (Or.inl (Nat.le_of_ble_eq_true rfl)) (fr_cons (Or.inl (Nat.le_of_ble_eq_true rfl)) (fr_cons (Or.inl (Nat.le_of_ble_eq_true rfl)) (fr_cons (Or.inl (Nat.le_of_ble_eq_true rfl)) (fr_cons (Or.inl (Nat.le_of_ble_eq_true rfl)) (fr_cons (Or.inl (Nat.le_of_ble_eq_true rfl)) (fr_cons (Or.inl (Nat.le_of_ble_eq_true rfl)) (fr_cons (Or.inl (Nat.le_of_ble_eq_true rfl)) (fr_cons (Or.inl (Nat.le_of_ble_eq_true rfl)) (fr_cons (Or.inr (Nat.le_add_left 1000 _)) (fr_cons (Or.inl (Nat.le_of_ble_eq_true rfl)) (fr_nil)))))))))))), rfl⟩ fr_i rfl rfl rfl rfl ?_
    refine V.istore (i := 5) (L' := [some (.ref 3000), some (.ref 0), some (.ref 11), some (.ref 16), some (.int p4), some (.int v163.1), none, none, none]) dL_law_1364 (Nat.le_of_ble_eq_true rfl) rfl rfl ?_
    refine V.aload_n (i := 2) dL_law_1366 rfl rfl ?_
    obtain ⟨v164, hv164, hf⟩ := fbind hf
    refine V.callVn (pl := [11, 12, 13, 14, 15]) (σ' := [.inl (5, [.ref 1, .ref 3, .ref 6, .ref 8, .ref 9]), .inl (3, [.ref 2]), .inr (910, .inl State_cells), .inl (1, [.ref 4, .ref 5, .int History_oldest, .int History_size, .int History_snapshotTaken]), .inr (5460, .inl History_saved), .inr (910, .inl History_snapshot), .inl (0, [.ref 7, .int Buffer_size]), .inr (60, .inl Buffer_codes), .inl (2, [.ref (Reader_pattern + 1000), .int Reader_place]), .inl (4, [.ref 10, .int v163.2.1]), .inr (8, .inl v163.2.2.1), .inl (6, [.ref 12, .ref 13, .int M_savedMany, .ref 14, .int M_isTaken, .ref 15, .int M_length, .int v164.2.1, .int v164.2.2.1, .int v164.2.2.2, .int M_place, .int M_kind, .int M_one, .int M_two, .int M_three, .int M_begins, .int M_done, .int M_stopBy, .long M_hash]), .inr (406, .inl M_s), .inr (2436, .inl M_saved), .inr (406, .inl M_snapshot), .inr (60, .inl M_text), .inr (1, .inr v163.2.2.2)]) (st2 := [.int v164.1]) (cl2 := (cl + 1)) (sl2 := (sl + 6)) (ct_X11_find (M_savedMany := M_savedMany) (M_isTaken := M_isTaken) (M_length := M_length) (M_thrown := M_thrown) (M_spelt := M_spelt) (M_speltMany := M_speltMany) (M_place := M_place) (M_kind := M_kind) (M_one := M_one) (M_two := M_two) (M_three := M_three) (M_begins := M_begins) (M_done := M_done) (M_stopBy := M_stopBy) (M_hash := M_hash) (M_s := M_s) (M_saved := M_saved) (M_snapshot := M_snapshot) (M_text := M_text) hv164) dL_law_1367 w1399 ⟨w1400, w1401⟩ cal_X11_find rfl ⟨⟨Nat.le_of_ble_eq_true rfl, Nat.le_of_ble_eq_true rfl⟩, (show (cl + 1) + 0 ≤ 1062 by omega), (show (sl + 6) + 0 ≤ 19011 by omega)⟩ (Nat.le_of_ble_eq_true rfl) (Or.inl ⟨_, _, _, _, rfl, rfl⟩) rfl ⟨rfl, ⟨by decide, by decide⟩, rfl, (fr_cons (Or.inl (Nat.le_of_ble_eq_true rfl)) (fr_cons (Or.inl (Nat.le_of_ble_eq_true rfl)) (fr_cons (Or.inl (Nat.le_of_ble_eq_true rfl)) (fr_cons (Or.inl (Nat.le_of_ble_eq_true rfl)) (fr_nil))))), rfl⟩ fr_i rfl rfl rfl rfl ?_
    refine V.istore (i := 6) (L' := [some (.ref 3000), some (.ref 0), some (.ref 11), some (.ref 16), some (.int p4), some (.int v163.1), some (.int v164.1), none, none]) dL_law_1370 (Nat.le_of_ble_eq_true rfl) rfl rfl ?_
    refine V.aload_n (i := 2) dL_law_1372 rfl rfl ?_
    obtain ⟨v165, hv165, hf⟩ := fbind hf
    refine V.callVn (pl := [11, 12, 13, 14, 15]) (σ' := [.inl (5, [.ref 1, .ref 3, .ref 6, .ref 8, .ref 9]), .inl (3, [.ref 2]), .inr (910, .inl State_cells), .inl (1, [.ref 4, .ref 5, .int History_oldest, .int History_size, .int History_snapshotTaken]), .inr (5460, .inl History_saved), .inr (910, .inl History_snapshot), .inl (0, [.ref 7, .int Buffer_size]), .inr (60, .inl Buffer_codes), .inl (2, [.ref (Reader_pattern + 1000), .int Reader_place]), .inl (4, [.ref 10, .int v163.2.1]), .inr (8, .inl v163.2.2.1), .inl (6, [.ref 12, .ref 13, .int M_savedMany, .ref 14, .int M_isTaken, .ref 15, .int M_length, .int v164.2.1, .int v164.2.2.1, .int v164.2.2.2, .int M_place, .int M_kind, .int M_one, .int M_two, .int M_three, .int M_begins, .int M_done, .int M_stopBy, .long M_hash]), .inr (406, .inl M_s), .inr (2436, .inl M_saved), .inr (406, .inl M_snapshot), .inr (60, .inl M_text), .inr (1, .inr v163.2.2.2)]) (st2 := [.int v165]) (cl2 := (cl + 1)) (sl2 := (sl + 6)) (ct_X11_thrown (M_savedMany := M_savedMany) (M_isTaken := M_isTaken) (M_length := M_length) (M_thrown := v164.2.1) (M_spelt := v164.2.2.1) (M_speltMany := v164.2.2.2) (M_place := M_place) (M_kind := M_kind) (M_one := M_one) (M_two := M_two) (M_three := M_three) (M_begins := M_begins) (M_done := M_done) (M_stopBy := M_stopBy) (M_hash := M_hash) (M_s := M_s) (M_saved := M_saved) (M_snapshot := M_snapshot) (M_text := M_text) hv165) dL_law_1373 w1101 ⟨w1102, w1103⟩ cal_X11_thrown rfl ⟨⟨Nat.le_of_ble_eq_true rfl, Nat.le_of_ble_eq_true rfl⟩, (show (cl + 1) + 0 ≤ 1062 by omega), (show (sl + 6) + 0 ≤ 19011 by omega)⟩ (Nat.le_of_ble_eq_true rfl) (Or.inl ⟨_, _, _, _, rfl, rfl⟩) rfl ⟨rfl, ⟨by decide, by decide⟩, rfl, (fr_cons (Or.inl (Nat.le_of_ble_eq_true rfl)) (fr_cons (Or.inl (Nat.le_of_ble_eq_true rfl)) (fr_cons (Or.inl (Nat.le_of_ble_eq_true rfl)) (fr_cons (Or.inl (Nat.le_of_ble_eq_true rfl)) (fr_nil))))), rfl⟩ fr_i rfl rfl rfl rfl ?_
    refine V.iload (i := 5) dL_law_1376 rfl ?_
    refine V.icmp_eq (tgt := 1383) dL_law_1378 (by decide) (fun h => ?_) (fun h => ?_)
    · have hf := fif_t h hf
      refine V.iload (i := 5) dL_law_1383 rfl ?_
      refine V.if_ne (tgt := 1400) dL_law_1385 (by decide) (fun h => ?_) (fun h => ?_)
      · have hf := fif_f h hf
        refine V.goto (tgt := 1762) dL_law_1400 (by decide) ?_
        obtain rfl := Option.some.inj hf
        exact V.locs (L' := [some (.ref 3000), some (.ref 0), some (.ref 11), some (.ref 16), some (.int p4), none, none, none, none]) ⟨rfl, ⟨rfl, ⟨rfl, ⟨rfl, ⟨rfl, trivial⟩⟩⟩⟩⟩ (V.wide (by omega) (by omega) hx)
      · have hf := fif_t h hf
        refine V.aload_n (i := 3) dL_law_1388 rfl rfl ?_
        refine V.iconst (v := 0) dL_law_1389 rfl ?_
        obtain ⟨hi, v166, ev166, hf⟩ := fld_e hf
        refine V.fldL dL_law_1390 rfl hi ev166 ?_
        refine V.iload (i := 6) dL_law_1391 rfl ?_
        refine V.i2l dL_law_1393 ?_
        refine V.lcmp dL_law_1394 ?_
        refine V.if_eq (tgt := 1400) dL_law_1395 (by decide) (fun h => ?_) (fun h => ?_)
        · have hf := fif_t h hf
          refine V.goto (tgt := 1762) dL_law_1400 (by decide) ?_
          obtain rfl := Option.some.inj hf
          exact V.locs (L' := [some (.ref 3000), some (.ref 0), some (.ref 11), some (.ref 16), some (.int p4), none, none, none, none]) ⟨rfl, ⟨rfl, ⟨rfl, ⟨rfl, ⟨rfl, trivial⟩⟩⟩⟩⟩ (V.wide (by omega) (by omega) hx)
        · have hf := fif_f h hf
          refine V.iconst (v := 0) dL_law_1398 rfl ?_
          cases hf
    · have hf := fif_f h hf
      refine V.iconst (v := 0) dL_law_1381 rfl ?_
      cases hf
def s_L_law_L1403 (a0n : Nat) (a0 : Nat → Int32) (p4 : Int32) (State_cells : Nat → Int32) (History_size : Int32) (M_savedMany : Int32) (M_s : Nat → Int32) : Nat → (Int32) → (Nat → Int64) → Option ((Int32) × (Nat → Int64))
  | 0, _, _ => none
  | n + 1, M_thrown, out => fld a0n a0 (p4 + 1) fun v168 => (s_L_count v168 State_cells History_size out).bind fun v169 => fld a0n a0 (p4 + 1) fun v170 => (s_X11_count v170 M_savedMany M_thrown M_s).bind fun v171 => (s_X11_thrown v171.2).bind fun v172 => if (v172 = v169.1 : Prop) then (if (v169.1 = 0 : Prop) then (fld 1 v169.2 0 fun v173 => if ((lg_cmp v173 (Int32.toInt64 v171.1)) = 0 : Prop) then (some (v171.2, v169.2)) else (none)) else (some (v171.2, v169.2))) else (none)
set_option maxHeartbeats 4000000 in
set_option maxRecDepth 100000 in
theorem v_L_law_L1403 {a0n : Nat} {a0 : Nat → Int32} {p4 : Int32} {State_cells : Nat → Int32} {History_oldest : Int32} {History_size : Int32} {History_snapshotTaken : Int32} {History_saved : Nat → Int32} {History_snapshot : Nat → Int32} {Buffer_size : Int32} {Buffer_codes : Nat → Int32} {Reader_pattern : Nat} {Reader_place : Int32} {Word_size : Int32} {Word_letters : Nat → Int32} {M_savedMany : Int32} {M_isTaken : Int32} {M_length : Int32} {M_spelt : Int32} {M_speltMany : Int32} {M_place : Int32} {M_kind : Int32} {M_one : Int32} {M_two : Int32} {M_three : Int32} {M_begins : Int32} {M_done : Int32} {M_stopBy : Int32} {M_hash : Int64} {M_s : Nat → Int32} {M_saved : Nat → Int32} {M_snapshot : Nat → Int32} {M_text : Nat → Int32} : ∀ (n : Nat) {M_thrown : (Int32)} {out : (Nat → Int64)} {res : (Int32) × (Nat → Int64)} (hf : s_L_law_L1403 a0n a0 p4 State_cells History_size M_savedMany M_s n M_thrown out = some res) {cl sl : Nat} (hc : cl + 1 ≤ 1062) (hs : sl + 6 ≤ 19011) (hx : V (fXlaw a0n a0) room_1 k_L_law 0 1762 [some (.ref 3000), some (.ref 0), some (.ref 11), some (.ref 16), some (.int p4), none, none, none, none] [] [.inl (5, [.ref 1, .ref 3, .ref 6, .ref 8, .ref 9]), .inl (3, [.ref 2]), .inr (910, .inl State_cells), .inl (1, [.ref 4, .ref 5, .int History_oldest, .int History_size, .int History_snapshotTaken]), .inr (5460, .inl History_saved), .inr (910, .inl History_snapshot), .inl (0, [.ref 7, .int Buffer_size]), .inr (60, .inl Buffer_codes), .inl (2, [.ref (Reader_pattern + 1000), .int Reader_place]), .inl (4, [.ref 10, .int Word_size]), .inr (8, .inl Word_letters), .inl (6, [.ref 12, .ref 13, .int M_savedMany, .ref 14, .int M_isTaken, .ref 15, .int M_length, .int res.1, .int M_spelt, .int M_speltMany, .int M_place, .int M_kind, .int M_one, .int M_two, .int M_three, .int M_begins, .int M_done, .int M_stopBy, .long M_hash]), .inr (406, .inl M_s), .inr (2436, .inl M_saved), .inr (406, .inl M_snapshot), .inr (60, .inl M_text), .inr (1, .inr res.2)] (cl + 1) (sl + 6)), V (fXlaw a0n a0) room_1 k_L_law 0 1403 [some (.ref 3000), some (.ref 0), some (.ref 11), some (.ref 16), some (.int p4), none, none, none, none] [] [.inl (5, [.ref 1, .ref 3, .ref 6, .ref 8, .ref 9]), .inl (3, [.ref 2]), .inr (910, .inl State_cells), .inl (1, [.ref 4, .ref 5, .int History_oldest, .int History_size, .int History_snapshotTaken]), .inr (5460, .inl History_saved), .inr (910, .inl History_snapshot), .inl (0, [.ref 7, .int Buffer_size]), .inr (60, .inl Buffer_codes), .inl (2, [.ref (Reader_pattern + 1000), .int Reader_place]), .inl (4, [.ref 10, .int Word_size]), .inr (8, .inl Word_letters), .inl (6, [.ref 12, .ref 13, .int M_savedMany, .ref 14, .int M_isTaken, .ref 15, .int M_length, .int M_thrown, .int M_spelt, .int M_speltMany, .int M_place, .int M_kind, .int M_one, .int M_two, .int M_three, .int M_begins, .int M_done, .int M_stopBy, .long M_hash]), .inr (406, .inl M_s), .inr (2436, .inl M_saved), .inr (406, .inl M_snapshot), .inr (60, .inl M_text), .inr (1, .inr out)] cl sl := by
  intro n
  induction n with
  | zero =>
    intro M_thrown out res hf cl sl hc hs hx
    rw [s_L_law_L1403] at hf
    cases hf
  | succ n ih =>
    intro M_thrown out res hf cl sl hc hs hx
    rw [s_L_law_L1403] at hf
    refine V.aload_n (i := 1) dL_law_1403 rfl rfl ?_
    refine V.aload_n (i := 0) dL_law_1404 rfl rfl ?_
    refine V.iload (i := 4) dL_law_1405 rfl ?_
    refine V.iconst (v := 1) dL_law_1407 rfl ?_
    refine V.iadd dL_law_1408 ?_
    obtain ⟨hi, v168, ev168, hf⟩ := fld_e hf
    refine V.sload dL_law_1409 hi ?_
    refine V.cgi ev168 ?_
    refine V.aload_n (i := 3) dL_law_1410 rfl rfl ?_
    obtain ⟨v169, hv169, hf⟩ := fbind hf
    refine V.callSn (pl := [0, 1, 2, 3, 4, 5, 6, 7, 8, 9, 10, 16]) (σ' := [.inl (5, [.ref 1, .ref 3, .ref 6, .ref 8, .ref 9]), .inl (3, [.ref 2]), .inr (910, .inl State_cells), .inl (1, [.ref 4, .ref 5, .int History_oldest, .int History_size, .int History_snapshotTaken]), .inr (5460, .inl History_saved), .inr (910, .inl History_snapshot), .inl (0, [.ref 7, .int Buffer_size]), .inr (60, .inl Buffer_codes), .inl (2, [.ref (Reader_pattern + 1000), .int Reader_place]), .inl (4, [.ref 10, .int Word_size]), .inr (8, .inl Word_letters), .inl (6, [.ref 12, .ref 13, .int M_savedMany, .ref 14, .int M_isTaken, .ref 15, .int M_length, .int M_thrown, .int M_spelt, .int M_speltMany, .int M_place, .int M_kind, .int M_one, .int M_two, .int M_three, .int M_begins, .int M_done, .int M_stopBy, .long M_hash]), .inr (406, .inl M_s), .inr (2436, .inl M_saved), .inr (406, .inl M_snapshot), .inr (60, .inl M_text), .inr (1, .inr v169.2)]) (st2 := [.int v169.1]) (cl2 := (cl + 1)) (sl2 := (sl + 6)) (ct_L_count (a1 := v168) (State_cells := State_cells) (History_oldest := History_oldest) (History_size := History_size) (History_snapshotTaken := History_snapshotTaken) (History_saved := History_saved) (History_snapshot := History_snapshot) (Buffer_size := Buffer_size) (Buffer_codes := Buffer_codes) (Reader_pattern := Reader_pattern) (Reader_place := Reader_place) (Word_size := Word_size) (Word_letters := Word_letters) (out2 := out) hv169) dL_law_1411 w1001 w1002 cal_L_count ⟨⟨Nat.le_of_ble_eq_true rfl, Nat.le_of_ble_eq_true rfl⟩, (show cl + 1 ≤ 1062 by omega), (show sl + 6 ≤ 19011 by omega)⟩ (Nat.le_of_ble_eq_true rfl) rfl ⟨rfl, ⟨by decide, by decide⟩, rfl, (fr_cons (Or.inl (Nat.le_of_ble_eq_true rfl)) (fr_cons (Or.inl (Nat.le_of_ble_eq_true rfl)) (fr_cons (Or.inl (Nat.le_of_ble_eq_true rfl)) (fr_cons (Or.inl (Nat.le_of_ble_eq_true rfl)) (fr_cons (Or.inl (Nat.le_of_ble_eq_true rfl)) (fr_cons (Or.inl (Nat.le_of_ble_eq_true rfl)) (fr_cons (Or.inl (Nat.le_of_ble_eq_true rfl)) (fr_cons (Or.inl (Nat.le_of_ble_eq_true rfl)) (fr_cons (Or.inl (Nat.le_of_ble_eq_true rfl)) (fr_cons (Or.inr (Nat.le_add_left 1000 _)) (fr_cons (Or.inl (Nat.le_of_ble_eq_true rfl)) (fr_nil)))))))))))), rfl⟩ fr_i rfl rfl rfl rfl ?_
    refine V.istore (i := 5) (L' := [some (.ref 3000), some (.ref 0), some (.ref 11), some (.ref 16), some (.int p4), some (.int v169.1), none, none, none]) dL_law_1414 (Nat.le_of_ble_eq_true rfl) rfl rfl ?_
    refine V.aload_n (i := 2) dL_law_1416 rfl rfl ?_
    refine V.aload_n (i := 0) dL_law_1417 rfl rfl ?_
    refine V.iload (i := 4) dL_law_1418 rfl ?_
    refine V.iconst (v := 1) dL_law_1420 rfl ?_
    refine V.iadd dL_law_1421 ?_
    obtain ⟨hi, v170, ev170, hf⟩ := fld_e hf
    refine V.sload dL_law_1422 hi ?_
    refine V.cgi ev170 ?_
    obtain ⟨v171, hv171, hf⟩ := fbind hf
    refine V.callVn (pl := [11, 12, 13, 14, 15]) (σ' := [.inl (5, [.ref 1, .ref 3, .ref 6, .ref 8, .ref 9]), .inl (3, [.ref 2]), .inr (910, .inl State_cells), .inl (1, [.ref 4, .ref 5, .int History_oldest, .int History_size, .int History_snapshotTaken]), .inr (5460, .inl History_saved), .inr (910, .inl History_snapshot), .inl (0, [.ref 7, .int Buffer_size]), .inr (60, .inl Buffer_codes), .inl (2, [.ref (Reader_pattern + 1000), .int Reader_place]), .inl (4, [.ref 10, .int Word_size]), .inr (8, .inl Word_letters), .inl (6, [.ref 12, .ref 13, .int M_savedMany, .ref 14, .int M_isTaken, .ref 15, .int M_length, .int v171.2, .int M_spelt, .int M_speltMany, .int M_place, .int M_kind, .int M_one, .int M_two, .int M_three, .int M_begins, .int M_done, .int M_stopBy, .long M_hash]), .inr (406, .inl M_s), .inr (2436, .inl M_saved), .inr (406, .inl M_snapshot), .inr (60, .inl M_text), .inr (1, .inr v169.2)]) (st2 := [.int v171.1]) (cl2 := (cl + 1)) (sl2 := (sl + 6)) (ct_X11_count (a1 := v170) (M_savedMany := M_savedMany) (M_isTaken := M_isTaken) (M_length := M_length) (M_thrown := M_thrown) (M_spelt := M_spelt) (M_speltMany := M_speltMany) (M_place := M_place) (M_kind := M_kind) (M_one := M_one) (M_two := M_two) (M_three := M_three) (M_begins := M_begins) (M_done := M_done) (M_stopBy := M_stopBy) (M_hash := M_hash) (M_s := M_s) (M_saved := M_saved) (M_snapshot := M_snapshot) (M_text := M_text) hv171) dL_law_1423 w1403 ⟨w1404, w1405⟩ cal_X11_count rfl ⟨⟨Nat.le_of_ble_eq_true rfl, Nat.le_of_ble_eq_true rfl⟩, (show (cl + 1) + 0 ≤ 1062 by omega), (show (sl + 6) + 0 ≤ 19011 by omega)⟩ (Nat.le_of_ble_eq_true rfl) (Or.inl ⟨_, _, _, _, rfl, rfl⟩) rfl ⟨rfl, ⟨by decide, by decide⟩, rfl, (fr_cons (Or.inl (Nat.le_of_ble_eq_true rfl)) (fr_cons (Or.inl (Nat.le_of_ble_eq_true rfl)) (fr_cons (Or.inl (Nat.le_of_ble_eq_true rfl)) (fr_cons (Or.inl (Nat.le_of_ble_eq_true rfl)) (fr_nil))))), rfl⟩ fr_i rfl rfl rfl rfl ?_
    refine V.istore (i := 6) (L' := [some (.ref 3000), some (.ref 0), some (.ref 11), some (.ref 16), some (.int p4), some (.int v169.1), some (.int v171.1), none, none]) dL_law_1426 (Nat.le_of_ble_eq_true rfl) rfl rfl ?_
    refine V.aload_n (i := 2) dL_law_1428 rfl rfl ?_
    obtain ⟨v172, hv172, hf⟩ := fbind hf
    refine V.callVn (pl := [11, 12, 13, 14, 15]) (σ' := [.inl (5, [.ref 1, .ref 3, .ref 6, .ref 8, .ref 9]), .inl (3, [.ref 2]), .inr (910, .inl State_cells), .inl (1, [.ref 4, .ref 5, .int History_oldest, .int History_size, .int History_snapshotTaken]), .inr (5460, .inl History_saved), .inr (910, .inl History_snapshot), .inl (0, [.ref 7, .int Buffer_size]), .inr (60, .inl Buffer_codes), .inl (2, [.ref (Reader_pattern + 1000), .int Reader_place]), .inl (4, [.ref 10, .int Word_size]), .inr (8, .inl Word_letters), .inl (6, [.ref 12, .ref 13, .int M_savedMany, .ref 14, .int M_isTaken, .ref 15, .int M_length, .int v171.2, .int M_spelt, .int M_speltMany, .int M_place, .int M_kind, .int M_one, .int M_two, .int M_three, .int M_begins, .int M_done, .int M_stopBy, .long M_hash]), .inr (406, .inl M_s), .inr (2436, .inl M_saved), .inr (406, .inl M_snapshot), .inr (60, .inl M_text), .inr (1, .inr v169.2)]) (st2 := [.int v172]) (cl2 := (cl + 1)) (sl2 := (sl + 6)) (ct_X11_thrown (M_savedMany := M_savedMany) (M_isTaken := M_isTaken) (M_length := M_length) (M_thrown := v171.2) (M_spelt := M_spelt) (M_speltMany := M_speltMany) (M_place := M_place) (M_kind := M_kind) (M_one := M_one) (M_two := M_two) (M_three := M_three) (M_begins := M_begins) (M_done := M_done) (M_stopBy := M_stopBy) (M_hash := M_hash) (M_s := M_s) (M_saved := M_saved) (M_snapshot := M_snapshot) (M_text := M_text) hv172) dL_law_1429 w1101 ⟨w1102, w1103⟩ cal_X11_thrown rfl ⟨⟨Nat.le_of_ble_eq_true rfl, Nat.le_of_ble_eq_true rfl⟩, (show (cl + 1) + 0 ≤ 1062 by omega), (show (sl + 6) + 0 ≤ 19011 by omega)⟩ (Nat.le_of_ble_eq_true rfl) (Or.inl ⟨_, _, _, _, rfl, rfl⟩) rfl ⟨rfl, ⟨by decide, by decide⟩, rfl, (fr_cons (Or.inl (Nat.le_of_ble_eq_true rfl)) (fr_cons (Or.inl (Nat.le_of_ble_eq_true rfl)) (fr_cons (Or.inl (Nat.le_of_ble_eq_true rfl)) (fr_cons (Or.inl (Nat.le_of_ble_eq_true rfl)) (fr_nil))))), rfl⟩ fr_i rfl rfl rfl rfl ?_
    refine V.iload (i := 5) dL_law_1432 rfl ?_
    refine V.icmp_eq (tgt := 1439) dL_law_1434 (by decide) (fun h => ?_) (fun h => ?_)
    · have hf := fif_t h hf
      refine V.iload (i := 5) dL_law_1439 rfl ?_
      refine V.if_ne (tgt := 1456) dL_law_1441 (by decide) (fun h => ?_) (fun h => ?_)
      · have hf := fif_f h hf
        refine V.goto (tgt := 1762) dL_law_1456 (by decide) ?_
        obtain rfl := Option.some.inj hf
        exact V.locs (L' := [some (.ref 3000), some (.ref 0), some (.ref 11), some (.ref 16), some (.int p4), none, none, none, none]) ⟨rfl, ⟨rfl, ⟨rfl, ⟨rfl, ⟨rfl, trivial⟩⟩⟩⟩⟩ (V.wide (by omega) (by omega) hx)
      · have hf := fif_t h hf
        refine V.aload_n (i := 3) dL_law_1444 rfl rfl ?_
        refine V.iconst (v := 0) dL_law_1445 rfl ?_
        obtain ⟨hi, v173, ev173, hf⟩ := fld_e hf
        refine V.fldL dL_law_1446 rfl hi ev173 ?_
        refine V.iload (i := 6) dL_law_1447 rfl ?_
        refine V.i2l dL_law_1449 ?_
        refine V.lcmp dL_law_1450 ?_
        refine V.if_eq (tgt := 1456) dL_law_1451 (by decide) (fun h => ?_) (fun h => ?_)
        · have hf := fif_t h hf
          refine V.goto (tgt := 1762) dL_law_1456 (by decide) ?_
          obtain rfl := Option.some.inj hf
          exact V.locs (L' := [some (.ref 3000), some (.ref 0), some (.ref 11), some (.ref 16), some (.int p4), none, none, none, none]) ⟨rfl, ⟨rfl, ⟨rfl, ⟨rfl, ⟨rfl, trivial⟩⟩⟩⟩⟩ (V.wide (by omega) (by omega) hx)
        · have hf := fif_f h hf
          refine V.iconst (v := 0) dL_law_1454 rfl ?_
          cases hf
    · have hf := fif_f h hf
      refine V.iconst (v := 0) dL_law_1437 rfl ?_
      cases hf
def s_L_law_L1459 (a0n : Nat) (a0 : Nat → Int32) (p4 : Int32) (State_cells : Nat → Int32) (Buffer_size : Int32) (Buffer_codes : Nat → Int32) (M_length : Int32) (M_s : Nat → Int32) (M_text : Nat → Int32) : Nat → (Int32) → (Nat → Int32) → (Int32) → (Int32) → (Int32) → (Nat → Int64) → Option ((Int32) × (Nat → Int32) × (Int32) × (Int32) × (Int32) × (Nat → Int64))
  | 0, _, _, _, _, _, _ => none
  | n + 1, Word_size, Word_letters, M_thrown, M_spelt, M_speltMany, out => fld a0n a0 (p4 + 1) fun v175 => (s_L_whyNot v175 State_cells Buffer_size Buffer_codes Word_size Word_letters out).bind fun v176 => fld a0n a0 (p4 + 1) fun v177 => (s_X11_whyNot v177 M_length M_thrown M_spelt M_speltMany M_s M_text).bind fun v178 => (s_X11_thrown v178.2.1).bind fun v179 => if (v179 = v176.1 : Prop) then (if (v176.1 = 0 : Prop) then (fld 1 v176.2.2.2 0 fun v180 => if ((lg_cmp v180 (Int32.toInt64 v178.1)) = 0 : Prop) then (some (v176.2.1, v176.2.2.1, v178.2.1, v178.2.2.1, v178.2.2.2, v176.2.2.2)) else (none)) else (some (v176.2.1, v176.2.2.1, v178.2.1, v178.2.2.1, v178.2.2.2, v176.2.2.2))) else (none)
set_option maxHeartbeats 4000000 in
set_option maxRecDepth 100000 in
theorem v_L_law_L1459 {a0n : Nat} {a0 : Nat → Int32} {p4 : Int32} {State_cells : Nat → Int32} {History_oldest : Int32} {History_size : Int32} {History_snapshotTaken : Int32} {History_saved : Nat → Int32} {History_snapshot : Nat → Int32} {Buffer_size : Int32} {Buffer_codes : Nat → Int32} {Reader_pattern : Nat} {Reader_place : Int32} {M_savedMany : Int32} {M_isTaken : Int32} {M_length : Int32} {M_place : Int32} {M_kind : Int32} {M_one : Int32} {M_two : Int32} {M_three : Int32} {M_begins : Int32} {M_done : Int32} {M_stopBy : Int32} {M_hash : Int64} {M_s : Nat → Int32} {M_saved : Nat → Int32} {M_snapshot : Nat → Int32} {M_text : Nat → Int32} : ∀ (n : Nat) {Word_size : (Int32)} {Word_letters : (Nat → Int32)} {M_thrown : (Int32)} {M_spelt : (Int32)} {M_speltMany : (Int32)} {out : (Nat → Int64)} {res : (Int32) × (Nat → Int32) × (Int32) × (Int32) × (Int32) × (Nat → Int64)} (hf : s_L_law_L1459 a0n a0 p4 State_cells Buffer_size Buffer_codes M_length M_s M_text n Word_size Word_letters M_thrown M_spelt M_speltMany out = some res) {cl sl : Nat} (hc : cl + 1 ≤ 1062) (hs : sl + 6 ≤ 19011) (hx : V (fXlaw a0n a0) room_1 k_L_law 0 1762 [some (.ref 3000), some (.ref 0), some (.ref 11), some (.ref 16), some (.int p4), none, none, none, none] [] [.inl (5, [.ref 1, .ref 3, .ref 6, .ref 8, .ref 9]), .inl (3, [.ref 2]), .inr (910, .inl State_cells), .inl (1, [.ref 4, .ref 5, .int History_oldest, .int History_size, .int History_snapshotTaken]), .inr (5460, .inl History_saved), .inr (910, .inl History_snapshot), .inl (0, [.ref 7, .int Buffer_size]), .inr (60, .inl Buffer_codes), .inl (2, [.ref (Reader_pattern + 1000), .int Reader_place]), .inl (4, [.ref 10, .int res.1]), .inr (8, .inl res.2.1), .inl (6, [.ref 12, .ref 13, .int M_savedMany, .ref 14, .int M_isTaken, .ref 15, .int M_length, .int res.2.2.1, .int res.2.2.2.1, .int res.2.2.2.2.1, .int M_place, .int M_kind, .int M_one, .int M_two, .int M_three, .int M_begins, .int M_done, .int M_stopBy, .long M_hash]), .inr (406, .inl M_s), .inr (2436, .inl M_saved), .inr (406, .inl M_snapshot), .inr (60, .inl M_text), .inr (1, .inr res.2.2.2.2.2)] (cl + 1) (sl + 6)), V (fXlaw a0n a0) room_1 k_L_law 0 1459 [some (.ref 3000), some (.ref 0), some (.ref 11), some (.ref 16), some (.int p4), none, none, none, none] [] [.inl (5, [.ref 1, .ref 3, .ref 6, .ref 8, .ref 9]), .inl (3, [.ref 2]), .inr (910, .inl State_cells), .inl (1, [.ref 4, .ref 5, .int History_oldest, .int History_size, .int History_snapshotTaken]), .inr (5460, .inl History_saved), .inr (910, .inl History_snapshot), .inl (0, [.ref 7, .int Buffer_size]), .inr (60, .inl Buffer_codes), .inl (2, [.ref (Reader_pattern + 1000), .int Reader_place]), .inl (4, [.ref 10, .int Word_size]), .inr (8, .inl Word_letters), .inl (6, [.ref 12, .ref 13, .int M_savedMany, .ref 14, .int M_isTaken, .ref 15, .int M_length, .int M_thrown, .int M_spelt, .int M_speltMany, .int M_place, .int M_kind, .int M_one, .int M_two, .int M_three, .int M_begins, .int M_done, .int M_stopBy, .long M_hash]), .inr (406, .inl M_s), .inr (2436, .inl M_saved), .inr (406, .inl M_snapshot), .inr (60, .inl M_text), .inr (1, .inr out)] cl sl := by
  intro n
  induction n with
  | zero =>
    intro Word_size Word_letters M_thrown M_spelt M_speltMany out res hf cl sl hc hs hx
    rw [s_L_law_L1459] at hf
    cases hf
  | succ n ih =>
    intro Word_size Word_letters M_thrown M_spelt M_speltMany out res hf cl sl hc hs hx
    rw [s_L_law_L1459] at hf
    refine V.aload_n (i := 1) dL_law_1459 rfl rfl ?_
    refine V.aload_n (i := 0) dL_law_1460 rfl rfl ?_
    refine V.iload (i := 4) dL_law_1461 rfl ?_
    refine V.iconst (v := 1) dL_law_1463 rfl ?_
    refine V.iadd dL_law_1464 ?_
    obtain ⟨hi, v175, ev175, hf⟩ := fld_e hf
    refine V.sload dL_law_1465 hi ?_
    refine V.cgi ev175 ?_
    refine V.aload_n (i := 3) dL_law_1466 rfl rfl ?_
    obtain ⟨v176, hv176, hf⟩ := fbind hf
    refine V.callSn (pl := [0, 1, 2, 3, 4, 5, 6, 7, 8, 9, 10, 16]) (σ' := [.inl (5, [.ref 1, .ref 3, .ref 6, .ref 8, .ref 9]), .inl (3, [.ref 2]), .inr (910, .inl State_cells), .inl (1, [.ref 4, .ref 5, .int History_oldest, .int History_size, .int History_snapshotTaken]), .inr (5460, .inl History_saved), .inr (910, .inl History_snapshot), .inl (0, [.ref 7, .int Buffer_size]), .inr (60, .inl Buffer_codes), .inl (2, [.ref (Reader_pattern + 1000), .int Reader_place]), .inl (4, [.ref 10, .int v176.2.1]), .inr (8, .inl v176.2.2.1), .inl (6, [.ref 12, .ref 13, .int M_savedMany, .ref 14, .int M_isTaken, .ref 15, .int M_length, .int M_thrown, .int M_spelt, .int M_speltMany, .int M_place, .int M_kind, .int M_one, .int M_two, .int M_three, .int M_begins, .int M_done, .int M_stopBy, .long M_hash]), .inr (406, .inl M_s), .inr (2436, .inl M_saved), .inr (406, .inl M_snapshot), .inr (60, .inl M_text), .inr (1, .inr v176.2.2.2)]) (st2 := [.int v176.1]) (cl2 := (cl + 1)) (sl2 := (sl + 6)) (ct_L_whyNot (a1 := v175) (State_cells := State_cells) (History_oldest := History_oldest) (History_size := History_size) (History_snapshotTaken := History_snapshotTaken) (History_saved := History_saved) (History_snapshot := History_snapshot) (Buffer_size := Buffer_size) (Buffer_codes := Buffer_codes) (Reader_pattern := Reader_pattern) (Reader_place := Reader_place) (Word_size := Word_size) (Word_letters := Word_letters) (out2 := out) hv176) dL_law_1467 w1008 w1009 cal_L_whyNot ⟨⟨Nat.le_of_ble_eq_true rfl, Nat.le_of_ble_eq_true rfl⟩, (show cl + 1 ≤ 1062 by omega), (show sl + 6 ≤ 19011 by omega)⟩ (Nat.le_of_ble_eq_true rfl) rfl ⟨rfl, ⟨by decide, by decide⟩, rfl, (fr_cons (Or.inl (Nat.le_of_ble_eq_true rfl)) (fr_cons (Or.inl (Nat.le_of_ble_eq_true rfl)) (fr_cons (Or.inl (Nat.le_of_ble_eq_true rfl)) (fr_cons (Or.inl (Nat.le_of_ble_eq_true rfl)) (fr_cons (Or.inl (Nat.le_of_ble_eq_true rfl)) (fr_cons (Or.inl (Nat.le_of_ble_eq_true rfl)) (fr_cons (Or.inl (Nat.le_of_ble_eq_true rfl)) (fr_cons (Or.inl (Nat.le_of_ble_eq_true rfl)) (fr_cons (Or.inl (Nat.le_of_ble_eq_true rfl)) (fr_cons (Or.inr (Nat.le_add_left 1000 _)) (fr_cons (Or.inl (Nat.le_of_ble_eq_true rfl)) (fr_nil)))))))))))), rfl⟩ fr_i rfl rfl rfl rfl ?_
    refine V.istore (i := 5) (L' := [some (.ref 3000), some (.ref 0), some (.ref 11), some (.ref 16), some (.int p4), some (.int v176.1), none, none, none]) dL_law_1470 (Nat.le_of_ble_eq_true rfl) rfl rfl ?_
    refine V.aload_n (i := 2) dL_law_1472 rfl rfl ?_
    refine V.aload_n (i := 0) dL_law_1473 rfl rfl ?_
    refine V.iload (i := 4) dL_law_1474 rfl ?_
    refine V.iconst (v := 1) dL_law_1476 rfl ?_
    refine V.iadd dL_law_1477 ?_
    obtain ⟨hi, v177, ev177, hf⟩ := fld_e hf
    refine V.sload dL_law_1478 hi ?_
    refine V.cgi ev177 ?_
    obtain ⟨v178, hv178, hf⟩ := fbind hf
    refine V.callVn (pl := [11, 12, 13, 14, 15]) (σ' := [.inl (5, [.ref 1, .ref 3, .ref 6, .ref 8, .ref 9]), .inl (3, [.ref 2]), .inr (910, .inl State_cells), .inl (1, [.ref 4, .ref 5, .int History_oldest, .int History_size, .int History_snapshotTaken]), .inr (5460, .inl History_saved), .inr (910, .inl History_snapshot), .inl (0, [.ref 7, .int Buffer_size]), .inr (60, .inl Buffer_codes), .inl (2, [.ref (Reader_pattern + 1000), .int Reader_place]), .inl (4, [.ref 10, .int v176.2.1]), .inr (8, .inl v176.2.2.1), .inl (6, [.ref 12, .ref 13, .int M_savedMany, .ref 14, .int M_isTaken, .ref 15, .int M_length, .int v178.2.1, .int v178.2.2.1, .int v178.2.2.2, .int M_place, .int M_kind, .int M_one, .int M_two, .int M_three, .int M_begins, .int M_done, .int M_stopBy, .long M_hash]), .inr (406, .inl M_s), .inr (2436, .inl M_saved), .inr (406, .inl M_snapshot), .inr (60, .inl M_text), .inr (1, .inr v176.2.2.2)]) (st2 := [.int v178.1]) (cl2 := (cl + 1)) (sl2 := (sl + 6)) (ct_X11_whyNot (a1 := v177) (M_savedMany := M_savedMany) (M_isTaken := M_isTaken) (M_length := M_length) (M_thrown := M_thrown) (M_spelt := M_spelt) (M_speltMany := M_speltMany) (M_place := M_place) (M_kind := M_kind) (M_one := M_one) (M_two := M_two) (M_three := M_three) (M_begins := M_begins) (M_done := M_done) (M_stopBy := M_stopBy) (M_hash := M_hash) (M_s := M_s) (M_saved := M_saved) (M_snapshot := M_snapshot) (M_text := M_text) hv178) dL_law_1479 w1435 ⟨w1436, w1437⟩ cal_X11_whyNot rfl ⟨⟨Nat.le_of_ble_eq_true rfl, Nat.le_of_ble_eq_true rfl⟩, (show (cl + 1) + 0 ≤ 1062 by omega), (show (sl + 6) + 0 ≤ 19011 by omega)⟩ (Nat.le_of_ble_eq_true rfl) (Or.inl ⟨_, _, _, _, rfl, rfl⟩) rfl ⟨rfl, ⟨by decide, by decide⟩, rfl, (fr_cons (Or.inl (Nat.le_of_ble_eq_true rfl)) (fr_cons (Or.inl (Nat.le_of_ble_eq_true rfl)) (fr_cons (Or.inl (Nat.le_of_ble_eq_true rfl)) (fr_cons (Or.inl (Nat.le_of_ble_eq_true rfl)) (fr_nil))))), rfl⟩ fr_i rfl rfl rfl rfl ?_
    refine V.istore (i := 6) (L' := [some (.ref 3000), some (.ref 0), some (.ref 11), some (.ref 16), some (.int p4), some (.int v176.1), some (.int v178.1), none, none]) dL_law_1482 (Nat.le_of_ble_eq_true rfl) rfl rfl ?_
    refine V.aload_n (i := 2) dL_law_1484 rfl rfl ?_
    obtain ⟨v179, hv179, hf⟩ := fbind hf
    refine V.callVn (pl := [11, 12, 13, 14, 15]) (σ' := [.inl (5, [.ref 1, .ref 3, .ref 6, .ref 8, .ref 9]), .inl (3, [.ref 2]), .inr (910, .inl State_cells), .inl (1, [.ref 4, .ref 5, .int History_oldest, .int History_size, .int History_snapshotTaken]), .inr (5460, .inl History_saved), .inr (910, .inl History_snapshot), .inl (0, [.ref 7, .int Buffer_size]), .inr (60, .inl Buffer_codes), .inl (2, [.ref (Reader_pattern + 1000), .int Reader_place]), .inl (4, [.ref 10, .int v176.2.1]), .inr (8, .inl v176.2.2.1), .inl (6, [.ref 12, .ref 13, .int M_savedMany, .ref 14, .int M_isTaken, .ref 15, .int M_length, .int v178.2.1, .int v178.2.2.1, .int v178.2.2.2, .int M_place, .int M_kind, .int M_one, .int M_two, .int M_three, .int M_begins, .int M_done, .int M_stopBy, .long M_hash]), .inr (406, .inl M_s), .inr (2436, .inl M_saved), .inr (406, .inl M_snapshot), .inr (60, .inl M_text), .inr (1, .inr v176.2.2.2)]) (st2 := [.int v179]) (cl2 := (cl + 1)) (sl2 := (sl + 6)) (ct_X11_thrown (M_savedMany := M_savedMany) (M_isTaken := M_isTaken) (M_length := M_length) (M_thrown := v178.2.1) (M_spelt := v178.2.2.1) (M_speltMany := v178.2.2.2) (M_place := M_place) (M_kind := M_kind) (M_one := M_one) (M_two := M_two) (M_three := M_three) (M_begins := M_begins) (M_done := M_done) (M_stopBy := M_stopBy) (M_hash := M_hash) (M_s := M_s) (M_saved := M_saved) (M_snapshot := M_snapshot) (M_text := M_text) hv179) dL_law_1485 w1101 ⟨w1102, w1103⟩ cal_X11_thrown rfl ⟨⟨Nat.le_of_ble_eq_true rfl, Nat.le_of_ble_eq_true rfl⟩, (show (cl + 1) + 0 ≤ 1062 by omega), (show (sl + 6) + 0 ≤ 19011 by omega)⟩ (Nat.le_of_ble_eq_true rfl) (Or.inl ⟨_, _, _, _, rfl, rfl⟩) rfl ⟨rfl, ⟨by decide, by decide⟩, rfl, (fr_cons (Or.inl (Nat.le_of_ble_eq_true rfl)) (fr_cons (Or.inl (Nat.le_of_ble_eq_true rfl)) (fr_cons (Or.inl (Nat.le_of_ble_eq_true rfl)) (fr_cons (Or.inl (Nat.le_of_ble_eq_true rfl)) (fr_nil))))), rfl⟩ fr_i rfl rfl rfl rfl ?_
    refine V.iload (i := 5) dL_law_1488 rfl ?_
    refine V.icmp_eq (tgt := 1495) dL_law_1490 (by decide) (fun h => ?_) (fun h => ?_)
    · have hf := fif_t h hf
      refine V.iload (i := 5) dL_law_1495 rfl ?_
      refine V.if_ne (tgt := 1512) dL_law_1497 (by decide) (fun h => ?_) (fun h => ?_)
      · have hf := fif_f h hf
        refine V.goto (tgt := 1762) dL_law_1512 (by decide) ?_
        obtain rfl := Option.some.inj hf
        exact V.locs (L' := [some (.ref 3000), some (.ref 0), some (.ref 11), some (.ref 16), some (.int p4), none, none, none, none]) ⟨rfl, ⟨rfl, ⟨rfl, ⟨rfl, ⟨rfl, trivial⟩⟩⟩⟩⟩ (V.wide (by omega) (by omega) hx)
      · have hf := fif_t h hf
        refine V.aload_n (i := 3) dL_law_1500 rfl rfl ?_
        refine V.iconst (v := 0) dL_law_1501 rfl ?_
        obtain ⟨hi, v180, ev180, hf⟩ := fld_e hf
        refine V.fldL dL_law_1502 rfl hi ev180 ?_
        refine V.iload (i := 6) dL_law_1503 rfl ?_
        refine V.i2l dL_law_1505 ?_
        refine V.lcmp dL_law_1506 ?_
        refine V.if_eq (tgt := 1512) dL_law_1507 (by decide) (fun h => ?_) (fun h => ?_)
        · have hf := fif_t h hf
          refine V.goto (tgt := 1762) dL_law_1512 (by decide) ?_
          obtain rfl := Option.some.inj hf
          exact V.locs (L' := [some (.ref 3000), some (.ref 0), some (.ref 11), some (.ref 16), some (.int p4), none, none, none, none]) ⟨rfl, ⟨rfl, ⟨rfl, ⟨rfl, ⟨rfl, trivial⟩⟩⟩⟩⟩ (V.wide (by omega) (by omega) hx)
        · have hf := fif_f h hf
          refine V.iconst (v := 0) dL_law_1510 rfl ?_
          cases hf
    · have hf := fif_f h hf
      refine V.iconst (v := 0) dL_law_1493 rfl ?_
      cases hf
def s_L_law_L1515 (a0n : Nat) (a0 : Nat → Int32) (p4 : Int32) (State_cells : Nat → Int32) (M_s : Nat → Int32) : Nat → (Int32) → (Nat → Int32) → (Int32) → (Nat → Int64) → Option ((Int32) × (Nat → Int32) × (Int32) × (Nat → Int64))
  | 0, _, _, _, _ => none
  | n + 1, Word_size, Word_letters, M_thrown, out => fld a0n a0 (p4 + 1) fun v182 => fld a0n a0 (p4 + 2) fun v183 => fld a0n a0 (p4 + 3) fun v184 => (s_L_noGift v182 v183 v184 State_cells Word_size Word_letters out).bind fun v185 => fld a0n a0 (p4 + 1) fun v186 => fld a0n a0 (p4 + 2) fun v187 => fld a0n a0 (p4 + 3) fun v188 => (s_X11_noGift v186 v187 v188 M_thrown M_s).bind fun v189 => (s_X11_thrown v189.2).bind fun v190 => if (v190 = v185.1 : Prop) then (if (v185.1 = 0 : Prop) then (fld 1 v185.2.2.2 0 fun v191 => if ((lg_cmp v191 (Int32.toInt64 v189.1)) = 0 : Prop) then (some (v185.2.1, v185.2.2.1, v189.2, v185.2.2.2)) else (none)) else (some (v185.2.1, v185.2.2.1, v189.2, v185.2.2.2))) else (none)
set_option maxHeartbeats 4000000 in
set_option maxRecDepth 100000 in
theorem v_L_law_L1515 {a0n : Nat} {a0 : Nat → Int32} {p4 : Int32} {State_cells : Nat → Int32} {History_oldest : Int32} {History_size : Int32} {History_snapshotTaken : Int32} {History_saved : Nat → Int32} {History_snapshot : Nat → Int32} {Buffer_size : Int32} {Buffer_codes : Nat → Int32} {Reader_pattern : Nat} {Reader_place : Int32} {M_savedMany : Int32} {M_isTaken : Int32} {M_length : Int32} {M_spelt : Int32} {M_speltMany : Int32} {M_place : Int32} {M_kind : Int32} {M_one : Int32} {M_two : Int32} {M_three : Int32} {M_begins : Int32} {M_done : Int32} {M_stopBy : Int32} {M_hash : Int64} {M_s : Nat → Int32} {M_saved : Nat → Int32} {M_snapshot : Nat → Int32} {M_text : Nat → Int32} : ∀ (n : Nat) {Word_size : (Int32)} {Word_letters : (Nat → Int32)} {M_thrown : (Int32)} {out : (Nat → Int64)} {res : (Int32) × (Nat → Int32) × (Int32) × (Nat → Int64)} (hf : s_L_law_L1515 a0n a0 p4 State_cells M_s n Word_size Word_letters M_thrown out = some res) {cl sl : Nat} (hc : cl + 1 ≤ 1062) (hs : sl + 6 ≤ 19011) (hx : V (fXlaw a0n a0) room_1 k_L_law 0 1762 [some (.ref 3000), some (.ref 0), some (.ref 11), some (.ref 16), some (.int p4), none, none, none, none] [] [.inl (5, [.ref 1, .ref 3, .ref 6, .ref 8, .ref 9]), .inl (3, [.ref 2]), .inr (910, .inl State_cells), .inl (1, [.ref 4, .ref 5, .int History_oldest, .int History_size, .int History_snapshotTaken]), .inr (5460, .inl History_saved), .inr (910, .inl History_snapshot), .inl (0, [.ref 7, .int Buffer_size]), .inr (60, .inl Buffer_codes), .inl (2, [.ref (Reader_pattern + 1000), .int Reader_place]), .inl (4, [.ref 10, .int res.1]), .inr (8, .inl res.2.1), .inl (6, [.ref 12, .ref 13, .int M_savedMany, .ref 14, .int M_isTaken, .ref 15, .int M_length, .int res.2.2.1, .int M_spelt, .int M_speltMany, .int M_place, .int M_kind, .int M_one, .int M_two, .int M_three, .int M_begins, .int M_done, .int M_stopBy, .long M_hash]), .inr (406, .inl M_s), .inr (2436, .inl M_saved), .inr (406, .inl M_snapshot), .inr (60, .inl M_text), .inr (1, .inr res.2.2.2)] (cl + 1) (sl + 6)), V (fXlaw a0n a0) room_1 k_L_law 0 1515 [some (.ref 3000), some (.ref 0), some (.ref 11), some (.ref 16), some (.int p4), none, none, none, none] [] [.inl (5, [.ref 1, .ref 3, .ref 6, .ref 8, .ref 9]), .inl (3, [.ref 2]), .inr (910, .inl State_cells), .inl (1, [.ref 4, .ref 5, .int History_oldest, .int History_size, .int History_snapshotTaken]), .inr (5460, .inl History_saved), .inr (910, .inl History_snapshot), .inl (0, [.ref 7, .int Buffer_size]), .inr (60, .inl Buffer_codes), .inl (2, [.ref (Reader_pattern + 1000), .int Reader_place]), .inl (4, [.ref 10, .int Word_size]), .inr (8, .inl Word_letters), .inl (6, [.ref 12, .ref 13, .int M_savedMany, .ref 14, .int M_isTaken, .ref 15, .int M_length, .int M_thrown, .int M_spelt, .int M_speltMany, .int M_place, .int M_kind, .int M_one, .int M_two, .int M_three, .int M_begins, .int M_done, .int M_stopBy, .long M_hash]), .inr (406, .inl M_s), .inr (2436, .inl M_saved), .inr (406, .inl M_snapshot), .inr (60, .inl M_text), .inr (1, .inr out)] cl sl := by
  intro n
  induction n with
  | zero =>
    intro Word_size Word_letters M_thrown out res hf cl sl hc hs hx
    rw [s_L_law_L1515] at hf
    cases hf
  | succ n ih =>
    intro Word_size Word_letters M_thrown out res hf cl sl hc hs hx
    rw [s_L_law_L1515] at hf
    refine V.aload_n (i := 1) dL_law_1515 rfl rfl ?_
    refine V.aload_n (i := 0) dL_law_1516 rfl rfl ?_
    refine V.iload (i := 4) dL_law_1517 rfl ?_
    refine V.iconst (v := 1) dL_law_1519 rfl ?_
    refine V.iadd dL_law_1520 ?_
    obtain ⟨hi, v182, ev182, hf⟩ := fld_e hf
    refine V.sload dL_law_1521 hi ?_
    refine V.cgi ev182 ?_
    refine V.aload_n (i := 0) dL_law_1522 rfl rfl ?_
    refine V.iload (i := 4) dL_law_1523 rfl ?_
    refine V.iconst (v := 2) dL_law_1525 rfl ?_
    refine V.iadd dL_law_1526 ?_
    obtain ⟨hi, v183, ev183, hf⟩ := fld_e hf
    refine V.sload dL_law_1527 hi ?_
    refine V.cgi ev183 ?_
    refine V.aload_n (i := 0) dL_law_1528 rfl rfl ?_
    refine V.iload (i := 4) dL_law_1529 rfl ?_
    refine V.iconst (v := 3) dL_law_1531 rfl ?_
    refine V.iadd dL_law_1532 ?_
    obtain ⟨hi, v184, ev184, hf⟩ := fld_e hf
    refine V.sload dL_law_1533 hi ?_
    refine V.cgi ev184 ?_
    refine V.aload_n (i := 3) dL_law_1534 rfl rfl ?_
    obtain ⟨v185, hv185, hf⟩ := fbind hf
    refine V.callSn (pl := [0, 1, 2, 3, 4, 5, 6, 7, 8, 9, 10, 16]) (σ' := [.inl (5, [.ref 1, .ref 3, .ref 6, .ref 8, .ref 9]), .inl (3, [.ref 2]), .inr (910, .inl State_cells), .inl (1, [.ref 4, .ref 5, .int History_oldest, .int History_size, .int History_snapshotTaken]), .inr (5460, .inl History_saved), .inr (910, .inl History_snapshot), .inl (0, [.ref 7, .int Buffer_size]), .inr (60, .inl Buffer_codes), .inl (2, [.ref (Reader_pattern + 1000), .int Reader_place]), .inl (4, [.ref 10, .int v185.2.1]), .inr (8, .inl v185.2.2.1), .inl (6, [.ref 12, .ref 13, .int M_savedMany, .ref 14, .int M_isTaken, .ref 15, .int M_length, .int M_thrown, .int M_spelt, .int M_speltMany, .int M_place, .int M_kind, .int M_one, .int M_two, .int M_three, .int M_begins, .int M_done, .int M_stopBy, .long M_hash]), .inr (406, .inl M_s), .inr (2436, .inl M_saved), .inr (406, .inl M_snapshot), .inr (60, .inl M_text), .inr (1, .inr v185.2.2.2)]) (st2 := [.int v185.1]) (cl2 := (cl + 1)) (sl2 := (sl + 6)) (ct_L_noGift (a1 := v182) (a2 := v183) (a3 := v184) (State_cells := State_cells) (History_oldest := History_oldest) (History_size := History_size) (History_snapshotTaken := History_snapshotTaken) (History_saved := History_saved) (History_snapshot := History_snapshot) (Buffer_size := Buffer_size) (Buffer_codes := Buffer_codes) (Reader_pattern := Reader_pattern) (Reader_place := Reader_place) (Word_size := Word_size) (Word_letters := Word_letters) (out4 := out) hv185) dL_law_1535 w1015 w1016 cal_L_noGift ⟨⟨Nat.le_of_ble_eq_true rfl, Nat.le_of_ble_eq_true rfl⟩, (show cl + 1 ≤ 1062 by omega), (show sl + 6 ≤ 19011 by omega)⟩ (Nat.le_of_ble_eq_true rfl) rfl ⟨rfl, ⟨by decide, by decide⟩, rfl, (fr_cons (Or.inl (Nat.le_of_ble_eq_true rfl)) (fr_cons (Or.inl (Nat.le_of_ble_eq_true rfl)) (fr_cons (Or.inl (Nat.le_of_ble_eq_true rfl)) (fr_cons (Or.inl (Nat.le_of_ble_eq_true rfl)) (fr_cons (Or.inl (Nat.le_of_ble_eq_true rfl)) (fr_cons (Or.inl (Nat.le_of_ble_eq_true rfl)) (fr_cons (Or.inl (Nat.le_of_ble_eq_true rfl)) (fr_cons (Or.inl (Nat.le_of_ble_eq_true rfl)) (fr_cons (Or.inl (Nat.le_of_ble_eq_true rfl)) (fr_cons (Or.inr (Nat.le_add_left 1000 _)) (fr_cons (Or.inl (Nat.le_of_ble_eq_true rfl)) (fr_nil)))))))))))), rfl⟩ fr_i rfl rfl rfl rfl ?_
    refine V.istore (i := 5) (L' := [some (.ref 3000), some (.ref 0), some (.ref 11), some (.ref 16), some (.int p4), some (.int v185.1), none, none, none]) dL_law_1538 (Nat.le_of_ble_eq_true rfl) rfl rfl ?_
    refine V.aload_n (i := 2) dL_law_1540 rfl rfl ?_
    refine V.aload_n (i := 0) dL_law_1541 rfl rfl ?_
    refine V.iload (i := 4) dL_law_1542 rfl ?_
    refine V.iconst (v := 1) dL_law_1544 rfl ?_
    refine V.iadd dL_law_1545 ?_
    obtain ⟨hi, v186, ev186, hf⟩ := fld_e hf
    refine V.sload dL_law_1546 hi ?_
    refine V.cgi ev186 ?_
    refine V.aload_n (i := 0) dL_law_1547 rfl rfl ?_
    refine V.iload (i := 4) dL_law_1548 rfl ?_
    refine V.iconst (v := 2) dL_law_1550 rfl ?_
    refine V.iadd dL_law_1551 ?_
    obtain ⟨hi, v187, ev187, hf⟩ := fld_e hf
    refine V.sload dL_law_1552 hi ?_
    refine V.cgi ev187 ?_
    refine V.aload_n (i := 0) dL_law_1553 rfl rfl ?_
    refine V.iload (i := 4) dL_law_1554 rfl ?_
    refine V.iconst (v := 3) dL_law_1556 rfl ?_
    refine V.iadd dL_law_1557 ?_
    obtain ⟨hi, v188, ev188, hf⟩ := fld_e hf
    refine V.sload dL_law_1558 hi ?_
    refine V.cgi ev188 ?_
    obtain ⟨v189, hv189, hf⟩ := fbind hf
    refine V.callVn (pl := [11, 12, 13, 14, 15]) (σ' := [.inl (5, [.ref 1, .ref 3, .ref 6, .ref 8, .ref 9]), .inl (3, [.ref 2]), .inr (910, .inl State_cells), .inl (1, [.ref 4, .ref 5, .int History_oldest, .int History_size, .int History_snapshotTaken]), .inr (5460, .inl History_saved), .inr (910, .inl History_snapshot), .inl (0, [.ref 7, .int Buffer_size]), .inr (60, .inl Buffer_codes), .inl (2, [.ref (Reader_pattern + 1000), .int Reader_place]), .inl (4, [.ref 10, .int v185.2.1]), .inr (8, .inl v185.2.2.1), .inl (6, [.ref 12, .ref 13, .int M_savedMany, .ref 14, .int M_isTaken, .ref 15, .int M_length, .int v189.2, .int M_spelt, .int M_speltMany, .int M_place, .int M_kind, .int M_one, .int M_two, .int M_three, .int M_begins, .int M_done, .int M_stopBy, .long M_hash]), .inr (406, .inl M_s), .inr (2436, .inl M_saved), .inr (406, .inl M_snapshot), .inr (60, .inl M_text), .inr (1, .inr v185.2.2.2)]) (st2 := [.int v189.1]) (cl2 := (cl + 1)) (sl2 := (sl + 6)) (ct_X11_noGift (a1 := v186) (a2 := v187) (a3 := v188) (M_savedMany := M_savedMany) (M_isTaken := M_isTaken) (M_length := M_length) (M_thrown := M_thrown) (M_spelt := M_spelt) (M_speltMany := M_speltMany) (M_place := M_place) (M_kind := M_kind) (M_one := M_one) (M_two := M_two) (M_three := M_three) (M_begins := M_begins) (M_done := M_done) (M_stopBy := M_stopBy) (M_hash := M_hash) (M_s := M_s) (M_saved := M_saved) (M_snapshot := M_snapshot) (M_text := M_text) hv189) dL_law_1559 w1439 ⟨w1440, w1441⟩ cal_X11_noGift rfl ⟨⟨Nat.le_of_ble_eq_true rfl, Nat.le_of_ble_eq_true rfl⟩, (show (cl + 1) + 0 ≤ 1062 by omega), (show (sl + 6) + 0 ≤ 19011 by omega)⟩ (Nat.le_of_ble_eq_true rfl) (Or.inl ⟨_, _, _, _, rfl, rfl⟩) rfl ⟨rfl, ⟨by decide, by decide⟩, rfl, (fr_cons (Or.inl (Nat.le_of_ble_eq_true rfl)) (fr_cons (Or.inl (Nat.le_of_ble_eq_true rfl)) (fr_cons (Or.inl (Nat.le_of_ble_eq_true rfl)) (fr_cons (Or.inl (Nat.le_of_ble_eq_true rfl)) (fr_nil))))), rfl⟩ fr_i rfl rfl rfl rfl ?_
    refine V.istore (i := 6) (L' := [some (.ref 3000), some (.ref 0), some (.ref 11), some (.ref 16), some (.int p4), some (.int v185.1), some (.int v189.1), none, none]) dL_law_1562 (Nat.le_of_ble_eq_true rfl) rfl rfl ?_
    refine V.aload_n (i := 2) dL_law_1564 rfl rfl ?_
    obtain ⟨v190, hv190, hf⟩ := fbind hf
    refine V.callVn (pl := [11, 12, 13, 14, 15]) (σ' := [.inl (5, [.ref 1, .ref 3, .ref 6, .ref 8, .ref 9]), .inl (3, [.ref 2]), .inr (910, .inl State_cells), .inl (1, [.ref 4, .ref 5, .int History_oldest, .int History_size, .int History_snapshotTaken]), .inr (5460, .inl History_saved), .inr (910, .inl History_snapshot), .inl (0, [.ref 7, .int Buffer_size]), .inr (60, .inl Buffer_codes), .inl (2, [.ref (Reader_pattern + 1000), .int Reader_place]), .inl (4, [.ref 10, .int v185.2.1]), .inr (8, .inl v185.2.2.1), .inl (6, [.ref 12, .ref 13, .int M_savedMany, .ref 14, .int M_isTaken, .ref 15, .int M_length, .int v189.2, .int M_spelt, .int M_speltMany, .int M_place, .int M_kind, .int M_one, .int M_two, .int M_three, .int M_begins, .int M_done, .int M_stopBy, .long M_hash]), .inr (406, .inl M_s), .inr (2436, .inl M_saved), .inr (406, .inl M_snapshot), .inr (60, .inl M_text), .inr (1, .inr v185.2.2.2)]) (st2 := [.int v190]) (cl2 := (cl + 1)) (sl2 := (sl + 6)) (ct_X11_thrown (M_savedMany := M_savedMany) (M_isTaken := M_isTaken) (M_length := M_length) (M_thrown := v189.2) (M_spelt := M_spelt) (M_speltMany := M_speltMany) (M_place := M_place) (M_kind := M_kind) (M_one := M_one) (M_two := M_two) (M_three := M_three) (M_begins := M_begins) (M_done := M_done) (M_stopBy := M_stopBy) (M_hash := M_hash) (M_s := M_s) (M_saved := M_saved) (M_snapshot := M_snapshot) (M_text := M_text) hv190) dL_law_1565 w1101 ⟨w1102, w1103⟩ cal_X11_thrown rfl ⟨⟨Nat.le_of_ble_eq_true rfl, Nat.le_of_ble_eq_true rfl⟩, (show (cl + 1) + 0 ≤ 1062 by omega), (show (sl + 6) + 0 ≤ 19011 by omega)⟩ (Nat.le_of_ble_eq_true rfl) (Or.inl ⟨_, _, _, _, rfl, rfl⟩) rfl ⟨rfl, ⟨by decide, by decide⟩, rfl, (fr_cons (Or.inl (Nat.le_of_ble_eq_true rfl)) (fr_cons (Or.inl (Nat.le_of_ble_eq_true rfl)) (fr_cons (Or.inl (Nat.le_of_ble_eq_true rfl)) (fr_cons (Or.inl (Nat.le_of_ble_eq_true rfl)) (fr_nil))))), rfl⟩ fr_i rfl rfl rfl rfl ?_
    refine V.iload (i := 5) dL_law_1568 rfl ?_
    refine V.icmp_eq (tgt := 1575) dL_law_1570 (by decide) (fun h => ?_) (fun h => ?_)
    · have hf := fif_t h hf
      refine V.iload (i := 5) dL_law_1575 rfl ?_
      refine V.if_ne (tgt := 1592) dL_law_1577 (by decide) (fun h => ?_) (fun h => ?_)
      · have hf := fif_f h hf
        refine V.goto (tgt := 1762) dL_law_1592 (by decide) ?_
        obtain rfl := Option.some.inj hf
        exact V.locs (L' := [some (.ref 3000), some (.ref 0), some (.ref 11), some (.ref 16), some (.int p4), none, none, none, none]) ⟨rfl, ⟨rfl, ⟨rfl, ⟨rfl, ⟨rfl, trivial⟩⟩⟩⟩⟩ (V.wide (by omega) (by omega) hx)
      · have hf := fif_t h hf
        refine V.aload_n (i := 3) dL_law_1580 rfl rfl ?_
        refine V.iconst (v := 0) dL_law_1581 rfl ?_
        obtain ⟨hi, v191, ev191, hf⟩ := fld_e hf
        refine V.fldL dL_law_1582 rfl hi ev191 ?_
        refine V.iload (i := 6) dL_law_1583 rfl ?_
        refine V.i2l dL_law_1585 ?_
        refine V.lcmp dL_law_1586 ?_
        refine V.if_eq (tgt := 1592) dL_law_1587 (by decide) (fun h => ?_) (fun h => ?_)
        · have hf := fif_t h hf
          refine V.goto (tgt := 1762) dL_law_1592 (by decide) ?_
          obtain rfl := Option.some.inj hf
          exact V.locs (L' := [some (.ref 3000), some (.ref 0), some (.ref 11), some (.ref 16), some (.int p4), none, none, none, none]) ⟨rfl, ⟨rfl, ⟨rfl, ⟨rfl, ⟨rfl, trivial⟩⟩⟩⟩⟩ (V.wide (by omega) (by omega) hx)
        · have hf := fif_f h hf
          refine V.iconst (v := 0) dL_law_1590 rfl ?_
          cases hf
    · have hf := fif_f h hf
      refine V.iconst (v := 0) dL_law_1573 rfl ?_
      cases hf
def s_L_law_L1595 (a0n : Nat) (a0 : Nat → Int32) (p4 : Int32) (State_cells : Nat → Int32) (M_s : Nat → Int32) : Nat → (Int32) → (Nat → Int64) → Option ((Int32) × (Nat → Int64))
  | 0, _, _ => none
  | n + 1, M_thrown, out => fld a0n a0 (p4 + 1) fun v193 => fld a0n a0 (p4 + 2) fun v194 => (s_L_ifStorm v193 v194 State_cells out).bind fun v195 => fld a0n a0 (p4 + 1) fun v196 => fld a0n a0 (p4 + 2) fun v197 => (s_X11_ifStorm v196 v197 M_thrown M_s).bind fun v198 => (s_X11_thrown v198.2).bind fun v199 => if (v199 = v195.1 : Prop) then (if (v195.1 = 0 : Prop) then (fld 1 v195.2 0 fun v200 => if ((lg_cmp v200 (Int32.toInt64 v198.1)) = 0 : Prop) then (some (v198.2, v195.2)) else (none)) else (some (v198.2, v195.2))) else (none)
set_option maxHeartbeats 4000000 in
set_option maxRecDepth 100000 in
theorem v_L_law_L1595 {a0n : Nat} {a0 : Nat → Int32} {p4 : Int32} {State_cells : Nat → Int32} {History_oldest : Int32} {History_size : Int32} {History_snapshotTaken : Int32} {History_saved : Nat → Int32} {History_snapshot : Nat → Int32} {Buffer_size : Int32} {Buffer_codes : Nat → Int32} {Reader_pattern : Nat} {Reader_place : Int32} {Word_size : Int32} {Word_letters : Nat → Int32} {M_savedMany : Int32} {M_isTaken : Int32} {M_length : Int32} {M_spelt : Int32} {M_speltMany : Int32} {M_place : Int32} {M_kind : Int32} {M_one : Int32} {M_two : Int32} {M_three : Int32} {M_begins : Int32} {M_done : Int32} {M_stopBy : Int32} {M_hash : Int64} {M_s : Nat → Int32} {M_saved : Nat → Int32} {M_snapshot : Nat → Int32} {M_text : Nat → Int32} : ∀ (n : Nat) {M_thrown : (Int32)} {out : (Nat → Int64)} {res : (Int32) × (Nat → Int64)} (hf : s_L_law_L1595 a0n a0 p4 State_cells M_s n M_thrown out = some res) {cl sl : Nat} (hc : cl + 1 ≤ 1062) (hs : sl + 6 ≤ 19011) (hx : V (fXlaw a0n a0) room_1 k_L_law 0 1762 [some (.ref 3000), some (.ref 0), some (.ref 11), some (.ref 16), some (.int p4), none, none, none, none] [] [.inl (5, [.ref 1, .ref 3, .ref 6, .ref 8, .ref 9]), .inl (3, [.ref 2]), .inr (910, .inl State_cells), .inl (1, [.ref 4, .ref 5, .int History_oldest, .int History_size, .int History_snapshotTaken]), .inr (5460, .inl History_saved), .inr (910, .inl History_snapshot), .inl (0, [.ref 7, .int Buffer_size]), .inr (60, .inl Buffer_codes), .inl (2, [.ref (Reader_pattern + 1000), .int Reader_place]), .inl (4, [.ref 10, .int Word_size]), .inr (8, .inl Word_letters), .inl (6, [.ref 12, .ref 13, .int M_savedMany, .ref 14, .int M_isTaken, .ref 15, .int M_length, .int res.1, .int M_spelt, .int M_speltMany, .int M_place, .int M_kind, .int M_one, .int M_two, .int M_three, .int M_begins, .int M_done, .int M_stopBy, .long M_hash]), .inr (406, .inl M_s), .inr (2436, .inl M_saved), .inr (406, .inl M_snapshot), .inr (60, .inl M_text), .inr (1, .inr res.2)] (cl + 1) (sl + 6)), V (fXlaw a0n a0) room_1 k_L_law 0 1595 [some (.ref 3000), some (.ref 0), some (.ref 11), some (.ref 16), some (.int p4), none, none, none, none] [] [.inl (5, [.ref 1, .ref 3, .ref 6, .ref 8, .ref 9]), .inl (3, [.ref 2]), .inr (910, .inl State_cells), .inl (1, [.ref 4, .ref 5, .int History_oldest, .int History_size, .int History_snapshotTaken]), .inr (5460, .inl History_saved), .inr (910, .inl History_snapshot), .inl (0, [.ref 7, .int Buffer_size]), .inr (60, .inl Buffer_codes), .inl (2, [.ref (Reader_pattern + 1000), .int Reader_place]), .inl (4, [.ref 10, .int Word_size]), .inr (8, .inl Word_letters), .inl (6, [.ref 12, .ref 13, .int M_savedMany, .ref 14, .int M_isTaken, .ref 15, .int M_length, .int M_thrown, .int M_spelt, .int M_speltMany, .int M_place, .int M_kind, .int M_one, .int M_two, .int M_three, .int M_begins, .int M_done, .int M_stopBy, .long M_hash]), .inr (406, .inl M_s), .inr (2436, .inl M_saved), .inr (406, .inl M_snapshot), .inr (60, .inl M_text), .inr (1, .inr out)] cl sl := by
  intro n
  induction n with
  | zero =>
    intro M_thrown out res hf cl sl hc hs hx
    rw [s_L_law_L1595] at hf
    cases hf
  | succ n ih =>
    intro M_thrown out res hf cl sl hc hs hx
    rw [s_L_law_L1595] at hf
    refine V.aload_n (i := 1) dL_law_1595 rfl rfl ?_
    refine V.aload_n (i := 0) dL_law_1596 rfl rfl ?_
    refine V.iload (i := 4) dL_law_1597 rfl ?_
    refine V.iconst (v := 1) dL_law_1599 rfl ?_
    refine V.iadd dL_law_1600 ?_
    obtain ⟨hi, v193, ev193, hf⟩ := fld_e hf
    refine V.sload dL_law_1601 hi ?_
    refine V.cgi ev193 ?_
    refine V.aload_n (i := 0) dL_law_1602 rfl rfl ?_
    refine V.iload (i := 4) dL_law_1603 rfl ?_
    refine V.iconst (v := 2) dL_law_1605 rfl ?_
    refine V.iadd dL_law_1606 ?_
    obtain ⟨hi, v194, ev194, hf⟩ := fld_e hf
    refine V.sload dL_law_1607 hi ?_
    refine V.cgi ev194 ?_
    refine V.aload_n (i := 3) dL_law_1608 rfl rfl ?_
    obtain ⟨v195, hv195, hf⟩ := fbind hf
    refine V.callSn (pl := [0, 1, 2, 3, 4, 5, 6, 7, 8, 9, 10, 16]) (σ' := [.inl (5, [.ref 1, .ref 3, .ref 6, .ref 8, .ref 9]), .inl (3, [.ref 2]), .inr (910, .inl State_cells), .inl (1, [.ref 4, .ref 5, .int History_oldest, .int History_size, .int History_snapshotTaken]), .inr (5460, .inl History_saved), .inr (910, .inl History_snapshot), .inl (0, [.ref 7, .int Buffer_size]), .inr (60, .inl Buffer_codes), .inl (2, [.ref (Reader_pattern + 1000), .int Reader_place]), .inl (4, [.ref 10, .int Word_size]), .inr (8, .inl Word_letters), .inl (6, [.ref 12, .ref 13, .int M_savedMany, .ref 14, .int M_isTaken, .ref 15, .int M_length, .int M_thrown, .int M_spelt, .int M_speltMany, .int M_place, .int M_kind, .int M_one, .int M_two, .int M_three, .int M_begins, .int M_done, .int M_stopBy, .long M_hash]), .inr (406, .inl M_s), .inr (2436, .inl M_saved), .inr (406, .inl M_snapshot), .inr (60, .inl M_text), .inr (1, .inr v195.2)]) (st2 := [.int v195.1]) (cl2 := (cl + 1)) (sl2 := (sl + 6)) (ct_L_ifStorm (a1 := v193) (a2 := v194) (State_cells := State_cells) (History_oldest := History_oldest) (History_size := History_size) (History_snapshotTaken := History_snapshotTaken) (History_saved := History_saved) (History_snapshot := History_snapshot) (Buffer_size := Buffer_size) (Buffer_codes := Buffer_codes) (Reader_pattern := Reader_pattern) (Reader_place := Reader_place) (Word_size := Word_size) (Word_letters := Word_letters) (out3 := out) hv195) dL_law_1609 w1022 w1023 cal_L_ifStorm ⟨⟨Nat.le_of_ble_eq_true rfl, Nat.le_of_ble_eq_true rfl⟩, (show cl + 1 ≤ 1062 by omega), (show sl + 6 ≤ 19011 by omega)⟩ (Nat.le_of_ble_eq_true rfl) rfl ⟨rfl, ⟨by decide, by decide⟩, rfl, (fr_cons (Or.inl (Nat.le_of_ble_eq_true rfl)) (fr_cons (Or.inl (Nat.le_of_ble_eq_true rfl)) (fr_cons (Or.inl (Nat.le_of_ble_eq_true rfl)) (fr_cons (Or.inl (Nat.le_of_ble_eq_true rfl)) (fr_cons (Or.inl (Nat.le_of_ble_eq_true rfl)) (fr_cons (Or.inl (Nat.le_of_ble_eq_true rfl)) (fr_cons (Or.inl (Nat.le_of_ble_eq_true rfl)) (fr_cons (Or.inl (Nat.le_of_ble_eq_true rfl)) (fr_cons (Or.inl (Nat.le_of_ble_eq_true rfl)) (fr_cons (Or.inr (Nat.le_add_left 1000 _)) (fr_cons (Or.inl (Nat.le_of_ble_eq_true rfl)) (fr_nil)))))))))))), rfl⟩ fr_i rfl rfl rfl rfl ?_
    refine V.istore (i := 5) (L' := [some (.ref 3000), some (.ref 0), some (.ref 11), some (.ref 16), some (.int p4), some (.int v195.1), none, none, none]) dL_law_1612 (Nat.le_of_ble_eq_true rfl) rfl rfl ?_
    refine V.aload_n (i := 2) dL_law_1614 rfl rfl ?_
    refine V.aload_n (i := 0) dL_law_1615 rfl rfl ?_
    refine V.iload (i := 4) dL_law_1616 rfl ?_
    refine V.iconst (v := 1) dL_law_1618 rfl ?_
    refine V.iadd dL_law_1619 ?_
    obtain ⟨hi, v196, ev196, hf⟩ := fld_e hf
    refine V.sload dL_law_1620 hi ?_
    refine V.cgi ev196 ?_
    refine V.aload_n (i := 0) dL_law_1621 rfl rfl ?_
    refine V.iload (i := 4) dL_law_1622 rfl ?_
    refine V.iconst (v := 2) dL_law_1624 rfl ?_
    refine V.iadd dL_law_1625 ?_
    obtain ⟨hi, v197, ev197, hf⟩ := fld_e hf
    refine V.sload dL_law_1626 hi ?_
    refine V.cgi ev197 ?_
    obtain ⟨v198, hv198, hf⟩ := fbind hf
    refine V.callVn (pl := [11, 12, 13, 14, 15]) (σ' := [.inl (5, [.ref 1, .ref 3, .ref 6, .ref 8, .ref 9]), .inl (3, [.ref 2]), .inr (910, .inl State_cells), .inl (1, [.ref 4, .ref 5, .int History_oldest, .int History_size, .int History_snapshotTaken]), .inr (5460, .inl History_saved), .inr (910, .inl History_snapshot), .inl (0, [.ref 7, .int Buffer_size]), .inr (60, .inl Buffer_codes), .inl (2, [.ref (Reader_pattern + 1000), .int Reader_place]), .inl (4, [.ref 10, .int Word_size]), .inr (8, .inl Word_letters), .inl (6, [.ref 12, .ref 13, .int M_savedMany, .ref 14, .int M_isTaken, .ref 15, .int M_length, .int v198.2, .int M_spelt, .int M_speltMany, .int M_place, .int M_kind, .int M_one, .int M_two, .int M_three, .int M_begins, .int M_done, .int M_stopBy, .long M_hash]), .inr (406, .inl M_s), .inr (2436, .inl M_saved), .inr (406, .inl M_snapshot), .inr (60, .inl M_text), .inr (1, .inr v195.2)]) (st2 := [.int v198.1]) (cl2 := (cl + 1)) (sl2 := (sl + 6)) (ct_X11_ifStorm (a1 := v196) (a2 := v197) (M_savedMany := M_savedMany) (M_isTaken := M_isTaken) (M_length := M_length) (M_thrown := M_thrown) (M_spelt := M_spelt) (M_speltMany := M_speltMany) (M_place := M_place) (M_kind := M_kind) (M_one := M_one) (M_two := M_two) (M_three := M_three) (M_begins := M_begins) (M_done := M_done) (M_stopBy := M_stopBy) (M_hash := M_hash) (M_s := M_s) (M_saved := M_saved) (M_snapshot := M_snapshot) (M_text := M_text) hv198) dL_law_1627 w1443 ⟨w1444, w1445⟩ cal_X11_ifStorm rfl ⟨⟨Nat.le_of_ble_eq_true rfl, Nat.le_of_ble_eq_true rfl⟩, (show (cl + 1) + 0 ≤ 1062 by omega), (show (sl + 6) + 0 ≤ 19011 by omega)⟩ (Nat.le_of_ble_eq_true rfl) (Or.inl ⟨_, _, _, _, rfl, rfl⟩) rfl ⟨rfl, ⟨by decide, by decide⟩, rfl, (fr_cons (Or.inl (Nat.le_of_ble_eq_true rfl)) (fr_cons (Or.inl (Nat.le_of_ble_eq_true rfl)) (fr_cons (Or.inl (Nat.le_of_ble_eq_true rfl)) (fr_cons (Or.inl (Nat.le_of_ble_eq_true rfl)) (fr_nil))))), rfl⟩ fr_i rfl rfl rfl rfl ?_
    refine V.istore (i := 6) (L' := [some (.ref 3000), some (.ref 0), some (.ref 11), some (.ref 16), some (.int p4), some (.int v195.1), some (.int v198.1), none, none]) dL_law_1630 (Nat.le_of_ble_eq_true rfl) rfl rfl ?_
    refine V.aload_n (i := 2) dL_law_1632 rfl rfl ?_
    obtain ⟨v199, hv199, hf⟩ := fbind hf
    refine V.callVn (pl := [11, 12, 13, 14, 15]) (σ' := [.inl (5, [.ref 1, .ref 3, .ref 6, .ref 8, .ref 9]), .inl (3, [.ref 2]), .inr (910, .inl State_cells), .inl (1, [.ref 4, .ref 5, .int History_oldest, .int History_size, .int History_snapshotTaken]), .inr (5460, .inl History_saved), .inr (910, .inl History_snapshot), .inl (0, [.ref 7, .int Buffer_size]), .inr (60, .inl Buffer_codes), .inl (2, [.ref (Reader_pattern + 1000), .int Reader_place]), .inl (4, [.ref 10, .int Word_size]), .inr (8, .inl Word_letters), .inl (6, [.ref 12, .ref 13, .int M_savedMany, .ref 14, .int M_isTaken, .ref 15, .int M_length, .int v198.2, .int M_spelt, .int M_speltMany, .int M_place, .int M_kind, .int M_one, .int M_two, .int M_three, .int M_begins, .int M_done, .int M_stopBy, .long M_hash]), .inr (406, .inl M_s), .inr (2436, .inl M_saved), .inr (406, .inl M_snapshot), .inr (60, .inl M_text), .inr (1, .inr v195.2)]) (st2 := [.int v199]) (cl2 := (cl + 1)) (sl2 := (sl + 6)) (ct_X11_thrown (M_savedMany := M_savedMany) (M_isTaken := M_isTaken) (M_length := M_length) (M_thrown := v198.2) (M_spelt := M_spelt) (M_speltMany := M_speltMany) (M_place := M_place) (M_kind := M_kind) (M_one := M_one) (M_two := M_two) (M_three := M_three) (M_begins := M_begins) (M_done := M_done) (M_stopBy := M_stopBy) (M_hash := M_hash) (M_s := M_s) (M_saved := M_saved) (M_snapshot := M_snapshot) (M_text := M_text) hv199) dL_law_1633 w1101 ⟨w1102, w1103⟩ cal_X11_thrown rfl ⟨⟨Nat.le_of_ble_eq_true rfl, Nat.le_of_ble_eq_true rfl⟩, (show (cl + 1) + 0 ≤ 1062 by omega), (show (sl + 6) + 0 ≤ 19011 by omega)⟩ (Nat.le_of_ble_eq_true rfl) (Or.inl ⟨_, _, _, _, rfl, rfl⟩) rfl ⟨rfl, ⟨by decide, by decide⟩, rfl, (fr_cons (Or.inl (Nat.le_of_ble_eq_true rfl)) (fr_cons (Or.inl (Nat.le_of_ble_eq_true rfl)) (fr_cons (Or.inl (Nat.le_of_ble_eq_true rfl)) (fr_cons (Or.inl (Nat.le_of_ble_eq_true rfl)) (fr_nil))))), rfl⟩ fr_i rfl rfl rfl rfl ?_
    refine V.iload (i := 5) dL_law_1636 rfl ?_
    refine V.icmp_eq (tgt := 1643) dL_law_1638 (by decide) (fun h => ?_) (fun h => ?_)
    · have hf := fif_t h hf
      refine V.iload (i := 5) dL_law_1643 rfl ?_
      refine V.if_ne (tgt := 1660) dL_law_1645 (by decide) (fun h => ?_) (fun h => ?_)
      · have hf := fif_f h hf
        refine V.goto (tgt := 1762) dL_law_1660 (by decide) ?_
        obtain rfl := Option.some.inj hf
        exact V.locs (L' := [some (.ref 3000), some (.ref 0), some (.ref 11), some (.ref 16), some (.int p4), none, none, none, none]) ⟨rfl, ⟨rfl, ⟨rfl, ⟨rfl, ⟨rfl, trivial⟩⟩⟩⟩⟩ (V.wide (by omega) (by omega) hx)
      · have hf := fif_t h hf
        refine V.aload_n (i := 3) dL_law_1648 rfl rfl ?_
        refine V.iconst (v := 0) dL_law_1649 rfl ?_
        obtain ⟨hi, v200, ev200, hf⟩ := fld_e hf
        refine V.fldL dL_law_1650 rfl hi ev200 ?_
        refine V.iload (i := 6) dL_law_1651 rfl ?_
        refine V.i2l dL_law_1653 ?_
        refine V.lcmp dL_law_1654 ?_
        refine V.if_eq (tgt := 1660) dL_law_1655 (by decide) (fun h => ?_) (fun h => ?_)
        · have hf := fif_t h hf
          refine V.goto (tgt := 1762) dL_law_1660 (by decide) ?_
          obtain rfl := Option.some.inj hf
          exact V.locs (L' := [some (.ref 3000), some (.ref 0), some (.ref 11), some (.ref 16), some (.int p4), none, none, none, none]) ⟨rfl, ⟨rfl, ⟨rfl, ⟨rfl, ⟨rfl, trivial⟩⟩⟩⟩⟩ (V.wide (by omega) (by omega) hx)
        · have hf := fif_f h hf
          refine V.iconst (v := 0) dL_law_1658 rfl ?_
          cases hf
    · have hf := fif_f h hf
      refine V.iconst (v := 0) dL_law_1641 rfl ?_
      cases hf
def s_L_law_L1663 (a0n : Nat) (a0 : Nat → Int32) (State_cells : Nat → Int32) (Buffer_size : Int32) (Buffer_codes : Nat → Int32) (M_length : Int32) (M_s : Nat → Int32) (M_text : Nat → Int32) : Nat → (Int32) → (Nat → Int32) → (Int32) → (Int32) → (Int32) → (Nat → Int64) → Option ((Int32) × (Nat → Int32) × (Int32) × (Int32) × (Int32) × (Nat → Int64))
  | 0, _, _, _, _, _, _ => none
  | n + 1, Word_size, Word_letters, M_thrown, M_spelt, M_speltMany, out => (s_L_bestBelt State_cells Buffer_size Buffer_codes Word_size Word_letters out).bind fun v202 => (s_X11_bestBelt M_length M_thrown M_spelt M_speltMany M_s M_text).bind fun v203 => (s_X11_thrown v203.2.1).bind fun v204 => if (v204 = v202.1 : Prop) then (if (v202.1 = 0 : Prop) then (fld 1 v202.2.2.2 0 fun v205 => if ((lg_cmp v205 (Int32.toInt64 v203.1)) = 0 : Prop) then (some (v202.2.1, v202.2.2.1, v203.2.1, v203.2.2.1, v203.2.2.2, v202.2.2.2)) else (none)) else (some (v202.2.1, v202.2.2.1, v203.2.1, v203.2.2.1, v203.2.2.2, v202.2.2.2))) else (none)
set_option maxHeartbeats 4000000 in
set_option maxRecDepth 100000 in
theorem v_L_law_L1663 {a0n : Nat} {a0 : Nat → Int32} {p4 : Int32} {State_cells : Nat → Int32} {History_oldest : Int32} {History_size : Int32} {History_snapshotTaken : Int32} {History_saved : Nat → Int32} {History_snapshot : Nat → Int32} {Buffer_size : Int32} {Buffer_codes : Nat → Int32} {Reader_pattern : Nat} {Reader_place : Int32} {M_savedMany : Int32} {M_isTaken : Int32} {M_length : Int32} {M_place : Int32} {M_kind : Int32} {M_one : Int32} {M_two : Int32} {M_three : Int32} {M_begins : Int32} {M_done : Int32} {M_stopBy : Int32} {M_hash : Int64} {M_s : Nat → Int32} {M_saved : Nat → Int32} {M_snapshot : Nat → Int32} {M_text : Nat → Int32} : ∀ (n : Nat) {Word_size : (Int32)} {Word_letters : (Nat → Int32)} {M_thrown : (Int32)} {M_spelt : (Int32)} {M_speltMany : (Int32)} {out : (Nat → Int64)} {res : (Int32) × (Nat → Int32) × (Int32) × (Int32) × (Int32) × (Nat → Int64)} (hf : s_L_law_L1663 a0n a0 State_cells Buffer_size Buffer_codes M_length M_s M_text n Word_size Word_letters M_thrown M_spelt M_speltMany out = some res) {cl sl : Nat} (hc : cl + 1 ≤ 1062) (hs : sl + 6 ≤ 19011) (hx : V (fXlaw a0n a0) room_1 k_L_law 0 1762 [some (.ref 3000), some (.ref 0), some (.ref 11), some (.ref 16), some (.int p4), none, none, none, none] [] [.inl (5, [.ref 1, .ref 3, .ref 6, .ref 8, .ref 9]), .inl (3, [.ref 2]), .inr (910, .inl State_cells), .inl (1, [.ref 4, .ref 5, .int History_oldest, .int History_size, .int History_snapshotTaken]), .inr (5460, .inl History_saved), .inr (910, .inl History_snapshot), .inl (0, [.ref 7, .int Buffer_size]), .inr (60, .inl Buffer_codes), .inl (2, [.ref (Reader_pattern + 1000), .int Reader_place]), .inl (4, [.ref 10, .int res.1]), .inr (8, .inl res.2.1), .inl (6, [.ref 12, .ref 13, .int M_savedMany, .ref 14, .int M_isTaken, .ref 15, .int M_length, .int res.2.2.1, .int res.2.2.2.1, .int res.2.2.2.2.1, .int M_place, .int M_kind, .int M_one, .int M_two, .int M_three, .int M_begins, .int M_done, .int M_stopBy, .long M_hash]), .inr (406, .inl M_s), .inr (2436, .inl M_saved), .inr (406, .inl M_snapshot), .inr (60, .inl M_text), .inr (1, .inr res.2.2.2.2.2)] (cl + 1) (sl + 6)), V (fXlaw a0n a0) room_1 k_L_law 0 1663 [some (.ref 3000), some (.ref 0), some (.ref 11), some (.ref 16), some (.int p4), none, none, none, none] [] [.inl (5, [.ref 1, .ref 3, .ref 6, .ref 8, .ref 9]), .inl (3, [.ref 2]), .inr (910, .inl State_cells), .inl (1, [.ref 4, .ref 5, .int History_oldest, .int History_size, .int History_snapshotTaken]), .inr (5460, .inl History_saved), .inr (910, .inl History_snapshot), .inl (0, [.ref 7, .int Buffer_size]), .inr (60, .inl Buffer_codes), .inl (2, [.ref (Reader_pattern + 1000), .int Reader_place]), .inl (4, [.ref 10, .int Word_size]), .inr (8, .inl Word_letters), .inl (6, [.ref 12, .ref 13, .int M_savedMany, .ref 14, .int M_isTaken, .ref 15, .int M_length, .int M_thrown, .int M_spelt, .int M_speltMany, .int M_place, .int M_kind, .int M_one, .int M_two, .int M_three, .int M_begins, .int M_done, .int M_stopBy, .long M_hash]), .inr (406, .inl M_s), .inr (2436, .inl M_saved), .inr (406, .inl M_snapshot), .inr (60, .inl M_text), .inr (1, .inr out)] cl sl := by
  intro n
  induction n with
  | zero =>
    intro Word_size Word_letters M_thrown M_spelt M_speltMany out res hf cl sl hc hs hx
    rw [s_L_law_L1663] at hf
    cases hf
  | succ n ih =>
    intro Word_size Word_letters M_thrown M_spelt M_speltMany out res hf cl sl hc hs hx
    rw [s_L_law_L1663] at hf
    refine V.aload_n (i := 1) dL_law_1663 rfl rfl ?_
    refine V.aload_n (i := 3) dL_law_1664 rfl rfl ?_
    obtain ⟨v202, hv202, hf⟩ := fbind hf
    refine V.callSn (pl := [0, 1, 2, 3, 4, 5, 6, 7, 8, 9, 10, 16]) (σ' := [.inl (5, [.ref 1, .ref 3, .ref 6, .ref 8, .ref 9]), .inl (3, [.ref 2]), .inr (910, .inl State_cells), .inl (1, [.ref 4, .ref 5, .int History_oldest, .int History_size, .int History_snapshotTaken]), .inr (5460, .inl History_saved), .inr (910, .inl History_snapshot), .inl (0, [.ref 7, .int Buffer_size]), .inr (60, .inl Buffer_codes), .inl (2, [.ref (Reader_pattern + 1000), .int Reader_place]), .inl (4, [.ref 10, .int v202.2.1]), .inr (8, .inl v202.2.2.1), .inl (6, [.ref 12, .ref 13, .int M_savedMany, .ref 14, .int M_isTaken, .ref 15, .int M_length, .int M_thrown, .int M_spelt, .int M_speltMany, .int M_place, .int M_kind, .int M_one, .int M_two, .int M_three, .int M_begins, .int M_done, .int M_stopBy, .long M_hash]), .inr (406, .inl M_s), .inr (2436, .inl M_saved), .inr (406, .inl M_snapshot), .inr (60, .inl M_text), .inr (1, .inr v202.2.2.2)]) (st2 := [.int v202.1]) (cl2 := (cl + 1)) (sl2 := (sl + 6)) (ct_L_bestBelt (State_cells := State_cells) (History_oldest := History_oldest) (History_size := History_size) (History_snapshotTaken := History_snapshotTaken) (History_saved := History_saved) (History_snapshot := History_snapshot) (Buffer_size := Buffer_size) (Buffer_codes := Buffer_codes) (Reader_pattern := Reader_pattern) (Reader_place := Reader_place) (Word_size := Word_size) (Word_letters := Word_letters) (out1 := out) hv202) dL_law_1665 w1030 w1031 cal_L_bestBelt ⟨⟨Nat.le_of_ble_eq_true rfl, Nat.le_of_ble_eq_true rfl⟩, (show cl + 1 ≤ 1062 by omega), (show sl + 6 ≤ 19011 by omega)⟩ (Nat.le_of_ble_eq_true rfl) rfl ⟨rfl, ⟨by decide, by decide⟩, rfl, (fr_cons (Or.inl (Nat.le_of_ble_eq_true rfl)) (fr_cons (Or.inl (Nat.le_of_ble_eq_true rfl)) (fr_cons (Or.inl (Nat.le_of_ble_eq_true rfl)) (fr_cons (Or.inl (Nat.le_of_ble_eq_true rfl)) (fr_cons (Or.inl (Nat.le_of_ble_eq_true rfl)) (fr_cons (Or.inl (Nat.le_of_ble_eq_true rfl)) (fr_cons (Or.inl (Nat.le_of_ble_eq_true rfl)) (fr_cons (Or.inl (Nat.le_of_ble_eq_true rfl)) (fr_cons (Or.inl (Nat.le_of_ble_eq_true rfl)) (fr_cons (Or.inr (Nat.le_add_left 1000 _)) (fr_cons (Or.inl (Nat.le_of_ble_eq_true rfl)) (fr_nil)))))))))))), rfl⟩ fr_i rfl rfl rfl rfl ?_
    refine V.istore (i := 5) (L' := [some (.ref 3000), some (.ref 0), some (.ref 11), some (.ref 16), some (.int p4), some (.int v202.1), none, none, none]) dL_law_1668 (Nat.le_of_ble_eq_true rfl) rfl rfl ?_
    refine V.aload_n (i := 2) dL_law_1670 rfl rfl ?_
    obtain ⟨v203, hv203, hf⟩ := fbind hf
    refine V.callVn (pl := [11, 12, 13, 14, 15]) (σ' := [.inl (5, [.ref 1, .ref 3, .ref 6, .ref 8, .ref 9]), .inl (3, [.ref 2]), .inr (910, .inl State_cells), .inl (1, [.ref 4, .ref 5, .int History_oldest, .int History_size, .int History_snapshotTaken]), .inr (5460, .inl History_saved), .inr (910, .inl History_snapshot), .inl (0, [.ref 7, .int Buffer_size]), .inr (60, .inl Buffer_codes), .inl (2, [.ref (Reader_pattern + 1000), .int Reader_place]), .inl (4, [.ref 10, .int v202.2.1]), .inr (8, .inl v202.2.2.1), .inl (6, [.ref 12, .ref 13, .int M_savedMany, .ref 14, .int M_isTaken, .ref 15, .int M_length, .int v203.2.1, .int v203.2.2.1, .int v203.2.2.2, .int M_place, .int M_kind, .int M_one, .int M_two, .int M_three, .int M_begins, .int M_done, .int M_stopBy, .long M_hash]), .inr (406, .inl M_s), .inr (2436, .inl M_saved), .inr (406, .inl M_snapshot), .inr (60, .inl M_text), .inr (1, .inr v202.2.2.2)]) (st2 := [.int v203.1]) (cl2 := (cl + 1)) (sl2 := (sl + 6)) (ct_X11_bestBelt (M_savedMany := M_savedMany) (M_isTaken := M_isTaken) (M_length := M_length) (M_thrown := M_thrown) (M_spelt := M_spelt) (M_speltMany := M_speltMany) (M_place := M_place) (M_kind := M_kind) (M_one := M_one) (M_two := M_two) (M_three := M_three) (M_begins := M_begins) (M_done := M_done) (M_stopBy := M_stopBy) (M_hash := M_hash) (M_s := M_s) (M_saved := M_saved) (M_snapshot := M_snapshot) (M_text := M_text) hv203) dL_law_1671 w1451 ⟨w1452, w1453⟩ cal_X11_bestBelt rfl ⟨⟨Nat.le_of_ble_eq_true rfl, Nat.le_of_ble_eq_true rfl⟩, (show (cl + 1) + 0 ≤ 1062 by omega), (show (sl + 6) + 0 ≤ 19011 by omega)⟩ (Nat.le_of_ble_eq_true rfl) (Or.inl ⟨_, _, _, _, rfl, rfl⟩) rfl ⟨rfl, ⟨by decide, by decide⟩, rfl, (fr_cons (Or.inl (Nat.le_of_ble_eq_true rfl)) (fr_cons (Or.inl (Nat.le_of_ble_eq_true rfl)) (fr_cons (Or.inl (Nat.le_of_ble_eq_true rfl)) (fr_cons (Or.inl (Nat.le_of_ble_eq_true rfl)) (fr_nil))))), rfl⟩ fr_i rfl rfl rfl rfl ?_
    refine V.istore (i := 6) (L' := [some (.ref 3000), some (.ref 0), some (.ref 11), some (.ref 16), some (.int p4), some (.int v202.1), some (.int v203.1), none, none]) dL_law_1674 (Nat.le_of_ble_eq_true rfl) rfl rfl ?_
    refine V.aload_n (i := 2) dL_law_1676 rfl rfl ?_
    obtain ⟨v204, hv204, hf⟩ := fbind hf
    refine V.callVn (pl := [11, 12, 13, 14, 15]) (σ' := [.inl (5, [.ref 1, .ref 3, .ref 6, .ref 8, .ref 9]), .inl (3, [.ref 2]), .inr (910, .inl State_cells), .inl (1, [.ref 4, .ref 5, .int History_oldest, .int History_size, .int History_snapshotTaken]), .inr (5460, .inl History_saved), .inr (910, .inl History_snapshot), .inl (0, [.ref 7, .int Buffer_size]), .inr (60, .inl Buffer_codes), .inl (2, [.ref (Reader_pattern + 1000), .int Reader_place]), .inl (4, [.ref 10, .int v202.2.1]), .inr (8, .inl v202.2.2.1), .inl (6, [.ref 12, .ref 13, .int M_savedMany, .ref 14, .int M_isTaken, .ref 15, .int M_length, .int v203.2.1, .int v203.2.2.1, .int v203.2.2.2, .int M_place, .int M_kind, .int M_one, .int M_two, .int M_three, .int M_begins, .int M_done, .int M_stopBy, .long M_hash]), .inr (406, .inl M_s), .inr (2436, .inl M_saved), .inr (406, .inl M_snapshot), .inr (60, .inl M_text), .inr (1, .inr v202.2.2.2)]) (st2 := [.int v204]) (cl2 := (cl + 1)) (sl2 := (sl + 6)) (ct_X11_thrown (M_savedMany := M_savedMany) (M_isTaken := M_isTaken) (M_length := M_length) (M_thrown := v203.2.1) (M_spelt := v203.2.2.1) (M_speltMany := v203.2.2.2) (M_place := M_place) (M_kind := M_kind) (M_one := M_one) (M_two := M_two) (M_three := M_three) (M_begins := M_begins) (M_done := M_done) (M_stopBy := M_stopBy) (M_hash := M_hash) (M_s := M_s) (M_saved := M_saved) (M_snapshot := M_snapshot) (M_text := M_text) hv204) dL_law_1677 w1101 ⟨w1102, w1103⟩ cal_X11_thrown rfl ⟨⟨Nat.le_of_ble_eq_true rfl, Nat.le_of_ble_eq_true rfl⟩, (show (cl + 1) + 0 ≤ 1062 by omega), (show (sl + 6) + 0 ≤ 19011 by omega)⟩ (Nat.le_of_ble_eq_true rfl) (Or.inl ⟨_, _, _, _, rfl, rfl⟩) rfl ⟨rfl, ⟨by decide, by decide⟩, rfl, (fr_cons (Or.inl (Nat.le_of_ble_eq_true rfl)) (fr_cons (Or.inl (Nat.le_of_ble_eq_true rfl)) (fr_cons (Or.inl (Nat.le_of_ble_eq_true rfl)) (fr_cons (Or.inl (Nat.le_of_ble_eq_true rfl)) (fr_nil))))), rfl⟩ fr_i rfl rfl rfl rfl ?_
    refine V.iload (i := 5) dL_law_1680 rfl ?_
    refine V.icmp_eq (tgt := 1687) dL_law_1682 (by decide) (fun h => ?_) (fun h => ?_)
    · have hf := fif_t h hf
      refine V.iload (i := 5) dL_law_1687 rfl ?_
      refine V.if_ne (tgt := 1704) dL_law_1689 (by decide) (fun h => ?_) (fun h => ?_)
      · have hf := fif_f h hf
        refine V.goto (tgt := 1762) dL_law_1704 (by decide) ?_
        obtain rfl := Option.some.inj hf
        exact V.locs (L' := [some (.ref 3000), some (.ref 0), some (.ref 11), some (.ref 16), some (.int p4), none, none, none, none]) ⟨rfl, ⟨rfl, ⟨rfl, ⟨rfl, ⟨rfl, trivial⟩⟩⟩⟩⟩ (V.wide (by omega) (by omega) hx)
      · have hf := fif_t h hf
        refine V.aload_n (i := 3) dL_law_1692 rfl rfl ?_
        refine V.iconst (v := 0) dL_law_1693 rfl ?_
        obtain ⟨hi, v205, ev205, hf⟩ := fld_e hf
        refine V.fldL dL_law_1694 rfl hi ev205 ?_
        refine V.iload (i := 6) dL_law_1695 rfl ?_
        refine V.i2l dL_law_1697 ?_
        refine V.lcmp dL_law_1698 ?_
        refine V.if_eq (tgt := 1704) dL_law_1699 (by decide) (fun h => ?_) (fun h => ?_)
        · have hf := fif_t h hf
          refine V.goto (tgt := 1762) dL_law_1704 (by decide) ?_
          obtain rfl := Option.some.inj hf
          exact V.locs (L' := [some (.ref 3000), some (.ref 0), some (.ref 11), some (.ref 16), some (.int p4), none, none, none, none]) ⟨rfl, ⟨rfl, ⟨rfl, ⟨rfl, ⟨rfl, trivial⟩⟩⟩⟩⟩ (V.wide (by omega) (by omega) hx)
        · have hf := fif_f h hf
          refine V.iconst (v := 0) dL_law_1702 rfl ?_
          cases hf
    · have hf := fif_f h hf
      refine V.iconst (v := 0) dL_law_1685 rfl ?_
      cases hf
def s_L_law_L1707 (a0n : Nat) (a0 : Nat → Int32) (State_cells : Nat → Int32) (M_s : Nat → Int32) : Nat → (Int32) → Option ((Int32))
  | 0, _ => none
  | n + 1, M_thrown => (s_X10_trueShare State_cells).bind fun v207 => (s_X11_trueShare M_thrown M_s).bind fun v208 => if ((Op.cmpValue (FP.dcmp v207 v208.1) .l) = 0 : Prop) then (some v208.2) else (if ((Op.cmpValue (FP.dcmp v207 v207) .l) = 0 : Prop) then (none) else (if ((Op.cmpValue (FP.dcmp v208.1 v208.1) .l) = 0 : Prop) then (none) else (some v208.2)))
set_option maxHeartbeats 4000000 in
set_option maxRecDepth 100000 in
theorem v_L_law_L1707 {a0n : Nat} {a0 : Nat → Int32} {p4 : Int32} {State_cells : Nat → Int32} {History_oldest : Int32} {History_size : Int32} {History_snapshotTaken : Int32} {History_saved : Nat → Int32} {History_snapshot : Nat → Int32} {Buffer_size : Int32} {Buffer_codes : Nat → Int32} {Reader_pattern : Nat} {Reader_place : Int32} {Word_size : Int32} {Word_letters : Nat → Int32} {M_savedMany : Int32} {M_isTaken : Int32} {M_length : Int32} {M_spelt : Int32} {M_speltMany : Int32} {M_place : Int32} {M_kind : Int32} {M_one : Int32} {M_two : Int32} {M_three : Int32} {M_begins : Int32} {M_done : Int32} {M_stopBy : Int32} {M_hash : Int64} {M_s : Nat → Int32} {M_saved : Nat → Int32} {M_snapshot : Nat → Int32} {M_text : Nat → Int32} {out : Nat → Int64} : ∀ (n : Nat) {M_thrown : (Int32)} {res : (Int32)} (hf : s_L_law_L1707 a0n a0 State_cells M_s n M_thrown = some res) {cl sl : Nat} (hc : cl + 1 ≤ 1062) (hs : sl + 6 ≤ 19011) (hx : V (fXlaw a0n a0) room_1 k_L_law 0 1762 [some (.ref 3000), some (.ref 0), some (.ref 11), some (.ref 16), some (.int p4), none, none, none, none] [] [.inl (5, [.ref 1, .ref 3, .ref 6, .ref 8, .ref 9]), .inl (3, [.ref 2]), .inr (910, .inl State_cells), .inl (1, [.ref 4, .ref 5, .int History_oldest, .int History_size, .int History_snapshotTaken]), .inr (5460, .inl History_saved), .inr (910, .inl History_snapshot), .inl (0, [.ref 7, .int Buffer_size]), .inr (60, .inl Buffer_codes), .inl (2, [.ref (Reader_pattern + 1000), .int Reader_place]), .inl (4, [.ref 10, .int Word_size]), .inr (8, .inl Word_letters), .inl (6, [.ref 12, .ref 13, .int M_savedMany, .ref 14, .int M_isTaken, .ref 15, .int M_length, .int res, .int M_spelt, .int M_speltMany, .int M_place, .int M_kind, .int M_one, .int M_two, .int M_three, .int M_begins, .int M_done, .int M_stopBy, .long M_hash]), .inr (406, .inl M_s), .inr (2436, .inl M_saved), .inr (406, .inl M_snapshot), .inr (60, .inl M_text), .inr (1, .inr out)] (cl + 1) (sl + 6)), V (fXlaw a0n a0) room_1 k_L_law 0 1707 [some (.ref 3000), some (.ref 0), some (.ref 11), some (.ref 16), some (.int p4), none, none, none, none] [] [.inl (5, [.ref 1, .ref 3, .ref 6, .ref 8, .ref 9]), .inl (3, [.ref 2]), .inr (910, .inl State_cells), .inl (1, [.ref 4, .ref 5, .int History_oldest, .int History_size, .int History_snapshotTaken]), .inr (5460, .inl History_saved), .inr (910, .inl History_snapshot), .inl (0, [.ref 7, .int Buffer_size]), .inr (60, .inl Buffer_codes), .inl (2, [.ref (Reader_pattern + 1000), .int Reader_place]), .inl (4, [.ref 10, .int Word_size]), .inr (8, .inl Word_letters), .inl (6, [.ref 12, .ref 13, .int M_savedMany, .ref 14, .int M_isTaken, .ref 15, .int M_length, .int M_thrown, .int M_spelt, .int M_speltMany, .int M_place, .int M_kind, .int M_one, .int M_two, .int M_three, .int M_begins, .int M_done, .int M_stopBy, .long M_hash]), .inr (406, .inl M_s), .inr (2436, .inl M_saved), .inr (406, .inl M_snapshot), .inr (60, .inl M_text), .inr (1, .inr out)] cl sl := by
  intro n
  induction n with
  | zero =>
    intro M_thrown res hf cl sl hc hs hx
    rw [s_L_law_L1707] at hf
    cases hf
  | succ n ih =>
    intro M_thrown res hf cl sl hc hs hx
    rw [s_L_law_L1707] at hf
    refine V.aload_n (i := 1) dL_law_1707 rfl rfl ?_
    obtain ⟨v207, hv207, hf⟩ := fbind hf
    refine V.callVn (pl := [0, 1, 2, 3, 4, 5, 6, 7, 8, 9, 10]) (σ' := [.inl (5, [.ref 1, .ref 3, .ref 6, .ref 8, .ref 9]), .inl (3, [.ref 2]), .inr (910, .inl State_cells), .inl (1, [.ref 4, .ref 5, .int History_oldest, .int History_size, .int History_snapshotTaken]), .inr (5460, .inl History_saved), .inr (910, .inl History_snapshot), .inl (0, [.ref 7, .int Buffer_size]), .inr (60, .inl Buffer_codes), .inl (2, [.ref (Reader_pattern + 1000), .int Reader_place]), .inl (4, [.ref 10, .int Word_size]), .inr (8, .inl Word_letters), .inl (6, [.ref 12, .ref 13, .int M_savedMany, .ref 14, .int M_isTaken, .ref 15, .int M_length, .int M_thrown, .int M_spelt, .int M_speltMany, .int M_place, .int M_kind, .int M_one, .int M_two, .int M_three, .int M_begins, .int M_done, .int M_stopBy, .long M_hash]), .inr (406, .inl M_s), .inr (2436, .inl M_saved), .inr (406, .inl M_snapshot), .inr (60, .inl M_text), .inr (1, .inr out)]) (st2 := [.double v207]) (cl2 := cl) (sl2 := sl) (ct_X10_trueShare (State_cells := State_cells) (History_oldest := History_oldest) (History_size := History_size) (History_snapshotTaken := History_snapshotTaken) (History_saved := History_saved) (History_snapshot := History_snapshot) (Buffer_size := Buffer_size) (Buffer_codes := Buffer_codes) (Reader_pattern := Reader_pattern) (Reader_place := Reader_place) (Word_size := Word_size) (Word_letters := Word_letters) hv207) dL_law_1708 w317 ⟨w318, w319⟩ cal_X10_trueShare rfl ⟨⟨Nat.le_of_ble_eq_true rfl, Nat.le_of_ble_eq_true rfl⟩, (show cl + 0 ≤ 1062 by omega), (show sl + 0 ≤ 19011 by omega)⟩ (Nat.le_of_ble_eq_true rfl) (Or.inl ⟨_, _, _, _, rfl, rfl⟩) rfl ⟨rfl, ⟨by decide, by decide⟩, rfl, (fr_cons (Or.inl (Nat.le_of_ble_eq_true rfl)) (fr_cons (Or.inl (Nat.le_of_ble_eq_true rfl)) (fr_cons (Or.inl (Nat.le_of_ble_eq_true rfl)) (fr_cons (Or.inl (Nat.le_of_ble_eq_true rfl)) (fr_cons (Or.inl (Nat.le_of_ble_eq_true rfl)) (fr_cons (Or.inl (Nat.le_of_ble_eq_true rfl)) (fr_cons (Or.inl (Nat.le_of_ble_eq_true rfl)) (fr_cons (Or.inl (Nat.le_of_ble_eq_true rfl)) (fr_cons (Or.inl (Nat.le_of_ble_eq_true rfl)) (fr_cons (Or.inr (Nat.le_add_left 1000 _)) (fr_cons (Or.inl (Nat.le_of_ble_eq_true rfl)) (fr_nil)))))))))))), rfl⟩ fr_d rfl rfl rfl rfl ?_
    refine V.dstore (i := 5) (L' := [some (.ref 3000), some (.ref 0), some (.ref 11), some (.ref 16), some (.int p4), some (.double v207), none, none, none]) dL_law_1711 (Nat.le_of_ble_eq_true rfl) rfl rfl ?_
    refine V.aload_n (i := 2) dL_law_1713 rfl rfl ?_
    obtain ⟨v208, hv208, hf⟩ := fbind hf
    refine V.callVn (pl := [11, 12, 13, 14, 15]) (σ' := [.inl (5, [.ref 1, .ref 3, .ref 6, .ref 8, .ref 9]), .inl (3, [.ref 2]), .inr (910, .inl State_cells), .inl (1, [.ref 4, .ref 5, .int History_oldest, .int History_size, .int History_snapshotTaken]), .inr (5460, .inl History_saved), .inr (910, .inl History_snapshot), .inl (0, [.ref 7, .int Buffer_size]), .inr (60, .inl Buffer_codes), .inl (2, [.ref (Reader_pattern + 1000), .int Reader_place]), .inl (4, [.ref 10, .int Word_size]), .inr (8, .inl Word_letters), .inl (6, [.ref 12, .ref 13, .int M_savedMany, .ref 14, .int M_isTaken, .ref 15, .int M_length, .int v208.2, .int M_spelt, .int M_speltMany, .int M_place, .int M_kind, .int M_one, .int M_two, .int M_three, .int M_begins, .int M_done, .int M_stopBy, .long M_hash]), .inr (406, .inl M_s), .inr (2436, .inl M_saved), .inr (406, .inl M_snapshot), .inr (60, .inl M_text), .inr (1, .inr out)]) (st2 := [.double v208.1]) (cl2 := cl) (sl2 := sl) (ct_X11_trueShare (M_savedMany := M_savedMany) (M_isTaken := M_isTaken) (M_length := M_length) (M_thrown := M_thrown) (M_spelt := M_spelt) (M_speltMany := M_speltMany) (M_place := M_place) (M_kind := M_kind) (M_one := M_one) (M_two := M_two) (M_three := M_three) (M_begins := M_begins) (M_done := M_done) (M_stopBy := M_stopBy) (M_hash := M_hash) (M_s := M_s) (M_saved := M_saved) (M_snapshot := M_snapshot) (M_text := M_text) hv208) dL_law_1714 w1455 ⟨w1456, w1457⟩ cal_X11_trueShare rfl ⟨⟨Nat.le_of_ble_eq_true rfl, Nat.le_of_ble_eq_true rfl⟩, (show cl + 0 ≤ 1062 by omega), (show sl + 0 ≤ 19011 by omega)⟩ (Nat.le_of_ble_eq_true rfl) (Or.inl ⟨_, _, _, _, rfl, rfl⟩) rfl ⟨rfl, ⟨by decide, by decide⟩, rfl, (fr_cons (Or.inl (Nat.le_of_ble_eq_true rfl)) (fr_cons (Or.inl (Nat.le_of_ble_eq_true rfl)) (fr_cons (Or.inl (Nat.le_of_ble_eq_true rfl)) (fr_cons (Or.inl (Nat.le_of_ble_eq_true rfl)) (fr_nil))))), rfl⟩ fr_d rfl rfl rfl rfl ?_
    refine V.dstore (i := 7) (L' := [some (.ref 3000), some (.ref 0), some (.ref 11), some (.ref 16), some (.int p4), some (.double v207), none, some (.double v208.1), none]) dL_law_1717 (Nat.le_of_ble_eq_true rfl) rfl rfl ?_
    refine V.dload (i := 5) dL_law_1719 rfl ?_
    refine V.dload (i := 7) dL_law_1721 rfl ?_
    refine V.dcmp dL_law_1723 ?_
    refine V.if_eq (tgt := 1745) dL_law_1724 (by decide) (fun h => ?_) (fun h => ?_)
    · have hf := fif_t h hf
      refine V.goto (tgt := 1762) dL_law_1745 (by decide) ?_
      obtain rfl := Option.some.inj hf
      exact V.locs (L' := [some (.ref 3000), some (.ref 0), some (.ref 11), some (.ref 16), some (.int p4), none, none, none, none]) ⟨rfl, ⟨rfl, ⟨rfl, ⟨rfl, ⟨rfl, trivial⟩⟩⟩⟩⟩ (V.wide (by omega) (by omega) hx)
    · have hf := fif_f h hf
      refine V.dload (i := 5) dL_law_1727 rfl ?_
      refine V.dload (i := 5) dL_law_1729 rfl ?_
      refine V.dcmp dL_law_1731 ?_
      refine V.if_eq (tgt := 1743) dL_law_1732 (by decide) (fun h => ?_) (fun h => ?_)
      · have hf := fif_t h hf
        refine V.iconst (v := 0) dL_law_1743 rfl ?_
        cases hf
      · have hf := fif_f h hf
        refine V.dload (i := 7) dL_law_1735 rfl ?_
        refine V.dload (i := 7) dL_law_1737 rfl ?_
        refine V.dcmp dL_law_1739 ?_
        refine V.if_ne (tgt := 1745) dL_law_1740 (by decide) (fun h => ?_) (fun h => ?_)
        · have hf := fif_f h hf
          refine V.goto (tgt := 1762) dL_law_1745 (by decide) ?_
          obtain rfl := Option.some.inj hf
          exact V.locs (L' := [some (.ref 3000), some (.ref 0), some (.ref 11), some (.ref 16), some (.int p4), none, none, none, none]) ⟨rfl, ⟨rfl, ⟨rfl, ⟨rfl, ⟨rfl, trivial⟩⟩⟩⟩⟩ (V.wide (by omega) (by omega) hx)
        · have hf := fif_t h hf
          refine V.iconst (v := 0) dL_law_1743 rfl ?_
          cases hf
def s_L_law_L1748 (a0n : Nat) (a0 : Nat → Int32) (State_cells : Nat → Int32) (History_size : Int32) (Buffer_size : Int32) (Buffer_codes : Nat → Int32) (M_savedMany : Int32) (M_length : Int32) (M_s : Nat → Int32) (M_text : Nat → Int32) : Nat → (Int32) → (Int64) → Option ((Int32) × (Int64))
  | 0, _, _ => none
  | n + 1, M_thrown, M_hash => (s_X10_digest State_cells History_size Buffer_size Buffer_codes).bind fun v210 => (s_X11_digest M_savedMany M_length M_thrown M_hash M_s M_text).bind fun v211 => if ((lg_cmp v210 v211.1) = 0 : Prop) then (some (v211.2.1, v211.2.2)) else (none)
set_option maxHeartbeats 4000000 in
set_option maxRecDepth 100000 in
theorem v_L_law_L1748 {a0n : Nat} {a0 : Nat → Int32} {p4 : Int32} {State_cells : Nat → Int32} {History_oldest : Int32} {History_size : Int32} {History_snapshotTaken : Int32} {History_saved : Nat → Int32} {History_snapshot : Nat → Int32} {Buffer_size : Int32} {Buffer_codes : Nat → Int32} {Reader_pattern : Nat} {Reader_place : Int32} {Word_size : Int32} {Word_letters : Nat → Int32} {M_savedMany : Int32} {M_isTaken : Int32} {M_length : Int32} {M_spelt : Int32} {M_speltMany : Int32} {M_place : Int32} {M_kind : Int32} {M_one : Int32} {M_two : Int32} {M_three : Int32} {M_begins : Int32} {M_done : Int32} {M_stopBy : Int32} {M_s : Nat → Int32} {M_saved : Nat → Int32} {M_snapshot : Nat → Int32} {M_text : Nat → Int32} {out : Nat → Int64} : ∀ (n : Nat) {M_thrown : (Int32)} {M_hash : (Int64)} {res : (Int32) × (Int64)} (hf : s_L_law_L1748 a0n a0 State_cells History_size Buffer_size Buffer_codes M_savedMany M_length M_s M_text n M_thrown M_hash = some res) {cl sl : Nat} (hc : cl + 1 ≤ 1062) (hs : sl + 6 ≤ 19011) (hx : V (fXlaw a0n a0) room_1 k_L_law 0 1762 [some (.ref 3000), some (.ref 0), some (.ref 11), some (.ref 16), some (.int p4), none, none, none, none] [] [.inl (5, [.ref 1, .ref 3, .ref 6, .ref 8, .ref 9]), .inl (3, [.ref 2]), .inr (910, .inl State_cells), .inl (1, [.ref 4, .ref 5, .int History_oldest, .int History_size, .int History_snapshotTaken]), .inr (5460, .inl History_saved), .inr (910, .inl History_snapshot), .inl (0, [.ref 7, .int Buffer_size]), .inr (60, .inl Buffer_codes), .inl (2, [.ref (Reader_pattern + 1000), .int Reader_place]), .inl (4, [.ref 10, .int Word_size]), .inr (8, .inl Word_letters), .inl (6, [.ref 12, .ref 13, .int M_savedMany, .ref 14, .int M_isTaken, .ref 15, .int M_length, .int res.1, .int M_spelt, .int M_speltMany, .int M_place, .int M_kind, .int M_one, .int M_two, .int M_three, .int M_begins, .int M_done, .int M_stopBy, .long res.2]), .inr (406, .inl M_s), .inr (2436, .inl M_saved), .inr (406, .inl M_snapshot), .inr (60, .inl M_text), .inr (1, .inr out)] (cl + 1) (sl + 6)), V (fXlaw a0n a0) room_1 k_L_law 0 1748 [some (.ref 3000), some (.ref 0), some (.ref 11), some (.ref 16), some (.int p4), none, none, none, none] [] [.inl (5, [.ref 1, .ref 3, .ref 6, .ref 8, .ref 9]), .inl (3, [.ref 2]), .inr (910, .inl State_cells), .inl (1, [.ref 4, .ref 5, .int History_oldest, .int History_size, .int History_snapshotTaken]), .inr (5460, .inl History_saved), .inr (910, .inl History_snapshot), .inl (0, [.ref 7, .int Buffer_size]), .inr (60, .inl Buffer_codes), .inl (2, [.ref (Reader_pattern + 1000), .int Reader_place]), .inl (4, [.ref 10, .int Word_size]), .inr (8, .inl Word_letters), .inl (6, [.ref 12, .ref 13, .int M_savedMany, .ref 14, .int M_isTaken, .ref 15, .int M_length, .int M_thrown, .int M_spelt, .int M_speltMany, .int M_place, .int M_kind, .int M_one, .int M_two, .int M_three, .int M_begins, .int M_done, .int M_stopBy, .long M_hash]), .inr (406, .inl M_s), .inr (2436, .inl M_saved), .inr (406, .inl M_snapshot), .inr (60, .inl M_text), .inr (1, .inr out)] cl sl := by
  intro n
  induction n with
  | zero =>
    intro M_thrown M_hash res hf cl sl hc hs hx
    rw [s_L_law_L1748] at hf
    cases hf
  | succ n ih =>
    intro M_thrown M_hash res hf cl sl hc hs hx
    rw [s_L_law_L1748] at hf
    refine V.aload_n (i := 1) dL_law_1748 rfl rfl ?_
    obtain ⟨v210, hv210, hf⟩ := fbind hf
    refine V.callVn (pl := [0, 1, 2, 3, 4, 5, 6, 7, 8, 9, 10]) (σ' := [.inl (5, [.ref 1, .ref 3, .ref 6, .ref 8, .ref 9]), .inl (3, [.ref 2]), .inr (910, .inl State_cells), .inl (1, [.ref 4, .ref 5, .int History_oldest, .int History_size, .int History_snapshotTaken]), .inr (5460, .inl History_saved), .inr (910, .inl History_snapshot), .inl (0, [.ref 7, .int Buffer_size]), .inr (60, .inl Buffer_codes), .inl (2, [.ref (Reader_pattern + 1000), .int Reader_place]), .inl (4, [.ref 10, .int Word_size]), .inr (8, .inl Word_letters), .inl (6, [.ref 12, .ref 13, .int M_savedMany, .ref 14, .int M_isTaken, .ref 15, .int M_length, .int M_thrown, .int M_spelt, .int M_speltMany, .int M_place, .int M_kind, .int M_one, .int M_two, .int M_three, .int M_begins, .int M_done, .int M_stopBy, .long M_hash]), .inr (406, .inl M_s), .inr (2436, .inl M_saved), .inr (406, .inl M_snapshot), .inr (60, .inl M_text), .inr (1, .inr out)]) (st2 := [.long v210]) (cl2 := cl) (sl2 := sl) (ct_X10_digest (State_cells := State_cells) (History_oldest := History_oldest) (History_size := History_size) (History_snapshotTaken := History_snapshotTaken) (History_saved := History_saved) (History_snapshot := History_snapshot) (Buffer_size := Buffer_size) (Buffer_codes := Buffer_codes) (Reader_pattern := Reader_pattern) (Reader_place := Reader_place) (Word_size := Word_size) (Word_letters := Word_letters) hv210) dL_law_1749 w351 ⟨w352, w353⟩ cal_X10_digest rfl ⟨⟨Nat.le_of_ble_eq_true rfl, Nat.le_of_ble_eq_true rfl⟩, (show cl + 0 ≤ 1062 by omega), (show sl + 0 ≤ 19011 by omega)⟩ (Nat.le_of_ble_eq_true rfl) (Or.inl ⟨_, _, _, _, rfl, rfl⟩) rfl ⟨rfl, ⟨by decide, by decide⟩, rfl, (fr_cons (Or.inl (Nat.le_of_ble_eq_true rfl)) (fr_cons (Or.inl (Nat.le_of_ble_eq_true rfl)) (fr_cons (Or.inl (Nat.le_of_ble_eq_true rfl)) (fr_cons (Or.inl (Nat.le_of_ble_eq_true rfl)) (fr_cons (Or.inl (Nat.le_of_ble_eq_true rfl)) (fr_cons (Or.inl (Nat.le_of_ble_eq_true rfl)) (fr_cons (Or.inl (Nat.le_of_ble_eq_true rfl)) (fr_cons (Or.inl (Nat.le_of_ble_eq_true rfl)) (fr_cons (Or.inl (Nat.le_of_ble_eq_true rfl)) (fr_cons (Or.inr (Nat.le_add_left 1000 _)) (fr_cons (Or.inl (Nat.le_of_ble_eq_true rfl)) (fr_nil)))))))))))), rfl⟩ fr_l rfl rfl rfl rfl ?_
    refine V.aload_n (i := 2) dL_law_1752 rfl rfl ?_
    obtain ⟨v211, hv211, hf⟩ := fbind hf
    refine V.callVn (pl := [11, 12, 13, 14, 15]) (σ' := [.inl (5, [.ref 1, .ref 3, .ref 6, .ref 8, .ref 9]), .inl (3, [.ref 2]), .inr (910, .inl State_cells), .inl (1, [.ref 4, .ref 5, .int History_oldest, .int History_size, .int History_snapshotTaken]), .inr (5460, .inl History_saved), .inr (910, .inl History_snapshot), .inl (0, [.ref 7, .int Buffer_size]), .inr (60, .inl Buffer_codes), .inl (2, [.ref (Reader_pattern + 1000), .int Reader_place]), .inl (4, [.ref 10, .int Word_size]), .inr (8, .inl Word_letters), .inl (6, [.ref 12, .ref 13, .int M_savedMany, .ref 14, .int M_isTaken, .ref 15, .int M_length, .int v211.2.1, .int M_spelt, .int M_speltMany, .int M_place, .int M_kind, .int M_one, .int M_two, .int M_three, .int M_begins, .int M_done, .int M_stopBy, .long v211.2.2]), .inr (406, .inl M_s), .inr (2436, .inl M_saved), .inr (406, .inl M_snapshot), .inr (60, .inl M_text), .inr (1, .inr out)]) (st2 := [.long v211.1, .long v210]) (cl2 := cl) (sl2 := sl) (ct_X11_digest (M_savedMany := M_savedMany) (M_isTaken := M_isTaken) (M_length := M_length) (M_thrown := M_thrown) (M_spelt := M_spelt) (M_speltMany := M_speltMany) (M_place := M_place) (M_kind := M_kind) (M_one := M_one) (M_two := M_two) (M_three := M_three) (M_begins := M_begins) (M_done := M_done) (M_stopBy := M_stopBy) (M_hash := M_hash) (M_s := M_s) (M_saved := M_saved) (M_snapshot := M_snapshot) (M_text := M_text) hv211) dL_law_1753 w1467 ⟨w1468, w1469⟩ cal_X11_digest rfl ⟨⟨Nat.le_of_ble_eq_true rfl, Nat.le_of_ble_eq_true rfl⟩, (show cl + 0 ≤ 1062 by omega), (show sl + 0 ≤ 19011 by omega)⟩ (Nat.le_of_ble_eq_true rfl) (Or.inl ⟨_, _, _, _, rfl, rfl⟩) rfl ⟨rfl, ⟨by decide, by decide⟩, rfl, (fr_cons (Or.inl (Nat.le_of_ble_eq_true rfl)) (fr_cons (Or.inl (Nat.le_of_ble_eq_true rfl)) (fr_cons (Or.inl (Nat.le_of_ble_eq_true rfl)) (fr_cons (Or.inl (Nat.le_of_ble_eq_true rfl)) (fr_nil))))), rfl⟩ fr_l rfl rfl rfl rfl ?_
    refine V.lcmp dL_law_1756 ?_
    refine V.if_eq (tgt := 1762) dL_law_1757 (by decide) (fun h => ?_) (fun h => ?_)
    · have hf := fif_t h hf
      obtain rfl := Option.some.inj hf
      exact V.wide (by omega) (by omega) hx
    · have hf := fif_f h hf
      refine V.iconst (v := 0) dL_law_1760 rfl ?_
      cases hf
def s_L_law_L23 (a0n : Nat) (a0 : Nat → Int32) : Nat → Int32 → (Nat → Int32) → (Int32) → (Int32) → (Int32) → (Nat → Int32) → (Nat → Int32) → (Int32) → (Nat → Int32) → (Nat) → (Int32) → (Int32) → (Nat → Int32) → (Int32) → (Int32) → (Int32) → (Int32) → (Int32) → (Int32) → (Int32) → (Int32) → (Int32) → (Int32) → (Int32) → (Int32) → (Int32) → (Int32) → (Int64) → (Nat → Int32) → (Nat → Int32) → (Nat → Int32) → (Nat → Int32) → (Nat → Int64) → Option (Int32 × (Nat → Int32) × (Int32) × (Int32) × (Int32) × (Nat → Int32) × (Nat → Int32) × (Int32) × (Nat → Int32) × (Nat) × (Int32) × (Int32) × (Nat → Int32) × (Int32) × (Int32) × (Int32) × (Int32) × (Int32) × (Int32) × (Int32) × (Int32) × (Int32) × (Int32) × (Int32) × (Int32) × (Int32) × (Int32) × (Int64) × (Nat → Int32) × (Nat → Int32) × (Nat → Int32) × (Nat → Int32) × (Nat → Int64))
  | 0, _, _, _, _, _, _, _, _, _, _, _, _, _, _, _, _, _, _, _, _, _, _, _, _, _, _, _, _, _, _, _, _, _ => none
  | n + 1, x4, State_cells, History_oldest, History_size, History_snapshotTaken, History_saved, History_snapshot, Buffer_size, Buffer_codes, Reader_pattern, Reader_place, Word_size, Word_letters, M_savedMany, M_isTaken, M_length, M_thrown, M_spelt, M_speltMany, M_place, M_kind, M_one, M_two, M_three, M_begins, M_done, M_stopBy, M_hash, M_s, M_saved, M_snapshot, M_text, out => if (((nI a0n) - 5) < x4 : Prop) then (some (x4, State_cells, History_oldest, History_size, History_snapshotTaken, History_saved, History_snapshot, Buffer_size, Buffer_codes, Reader_pattern, Reader_place, Word_size, Word_letters, M_savedMany, M_isTaken, M_length, M_thrown, M_spelt, M_speltMany, M_place, M_kind, M_one, M_two, M_three, M_begins, M_done, M_stopBy, M_hash, M_s, M_saved, M_snapshot, M_text, out)) else (fld a0n a0 x4 fun v3 => if ((v3 &&& 31) = 0 : Prop) then ((s_L_law_L168 a0n a0 x4 Buffer_codes M_text gF State_cells History_oldest History_size History_saved Buffer_size Word_size Word_letters M_savedMany M_length M_thrown M_spelt M_speltMany M_s M_saved out).bind fun r10 => s_L_law_L23 a0n a0 n (x4 + 5) r10.1 r10.2.1 r10.2.2.1 History_snapshotTaken r10.2.2.2.1 History_snapshot r10.2.2.2.2.1 Buffer_codes Reader_pattern Reader_place r10.2.2.2.2.2.1 r10.2.2.2.2.2.2.1 r10.2.2.2.2.2.2.2.1 M_isTaken r10.2.2.2.2.2.2.2.2.1 r10.2.2.2.2.2.2.2.2.2.1 r10.2.2.2.2.2.2.2.2.2.2.1 r10.2.2.2.2.2.2.2.2.2.2.2.1 M_place M_kind M_one M_two M_three M_begins M_done M_stopBy M_hash r10.2.2.2.2.2.2.2.2.2.2.2.2.1 r10.2.2.2.2.2.2.2.2.2.2.2.2.2.1 M_snapshot M_text r10.2.2.2.2.2.2.2.2.2.2.2.2.2.2) else (if ((v3 &&& 31) = 1 : Prop) then ((s_L_law_L224 a0n a0 x4 gF State_cells History_oldest History_size History_saved M_savedMany M_thrown M_s M_saved out).bind fun r19 => s_L_law_L23 a0n a0 n (x4 + 5) r19.1 r19.2.1 r19.2.2.1 History_snapshotTaken r19.2.2.2.1 History_snapshot Buffer_size Buffer_codes Reader_pattern Reader_place Word_size Word_letters r19.2.2.2.2.1 M_isTaken M_length r19.2.2.2.2.2.1 M_spelt M_speltMany M_place M_kind M_one M_two M_three M_begins M_done M_stopBy M_hash r19.2.2.2.2.2.2.1 r19.2.2.2.2.2.2.2.1 M_snapshot M_text r19.2.2.2.2.2.2.2.2) else (if ((v3 &&& 31) = 2 : Prop) then ((s_L_law_L292 a0n a0 x4 gF State_cells History_oldest History_size History_saved M_savedMany M_thrown M_s M_saved out).bind fun r28 => s_L_law_L23 a0n a0 n (x4 + 5) r28.1 r28.2.1 r28.2.2.1 History_snapshotTaken r28.2.2.2.1 History_snapshot Buffer_size Buffer_codes Reader_pattern Reader_place Word_size Word_letters r28.2.2.2.2.1 M_isTaken M_length r28.2.2.2.2.2.1 M_spelt M_speltMany M_place M_kind M_one M_two M_three M_begins M_done M_stopBy M_hash r28.2.2.2.2.2.2.1 r28.2.2.2.2.2.2.2.1 M_snapshot M_text r28.2.2.2.2.2.2.2.2) else (if ((v3 &&& 31) = 3 : Prop) then ((s_L_law_L360 a0n a0 x4 gF State_cells History_oldest History_size History_saved Word_size Word_letters M_savedMany M_thrown M_s M_saved out).bind fun r39 => s_L_law_L23 a0n a0 n (x4 + 5) r39.1 r39.2.1 r39.2.2.1 History_snapshotTaken r39.2.2.2.1 History_snapshot Buffer_size Buffer_codes Reader_pattern Reader_place r39.2.2.2.2.1 r39.2.2.2.2.2.1 r39.2.2.2.2.2.2.1 M_isTaken M_length r39.2.2.2.2.2.2.2.1 M_spelt M_speltMany M_place M_kind M_one M_two M_three M_begins M_done M_stopBy M_hash r39.2.2.2.2.2.2.2.2.1 r39.2.2.2.2.2.2.2.2.2.1 M_snapshot M_text r39.2.2.2.2.2.2.2.2.2.2) else (if ((v3 &&& 31) = 4 : Prop) then ((s_L_law_L440 a0n a0 x4 gF State_cells History_oldest History_size History_saved M_savedMany M_thrown M_s M_saved out).bind fun r46 => s_L_law_L23 a0n a0 n (x4 + 5) r46.1 r46.2.1 r46.2.2.1 History_snapshotTaken r46.2.2.2.1 History_snapshot Buffer_size Buffer_codes Reader_pattern Reader_place Word_size Word_letters r46.2.2.2.2.1 M_isTaken M_length r46.2.2.2.2.2.1 M_spelt M_speltMany M_place M_kind M_one M_two M_three M_begins M_done M_stopBy M_hash r46.2.2.2.2.2.2.1 r46.2.2.2.2.2.2.2.1 M_snapshot M_text r46.2.2.2.2.2.2.2.2) else (if ((v3 &&& 31) = 5 : Prop) then ((s_L_law_L496 a0n a0 x4 gF State_cells History_oldest History_size History_saved M_savedMany M_thrown M_s M_saved out).bind fun r55 => s_L_law_L23 a0n a0 n (x4 + 5) r55.1 r55.2.1 r55.2.2.1 History_snapshotTaken r55.2.2.2.1 History_snapshot Buffer_size Buffer_codes Reader_pattern Reader_place Word_size Word_letters r55.2.2.2.2.1 M_isTaken M_length r55.2.2.2.2.2.1 M_spelt M_speltMany M_place M_kind M_one M_two M_three M_begins M_done M_stopBy M_hash r55.2.2.2.2.2.2.1 r55.2.2.2.2.2.2.2.1 M_snapshot M_text r55.2.2.2.2.2.2.2.2) else (if ((v3 &&& 31) = 6 : Prop) then ((s_L_law_L564 a0n a0 x4 gF State_cells History_oldest History_size History_saved M_savedMany M_thrown M_s M_saved out).bind fun r64 => s_L_law_L23 a0n a0 n (x4 + 5) r64.1 r64.2.1 r64.2.2.1 History_snapshotTaken r64.2.2.2.1 History_snapshot Buffer_size Buffer_codes Reader_pattern Reader_place Word_size Word_letters r64.2.2.2.2.1 M_isTaken M_length r64.2.2.2.2.2.1 M_spelt M_speltMany M_place M_kind M_one M_two M_three M_begins M_done M_stopBy M_hash r64.2.2.2.2.2.2.1 r64.2.2.2.2.2.2.2.1 M_snapshot M_text r64.2.2.2.2.2.2.2.2) else (if ((v3 &&& 31) = 7 : Prop) then ((s_L_law_L632 a0n a0 x4 gF Buffer_size Buffer_codes M_length M_thrown M_text out).bind fun r71 => s_L_law_L23 a0n a0 n (x4 + 5) State_cells History_oldest History_size History_snapshotTaken History_saved History_snapshot r71.1 r71.2.1 Reader_pattern Reader_place Word_size Word_letters M_savedMany M_isTaken r71.2.2.1 r71.2.2.2.1 M_spelt M_speltMany M_place M_kind M_one M_two M_three M_begins M_done M_stopBy M_hash M_s M_saved M_snapshot r71.2.2.2.2.1 r71.2.2.2.2.2) else (if ((v3 &&& 31) = 8 : Prop) then ((s_L_law_L688 a0n a0 gF Buffer_size M_length M_thrown).bind fun r74 => s_L_law_L23 a0n a0 n (x4 + 5) State_cells History_oldest History_size History_snapshotTaken History_saved History_snapshot r74.1 Buffer_codes Reader_pattern Reader_place Word_size Word_letters M_savedMany M_isTaken r74.2.1 r74.2.2 M_spelt M_speltMany M_place M_kind M_one M_two M_three M_begins M_done M_stopBy M_hash M_s M_saved M_snapshot M_text out) else (if ((v3 &&& 31) = 9 : Prop) then ((s_L_law_L701 a0n a0 Buffer_size Buffer_codes M_length M_text gF Reader_pattern Reader_place M_thrown M_spelt M_speltMany M_place M_kind M_one M_two M_three M_begins M_done M_stopBy M_s).bind fun r77 => s_L_law_L23 a0n a0 n (x4 + 5) State_cells History_oldest History_size History_snapshotTaken History_saved History_snapshot Buffer_size Buffer_codes r77.1 r77.2.1 Word_size Word_letters M_savedMany M_isTaken M_length r77.2.2.1 r77.2.2.2.1 r77.2.2.2.2.1 r77.2.2.2.2.2.1 r77.2.2.2.2.2.2.1 r77.2.2.2.2.2.2.2.1 r77.2.2.2.2.2.2.2.2.1 r77.2.2.2.2.2.2.2.2.2.1 r77.2.2.2.2.2.2.2.2.2.2.1 r77.2.2.2.2.2.2.2.2.2.2.2.1 r77.2.2.2.2.2.2.2.2.2.2.2.2.1 M_hash r77.2.2.2.2.2.2.2.2.2.2.2.2.2 M_saved M_snapshot M_text out) else (if ((v3 &&& 31) = 10 : Prop) then ((s_L_law_L714 a0n a0 Buffer_codes M_text gF State_cells History_oldest History_size History_saved Buffer_size Reader_pattern Reader_place Word_size Word_letters M_savedMany M_length M_thrown M_spelt M_speltMany M_place M_kind M_one M_two M_three M_begins M_done M_stopBy M_s M_saved out).bind fun r82 => s_L_law_L23 a0n a0 n (x4 + 5) r82.1 r82.2.1 r82.2.2.1 History_snapshotTaken r82.2.2.2.1 History_snapshot r82.2.2.2.2.1 Buffer_codes r82.2.2.2.2.2.1 r82.2.2.2.2.2.2.1 r82.2.2.2.2.2.2.2.1 r82.2.2.2.2.2.2.2.2.1 r82.2.2.2.2.2.2.2.2.2.1 M_isTaken r82.2.2.2.2.2.2.2.2.2.2.1 r82.2.2.2.2.2.2.2.2.2.2.2.1 r82.2.2.2.2.2.2.2.2.2.2.2.2.1 r82.2.2.2.2.2.2.2.2.2.2.2.2.2.1 r82.2.2.2.2.2.2.2.2.2.2.2.2.2.2.1 r82.2.2.2.2.2.2.2.2.2.2.2.2.2.2.2.1 r82.2.2.2.2.2.2.2.2.2.2.2.2.2.2.2.2.1 r82.2.2.2.2.2.2.2.2.2.2.2.2.2.2.2.2.2.1 r82.2.2.2.2.2.2.2.2.2.2.2.2.2.2.2.2.2.2.1 r82.2.2.2.2.2.2.2.2.2.2.2.2.2.2.2.2.2.2.2.1 r82.2.2.2.2.2.2.2.2.2.2.2.2.2.2.2.2.2.2.2.2.1 r82.2.2.2.2.2.2.2.2.2.2.2.2.2.2.2.2.2.2.2.2.2.1 M_hash r82.2.2.2.2.2.2.2.2.2.2.2.2.2.2.2.2.2.2.2.2.2.2.1 r82.2.2.2.2.2.2.2.2.2.2.2.2.2.2.2.2.2.2.2.2.2.2.2.1 M_snapshot M_text r82.2.2.2.2.2.2.2.2.2.2.2.2.2.2.2.2.2.2.2.2.2.2.2.2) else (if ((v3 &&& 31) = 11 : Prop) then ((s_L_law_L758 a0n a0 x4 State_cells M_s gF M_thrown out).bind fun r89 => s_L_law_L23 a0n a0 n (x4 + 5) State_cells History_oldest History_size History_snapshotTaken History_saved History_snapshot Buffer_size Buffer_codes Reader_pattern Reader_place Word_size Word_letters M_savedMany M_isTaken M_length r89.1 M_spelt M_speltMany M_place M_kind M_one M_two M_three M_begins M_done M_stopBy M_hash M_s M_saved M_snapshot M_text r89.2) else (if ((v3 &&& 31) = 12 : Prop) then ((s_L_law_L814 a0n a0 x4 State_cells M_s gF M_thrown out).bind fun r98 => s_L_law_L23 a0n a0 n (x4 + 5) State_cells History_oldest History_size History_snapshotTaken History_saved History_snapshot Buffer_size Buffer_codes Reader_pattern Reader_place Word_size Word_letters M_savedMany M_isTaken M_length r98.1 M_spelt M_speltMany M_place M_kind M_one M_two M_three M_begins M_done M_stopBy M_hash M_s M_saved M_snapshot M_text r98.2) else (if ((v3 &&& 31) = 13 : Prop) then ((s_L_law_L882 a0n a0 History_oldest History_saved M_saved gF State_cells History_size M_savedMany M_thrown M_s out).bind fun r103 => s_L_law_L23 a0n a0 n (x4 + 5) r103.1 History_oldest r103.2.1 History_snapshotTaken History_saved History_snapshot Buffer_size Buffer_codes Reader_pattern Reader_place Word_size Word_letters r103.2.2.1 M_isTaken M_length r103.2.2.2.1 M_spelt M_speltMany M_place M_kind M_one M_two M_three M_begins M_done M_stopBy M_hash r103.2.2.2.2.1 M_saved M_snapshot M_text r103.2.2.2.2.2) else (if ((v3 &&& 31) = 14 : Prop) then ((s_L_law_L926 a0n a0 State_cells M_s gF History_snapshotTaken History_snapshot M_isTaken M_thrown M_snapshot).bind fun r106 => s_L_law_L23 a0n a0 n (x4 + 5) State_cells History_oldest History_size r106.1 History_saved r106.2.1 Buffer_size Buffer_codes Reader_pattern Reader_place Word_size Word_letters M_savedMany r106.2.2.1 M_length r106.2.2.2.1 M_spelt M_speltMany M_place M_kind M_one M_two M_three M_begins M_done M_stopBy M_hash M_s M_saved r106.2.2.2.2 M_text out) else (if ((v3 &&& 31) = 15 : Prop) then ((s_L_law_L939 a0n a0 History_snapshotTaken History_snapshot M_isTaken M_snapshot gF State_cells History_oldest History_size History_saved M_savedMany M_thrown M_s M_saved out).bind fun r111 => s_L_law_L23 a0n a0 n (x4 + 5) r111.1 r111.2.1 r111.2.2.1 History_snapshotTaken r111.2.2.2.1 History_snapshot Buffer_size Buffer_codes Reader_pattern Reader_place Word_size Word_letters r111.2.2.2.2.1 M_isTaken M_length r111.2.2.2.2.2.1 M_spelt M_speltMany M_place M_kind M_one M_two M_three M_begins M_done M_stopBy M_hash r111.2.2.2.2.2.2.1 r111.2.2.2.2.2.2.2.1 M_snapshot M_text r111.2.2.2.2.2.2.2.2) else (if ((v3 &&& 31) = 16 : Prop) then ((s_L_law_L983 a0n a0 x4 State_cells M_s gF M_thrown out).bind fun r120 => s_L_law_L23 a0n a0 n (x4 + 5) State_cells History_oldest History_size History_snapshotTaken History_saved History_snapshot Buffer_size Buffer_codes Reader_pattern Reader_place Word_size Word_letters M_savedMany M_isTaken M_length r120.1 M_spelt M_speltMany M_place M_kind M_one M_two M_three M_begins M_done M_stopBy M_hash M_s M_saved M_snapshot M_text r120.2) else (if ((v3 &&& 31) = 17 : Prop) then ((s_L_law_L1051 a0n a0 x4 State_cells M_s gF M_thrown out).bind fun r133 => s_L_law_L23 a0n a0 n (x4 + 5) State_cells History_oldest History_size History_snapshotTaken History_saved History_snapshot Buffer_size Buffer_codes Reader_pattern Reader_place Word_size Word_letters M_savedMany M_isTaken M_length r133.1 M_spelt M_speltMany M_place M_kind M_one M_two M_three M_begins M_done M_stopBy M_hash M_s M_saved M_snapshot M_text r133.2) else (if ((v3 &&& 31) = 18 : Prop) then ((s_L_law_L1143 a0n a0 x4 State_cells M_s gF M_thrown out).bind fun r144 => s_L_law_L23 a0n a0 n (x4 + 5) State_cells History_oldest History_size History_snapshotTaken History_saved History_snapshot Buffer_size Buffer_codes Reader_pattern Reader_place Word_size Word_letters M_savedMany M_isTaken M_length r144.1 M_spelt M_speltMany M_place M_kind M_one M_two M_three M_begins M_done M_stopBy M_hash M_s M_saved M_snapshot M_text r144.2) else (if ((v3 &&& 31) = 19 : Prop) then ((s_L_law_L1223 a0n a0 x4 State_cells M_s gF M_thrown out).bind fun r153 => s_L_law_L23 a0n a0 n (x4 + 5) State_cells History_oldest History_size History_snapshotTaken History_saved History_snapshot Buffer_size Buffer_codes Reader_pattern Reader_place Word_size Word_letters M_savedMany M_isTaken M_length r153.1 M_spelt M_speltMany M_place M_kind M_one M_two M_three M_begins M_done M_stopBy M_hash M_s M_saved M_snapshot M_text r153.2) else (if ((v3 &&& 31) = 20 : Prop) then ((s_L_law_L1291 a0n a0 x4 State_cells M_s gF M_thrown out).bind fun r162 => s_L_law_L23 a0n a0 n (x4 + 5) State_cells History_oldest History_size History_snapshotTaken History_saved History_snapshot Buffer_size Buffer_codes Reader_pattern Reader_place Word_size Word_letters M_savedMany M_isTaken M_length r162.1 M_spelt M_speltMany M_place M_kind M_one M_two M_three M_begins M_done M_stopBy M_hash M_s M_saved M_snapshot M_text r162.2) else (if ((v3 &&& 31) = 21 : Prop) then ((s_L_law_L1359 a0n a0 State_cells Buffer_size Buffer_codes M_length M_s M_text gF Word_size Word_letters M_thrown M_spelt M_speltMany out).bind fun r167 => s_L_law_L23 a0n a0 n (x4 + 5) State_cells History_oldest History_size History_snapshotTaken History_saved History_snapshot Buffer_size Buffer_codes Reader_pattern Reader_place r167.1 r167.2.1 M_savedMany M_isTaken M_length r167.2.2.1 r167.2.2.2.1 r167.2.2.2.2.1 M_place M_kind M_one M_two M_three M_begins M_done M_stopBy M_hash M_s M_saved M_snapshot M_text r167.2.2.2.2.2) else (if ((v3 &&& 31) = 22 : Prop) then ((s_L_law_L1403 a0n a0 x4 State_cells History_size M_savedMany M_s gF M_thrown out).bind fun r174 => s_L_law_L23 a0n a0 n (x4 + 5) State_cells History_oldest History_size History_snapshotTaken History_saved History_snapshot Buffer_size Buffer_codes Reader_pattern Reader_place Word_size Word_letters M_savedMany M_isTaken M_length r174.1 M_spelt M_speltMany M_place M_kind M_one M_two M_three M_begins M_done M_stopBy M_hash M_s M_saved M_snapshot M_text r174.2) else (if ((v3 &&& 31) = 23 : Prop) then ((s_L_law_L1459 a0n a0 x4 State_cells Buffer_size Buffer_codes M_length M_s M_text gF Word_size Word_letters M_thrown M_spelt M_speltMany out).bind fun r181 => s_L_law_L23 a0n a0 n (x4 + 5) State_cells History_oldest History_size History_snapshotTaken History_saved History_snapshot Buffer_size Buffer_codes Reader_pattern Reader_place r181.1 r181.2.1 M_savedMany M_isTaken M_length r181.2.2.1 r181.2.2.2.1 r181.2.2.2.2.1 M_place M_kind M_one M_two M_three M_begins M_done M_stopBy M_hash M_s M_saved M_snapshot M_text r181.2.2.2.2.2) else (if ((v3 &&& 31) = 24 : Prop) then ((s_L_law_L1515 a0n a0 x4 State_cells M_s gF Word_size Word_letters M_thrown out).bind fun r192 => s_L_law_L23 a0n a0 n (x4 + 5) State_cells History_oldest History_size History_snapshotTaken History_saved History_snapshot Buffer_size Buffer_codes Reader_pattern Reader_place r192.1 r192.2.1 M_savedMany M_isTaken M_length r192.2.2.1 M_spelt M_speltMany M_place M_kind M_one M_two M_three M_begins M_done M_stopBy M_hash M_s M_saved M_snapshot M_text r192.2.2.2) else (if ((v3 &&& 31) = 25 : Prop) then ((s_L_law_L1595 a0n a0 x4 State_cells M_s gF M_thrown out).bind fun r201 => s_L_law_L23 a0n a0 n (x4 + 5) State_cells History_oldest History_size History_snapshotTaken History_saved History_snapshot Buffer_size Buffer_codes Reader_pattern Reader_place Word_size Word_letters M_savedMany M_isTaken M_length r201.1 M_spelt M_speltMany M_place M_kind M_one M_two M_three M_begins M_done M_stopBy M_hash M_s M_saved M_snapshot M_text r201.2) else (if ((v3 &&& 31) = 26 : Prop) then ((s_L_law_L1663 a0n a0 State_cells Buffer_size Buffer_codes M_length M_s M_text gF Word_size Word_letters M_thrown M_spelt M_speltMany out).bind fun r206 => s_L_law_L23 a0n a0 n (x4 + 5) State_cells History_oldest History_size History_snapshotTaken History_saved History_snapshot Buffer_size Buffer_codes Reader_pattern Reader_place r206.1 r206.2.1 M_savedMany M_isTaken M_length r206.2.2.1 r206.2.2.2.1 r206.2.2.2.2.1 M_place M_kind M_one M_two M_three M_begins M_done M_stopBy M_hash M_s M_saved M_snapshot M_text r206.2.2.2.2.2) else (if ((v3 &&& 31) = 27 : Prop) then ((s_L_law_L1707 a0n a0 State_cells M_s gF M_thrown).bind fun r209 => s_L_law_L23 a0n a0 n (x4 + 5) State_cells History_oldest History_size History_snapshotTaken History_saved History_snapshot Buffer_size Buffer_codes Reader_pattern Reader_place Word_size Word_letters M_savedMany M_isTaken M_length r209 M_spelt M_speltMany M_place M_kind M_one M_two M_three M_begins M_done M_stopBy M_hash M_s M_saved M_snapshot M_text out) else (if ((v3 &&& 31) = 28 : Prop) then ((s_L_law_L1748 a0n a0 State_cells History_size Buffer_size Buffer_codes M_savedMany M_length M_s M_text gF M_thrown M_hash).bind fun r212 => s_L_law_L23 a0n a0 n (x4 + 5) State_cells History_oldest History_size History_snapshotTaken History_saved History_snapshot Buffer_size Buffer_codes Reader_pattern Reader_place Word_size Word_letters M_savedMany M_isTaken M_length r212.1 M_spelt M_speltMany M_place M_kind M_one M_two M_three M_begins M_done M_stopBy r212.2 M_s M_saved M_snapshot M_text out) else (s_L_law_L23 a0n a0 n (x4 + 5) State_cells History_oldest History_size History_snapshotTaken History_saved History_snapshot Buffer_size Buffer_codes Reader_pattern Reader_place Word_size Word_letters M_savedMany M_isTaken M_length M_thrown M_spelt M_speltMany M_place M_kind M_one M_two M_three M_begins M_done M_stopBy M_hash M_s M_saved M_snapshot M_text out))))))))))))))))))))))))))))))
set_option maxHeartbeats 4000000 in
set_option maxRecDepth 100000 in
theorem v_L_law_L23 {a0n : Nat} {a0 : Nat → Int32} : ∀ (n : Nat) {x4 : Int32} {State_cells : (Nat → Int32)} {History_oldest : (Int32)} {History_size : (Int32)} {History_snapshotTaken : (Int32)} {History_saved : (Nat → Int32)} {History_snapshot : (Nat → Int32)} {Buffer_size : (Int32)} {Buffer_codes : (Nat → Int32)} {Reader_pattern : (Nat)} {Reader_place : (Int32)} {Word_size : (Int32)} {Word_letters : (Nat → Int32)} {M_savedMany : (Int32)} {M_isTaken : (Int32)} {M_length : (Int32)} {M_thrown : (Int32)} {M_spelt : (Int32)} {M_speltMany : (Int32)} {M_place : (Int32)} {M_kind : (Int32)} {M_one : (Int32)} {M_two : (Int32)} {M_three : (Int32)} {M_begins : (Int32)} {M_done : (Int32)} {M_stopBy : (Int32)} {M_hash : (Int64)} {M_s : (Nat → Int32)} {M_saved : (Nat → Int32)} {M_snapshot : (Nat → Int32)} {M_text : (Nat → Int32)} {out : (Nat → Int64)} {res : Int32 × (Nat → Int32) × (Int32) × (Int32) × (Int32) × (Nat → Int32) × (Nat → Int32) × (Int32) × (Nat → Int32) × (Nat) × (Int32) × (Int32) × (Nat → Int32) × (Int32) × (Int32) × (Int32) × (Int32) × (Int32) × (Int32) × (Int32) × (Int32) × (Int32) × (Int32) × (Int32) × (Int32) × (Int32) × (Int32) × (Int64) × (Nat → Int32) × (Nat → Int32) × (Nat → Int32) × (Nat → Int32) × (Nat → Int64)} (hf : s_L_law_L23 a0n a0 n x4 State_cells History_oldest History_size History_snapshotTaken History_saved History_snapshot Buffer_size Buffer_codes Reader_pattern Reader_place Word_size Word_letters M_savedMany M_isTaken M_length M_thrown M_spelt M_speltMany M_place M_kind M_one M_two M_three M_begins M_done M_stopBy M_hash M_s M_saved M_snapshot M_text out = some res) {cl sl : Nat} (hc : cl + n ≤ 1062) (hs : sl + 6 * n ≤ 19011) (hx : V (fXlaw a0n a0) room_1 k_L_law 0 1768 [some (.ref 3000), some (.ref 0), some (.ref 11), some (.ref 16), some (.int res.1), none, none, none, none] [] [.inl (5, [.ref 1, .ref 3, .ref 6, .ref 8, .ref 9]), .inl (3, [.ref 2]), .inr (910, .inl res.2.1), .inl (1, [.ref 4, .ref 5, .int res.2.2.1, .int res.2.2.2.1, .int res.2.2.2.2.1]), .inr (5460, .inl res.2.2.2.2.2.1), .inr (910, .inl res.2.2.2.2.2.2.1), .inl (0, [.ref 7, .int res.2.2.2.2.2.2.2.1]), .inr (60, .inl res.2.2.2.2.2.2.2.2.1), .inl (2, [.ref (res.2.2.2.2.2.2.2.2.2.1 + 1000), .int res.2.2.2.2.2.2.2.2.2.2.1]), .inl (4, [.ref 10, .int res.2.2.2.2.2.2.2.2.2.2.2.1]), .inr (8, .inl res.2.2.2.2.2.2.2.2.2.2.2.2.1), .inl (6, [.ref 12, .ref 13, .int res.2.2.2.2.2.2.2.2.2.2.2.2.2.1, .ref 14, .int res.2.2.2.2.2.2.2.2.2.2.2.2.2.2.1, .ref 15, .int res.2.2.2.2.2.2.2.2.2.2.2.2.2.2.2.1, .int res.2.2.2.2.2.2.2.2.2.2.2.2.2.2.2.2.1, .int res.2.2.2.2.2.2.2.2.2.2.2.2.2.2.2.2.2.1, .int res.2.2.2.2.2.2.2.2.2.2.2.2.2.2.2.2.2.2.1, .int res.2.2.2.2.2.2.2.2.2.2.2.2.2.2.2.2.2.2.2.1, .int res.2.2.2.2.2.2.2.2.2.2.2.2.2.2.2.2.2.2.2.2.1, .int res.2.2.2.2.2.2.2.2.2.2.2.2.2.2.2.2.2.2.2.2.2.1, .int res.2.2.2.2.2.2.2.2.2.2.2.2.2.2.2.2.2.2.2.2.2.2.1, .int res.2.2.2.2.2.2.2.2.2.2.2.2.2.2.2.2.2.2.2.2.2.2.2.1, .int res.2.2.2.2.2.2.2.2.2.2.2.2.2.2.2.2.2.2.2.2.2.2.2.2.1, .int res.2.2.2.2.2.2.2.2.2.2.2.2.2.2.2.2.2.2.2.2.2.2.2.2.2.1, .int res.2.2.2.2.2.2.2.2.2.2.2.2.2.2.2.2.2.2.2.2.2.2.2.2.2.2.1, .long res.2.2.2.2.2.2.2.2.2.2.2.2.2.2.2.2.2.2.2.2.2.2.2.2.2.2.2.1]), .inr (406, .inl res.2.2.2.2.2.2.2.2.2.2.2.2.2.2.2.2.2.2.2.2.2.2.2.2.2.2.2.2.1), .inr (2436, .inl res.2.2.2.2.2.2.2.2.2.2.2.2.2.2.2.2.2.2.2.2.2.2.2.2.2.2.2.2.2.1), .inr (406, .inl res.2.2.2.2.2.2.2.2.2.2.2.2.2.2.2.2.2.2.2.2.2.2.2.2.2.2.2.2.2.2.1), .inr (60, .inl res.2.2.2.2.2.2.2.2.2.2.2.2.2.2.2.2.2.2.2.2.2.2.2.2.2.2.2.2.2.2.2.1), .inr (1, .inr res.2.2.2.2.2.2.2.2.2.2.2.2.2.2.2.2.2.2.2.2.2.2.2.2.2.2.2.2.2.2.2.2)] 1062 19011), V (fXlaw a0n a0) room_1 k_L_law 0 23 [some (.ref 3000), some (.ref 0), some (.ref 11), some (.ref 16), some (.int x4), none, none, none, none] [] [.inl (5, [.ref 1, .ref 3, .ref 6, .ref 8, .ref 9]), .inl (3, [.ref 2]), .inr (910, .inl State_cells), .inl (1, [.ref 4, .ref 5, .int History_oldest, .int History_size, .int History_snapshotTaken]), .inr (5460, .inl History_saved), .inr (910, .inl History_snapshot), .inl (0, [.ref 7, .int Buffer_size]), .inr (60, .inl Buffer_codes), .inl (2, [.ref (Reader_pattern + 1000), .int Reader_place]), .inl (4, [.ref 10, .int Word_size]), .inr (8, .inl Word_letters), .inl (6, [.ref 12, .ref 13, .int M_savedMany, .ref 14, .int M_isTaken, .ref 15, .int M_length, .int M_thrown, .int M_spelt, .int M_speltMany, .int M_place, .int M_kind, .int M_one, .int M_two, .int M_three, .int M_begins, .int M_done, .int M_stopBy, .long M_hash]), .inr (406, .inl M_s), .inr (2436, .inl M_saved), .inr (406, .inl M_snapshot), .inr (60, .inl M_text), .inr (1, .inr out)] cl sl := by
  intro n
  induction n with
  | zero =>
    intro x4 State_cells History_oldest History_size History_snapshotTaken History_saved History_snapshot Buffer_size Buffer_codes Reader_pattern Reader_place Word_size Word_letters M_savedMany M_isTaken M_length M_thrown M_spelt M_speltMany M_place M_kind M_one M_two M_three M_begins M_done M_stopBy M_hash M_s M_saved M_snapshot M_text out res hf cl sl hc hs hx
    rw [s_L_law_L23] at hf
    cases hf
  | succ n ih =>
    intro x4 State_cells History_oldest History_size History_snapshotTaken History_saved History_snapshot Buffer_size Buffer_codes Reader_pattern Reader_place Word_size Word_letters M_savedMany M_isTaken M_length M_thrown M_spelt M_speltMany M_place M_kind M_one M_two M_three M_begins M_done M_stopBy M_hash M_s M_saved M_snapshot M_text out res hf cl sl hc hs hx
    rw [s_L_law_L23] at hf
    refine V.iload (i := 4) dL_law_23 rfl ?_
    refine V.aload_n (i := 0) dL_law_25 rfl rfl ?_
    refine V.slen dL_law_26 ?_
    refine V.iconst (v := 5) dL_law_27 rfl ?_
    refine V.isub dL_law_28 ?_
    refine V.icmp_gt (tgt := 1768) dL_law_29 (by decide) (fun h => ?_) (fun h => ?_)
    · have hf := fif_t h hf
      obtain rfl := Option.some.inj hf
      exact V.wide (by omega) (by omega) hx
    · have hf := fif_f h hf
      refine V.aload_n (i := 0) dL_law_32 rfl rfl ?_
      refine V.iload (i := 4) dL_law_33 rfl ?_
      obtain ⟨hi, v3, ev3, hf⟩ := fld_e hf
      refine V.sload dL_law_35 hi ?_
      refine V.cgi ev3 ?_
      refine V.bipush (v := 31) dL_law_36 rfl ?_
      refine V.iand dL_law_38 ?_
      by_cases h0 : (v3 &&& 31) = 0
      · have hf := fif_t h0 hf
        refine V.cgi h0 (V.tableIn (off := 129) (tgt := 168) dL_law_39 (by decide) (by decide) rfl (by decide) ?_)
        obtain ⟨r10, hr10, hf⟩ := fbind hf
        refine v_L_law_L168 gF hr10 (show cl + 1 ≤ 1062 by omega) (show sl + 6 ≤ 19011 by omega) ?_
        refine V.iinc (i := 4) (v := (x4 + 5)) (L' := [some (.ref 3000), some (.ref 0), some (.ref 11), some (.ref 16), some (.int (x4 + 5)), none, none, none, none]) dL_law_1762 rfl rfl (Nat.le_of_ble_eq_true rfl) rfl rfl ?_
        refine V.goto (tgt := 23) dL_law_1765 (by decide) ?_
        exact ih hf (show (cl + 1) + n ≤ 1062 by omega) (show (sl + 6) + 6 * n ≤ 19011 by omega) hx
      · have hf := fif_f h0 hf
        by_cases h1 : (v3 &&& 31) = 1
        · have hf := fif_t h1 hf
          refine V.cgi h1 (V.tableIn (off := 185) (tgt := 224) dL_law_39 (by decide) (by decide) rfl (by decide) ?_)
          obtain ⟨r19, hr19, hf⟩ := fbind hf
          refine v_L_law_L224 gF hr19 (show cl + 1 ≤ 1062 by omega) (show sl + 6 ≤ 19011 by omega) ?_
          refine V.iinc (i := 4) (v := (x4 + 5)) (L' := [some (.ref 3000), some (.ref 0), some (.ref 11), some (.ref 16), some (.int (x4 + 5)), none, none, none, none]) dL_law_1762 rfl rfl (Nat.le_of_ble_eq_true rfl) rfl rfl ?_
          refine V.goto (tgt := 23) dL_law_1765 (by decide) ?_
          exact ih hf (show (cl + 1) + n ≤ 1062 by omega) (show (sl + 6) + 6 * n ≤ 19011 by omega) hx
        · have hf := fif_f h1 hf
          by_cases h2 : (v3 &&& 31) = 2
          · have hf := fif_t h2 hf
            refine V.cgi h2 (V.tableIn (off := 253) (tgt := 292) dL_law_39 (by decide) (by decide) rfl (by decide) ?_)
            obtain ⟨r28, hr28, hf⟩ := fbind hf
            refine v_L_law_L292 gF hr28 (show cl + 1 ≤ 1062 by omega) (show sl + 6 ≤ 19011 by omega) ?_
            refine V.iinc (i := 4) (v := (x4 + 5)) (L' := [some (.ref 3000), some (.ref 0), some (.ref 11), some (.ref 16), some (.int (x4 + 5)), none, none, none, none]) dL_law_1762 rfl rfl (Nat.le_of_ble_eq_true rfl) rfl rfl ?_
            refine V.goto (tgt := 23) dL_law_1765 (by decide) ?_
            exact ih hf (show (cl + 1) + n ≤ 1062 by omega) (show (sl + 6) + 6 * n ≤ 19011 by omega) hx
          · have hf := fif_f h2 hf
            by_cases h3 : (v3 &&& 31) = 3
            · have hf := fif_t h3 hf
              refine V.cgi h3 (V.tableIn (off := 321) (tgt := 360) dL_law_39 (by decide) (by decide) rfl (by decide) ?_)
              obtain ⟨r39, hr39, hf⟩ := fbind hf
              refine v_L_law_L360 gF hr39 (show cl + 1 ≤ 1062 by omega) (show sl + 6 ≤ 19011 by omega) ?_
              refine V.iinc (i := 4) (v := (x4 + 5)) (L' := [some (.ref 3000), some (.ref 0), some (.ref 11), some (.ref 16), some (.int (x4 + 5)), none, none, none, none]) dL_law_1762 rfl rfl (Nat.le_of_ble_eq_true rfl) rfl rfl ?_
              refine V.goto (tgt := 23) dL_law_1765 (by decide) ?_
              exact ih hf (show (cl + 1) + n ≤ 1062 by omega) (show (sl + 6) + 6 * n ≤ 19011 by omega) hx
            · have hf := fif_f h3 hf
              by_cases h4 : (v3 &&& 31) = 4
              · have hf := fif_t h4 hf
                refine V.cgi h4 (V.tableIn (off := 401) (tgt := 440) dL_law_39 (by decide) (by decide) rfl (by decide) ?_)
                obtain ⟨r46, hr46, hf⟩ := fbind hf
                refine v_L_law_L440 gF hr46 (show cl + 1 ≤ 1062 by omega) (show sl + 6 ≤ 19011 by omega) ?_
                refine V.iinc (i := 4) (v := (x4 + 5)) (L' := [some (.ref 3000), some (.ref 0), some (.ref 11), some (.ref 16), some (.int (x4 + 5)), none, none, none, none]) dL_law_1762 rfl rfl (Nat.le_of_ble_eq_true rfl) rfl rfl ?_
                refine V.goto (tgt := 23) dL_law_1765 (by decide) ?_
                exact ih hf (show (cl + 1) + n ≤ 1062 by omega) (show (sl + 6) + 6 * n ≤ 19011 by omega) hx
              · have hf := fif_f h4 hf
                by_cases h5 : (v3 &&& 31) = 5
                · have hf := fif_t h5 hf
                  refine V.cgi h5 (V.tableIn (off := 457) (tgt := 496) dL_law_39 (by decide) (by decide) rfl (by decide) ?_)
                  obtain ⟨r55, hr55, hf⟩ := fbind hf
                  refine v_L_law_L496 gF hr55 (show cl + 1 ≤ 1062 by omega) (show sl + 6 ≤ 19011 by omega) ?_
                  refine V.iinc (i := 4) (v := (x4 + 5)) (L' := [some (.ref 3000), some (.ref 0), some (.ref 11), some (.ref 16), some (.int (x4 + 5)), none, none, none, none]) dL_law_1762 rfl rfl (Nat.le_of_ble_eq_true rfl) rfl rfl ?_
                  refine V.goto (tgt := 23) dL_law_1765 (by decide) ?_
                  exact ih hf (show (cl + 1) + n ≤ 1062 by omega) (show (sl + 6) + 6 * n ≤ 19011 by omega) hx
                · have hf := fif_f h5 hf
                  by_cases h6 : (v3 &&& 31) = 6
                  · have hf := fif_t h6 hf
                    refine V.cgi h6 (V.tableIn (off := 525) (tgt := 564) dL_law_39 (by decide) (by decide) rfl (by decide) ?_)
                    obtain ⟨r64, hr64, hf⟩ := fbind hf
                    refine v_L_law_L564 gF hr64 (show cl + 1 ≤ 1062 by omega) (show sl + 6 ≤ 19011 by omega) ?_
                    refine V.iinc (i := 4) (v := (x4 + 5)) (L' := [some (.ref 3000), some (.ref 0), some (.ref 11), some (.ref 16), some (.int (x4 + 5)), none, none, none, none]) dL_law_1762 rfl rfl (Nat.le_of_ble_eq_true rfl) rfl rfl ?_
                    refine V.goto (tgt := 23) dL_law_1765 (by decide) ?_
                    exact ih hf (show (cl + 1) + n ≤ 1062 by omega) (show (sl + 6) + 6 * n ≤ 19011 by omega) hx
                  · have hf := fif_f h6 hf
                    by_cases h7 : (v3 &&& 31) = 7
                    · have hf := fif_t h7 hf
                      refine V.cgi h7 (V.tableIn (off := 593) (tgt := 632) dL_law_39 (by decide) (by decide) rfl (by decide) ?_)
                      obtain ⟨r71, hr71, hf⟩ := fbind hf
                      refine v_L_law_L632 gF hr71 (show cl + 1 ≤ 1062 by omega) (show sl + 6 ≤ 19011 by omega) ?_
                      refine V.iinc (i := 4) (v := (x4 + 5)) (L' := [some (.ref 3000), some (.ref 0), some (.ref 11), some (.ref 16), some (.int (x4 + 5)), none, none, none, none]) dL_law_1762 rfl rfl (Nat.le_of_ble_eq_true rfl) rfl rfl ?_
                      refine V.goto (tgt := 23) dL_law_1765 (by decide) ?_
                      exact ih hf (show (cl + 1) + n ≤ 1062 by omega) (show (sl + 6) + 6 * n ≤ 19011 by omega) hx
                    · have hf := fif_f h7 hf
                      by_cases h8 : (v3 &&& 31) = 8
                      · have hf := fif_t h8 hf
                        refine V.cgi h8 (V.tableIn (off := 649) (tgt := 688) dL_law_39 (by decide) (by decide) rfl (by decide) ?_)
                        obtain ⟨r74, hr74, hf⟩ := fbind hf
                        refine v_L_law_L688 gF hr74 (show cl + 1 ≤ 1062 by omega) (show sl + 6 ≤ 19011 by omega) ?_
                        refine V.iinc (i := 4) (v := (x4 + 5)) (L' := [some (.ref 3000), some (.ref 0), some (.ref 11), some (.ref 16), some (.int (x4 + 5)), none, none, none, none]) dL_law_1762 rfl rfl (Nat.le_of_ble_eq_true rfl) rfl rfl ?_
                        refine V.goto (tgt := 23) dL_law_1765 (by decide) ?_
                        exact ih hf (show (cl + 1) + n ≤ 1062 by omega) (show (sl + 6) + 6 * n ≤ 19011 by omega) hx
                      · have hf := fif_f h8 hf
                        by_cases h9 : (v3 &&& 31) = 9
                        · have hf := fif_t h9 hf
                          refine V.cgi h9 (V.tableIn (off := 662) (tgt := 701) dL_law_39 (by decide) (by decide) rfl (by decide) ?_)
                          obtain ⟨r77, hr77, hf⟩ := fbind hf
                          refine v_L_law_L701 gF hr77 (show cl + 1 ≤ 1062 by omega) (show sl + 6 ≤ 19011 by omega) ?_
                          refine V.iinc (i := 4) (v := (x4 + 5)) (L' := [some (.ref 3000), some (.ref 0), some (.ref 11), some (.ref 16), some (.int (x4 + 5)), none, none, none, none]) dL_law_1762 rfl rfl (Nat.le_of_ble_eq_true rfl) rfl rfl ?_
                          refine V.goto (tgt := 23) dL_law_1765 (by decide) ?_
                          exact ih hf (show (cl + 1) + n ≤ 1062 by omega) (show (sl + 6) + 6 * n ≤ 19011 by omega) hx
                        · have hf := fif_f h9 hf
                          by_cases h10 : (v3 &&& 31) = 10
                          · have hf := fif_t h10 hf
                            refine V.cgi h10 (V.tableIn (off := 675) (tgt := 714) dL_law_39 (by decide) (by decide) rfl (by decide) ?_)
                            obtain ⟨r82, hr82, hf⟩ := fbind hf
                            refine v_L_law_L714 gF hr82 (show cl + 1 ≤ 1062 by omega) (show sl + 6 ≤ 19011 by omega) ?_
                            refine V.iinc (i := 4) (v := (x4 + 5)) (L' := [some (.ref 3000), some (.ref 0), some (.ref 11), some (.ref 16), some (.int (x4 + 5)), none, none, none, none]) dL_law_1762 rfl rfl (Nat.le_of_ble_eq_true rfl) rfl rfl ?_
                            refine V.goto (tgt := 23) dL_law_1765 (by decide) ?_
                            exact ih hf (show (cl + 1) + n ≤ 1062 by omega) (show (sl + 6) + 6 * n ≤ 19011 by omega) hx
                          · have hf := fif_f h10 hf
                            by_cases h11 : (v3 &&& 31) = 11
                            · have hf := fif_t h11 hf
                              refine V.cgi h11 (V.tableIn (off := 719) (tgt := 758) dL_law_39 (by decide) (by decide) rfl (by decide) ?_)
                              obtain ⟨r89, hr89, hf⟩ := fbind hf
                              refine v_L_law_L758 gF hr89 (show cl + 1 ≤ 1062 by omega) (show sl + 6 ≤ 19011 by omega) ?_
                              refine V.iinc (i := 4) (v := (x4 + 5)) (L' := [some (.ref 3000), some (.ref 0), some (.ref 11), some (.ref 16), some (.int (x4 + 5)), none, none, none, none]) dL_law_1762 rfl rfl (Nat.le_of_ble_eq_true rfl) rfl rfl ?_
                              refine V.goto (tgt := 23) dL_law_1765 (by decide) ?_
                              exact ih hf (show (cl + 1) + n ≤ 1062 by omega) (show (sl + 6) + 6 * n ≤ 19011 by omega) hx
                            · have hf := fif_f h11 hf
                              by_cases h12 : (v3 &&& 31) = 12
                              · have hf := fif_t h12 hf
                                refine V.cgi h12 (V.tableIn (off := 775) (tgt := 814) dL_law_39 (by decide) (by decide) rfl (by decide) ?_)
                                obtain ⟨r98, hr98, hf⟩ := fbind hf
                                refine v_L_law_L814 gF hr98 (show cl + 1 ≤ 1062 by omega) (show sl + 6 ≤ 19011 by omega) ?_
                                refine V.iinc (i := 4) (v := (x4 + 5)) (L' := [some (.ref 3000), some (.ref 0), some (.ref 11), some (.ref 16), some (.int (x4 + 5)), none, none, none, none]) dL_law_1762 rfl rfl (Nat.le_of_ble_eq_true rfl) rfl rfl ?_
                                refine V.goto (tgt := 23) dL_law_1765 (by decide) ?_
                                exact ih hf (show (cl + 1) + n ≤ 1062 by omega) (show (sl + 6) + 6 * n ≤ 19011 by omega) hx
                              · have hf := fif_f h12 hf
                                by_cases h13 : (v3 &&& 31) = 13
                                · have hf := fif_t h13 hf
                                  refine V.cgi h13 (V.tableIn (off := 843) (tgt := 882) dL_law_39 (by decide) (by decide) rfl (by decide) ?_)
                                  obtain ⟨r103, hr103, hf⟩ := fbind hf
                                  refine v_L_law_L882 gF hr103 (show cl + 1 ≤ 1062 by omega) (show sl + 6 ≤ 19011 by omega) ?_
                                  refine V.iinc (i := 4) (v := (x4 + 5)) (L' := [some (.ref 3000), some (.ref 0), some (.ref 11), some (.ref 16), some (.int (x4 + 5)), none, none, none, none]) dL_law_1762 rfl rfl (Nat.le_of_ble_eq_true rfl) rfl rfl ?_
                                  refine V.goto (tgt := 23) dL_law_1765 (by decide) ?_
                                  exact ih hf (show (cl + 1) + n ≤ 1062 by omega) (show (sl + 6) + 6 * n ≤ 19011 by omega) hx
                                · have hf := fif_f h13 hf
                                  by_cases h14 : (v3 &&& 31) = 14
                                  · have hf := fif_t h14 hf
                                    refine V.cgi h14 (V.tableIn (off := 887) (tgt := 926) dL_law_39 (by decide) (by decide) rfl (by decide) ?_)
                                    obtain ⟨r106, hr106, hf⟩ := fbind hf
                                    refine v_L_law_L926 gF hr106 (show cl + 1 ≤ 1062 by omega) (show sl + 6 ≤ 19011 by omega) ?_
                                    refine V.iinc (i := 4) (v := (x4 + 5)) (L' := [some (.ref 3000), some (.ref 0), some (.ref 11), some (.ref 16), some (.int (x4 + 5)), none, none, none, none]) dL_law_1762 rfl rfl (Nat.le_of_ble_eq_true rfl) rfl rfl ?_
                                    refine V.goto (tgt := 23) dL_law_1765 (by decide) ?_
                                    exact ih hf (show (cl + 1) + n ≤ 1062 by omega) (show (sl + 6) + 6 * n ≤ 19011 by omega) hx
                                  · have hf := fif_f h14 hf
                                    by_cases h15 : (v3 &&& 31) = 15
                                    · have hf := fif_t h15 hf
                                      refine V.cgi h15 (V.tableIn (off := 900) (tgt := 939) dL_law_39 (by decide) (by decide) rfl (by decide) ?_)
                                      obtain ⟨r111, hr111, hf⟩ := fbind hf
                                      refine v_L_law_L939 gF hr111 (show cl + 1 ≤ 1062 by omega) (show sl + 6 ≤ 19011 by omega) ?_
                                      refine V.iinc (i := 4) (v := (x4 + 5)) (L' := [some (.ref 3000), some (.ref 0), some (.ref 11), some (.ref 16), some (.int (x4 + 5)), none, none, none, none]) dL_law_1762 rfl rfl (Nat.le_of_ble_eq_true rfl) rfl rfl ?_
                                      refine V.goto (tgt := 23) dL_law_1765 (by decide) ?_
                                      exact ih hf (show (cl + 1) + n ≤ 1062 by omega) (show (sl + 6) + 6 * n ≤ 19011 by omega) hx
                                    · have hf := fif_f h15 hf
                                      by_cases h16 : (v3 &&& 31) = 16
                                      · have hf := fif_t h16 hf
                                        refine V.cgi h16 (V.tableIn (off := 944) (tgt := 983) dL_law_39 (by decide) (by decide) rfl (by decide) ?_)
                                        obtain ⟨r120, hr120, hf⟩ := fbind hf
                                        refine v_L_law_L983 gF hr120 (show cl + 1 ≤ 1062 by omega) (show sl + 6 ≤ 19011 by omega) ?_
                                        refine V.iinc (i := 4) (v := (x4 + 5)) (L' := [some (.ref 3000), some (.ref 0), some (.ref 11), some (.ref 16), some (.int (x4 + 5)), none, none, none, none]) dL_law_1762 rfl rfl (Nat.le_of_ble_eq_true rfl) rfl rfl ?_
                                        refine V.goto (tgt := 23) dL_law_1765 (by decide) ?_
                                        exact ih hf (show (cl + 1) + n ≤ 1062 by omega) (show (sl + 6) + 6 * n ≤ 19011 by omega) hx
                                      · have hf := fif_f h16 hf
                                        by_cases h17 : (v3 &&& 31) = 17
                                        · have hf := fif_t h17 hf
                                          refine V.cgi h17 (V.tableIn (off := 1012) (tgt := 1051) dL_law_39 (by decide) (by decide) rfl (by decide) ?_)
                                          obtain ⟨r133, hr133, hf⟩ := fbind hf
                                          refine v_L_law_L1051 gF hr133 (show cl + 1 ≤ 1062 by omega) (show sl + 6 ≤ 19011 by omega) ?_
                                          refine V.iinc (i := 4) (v := (x4 + 5)) (L' := [some (.ref 3000), some (.ref 0), some (.ref 11), some (.ref 16), some (.int (x4 + 5)), none, none, none, none]) dL_law_1762 rfl rfl (Nat.le_of_ble_eq_true rfl) rfl rfl ?_
                                          refine V.goto (tgt := 23) dL_law_1765 (by decide) ?_
                                          exact ih hf (show (cl + 1) + n ≤ 1062 by omega) (show (sl + 6) + 6 * n ≤ 19011 by omega) hx
                                        · have hf := fif_f h17 hf
                                          by_cases h18 : (v3 &&& 31) = 18
                                          · have hf := fif_t h18 hf
                                            refine V.cgi h18 (V.tableIn (off := 1104) (tgt := 1143) dL_law_39 (by decide) (by decide) rfl (by decide) ?_)
                                            obtain ⟨r144, hr144, hf⟩ := fbind hf
                                            refine v_L_law_L1143 gF hr144 (show cl + 1 ≤ 1062 by omega) (show sl + 6 ≤ 19011 by omega) ?_
                                            refine V.iinc (i := 4) (v := (x4 + 5)) (L' := [some (.ref 3000), some (.ref 0), some (.ref 11), some (.ref 16), some (.int (x4 + 5)), none, none, none, none]) dL_law_1762 rfl rfl (Nat.le_of_ble_eq_true rfl) rfl rfl ?_
                                            refine V.goto (tgt := 23) dL_law_1765 (by decide) ?_
                                            exact ih hf (show (cl + 1) + n ≤ 1062 by omega) (show (sl + 6) + 6 * n ≤ 19011 by omega) hx
                                          · have hf := fif_f h18 hf
                                            by_cases h19 : (v3 &&& 31) = 19
                                            · have hf := fif_t h19 hf
                                              refine V.cgi h19 (V.tableIn (off := 1184) (tgt := 1223) dL_law_39 (by decide) (by decide) rfl (by decide) ?_)
                                              obtain ⟨r153, hr153, hf⟩ := fbind hf
                                              refine v_L_law_L1223 gF hr153 (show cl + 1 ≤ 1062 by omega) (show sl + 6 ≤ 19011 by omega) ?_
                                              refine V.iinc (i := 4) (v := (x4 + 5)) (L' := [some (.ref 3000), some (.ref 0), some (.ref 11), some (.ref 16), some (.int (x4 + 5)), none, none, none, none]) dL_law_1762 rfl rfl (Nat.le_of_ble_eq_true rfl) rfl rfl ?_
                                              refine V.goto (tgt := 23) dL_law_1765 (by decide) ?_
                                              exact ih hf (show (cl + 1) + n ≤ 1062 by omega) (show (sl + 6) + 6 * n ≤ 19011 by omega) hx
                                            · have hf := fif_f h19 hf
                                              by_cases h20 : (v3 &&& 31) = 20
                                              · have hf := fif_t h20 hf
                                                refine V.cgi h20 (V.tableIn (off := 1252) (tgt := 1291) dL_law_39 (by decide) (by decide) rfl (by decide) ?_)
                                                obtain ⟨r162, hr162, hf⟩ := fbind hf
                                                refine v_L_law_L1291 gF hr162 (show cl + 1 ≤ 1062 by omega) (show sl + 6 ≤ 19011 by omega) ?_
                                                refine V.iinc (i := 4) (v := (x4 + 5)) (L' := [some (.ref 3000), some (.ref 0), some (.ref 11), some (.ref 16), some (.int (x4 + 5)), none, none, none, none]) dL_law_1762 rfl rfl (Nat.le_of_ble_eq_true rfl) rfl rfl ?_
                                                refine V.goto (tgt := 23) dL_law_1765 (by decide) ?_
                                                exact ih hf (show (cl + 1) + n ≤ 1062 by omega) (show (sl + 6) + 6 * n ≤ 19011 by omega) hx
                                              · have hf := fif_f h20 hf
                                                by_cases h21 : (v3 &&& 31) = 21
                                                · have hf := fif_t h21 hf
                                                  refine V.cgi h21 (V.tableIn (off := 1320) (tgt := 1359) dL_law_39 (by decide) (by decide) rfl (by decide) ?_)
                                                  obtain ⟨r167, hr167, hf⟩ := fbind hf
                                                  refine v_L_law_L1359 gF hr167 (show cl + 1 ≤ 1062 by omega) (show sl + 6 ≤ 19011 by omega) ?_
                                                  refine V.iinc (i := 4) (v := (x4 + 5)) (L' := [some (.ref 3000), some (.ref 0), some (.ref 11), some (.ref 16), some (.int (x4 + 5)), none, none, none, none]) dL_law_1762 rfl rfl (Nat.le_of_ble_eq_true rfl) rfl rfl ?_
                                                  refine V.goto (tgt := 23) dL_law_1765 (by decide) ?_
                                                  exact ih hf (show (cl + 1) + n ≤ 1062 by omega) (show (sl + 6) + 6 * n ≤ 19011 by omega) hx
                                                · have hf := fif_f h21 hf
                                                  by_cases h22 : (v3 &&& 31) = 22
                                                  · have hf := fif_t h22 hf
                                                    refine V.cgi h22 (V.tableIn (off := 1364) (tgt := 1403) dL_law_39 (by decide) (by decide) rfl (by decide) ?_)
                                                    obtain ⟨r174, hr174, hf⟩ := fbind hf
                                                    refine v_L_law_L1403 gF hr174 (show cl + 1 ≤ 1062 by omega) (show sl + 6 ≤ 19011 by omega) ?_
                                                    refine V.iinc (i := 4) (v := (x4 + 5)) (L' := [some (.ref 3000), some (.ref 0), some (.ref 11), some (.ref 16), some (.int (x4 + 5)), none, none, none, none]) dL_law_1762 rfl rfl (Nat.le_of_ble_eq_true rfl) rfl rfl ?_
                                                    refine V.goto (tgt := 23) dL_law_1765 (by decide) ?_
                                                    exact ih hf (show (cl + 1) + n ≤ 1062 by omega) (show (sl + 6) + 6 * n ≤ 19011 by omega) hx
                                                  · have hf := fif_f h22 hf
                                                    by_cases h23 : (v3 &&& 31) = 23
                                                    · have hf := fif_t h23 hf
                                                      refine V.cgi h23 (V.tableIn (off := 1420) (tgt := 1459) dL_law_39 (by decide) (by decide) rfl (by decide) ?_)
                                                      obtain ⟨r181, hr181, hf⟩ := fbind hf
                                                      refine v_L_law_L1459 gF hr181 (show cl + 1 ≤ 1062 by omega) (show sl + 6 ≤ 19011 by omega) ?_
                                                      refine V.iinc (i := 4) (v := (x4 + 5)) (L' := [some (.ref 3000), some (.ref 0), some (.ref 11), some (.ref 16), some (.int (x4 + 5)), none, none, none, none]) dL_law_1762 rfl rfl (Nat.le_of_ble_eq_true rfl) rfl rfl ?_
                                                      refine V.goto (tgt := 23) dL_law_1765 (by decide) ?_
                                                      exact ih hf (show (cl + 1) + n ≤ 1062 by omega) (show (sl + 6) + 6 * n ≤ 19011 by omega) hx
                                                    · have hf := fif_f h23 hf
                                                      by_cases h24 : (v3 &&& 31) = 24
                                                      · have hf := fif_t h24 hf
                                                        refine V.cgi h24 (V.tableIn (off := 1476) (tgt := 1515) dL_law_39 (by decide) (by decide) rfl (by decide) ?_)
                                                        obtain ⟨r192, hr192, hf⟩ := fbind hf
                                                        refine v_L_law_L1515 gF hr192 (show cl + 1 ≤ 1062 by omega) (show sl + 6 ≤ 19011 by omega) ?_
                                                        refine V.iinc (i := 4) (v := (x4 + 5)) (L' := [some (.ref 3000), some (.ref 0), some (.ref 11), some (.ref 16), some (.int (x4 + 5)), none, none, none, none]) dL_law_1762 rfl rfl (Nat.le_of_ble_eq_true rfl) rfl rfl ?_
                                                        refine V.goto (tgt := 23) dL_law_1765 (by decide) ?_
                                                        exact ih hf (show (cl + 1) + n ≤ 1062 by omega) (show (sl + 6) + 6 * n ≤ 19011 by omega) hx
                                                      · have hf := fif_f h24 hf
                                                        by_cases h25 : (v3 &&& 31) = 25
                                                        · have hf := fif_t h25 hf
                                                          refine V.cgi h25 (V.tableIn (off := 1556) (tgt := 1595) dL_law_39 (by decide) (by decide) rfl (by decide) ?_)
                                                          obtain ⟨r201, hr201, hf⟩ := fbind hf
                                                          refine v_L_law_L1595 gF hr201 (show cl + 1 ≤ 1062 by omega) (show sl + 6 ≤ 19011 by omega) ?_
                                                          refine V.iinc (i := 4) (v := (x4 + 5)) (L' := [some (.ref 3000), some (.ref 0), some (.ref 11), some (.ref 16), some (.int (x4 + 5)), none, none, none, none]) dL_law_1762 rfl rfl (Nat.le_of_ble_eq_true rfl) rfl rfl ?_
                                                          refine V.goto (tgt := 23) dL_law_1765 (by decide) ?_
                                                          exact ih hf (show (cl + 1) + n ≤ 1062 by omega) (show (sl + 6) + 6 * n ≤ 19011 by omega) hx
                                                        · have hf := fif_f h25 hf
                                                          by_cases h26 : (v3 &&& 31) = 26
                                                          · have hf := fif_t h26 hf
                                                            refine V.cgi h26 (V.tableIn (off := 1624) (tgt := 1663) dL_law_39 (by decide) (by decide) rfl (by decide) ?_)
                                                            obtain ⟨r206, hr206, hf⟩ := fbind hf
                                                            refine v_L_law_L1663 gF hr206 (show cl + 1 ≤ 1062 by omega) (show sl + 6 ≤ 19011 by omega) ?_
                                                            refine V.iinc (i := 4) (v := (x4 + 5)) (L' := [some (.ref 3000), some (.ref 0), some (.ref 11), some (.ref 16), some (.int (x4 + 5)), none, none, none, none]) dL_law_1762 rfl rfl (Nat.le_of_ble_eq_true rfl) rfl rfl ?_
                                                            refine V.goto (tgt := 23) dL_law_1765 (by decide) ?_
                                                            exact ih hf (show (cl + 1) + n ≤ 1062 by omega) (show (sl + 6) + 6 * n ≤ 19011 by omega) hx
                                                          · have hf := fif_f h26 hf
                                                            by_cases h27 : (v3 &&& 31) = 27
                                                            · have hf := fif_t h27 hf
                                                              refine V.cgi h27 (V.tableIn (off := 1668) (tgt := 1707) dL_law_39 (by decide) (by decide) rfl (by decide) ?_)
                                                              obtain ⟨r209, hr209, hf⟩ := fbind hf
                                                              refine v_L_law_L1707 gF hr209 (show cl + 1 ≤ 1062 by omega) (show sl + 6 ≤ 19011 by omega) ?_
                                                              refine V.iinc (i := 4) (v := (x4 + 5)) (L' := [some (.ref 3000), some (.ref 0), some (.ref 11), some (.ref 16), some (.int (x4 + 5)), none, none, none, none]) dL_law_1762 rfl rfl (Nat.le_of_ble_eq_true rfl) rfl rfl ?_
                                                              refine V.goto (tgt := 23) dL_law_1765 (by decide) ?_
                                                              exact ih hf (show (cl + 1) + n ≤ 1062 by omega) (show (sl + 6) + 6 * n ≤ 19011 by omega) hx
                                                            · have hf := fif_f h27 hf
                                                              by_cases h28 : (v3 &&& 31) = 28
                                                              · have hf := fif_t h28 hf
                                                                refine V.cgi h28 (V.tableIn (off := 1709) (tgt := 1748) dL_law_39 (by decide) (by decide) rfl (by decide) ?_)
                                                                obtain ⟨r212, hr212, hf⟩ := fbind hf
                                                                refine v_L_law_L1748 gF hr212 (show cl + 1 ≤ 1062 by omega) (show sl + 6 ≤ 19011 by omega) ?_
                                                                refine V.iinc (i := 4) (v := (x4 + 5)) (L' := [some (.ref 3000), some (.ref 0), some (.ref 11), some (.ref 16), some (.int (x4 + 5)), none, none, none, none]) dL_law_1762 rfl rfl (Nat.le_of_ble_eq_true rfl) rfl rfl ?_
                                                                refine V.goto (tgt := 23) dL_law_1765 (by decide) ?_
                                                                exact ih hf (show (cl + 1) + n ≤ 1062 by omega) (show (sl + 6) + 6 * n ≤ 19011 by omega) hx
                                                              · have hf := fif_f h28 hf
                                                                refine V.tableOut (tgt := 1762) dL_law_39 (by have g0 := lv_neT (a := 0) h0 (by decide); have g1 := lv_neT (a := 1) h1 (by decide); have g2 := lv_neT (a := 2) h2 (by decide); have g3 := lv_neT (a := 3) h3 (by decide); have g4 := lv_neT (a := 4) h4 (by decide); have g5 := lv_neT (a := 5) h5 (by decide); have g6 := lv_neT (a := 6) h6 (by decide); have g7 := lv_neT (a := 7) h7 (by decide); have g8 := lv_neT (a := 8) h8 (by decide); have g9 := lv_neT (a := 9) h9 (by decide); have g10 := lv_neT (a := 10) h10 (by decide); have g11 := lv_neT (a := 11) h11 (by decide); have g12 := lv_neT (a := 12) h12 (by decide); have g13 := lv_neT (a := 13) h13 (by decide); have g14 := lv_neT (a := 14) h14 (by decide); have g15 := lv_neT (a := 15) h15 (by decide); have g16 := lv_neT (a := 16) h16 (by decide); have g17 := lv_neT (a := 17) h17 (by decide); have g18 := lv_neT (a := 18) h18 (by decide); have g19 := lv_neT (a := 19) h19 (by decide); have g20 := lv_neT (a := 20) h20 (by decide); have g21 := lv_neT (a := 21) h21 (by decide); have g22 := lv_neT (a := 22) h22 (by decide); have g23 := lv_neT (a := 23) h23 (by decide); have g24 := lv_neT (a := 24) h24 (by decide); have g25 := lv_neT (a := 25) h25 (by decide); have g26 := lv_neT (a := 26) h26 (by decide); have g27 := lv_neT (a := 27) h27 (by decide); have g28 := lv_neT (a := 28) h28 (by decide); omega) (by decide) ?_
                                                                refine V.iinc (i := 4) (v := (x4 + 5)) (L' := [some (.ref 3000), some (.ref 0), some (.ref 11), some (.ref 16), some (.int (x4 + 5)), none, none, none, none]) dL_law_1762 rfl rfl (Nat.le_of_ble_eq_true rfl) rfl rfl ?_
                                                                refine V.goto (tgt := 23) dL_law_1765 (by decide) ?_
                                                                exact ih hf (show cl + n ≤ 1062 by omega) (show sl + 6 * n ≤ 19011 by omega) hx
def s_L_law (a0n : Nat) (a0 : Nat → Int32) : Option Unit := (s_X10_init).bind fun v1 => (s_X11_init).bind fun v2 => (s_L_law_L23 a0n a0 513 0 v1.1 v1.2.1 v1.2.2.1 v1.2.2.2.1 v1.2.2.2.2.1 v1.2.2.2.2.2.1 v1.2.2.2.2.2.2.1 v1.2.2.2.2.2.2.2.1 v1.2.2.2.2.2.2.2.2.1 v1.2.2.2.2.2.2.2.2.2.1 v1.2.2.2.2.2.2.2.2.2.2.1 v1.2.2.2.2.2.2.2.2.2.2.2 v2.1 v2.2.1 v2.2.2.1 v2.2.2.2.1 v2.2.2.2.2.1 v2.2.2.2.2.2.1 v2.2.2.2.2.2.2.1 v2.2.2.2.2.2.2.2.1 v2.2.2.2.2.2.2.2.2.1 v2.2.2.2.2.2.2.2.2.2.1 v2.2.2.2.2.2.2.2.2.2.2.1 v2.2.2.2.2.2.2.2.2.2.2.2.1 v2.2.2.2.2.2.2.2.2.2.2.2.2.1 v2.2.2.2.2.2.2.2.2.2.2.2.2.2.1 v2.2.2.2.2.2.2.2.2.2.2.2.2.2.2.1 v2.2.2.2.2.2.2.2.2.2.2.2.2.2.2.2.1 v2.2.2.2.2.2.2.2.2.2.2.2.2.2.2.2.2.1 v2.2.2.2.2.2.2.2.2.2.2.2.2.2.2.2.2.2.1 v2.2.2.2.2.2.2.2.2.2.2.2.2.2.2.2.2.2.2 (fun _ => 0)).bind fun r213 => some ()
set_option maxHeartbeats 4000000 in
set_option maxRecDepth 100000 in
theorem v_L_law {a0n : Nat} {a0 : Nat → Int32} (hf : s_L_law a0n a0 = some ()) : V (fXlaw a0n a0) room_1 k_L_law 0 0 [some (.ref 3000), none, none, none, none, none, none, none, none] [] [] 0 0 := by
  unfold s_L_law at hf
  refine V.new (ci := 5) (fs := [.null, .null, .null, .null, .null]) fl_RX10 dL_law_0 w92 w93 w67 (fun j hj => by rcases (show j = 0 ∨ j = 1 ∨ j = 2 ∨ j = 3 ∨ j = 4 by omega) with rfl | rfl | rfl | rfl | rfl <;> rfl) (fun _ => rfl) rfl (Nat.le_of_ble_eq_true rfl) (Nat.le_of_ble_eq_true rfl) ?_
  refine V.dup dL_law_3 rfl ?_
  obtain ⟨v1, hv1, hf⟩ := fbind hf
  refine V.callI (pl := [0]) (σ' := [.inl (5, [.ref 1, .ref 3, .ref 6, .ref 8, .ref 9]), .inl (3, [.ref 2]), .inr (910, .inl v1.1), .inl (1, [.ref 4, .ref 5, .int v1.2.1, .int v1.2.2.1, .int v1.2.2.2.1]), .inr (5460, .inl v1.2.2.2.2.1), .inr (910, .inl v1.2.2.2.2.2.1), .inl (0, [.ref 7, .int v1.2.2.2.2.2.2.1]), .inr (60, .inl v1.2.2.2.2.2.2.2.1), .inl (2, [.ref (v1.2.2.2.2.2.2.2.2.1 + 1000), .int v1.2.2.2.2.2.2.2.2.2.1]), .inl (4, [.ref 10, .int v1.2.2.2.2.2.2.2.2.2.2.1]), .inr (8, .inl v1.2.2.2.2.2.2.2.2.2.2.2)]) (ct_X10_init hv1) dL_law_4 (Or.inl w94) w95 rfl rfl cal_X10_init rfl ⟨⟨Nat.le_of_ble_eq_true rfl, Nat.le_of_ble_eq_true rfl⟩, Nat.le_of_ble_eq_true rfl, Nat.le_of_ble_eq_true rfl⟩ (Nat.le_of_ble_eq_true rfl) rfl ⟨rfl, ⟨by decide, by decide⟩, ⟨rfl, rfl⟩, ⟨Nat.le_of_ble_eq_true rfl, Nat.le_of_ble_eq_true rfl⟩, ⟨rfl, rfl⟩, rfl⟩ ?_
  refine V.astore_n (i := 1) (L' := [some (.ref 3000), some (.ref 0), none, none, none, none, none, none, none]) dL_law_7 rfl (Nat.le_of_ble_eq_true rfl) rfl rfl ?_
  refine V.new (ci := 6) (fs := [.null, .null, .int 0, .null, .int 0, .null, .int 0, .int 0, .int 0, .int 0, .int 0, .int 0, .int 0, .int 0, .int 0, .int 0, .int 0, .int 0, .long 0]) fl_RX11 dL_law_8 w1037 w1038 w73 (fun j hj => by rcases (show j = 0 ∨ j = 1 ∨ j = 2 ∨ j = 3 ∨ j = 4 ∨ j = 5 ∨ j = 6 ∨ j = 7 ∨ j = 8 ∨ j = 9 ∨ j = 10 ∨ j = 11 ∨ j = 12 ∨ j = 13 ∨ j = 14 ∨ j = 15 ∨ j = 16 ∨ j = 17 ∨ j = 18 by omega) with rfl | rfl | rfl | rfl | rfl | rfl | rfl | rfl | rfl | rfl | rfl | rfl | rfl | rfl | rfl | rfl | rfl | rfl | rfl <;> rfl) (fun _ => rfl) rfl (Nat.le_of_ble_eq_true rfl) (Nat.le_of_ble_eq_true rfl) ?_
  refine V.dup dL_law_11 rfl ?_
  obtain ⟨v2, hv2, hf⟩ := fbind hf
  refine V.callI (pl := [11]) (σ' := [.inl (5, [.ref 1, .ref 3, .ref 6, .ref 8, .ref 9]), .inl (3, [.ref 2]), .inr (910, .inl v1.1), .inl (1, [.ref 4, .ref 5, .int v1.2.1, .int v1.2.2.1, .int v1.2.2.2.1]), .inr (5460, .inl v1.2.2.2.2.1), .inr (910, .inl v1.2.2.2.2.2.1), .inl (0, [.ref 7, .int v1.2.2.2.2.2.2.1]), .inr (60, .inl v1.2.2.2.2.2.2.2.1), .inl (2, [.ref (v1.2.2.2.2.2.2.2.2.1 + 1000), .int v1.2.2.2.2.2.2.2.2.2.1]), .inl (4, [.ref 10, .int v1.2.2.2.2.2.2.2.2.2.2.1]), .inr (8, .inl v1.2.2.2.2.2.2.2.2.2.2.2), .inl (6, [.ref 12, .ref 13, .int v2.1, .ref 14, .int v2.2.1, .ref 15, .int v2.2.2.1, .int v2.2.2.2.1, .int v2.2.2.2.2.1, .int v2.2.2.2.2.2.1, .int v2.2.2.2.2.2.2.1, .int v2.2.2.2.2.2.2.2.1, .int v2.2.2.2.2.2.2.2.2.1, .int v2.2.2.2.2.2.2.2.2.2.1, .int v2.2.2.2.2.2.2.2.2.2.2.1, .int v2.2.2.2.2.2.2.2.2.2.2.2.1, .int v2.2.2.2.2.2.2.2.2.2.2.2.2.1, .int v2.2.2.2.2.2.2.2.2.2.2.2.2.2.1, .long v2.2.2.2.2.2.2.2.2.2.2.2.2.2.2.1]), .inr (406, .inl v2.2.2.2.2.2.2.2.2.2.2.2.2.2.2.2.1), .inr (2436, .inl v2.2.2.2.2.2.2.2.2.2.2.2.2.2.2.2.2.1), .inr (406, .inl v2.2.2.2.2.2.2.2.2.2.2.2.2.2.2.2.2.2.1), .inr (60, .inl v2.2.2.2.2.2.2.2.2.2.2.2.2.2.2.2.2.2.2)]) (ct_X11_init hv2) dL_law_12 (Or.inl w1039) w1040 rfl rfl cal_X11_init rfl ⟨⟨Nat.le_of_ble_eq_true rfl, Nat.le_of_ble_eq_true rfl⟩, Nat.le_of_ble_eq_true rfl, Nat.le_of_ble_eq_true rfl⟩ (Nat.le_of_ble_eq_true rfl) rfl ⟨rfl, ⟨by decide, by decide⟩, ⟨rfl, rfl⟩, ⟨Nat.le_of_ble_eq_true rfl, Nat.le_of_ble_eq_true rfl⟩, ⟨rfl, rfl⟩, rfl⟩ ?_
  refine V.astore_n (i := 2) (L' := [some (.ref 3000), some (.ref 0), some (.ref 11), none, none, none, none, none, none]) dL_law_15 rfl (Nat.le_of_ble_eq_true rfl) rfl rfl ?_
  refine V.iconst (v := 1) dL_law_16 rfl ?_
  refine V.newJ (N := 1) (f := fun _ => 0) rfl dL_law_17 w1492 (by decide) rfl (Nat.le_of_ble_eq_true rfl) rfl (Nat.le_of_ble_eq_true rfl) (Nat.le_of_ble_eq_true rfl) ?_
  refine V.astore_n (i := 3) (L' := [some (.ref 3000), some (.ref 0), some (.ref 11), some (.ref 16), none, none, none, none, none]) dL_law_19 rfl (Nat.le_of_ble_eq_true rfl) rfl rfl ?_
  refine V.iconst (v := 0) dL_law_20 rfl ?_
  refine V.istore (i := 4) (L' := [some (.ref 3000), some (.ref 0), some (.ref 11), some (.ref 16), some (.int 0), none, none, none, none]) dL_law_21 (Nat.le_of_ble_eq_true rfl) rfl rfl ?_
  obtain ⟨r213, hr213, hf⟩ := fbind hf
  refine v_L_law_L23 513 hr213 (Nat.le_of_ble_eq_true rfl) (Nat.le_of_ble_eq_true rfl) ?_
  refine V.iconst (v := 1) dL_law_1768 rfl ?_
  exact V.lawret rfl rfl dL_law_1769 (Nat.le_of_ble_eq_true rfl) (Nat.le_of_ble_eq_true rfl)
